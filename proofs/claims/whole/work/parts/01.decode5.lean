/-! decode rows (by program: wip/whole/facts.py) -/
theorem d_M_slip_115 : decode prog_14_method_82_code 115 = .ok (.ireturn, 1) := by decide +kernel
theorem d_M_isSlip_0 : decode prog_14_method_81_code 0 = .ok (.iload_n 3, 1) := by decide +kernel
theorem d_M_isSlip_1 : decode prog_14_method_81_code 1 = .ok (.iconst 2, 1) := by decide +kernel
theorem d_M_isSlip_2 : decode prog_14_method_81_code 2 = .ok (.if_icmp .ne 15, 3) := by decide +kernel
theorem d_M_isSlip_5 : decode prog_14_method_81_code 5 = .ok (.aload_n 0, 1) := by decide +kernel
theorem d_M_isSlip_6 : decode prog_14_method_81_code 6 = .ok (.iload_n 1, 1) := by decide +kernel
theorem d_M_isSlip_7 : decode prog_14_method_81_code 7 = .ok (.iload_n 2, 1) := by decide +kernel
theorem d_M_isSlip_8 : decode prog_14_method_81_code 8 = .ok (.invokevirtual 179, 3) := by decide +kernel
theorem d_M_isSlip_11 : decode prog_14_method_81_code 11 = .ok (.iconst 3, 1) := by decide +kernel
theorem d_M_isSlip_12 : decode prog_14_method_81_code 12 = .ok (.if_icmp .le 5, 3) := by decide +kernel
theorem d_M_isSlip_15 : decode prog_14_method_81_code 15 = .ok (.iconst 0, 1) := by decide +kernel
theorem d_M_isSlip_16 : decode prog_14_method_81_code 16 = .ok (.ireturn, 1) := by decide +kernel
theorem d_M_isSlip_17 : decode prog_14_method_81_code 17 = .ok (.aload_n 0, 1) := by decide +kernel
theorem d_M_isSlip_18 : decode prog_14_method_81_code 18 = .ok (.iload_n 1, 1) := by decide +kernel
theorem d_M_isSlip_19 : decode prog_14_method_81_code 19 = .ok (.invokevirtual 227, 3) := by decide +kernel
theorem d_M_isSlip_22 : decode prog_14_method_81_code 22 = .ok (.iconst 0, 1) := by decide +kernel
theorem d_M_isSlip_23 : decode prog_14_method_81_code 23 = .ok (.istore 8, 2) := by decide +kernel
theorem d_M_isSlip_25 : decode prog_14_method_81_code 25 = .ok (.iload 8, 2) := by decide +kernel
theorem d_M_isSlip_27 : decode prog_14_method_81_code 27 = .ok (.aload_n 0, 1) := by decide +kernel
theorem d_M_isSlip_28 : decode prog_14_method_81_code 28 = .ok (.iload_n 1, 1) := by decide +kernel
theorem d_M_isSlip_29 : decode prog_14_method_81_code 29 = .ok (.invokevirtual 172, 3) := by decide +kernel
theorem d_M_isSlip_32 : decode prog_14_method_81_code 32 = .ok (.if_icmp .ge 43, 3) := by decide +kernel
theorem d_M_isSlip_35 : decode prog_14_method_81_code 35 = .ok (.aload_n 0, 1) := by decide +kernel
theorem d_M_isSlip_36 : decode prog_14_method_81_code 36 = .ok (.aload_n 0, 1) := by decide +kernel
theorem d_M_isSlip_37 : decode prog_14_method_81_code 37 = .ok (.iload_n 1, 1) := by decide +kernel
theorem d_M_isSlip_38 : decode prog_14_method_81_code 38 = .ok (.iload 8, 2) := by decide +kernel
theorem d_M_isSlip_40 : decode prog_14_method_81_code 40 = .ok (.invokevirtual 179, 3) := by decide +kernel
theorem d_M_isSlip_43 : decode prog_14_method_81_code 43 = .ok (.aload_n 0, 1) := by decide +kernel
theorem d_M_isSlip_44 : decode prog_14_method_81_code 44 = .ok (.iload_n 1, 1) := by decide +kernel
theorem d_M_isSlip_45 : decode prog_14_method_81_code 45 = .ok (.iload 8, 2) := by decide +kernel
theorem d_M_isSlip_47 : decode prog_14_method_81_code 47 = .ok (.invokevirtual 175, 3) := by decide +kernel
theorem d_M_isSlip_50 : decode prog_14_method_81_code 50 = .ok (.iload 8, 2) := by decide +kernel
theorem d_M_isSlip_52 : decode prog_14_method_81_code 52 = .ok (.iload_n 2, 1) := by decide +kernel
theorem d_M_isSlip_53 : decode prog_14_method_81_code 53 = .ok (.if_icmp .ne 7, 3) := by decide +kernel
theorem d_M_isSlip_56 : decode prog_14_method_81_code 56 = .ok (.iload_n 3, 1) := by decide +kernel
theorem d_M_isSlip_57 : decode prog_14_method_81_code 57 = .ok (.goto 4, 3) := by decide +kernel
theorem d_M_isSlip_60 : decode prog_14_method_81_code 60 = .ok (.iconst (-1), 1) := by decide +kernel
theorem d_M_isSlip_61 : decode prog_14_method_81_code 61 = .ok (.invokevirtual 321, 3) := by decide +kernel
theorem d_M_isSlip_64 : decode prog_14_method_81_code 64 = .ok (.ifCond .ne 5, 3) := by decide +kernel
theorem d_M_isSlip_67 : decode prog_14_method_81_code 67 = .ok (.iconst 0, 1) := by decide +kernel
theorem d_M_isSlip_68 : decode prog_14_method_81_code 68 = .ok (.ireturn, 1) := by decide +kernel
theorem d_M_isSlip_69 : decode prog_14_method_81_code 69 = .ok (.iinc 8 1, 3) := by decide +kernel
theorem d_M_isSlip_72 : decode prog_14_method_81_code 72 = .ok (.goto (-47), 3) := by decide +kernel
theorem d_M_isSlip_75 : decode prog_14_method_81_code 75 = .ok (.aload_n 0, 1) := by decide +kernel
theorem d_M_isSlip_76 : decode prog_14_method_81_code 76 = .ok (.getfield 196, 3) := by decide +kernel
theorem d_M_isSlip_79 : decode prog_14_method_81_code 79 = .ok (.lload 4, 2) := by decide +kernel
theorem d_M_isSlip_81 : decode prog_14_method_81_code 81 = .ok (.lcmp, 1) := by decide +kernel
theorem d_M_isSlip_82 : decode prog_14_method_81_code 82 = .ok (.ifCond .ne 17, 3) := by decide +kernel
theorem d_M_isSlip_85 : decode prog_14_method_81_code 85 = .ok (.aload_n 0, 1) := by decide +kernel
theorem d_M_isSlip_86 : decode prog_14_method_81_code 86 = .ok (.getfield 199, 3) := by decide +kernel
theorem d_M_isSlip_89 : decode prog_14_method_81_code 89 = .ok (.lload 6, 2) := by decide +kernel
theorem d_M_isSlip_91 : decode prog_14_method_81_code 91 = .ok (.lcmp, 1) := by decide +kernel
theorem d_M_isSlip_92 : decode prog_14_method_81_code 92 = .ok (.ifCond .ne 7, 3) := by decide +kernel
theorem d_M_isSlip_95 : decode prog_14_method_81_code 95 = .ok (.iconst 1, 1) := by decide +kernel
theorem d_M_isSlip_96 : decode prog_14_method_81_code 96 = .ok (.goto 4, 3) := by decide +kernel
theorem d_M_isSlip_99 : decode prog_14_method_81_code 99 = .ok (.iconst 0, 1) := by decide +kernel
theorem d_M_isSlip_100 : decode prog_14_method_81_code 100 = .ok (.ireturn, 1) := by decide +kernel
theorem d_M_slips_0 : decode prog_14_method_80_code 0 = .ok (.iload_n 3, 1) := by decide +kernel
theorem d_M_slips_1 : decode prog_14_method_80_code 1 = .ok (.ifCond .ne 5, 3) := by decide +kernel
theorem d_M_slips_4 : decode prog_14_method_80_code 4 = .ok (.iconst 1, 1) := by decide +kernel
theorem d_M_slips_5 : decode prog_14_method_80_code 5 = .ok (.ireturn, 1) := by decide +kernel
theorem d_M_slips_6 : decode prog_14_method_80_code 6 = .ok (.iload_n 3, 1) := by decide +kernel
theorem d_M_slips_7 : decode prog_14_method_80_code 7 = .ok (.iconst 2, 1) := by decide +kernel
theorem d_M_slips_8 : decode prog_14_method_80_code 8 = .ok (.if_icmp .ne 13, 3) := by decide +kernel
theorem d_M_slips_11 : decode prog_14_method_80_code 11 = .ok (.aload_n 0, 1) := by decide +kernel
theorem d_M_slips_12 : decode prog_14_method_80_code 12 = .ok (.iload_n 1, 1) := by decide +kernel
theorem d_M_slips_13 : decode prog_14_method_80_code 13 = .ok (.invokestatic 318, 3) := by decide +kernel
theorem d_M_slips_16 : decode prog_14_method_80_code 16 = .ok (.iload_n 2, 1) := by decide +kernel
theorem d_M_slips_17 : decode prog_14_method_80_code 17 = .ok (.invokevirtual 230, 3) := by decide +kernel
theorem d_M_slips_20 : decode prog_14_method_80_code 20 = .ok (.ireturn, 1) := by decide +kernel
theorem d_M_slips_21 : decode prog_14_method_80_code 21 = .ok (.aload_n 0, 1) := by decide +kernel
theorem d_M_slips_22 : decode prog_14_method_80_code 22 = .ok (.iload_n 1, 1) := by decide +kernel
theorem d_M_slips_23 : decode prog_14_method_80_code 23 = .ok (.iload_n 2, 1) := by decide +kernel
theorem d_M_slips_24 : decode prog_14_method_80_code 24 = .ok (.invokevirtual 230, 3) := by decide +kernel
theorem d_M_slips_27 : decode prog_14_method_80_code 27 = .ok (.ifCond .eq 21, 3) := by decide +kernel
theorem d_M_slips_30 : decode prog_14_method_80_code 30 = .ok (.iload_n 3, 1) := by decide +kernel
theorem d_M_slips_31 : decode prog_14_method_80_code 31 = .ok (.iconst 1, 1) := by decide +kernel
theorem d_M_slips_32 : decode prog_14_method_80_code 32 = .ok (.if_icmp .ne 12, 3) := by decide +kernel
theorem d_M_slips_35 : decode prog_14_method_80_code 35 = .ok (.aload_n 0, 1) := by decide +kernel
theorem d_M_slips_36 : decode prog_14_method_80_code 36 = .ok (.iload_n 1, 1) := by decide +kernel
theorem d_M_slips_37 : decode prog_14_method_80_code 37 = .ok (.iload_n 2, 1) := by decide +kernel
theorem d_M_slips_38 : decode prog_14_method_80_code 38 = .ok (.invokevirtual 230, 3) := by decide +kernel
theorem d_M_slips_41 : decode prog_14_method_80_code 41 = .ok (.ifCond .eq 7, 3) := by decide +kernel
theorem d_M_slips_44 : decode prog_14_method_80_code 44 = .ok (.iconst 1, 1) := by decide +kernel
theorem d_M_slips_45 : decode prog_14_method_80_code 45 = .ok (.goto 4, 3) := by decide +kernel
theorem d_M_slips_48 : decode prog_14_method_80_code 48 = .ok (.iconst 0, 1) := by decide +kernel
theorem d_M_slips_49 : decode prog_14_method_80_code 49 = .ok (.ireturn, 1) := by decide +kernel
theorem d_M_turnedRound_0 : decode prog_14_method_79_code 0 = .ok (.iload_n 0, 1) := by decide +kernel
theorem d_M_turnedRound_1 : decode prog_14_method_79_code 1 = .ok (.ifCond .ne 7, 3) := by decide +kernel
theorem d_M_turnedRound_4 : decode prog_14_method_79_code 4 = .ok (.iconst 1, 1) := by decide +kernel
theorem d_M_turnedRound_5 : decode prog_14_method_79_code 5 = .ok (.goto 22, 3) := by decide +kernel
theorem d_M_turnedRound_8 : decode prog_14_method_79_code 8 = .ok (.iload_n 0, 1) := by decide +kernel
theorem d_M_turnedRound_9 : decode prog_14_method_79_code 9 = .ok (.iconst 1, 1) := by decide +kernel
theorem d_M_turnedRound_10 : decode prog_14_method_79_code 10 = .ok (.if_icmp .ne 7, 3) := by decide +kernel
theorem d_M_turnedRound_13 : decode prog_14_method_79_code 13 = .ok (.iconst 0, 1) := by decide +kernel
theorem d_M_turnedRound_14 : decode prog_14_method_79_code 14 = .ok (.goto 13, 3) := by decide +kernel
theorem d_M_turnedRound_17 : decode prog_14_method_79_code 17 = .ok (.iload_n 0, 1) := by decide +kernel
theorem d_M_turnedRound_18 : decode prog_14_method_79_code 18 = .ok (.iconst 2, 1) := by decide +kernel
theorem d_M_turnedRound_19 : decode prog_14_method_79_code 19 = .ok (.if_icmp .ne 7, 3) := by decide +kernel
theorem d_M_turnedRound_22 : decode prog_14_method_79_code 22 = .ok (.iconst 3, 1) := by decide +kernel
theorem d_M_turnedRound_23 : decode prog_14_method_79_code 23 = .ok (.goto 4, 3) := by decide +kernel
theorem d_M_turnedRound_26 : decode prog_14_method_79_code 26 = .ok (.iconst 2, 1) := by decide +kernel
theorem d_M_turnedRound_27 : decode prog_14_method_79_code 27 = .ok (.ireturn, 1) := by decide +kernel
theorem d_M_ask_0 : decode prog_14_method_83_code 0 = .ok (.iload_n 1, 1) := by decide +kernel
theorem d_M_ask_1 : decode prog_14_method_83_code 1 = .ok (.ifCond .ne 13, 3) := by decide +kernel
theorem d_M_ask_4 : decode prog_14_method_83_code 4 = .ok (.aload_n 0, 1) := by decide +kernel
theorem d_M_ask_5 : decode prog_14_method_83_code 5 = .ok (.getfield 7, 3) := by decide +kernel
theorem d_M_ask_8 : decode prog_14_method_83_code 8 = .ok (.bipush 7, 2) := by decide +kernel
theorem d_M_ask_10 : decode prog_14_method_83_code 10 = .ok (.iconst 0, 1) := by decide +kernel
theorem d_M_ask_11 : decode prog_14_method_83_code 11 = .ok (.iastore, 1) := by decide +kernel
theorem d_M_ask_12 : decode prog_14_method_83_code 12 = .ok (.iconst 0, 1) := by decide +kernel
theorem d_M_ask_13 : decode prog_14_method_83_code 13 = .ok (.ireturn, 1) := by decide +kernel
theorem d_M_ask_14 : decode prog_14_method_83_code 14 = .ok (.iload_n 1, 1) := by decide +kernel
theorem d_M_ask_15 : decode prog_14_method_83_code 15 = .ok (.iconst 2, 1) := by decide +kernel
theorem d_M_ask_16 : decode prog_14_method_83_code 16 = .ok (.bipush 30, 2) := by decide +kernel
theorem d_M_ask_18 : decode prog_14_method_83_code 18 = .ok (.invokestatic 68, 3) := by decide +kernel
theorem d_M_ask_21 : decode prog_14_method_83_code 21 = .ok (.ifCond .eq 15, 3) := by decide +kernel
theorem d_M_ask_24 : decode prog_14_method_83_code 24 = .ok (.aload_n 0, 1) := by decide +kernel
theorem d_M_ask_25 : decode prog_14_method_83_code 25 = .ok (.getfield 7, 3) := by decide +kernel
theorem d_M_ask_28 : decode prog_14_method_83_code 28 = .ok (.bipush 7, 2) := by decide +kernel
theorem d_M_ask_30 : decode prog_14_method_83_code 30 = .ok (.iaload, 1) := by decide +kernel
theorem d_M_ask_31 : decode prog_14_method_83_code 31 = .ok (.bipush 6, 2) := by decide +kernel
theorem d_M_ask_33 : decode prog_14_method_83_code 33 = .ok (.if_icmp .ne 5, 3) := by decide +kernel
theorem d_M_ask_36 : decode prog_14_method_83_code 36 = .ok (.iconst (-1), 1) := by decide +kernel
theorem d_M_ask_37 : decode prog_14_method_83_code 37 = .ok (.ireturn, 1) := by decide +kernel
theorem d_M_ask_38 : decode prog_14_method_83_code 38 = .ok (.aload_n 0, 1) := by decide +kernel
theorem d_M_ask_39 : decode prog_14_method_83_code 39 = .ok (.getfield 7, 3) := by decide +kernel
theorem d_M_ask_42 : decode prog_14_method_83_code 42 = .ok (.bipush 24, 2) := by decide +kernel
theorem d_M_ask_44 : decode prog_14_method_83_code 44 = .ok (.aload_n 0, 1) := by decide +kernel
theorem d_M_ask_45 : decode prog_14_method_83_code 45 = .ok (.getfield 7, 3) := by decide +kernel
theorem d_M_ask_48 : decode prog_14_method_83_code 48 = .ok (.bipush 7, 2) := by decide +kernel
theorem d_M_ask_50 : decode prog_14_method_83_code 50 = .ok (.iaload, 1) := by decide +kernel
theorem d_M_ask_51 : decode prog_14_method_83_code 51 = .ok (.iadd, 1) := by decide +kernel
theorem d_M_ask_52 : decode prog_14_method_83_code 52 = .ok (.iload_n 1, 1) := by decide +kernel
theorem d_M_ask_53 : decode prog_14_method_83_code 53 = .ok (.iastore, 1) := by decide +kernel
theorem d_M_ask_54 : decode prog_14_method_83_code 54 = .ok (.aload_n 0, 1) := by decide +kernel
theorem d_M_ask_55 : decode prog_14_method_83_code 55 = .ok (.getfield 7, 3) := by decide +kernel
theorem d_M_ask_58 : decode prog_14_method_83_code 58 = .ok (.bipush 7, 2) := by decide +kernel
theorem d_M_ask_60 : decode prog_14_method_83_code 60 = .ok (.dup2, 1) := by decide +kernel
theorem d_M_ask_61 : decode prog_14_method_83_code 61 = .ok (.iaload, 1) := by decide +kernel
theorem d_M_ask_62 : decode prog_14_method_83_code 62 = .ok (.iconst 1, 1) := by decide +kernel
theorem d_M_ask_63 : decode prog_14_method_83_code 63 = .ok (.iadd, 1) := by decide +kernel
theorem d_M_ask_64 : decode prog_14_method_83_code 64 = .ok (.iastore, 1) := by decide +kernel
theorem d_M_ask_65 : decode prog_14_method_83_code 65 = .ok (.aload_n 0, 1) := by decide +kernel
theorem d_M_ask_66 : decode prog_14_method_83_code 66 = .ok (.getfield 7, 3) := by decide +kernel
theorem d_M_ask_69 : decode prog_14_method_83_code 69 = .ok (.bipush 7, 2) := by decide +kernel
theorem d_M_ask_71 : decode prog_14_method_83_code 71 = .ok (.iaload, 1) := by decide +kernel
theorem d_M_ask_72 : decode prog_14_method_83_code 72 = .ok (.ireturn, 1) := by decide +kernel
theorem d_M_known_0 : decode prog_14_method_87_code 0 = .ok (.iload_n 1, 1) := by decide +kernel
theorem d_M_known_1 : decode prog_14_method_87_code 1 = .ok (.iconst 1, 1) := by decide +kernel
theorem d_M_known_2 : decode prog_14_method_87_code 2 = .ok (.bipush 24, 2) := by decide +kernel
theorem d_M_known_4 : decode prog_14_method_87_code 4 = .ok (.invokestatic 68, 3) := by decide +kernel
theorem d_M_known_7 : decode prog_14_method_87_code 7 = .ok (.ifCond .ne 5, 3) := by decide +kernel
theorem d_M_known_10 : decode prog_14_method_87_code 10 = .ok (.iconst (-1), 1) := by decide +kernel
theorem d_M_known_11 : decode prog_14_method_87_code 11 = .ok (.ireturn, 1) := by decide +kernel
theorem d_M_known_12 : decode prog_14_method_87_code 12 = .ok (.iconst 1, 1) := by decide +kernel
theorem d_M_known_13 : decode prog_14_method_87_code 13 = .ok (.aload_n 0, 1) := by decide +kernel
theorem d_M_known_14 : decode prog_14_method_87_code 14 = .ok (.getfield 7, 3) := by decide +kernel
theorem d_M_known_17 : decode prog_14_method_87_code 17 = .ok (.bipush 7, 2) := by decide +kernel
theorem d_M_known_19 : decode prog_14_method_87_code 19 = .ok (.iaload, 1) := by decide +kernel
theorem d_M_known_20 : decode prog_14_method_87_code 20 = .ok (.ishl, 1) := by decide +kernel
theorem d_M_known_21 : decode prog_14_method_87_code 21 = .ok (.iconst 1, 1) := by decide +kernel
theorem d_M_known_22 : decode prog_14_method_87_code 22 = .ok (.isub, 1) := by decide +kernel
theorem d_M_known_23 : decode prog_14_method_87_code 23 = .ok (.istore_n 3, 1) := by decide +kernel
theorem d_M_known_24 : decode prog_14_method_87_code 24 = .ok (.iload_n 3, 1) := by decide +kernel
theorem d_M_known_25 : decode prog_14_method_87_code 25 = .ok (.ifCond .lt 44, 3) := by decide +kernel
theorem d_M_known_28 : decode prog_14_method_87_code 28 = .ok (.iconst 0, 1) := by decide +kernel
theorem d_M_known_29 : decode prog_14_method_87_code 29 = .ok (.istore 4, 2) := by decide +kernel
theorem d_M_known_31 : decode prog_14_method_87_code 31 = .ok (.iload 4, 2) := by decide +kernel
theorem d_M_known_33 : decode prog_14_method_87_code 33 = .ok (.iload_n 1, 1) := by decide +kernel
theorem d_M_known_34 : decode prog_14_method_87_code 34 = .ok (.if_icmp .ge 29, 3) := by decide +kernel
theorem d_M_known_37 : decode prog_14_method_87_code 37 = .ok (.aload_n 0, 1) := by decide +kernel
theorem d_M_known_38 : decode prog_14_method_87_code 38 = .ok (.getfield 61, 3) := by decide +kernel
theorem d_M_known_41 : decode prog_14_method_87_code 41 = .ok (.bipush 24, 2) := by decide +kernel
theorem d_M_known_43 : decode prog_14_method_87_code 43 = .ok (.iload_n 3, 1) := by decide +kernel
theorem d_M_known_44 : decode prog_14_method_87_code 44 = .ok (.imul, 1) := by decide +kernel
theorem d_M_known_45 : decode prog_14_method_87_code 45 = .ok (.iload 4, 2) := by decide +kernel
theorem d_M_known_47 : decode prog_14_method_87_code 47 = .ok (.iadd, 1) := by decide +kernel
theorem d_M_known_48 : decode prog_14_method_87_code 48 = .ok (.aload_n 0, 1) := by decide +kernel
theorem d_M_known_49 : decode prog_14_method_87_code 49 = .ok (.iload_n 3, 1) := by decide +kernel
theorem d_M_known_50 : decode prog_14_method_87_code 50 = .ok (.iload 4, 2) := by decide +kernel
theorem d_M_known_52 : decode prog_14_method_87_code 52 = .ok (.iload_n 1, 1) := by decide +kernel
theorem d_M_known_53 : decode prog_14_method_87_code 53 = .ok (.invokevirtual 338, 3) := by decide +kernel
theorem d_M_known_56 : decode prog_14_method_87_code 56 = .ok (.iastore, 1) := by decide +kernel
theorem d_M_known_57 : decode prog_14_method_87_code 57 = .ok (.iinc 4 1, 3) := by decide +kernel
theorem d_M_known_60 : decode prog_14_method_87_code 60 = .ok (.goto (-29), 3) := by decide +kernel
theorem d_M_known_63 : decode prog_14_method_87_code 63 = .ok (.iinc 3 (-1), 3) := by decide +kernel
theorem d_M_known_66 : decode prog_14_method_87_code 66 = .ok (.goto (-42), 3) := by decide +kernel
theorem d_M_known_69 : decode prog_14_method_87_code 69 = .ok (.aload_n 0, 1) := by decide +kernel
theorem d_M_known_70 : decode prog_14_method_87_code 70 = .ok (.getfield 61, 3) := by decide +kernel
theorem d_M_known_73 : decode prog_14_method_87_code 73 = .ok (.iconst 0, 1) := by decide +kernel
theorem d_M_known_74 : decode prog_14_method_87_code 74 = .ok (.iaload, 1) := by decide +kernel
theorem d_M_known_75 : decode prog_14_method_87_code 75 = .ok (.bipush 100, 2) := by decide +kernel
theorem d_M_known_77 : decode prog_14_method_87_code 77 = .ok (.if_icmp .lt 5, 3) := by decide +kernel
theorem d_M_known_80 : decode prog_14_method_87_code 80 = .ok (.iconst (-1), 1) := by decide +kernel
theorem d_M_known_81 : decode prog_14_method_87_code 81 = .ok (.ireturn, 1) := by decide +kernel
theorem d_M_known_82 : decode prog_14_method_87_code 82 = .ok (.iload_n 2, 1) := by decide +kernel
theorem d_M_known_83 : decode prog_14_method_87_code 83 = .ok (.ifCond .ne 10, 3) := by decide +kernel
theorem d_M_known_86 : decode prog_14_method_87_code 86 = .ok (.aload_n 0, 1) := by decide +kernel
theorem d_M_known_87 : decode prog_14_method_87_code 87 = .ok (.getfield 61, 3) := by decide +kernel
theorem d_M_known_90 : decode prog_14_method_87_code 90 = .ok (.iconst 0, 1) := by decide +kernel
theorem d_M_known_91 : decode prog_14_method_87_code 91 = .ok (.iaload, 1) := by decide +kernel
theorem d_M_known_92 : decode prog_14_method_87_code 92 = .ok (.ireturn, 1) := by decide +kernel
theorem d_M_known_93 : decode prog_14_method_87_code 93 = .ok (.iconst 0, 1) := by decide +kernel
theorem d_M_known_94 : decode prog_14_method_87_code 94 = .ok (.istore_n 3, 1) := by decide +kernel
theorem d_M_known_95 : decode prog_14_method_87_code 95 = .ok (.iload_n 3, 1) := by decide +kernel
theorem d_M_known_96 : decode prog_14_method_87_code 96 = .ok (.aload_n 0, 1) := by decide +kernel
theorem d_M_known_97 : decode prog_14_method_87_code 97 = .ok (.getfield 7, 3) := by decide +kernel
theorem d_M_known_100 : decode prog_14_method_87_code 100 = .ok (.bipush 7, 2) := by decide +kernel
theorem d_M_known_102 : decode prog_14_method_87_code 102 = .ok (.iaload, 1) := by decide +kernel
theorem d_M_known_103 : decode prog_14_method_87_code 103 = .ok (.if_icmp .ge 37, 3) := by decide +kernel
theorem d_M_known_106 : decode prog_14_method_87_code 106 = .ok (.aload_n 0, 1) := by decide +kernel
theorem d_M_known_107 : decode prog_14_method_87_code 107 = .ok (.getfield 61, 3) := by decide +kernel
theorem d_M_known_110 : decode prog_14_method_87_code 110 = .ok (.iconst 0, 1) := by decide +kernel
theorem d_M_known_111 : decode prog_14_method_87_code 111 = .ok (.iaload, 1) := by decide +kernel
theorem d_M_known_112 : decode prog_14_method_87_code 112 = .ok (.ifCond .le 28, 3) := by decide +kernel
theorem d_M_known_115 : decode prog_14_method_87_code 115 = .ok (.aload_n 0, 1) := by decide +kernel
theorem d_M_known_116 : decode prog_14_method_87_code 116 = .ok (.iconst 0, 1) := by decide +kernel
theorem d_M_known_117 : decode prog_14_method_87_code 117 = .ok (.iconst 0, 1) := by decide +kernel
theorem d_M_known_118 : decode prog_14_method_87_code 118 = .ok (.iload_n 3, 1) := by decide +kernel
theorem d_M_known_119 : decode prog_14_method_87_code 119 = .ok (.iload_n 1, 1) := by decide +kernel
theorem d_M_known_120 : decode prog_14_method_87_code 120 = .ok (.invokevirtual 334, 3) := by decide +kernel
theorem d_M_known_123 : decode prog_14_method_87_code 123 = .ok (.aload_n 0, 1) := by decide +kernel
theorem d_M_known_124 : decode prog_14_method_87_code 124 = .ok (.getfield 61, 3) := by decide +kernel
theorem d_M_known_127 : decode prog_14_method_87_code 127 = .ok (.iconst 0, 1) := by decide +kernel
theorem d_M_known_128 : decode prog_14_method_87_code 128 = .ok (.iaload, 1) := by decide +kernel
theorem d_M_known_129 : decode prog_14_method_87_code 129 = .ok (.if_icmp .ne 5, 3) := by decide +kernel
theorem d_M_known_132 : decode prog_14_method_87_code 132 = .ok (.iload_n 3, 1) := by decide +kernel
theorem d_M_known_133 : decode prog_14_method_87_code 133 = .ok (.ireturn, 1) := by decide +kernel
theorem d_M_known_134 : decode prog_14_method_87_code 134 = .ok (.iinc 3 1, 3) := by decide +kernel
theorem d_M_known_137 : decode prog_14_method_87_code 137 = .ok (.goto (-42), 3) := by decide +kernel
theorem d_M_known_140 : decode prog_14_method_87_code 140 = .ok (.iconst (-1), 1) := by decide +kernel
theorem d_M_known_141 : decode prog_14_method_87_code 141 = .ok (.ireturn, 1) := by decide +kernel
theorem d_M_reckon_0 : decode prog_14_method_86_code 0 = .ok (.iconst 1, 1) := by decide +kernel
theorem d_M_reckon_1 : decode prog_14_method_86_code 1 = .ok (.istore 4, 2) := by decide +kernel
theorem d_M_reckon_3 : decode prog_14_method_86_code 3 = .ok (.iconst 0, 1) := by decide +kernel
theorem d_M_reckon_4 : decode prog_14_method_86_code 4 = .ok (.istore 5, 2) := by decide +kernel
theorem d_M_reckon_6 : decode prog_14_method_86_code 6 = .ok (.iload 5, 2) := by decide +kernel
theorem d_M_reckon_8 : decode prog_14_method_86_code 8 = .ok (.iload_n 3, 1) := by decide +kernel
theorem d_M_reckon_9 : decode prog_14_method_86_code 9 = .ok (.if_icmp .ge 38, 3) := by decide +kernel
theorem d_M_reckon_12 : decode prog_14_method_86_code 12 = .ok (.iload 4, 2) := by decide +kernel
theorem d_M_reckon_14 : decode prog_14_method_86_code 14 = .ok (.ifCond .eq 24, 3) := by decide +kernel
theorem d_M_reckon_17 : decode prog_14_method_86_code 17 = .ok (.iload 5, 2) := by decide +kernel
theorem d_M_reckon_19 : decode prog_14_method_86_code 19 = .ok (.iload_n 2, 1) := by decide +kernel
theorem d_M_reckon_20 : decode prog_14_method_86_code 20 = .ok (.if_icmp .eq 14, 3) := by decide +kernel
theorem d_M_reckon_23 : decode prog_14_method_86_code 23 = .ok (.aload_n 0, 1) := by decide +kernel
theorem d_M_reckon_24 : decode prog_14_method_86_code 24 = .ok (.iload_n 1, 1) := by decide +kernel
theorem d_M_reckon_25 : decode prog_14_method_86_code 25 = .ok (.iload_n 2, 1) := by decide +kernel
theorem d_M_reckon_26 : decode prog_14_method_86_code 26 = .ok (.iload 5, 2) := by decide +kernel
theorem d_M_reckon_28 : decode prog_14_method_86_code 28 = .ok (.invokevirtual 331, 3) := by decide +kernel
theorem d_M_reckon_31 : decode prog_14_method_86_code 31 = .ok (.ifCond .ne 7, 3) := by decide +kernel
theorem d_M_reckon_34 : decode prog_14_method_86_code 34 = .ok (.iconst 1, 1) := by decide +kernel
theorem d_M_reckon_35 : decode prog_14_method_86_code 35 = .ok (.goto 4, 3) := by decide +kernel
theorem d_M_reckon_38 : decode prog_14_method_86_code 38 = .ok (.iconst 0, 1) := by decide +kernel
theorem d_M_reckon_39 : decode prog_14_method_86_code 39 = .ok (.istore 4, 2) := by decide +kernel
theorem d_M_reckon_41 : decode prog_14_method_86_code 41 = .ok (.iinc 5 1, 3) := by decide +kernel
theorem d_M_reckon_44 : decode prog_14_method_86_code 44 = .ok (.goto (-38), 3) := by decide +kernel
theorem d_M_reckon_47 : decode prog_14_method_86_code 47 = .ok (.iload 4, 2) := by decide +kernel
theorem d_M_reckon_49 : decode prog_14_method_86_code 49 = .ok (.ifCond .eq 5, 3) := by decide +kernel
theorem d_M_reckon_52 : decode prog_14_method_86_code 52 = .ok (.iconst 0, 1) := by decide +kernel
theorem d_M_reckon_53 : decode prog_14_method_86_code 53 = .ok (.ireturn, 1) := by decide +kernel
theorem d_M_reckon_54 : decode prog_14_method_86_code 54 = .ok (.bipush 100, 2) := by decide +kernel
theorem d_M_reckon_56 : decode prog_14_method_86_code 56 = .ok (.istore 5, 2) := by decide +kernel
theorem d_M_reckon_58 : decode prog_14_method_86_code 58 = .ok (.iconst 0, 1) := by decide +kernel
theorem d_M_reckon_59 : decode prog_14_method_86_code 59 = .ok (.istore 6, 2) := by decide +kernel
theorem d_M_reckon_61 : decode prog_14_method_86_code 61 = .ok (.iload 6, 2) := by decide +kernel
theorem d_M_reckon_63 : decode prog_14_method_86_code 63 = .ok (.aload_n 0, 1) := by decide +kernel
theorem d_M_reckon_64 : decode prog_14_method_86_code 64 = .ok (.getfield 7, 3) := by decide +kernel
theorem d_M_reckon_67 : decode prog_14_method_86_code 67 = .ok (.bipush 7, 2) := by decide +kernel
theorem d_M_reckon_69 : decode prog_14_method_86_code 69 = .ok (.iaload, 1) := by decide +kernel
theorem d_M_reckon_70 : decode prog_14_method_86_code 70 = .ok (.if_icmp .ge 48, 3) := by decide +kernel
theorem d_M_reckon_73 : decode prog_14_method_86_code 73 = .ok (.iload_n 1, 1) := by decide +kernel
theorem d_M_reckon_74 : decode prog_14_method_86_code 74 = .ok (.iload 6, 2) := by decide +kernel
theorem d_M_reckon_76 : decode prog_14_method_86_code 76 = .ok (.invokestatic 328, 3) := by decide +kernel
theorem d_M_reckon_79 : decode prog_14_method_86_code 79 = .ok (.ifCond .eq 6, 3) := by decide +kernel
theorem d_M_reckon_82 : decode prog_14_method_86_code 82 = .ok (.goto 30, 3) := by decide +kernel
theorem d_M_reckon_85 : decode prog_14_method_86_code 85 = .ok (.aload_n 0, 1) := by decide +kernel
theorem d_M_reckon_86 : decode prog_14_method_86_code 86 = .ok (.iload_n 1, 1) := by decide +kernel
theorem d_M_reckon_87 : decode prog_14_method_86_code 87 = .ok (.iload_n 2, 1) := by decide +kernel
theorem d_M_reckon_88 : decode prog_14_method_86_code 88 = .ok (.iload 6, 2) := by decide +kernel
theorem d_M_reckon_90 : decode prog_14_method_86_code 90 = .ok (.iload_n 3, 1) := by decide +kernel
theorem d_M_reckon_91 : decode prog_14_method_86_code 91 = .ok (.invokevirtual 334, 3) := by decide +kernel
theorem d_M_reckon_94 : decode prog_14_method_86_code 94 = .ok (.istore 7, 2) := by decide +kernel
theorem d_M_reckon_96 : decode prog_14_method_86_code 96 = .ok (.iload 7, 2) := by decide +kernel
theorem d_M_reckon_98 : decode prog_14_method_86_code 98 = .ok (.iload 5, 2) := by decide +kernel
theorem d_M_reckon_100 : decode prog_14_method_86_code 100 = .ok (.if_icmp .ge 8, 3) := by decide +kernel
theorem d_M_reckon_103 : decode prog_14_method_86_code 103 = .ok (.iload 7, 2) := by decide +kernel
theorem d_M_reckon_105 : decode prog_14_method_86_code 105 = .ok (.goto 5, 3) := by decide +kernel
theorem d_M_reckon_108 : decode prog_14_method_86_code 108 = .ok (.iload 5, 2) := by decide +kernel
theorem d_M_reckon_110 : decode prog_14_method_86_code 110 = .ok (.istore 5, 2) := by decide +kernel
theorem d_M_reckon_112 : decode prog_14_method_86_code 112 = .ok (.iinc 6 1, 3) := by decide +kernel
theorem d_M_reckon_115 : decode prog_14_method_86_code 115 = .ok (.goto (-54), 3) := by decide +kernel
theorem d_M_reckon_118 : decode prog_14_method_86_code 118 = .ok (.iload 5, 2) := by decide +kernel
theorem d_M_reckon_120 : decode prog_14_method_86_code 120 = .ok (.ireturn, 1) := by decide +kernel
theorem d_M_isLike_0 : decode prog_14_method_84_code 0 = .ok (.iconst 0, 1) := by decide +kernel
theorem d_M_isLike_1 : decode prog_14_method_84_code 1 = .ok (.istore 4, 2) := by decide +kernel
theorem d_M_isLike_3 : decode prog_14_method_84_code 3 = .ok (.iload 4, 2) := by decide +kernel
theorem d_M_isLike_5 : decode prog_14_method_84_code 5 = .ok (.aload_n 0, 1) := by decide +kernel
theorem d_M_isLike_6 : decode prog_14_method_84_code 6 = .ok (.getfield 7, 3) := by decide +kernel
theorem d_M_isLike_9 : decode prog_14_method_84_code 9 = .ok (.bipush 7, 2) := by decide +kernel
theorem d_M_isLike_11 : decode prog_14_method_84_code 11 = .ok (.iaload, 1) := by decide +kernel
theorem d_M_isLike_12 : decode prog_14_method_84_code 12 = .ok (.if_icmp .ge 47, 3) := by decide +kernel
theorem d_M_isLike_15 : decode prog_14_method_84_code 15 = .ok (.iload_n 1, 1) := by decide +kernel
theorem d_M_isLike_16 : decode prog_14_method_84_code 16 = .ok (.iload 4, 2) := by decide +kernel
theorem d_M_isLike_18 : decode prog_14_method_84_code 18 = .ok (.invokestatic 328, 3) := by decide +kernel
theorem d_M_isLike_21 : decode prog_14_method_84_code 21 = .ok (.ifCond .eq 32, 3) := by decide +kernel
theorem d_M_isLike_24 : decode prog_14_method_84_code 24 = .ok (.iload_n 2, 1) := by decide +kernel
theorem d_M_isLike_25 : decode prog_14_method_84_code 25 = .ok (.aload_n 0, 1) := by decide +kernel
theorem d_M_isLike_26 : decode prog_14_method_84_code 26 = .ok (.getfield 7, 3) := by decide +kernel
theorem d_M_isLike_29 : decode prog_14_method_84_code 29 = .ok (.bipush 24, 2) := by decide +kernel
theorem d_M_isLike_31 : decode prog_14_method_84_code 31 = .ok (.iload 4, 2) := by decide +kernel
theorem d_M_isLike_33 : decode prog_14_method_84_code 33 = .ok (.iadd, 1) := by decide +kernel
theorem d_M_isLike_34 : decode prog_14_method_84_code 34 = .ok (.iaload, 1) := by decide +kernel
theorem d_M_isLike_35 : decode prog_14_method_84_code 35 = .ok (.irem, 1) := by decide +kernel
theorem d_M_isLike_36 : decode prog_14_method_84_code 36 = .ok (.iload_n 3, 1) := by decide +kernel
theorem d_M_isLike_37 : decode prog_14_method_84_code 37 = .ok (.aload_n 0, 1) := by decide +kernel
theorem d_M_isLike_38 : decode prog_14_method_84_code 38 = .ok (.getfield 7, 3) := by decide +kernel
theorem d_M_isLike_41 : decode prog_14_method_84_code 41 = .ok (.bipush 24, 2) := by decide +kernel
theorem d_M_isLike_43 : decode prog_14_method_84_code 43 = .ok (.iload 4, 2) := by decide +kernel
theorem d_M_isLike_45 : decode prog_14_method_84_code 45 = .ok (.iadd, 1) := by decide +kernel
theorem d_M_isLike_46 : decode prog_14_method_84_code 46 = .ok (.iaload, 1) := by decide +kernel
theorem d_M_isLike_47 : decode prog_14_method_84_code 47 = .ok (.irem, 1) := by decide +kernel
theorem d_M_isLike_48 : decode prog_14_method_84_code 48 = .ok (.if_icmp .eq 5, 3) := by decide +kernel
theorem d_M_isLike_51 : decode prog_14_method_84_code 51 = .ok (.iconst 0, 1) := by decide +kernel
theorem d_M_isLike_52 : decode prog_14_method_84_code 52 = .ok (.ireturn, 1) := by decide +kernel
theorem d_M_isLike_53 : decode prog_14_method_84_code 53 = .ok (.iinc 4 1, 3) := by decide +kernel
theorem d_M_isLike_56 : decode prog_14_method_84_code 56 = .ok (.goto (-53), 3) := by decide +kernel
theorem d_M_isLike_59 : decode prog_14_method_84_code 59 = .ok (.iconst 1, 1) := by decide +kernel
theorem d_M_isLike_60 : decode prog_14_method_84_code 60 = .ok (.ireturn, 1) := by decide +kernel
theorem d_M_has_0 : decode prog_14_method_4_code 0 = .ok (.iload_n 0, 1) := by decide +kernel
theorem d_M_has_1 : decode prog_14_method_4_code 1 = .ok (.iload_n 1, 1) := by decide +kernel
theorem d_M_has_2 : decode prog_14_method_4_code 2 = .ok (.ishr, 1) := by decide +kernel
theorem d_M_has_3 : decode prog_14_method_4_code 3 = .ok (.iconst 1, 1) := by decide +kernel
theorem d_M_has_4 : decode prog_14_method_4_code 4 = .ok (.iand, 1) := by decide +kernel
theorem d_M_has_5 : decode prog_14_method_4_code 5 = .ok (.iconst 1, 1) := by decide +kernel
theorem d_M_has_6 : decode prog_14_method_4_code 6 = .ok (.if_icmp .ne 7, 3) := by decide +kernel
theorem d_M_has_9 : decode prog_14_method_4_code 9 = .ok (.iconst 1, 1) := by decide +kernel
theorem d_M_has_10 : decode prog_14_method_4_code 10 = .ok (.goto 4, 3) := by decide +kernel
theorem d_M_has_13 : decode prog_14_method_4_code 13 = .ok (.iconst 0, 1) := by decide +kernel
theorem d_M_has_14 : decode prog_14_method_4_code 14 = .ok (.ireturn, 1) := by decide +kernel
theorem d_M_takesBy_0 : decode prog_14_method_85_code 0 = .ok (.iconst 0, 1) := by decide +kernel
theorem d_M_takesBy_1 : decode prog_14_method_85_code 1 = .ok (.istore 5, 2) := by decide +kernel
theorem d_M_takesBy_3 : decode prog_14_method_85_code 3 = .ok (.iconst 0, 1) := by decide +kernel
theorem d_M_takesBy_4 : decode prog_14_method_85_code 4 = .ok (.istore 6, 2) := by decide +kernel
theorem d_M_takesBy_6 : decode prog_14_method_85_code 6 = .ok (.iload 6, 2) := by decide +kernel
theorem d_M_takesBy_8 : decode prog_14_method_85_code 8 = .ok (.iload 4, 2) := by decide +kernel
theorem d_M_takesBy_10 : decode prog_14_method_85_code 10 = .ok (.if_icmp .ge 59, 3) := by decide +kernel
theorem d_M_takesBy_13 : decode prog_14_method_85_code 13 = .ok (.aload_n 0, 1) := by decide +kernel
theorem d_M_takesBy_14 : decode prog_14_method_85_code 14 = .ok (.iload_n 1, 1) := by decide +kernel
theorem d_M_takesBy_15 : decode prog_14_method_85_code 15 = .ok (.iload_n 2, 1) := by decide +kernel
theorem d_M_takesBy_16 : decode prog_14_method_85_code 16 = .ok (.iload 6, 2) := by decide +kernel
theorem d_M_takesBy_18 : decode prog_14_method_85_code 18 = .ok (.invokevirtual 331, 3) := by decide +kernel
theorem d_M_takesBy_21 : decode prog_14_method_85_code 21 = .ok (.ifCond .eq 42, 3) := by decide +kernel
theorem d_M_takesBy_24 : decode prog_14_method_85_code 24 = .ok (.aload_n 0, 1) := by decide +kernel
theorem d_M_takesBy_25 : decode prog_14_method_85_code 25 = .ok (.getfield 61, 3) := by decide +kernel
theorem d_M_takesBy_28 : decode prog_14_method_85_code 28 = .ok (.bipush 24, 2) := by decide +kernel
theorem d_M_takesBy_30 : decode prog_14_method_85_code 30 = .ok (.iload_n 1, 1) := by decide +kernel
theorem d_M_takesBy_31 : decode prog_14_method_85_code 31 = .ok (.iconst 1, 1) := by decide +kernel
theorem d_M_takesBy_32 : decode prog_14_method_85_code 32 = .ok (.iload_n 3, 1) := by decide +kernel
theorem d_M_takesBy_33 : decode prog_14_method_85_code 33 = .ok (.ishl, 1) := by decide +kernel
theorem d_M_takesBy_34 : decode prog_14_method_85_code 34 = .ok (.ior, 1) := by decide +kernel
theorem d_M_takesBy_35 : decode prog_14_method_85_code 35 = .ok (.imul, 1) := by decide +kernel
theorem d_M_takesBy_36 : decode prog_14_method_85_code 36 = .ok (.iload 6, 2) := by decide +kernel
theorem d_M_takesBy_38 : decode prog_14_method_85_code 38 = .ok (.iadd, 1) := by decide +kernel
theorem d_M_takesBy_39 : decode prog_14_method_85_code 39 = .ok (.iaload, 1) := by decide +kernel
theorem d_M_takesBy_40 : decode prog_14_method_85_code 40 = .ok (.iload 5, 2) := by decide +kernel
theorem d_M_takesBy_42 : decode prog_14_method_85_code 42 = .ok (.if_icmp .le 21, 3) := by decide +kernel
theorem d_M_takesBy_45 : decode prog_14_method_85_code 45 = .ok (.aload_n 0, 1) := by decide +kernel
theorem d_M_takesBy_46 : decode prog_14_method_85_code 46 = .ok (.getfield 61, 3) := by decide +kernel
theorem d_M_takesBy_49 : decode prog_14_method_85_code 49 = .ok (.bipush 24, 2) := by decide +kernel
theorem d_M_takesBy_51 : decode prog_14_method_85_code 51 = .ok (.iload_n 1, 1) := by decide +kernel
theorem d_M_takesBy_52 : decode prog_14_method_85_code 52 = .ok (.iconst 1, 1) := by decide +kernel
theorem d_M_takesBy_53 : decode prog_14_method_85_code 53 = .ok (.iload_n 3, 1) := by decide +kernel
theorem d_M_takesBy_54 : decode prog_14_method_85_code 54 = .ok (.ishl, 1) := by decide +kernel
theorem d_M_takesBy_55 : decode prog_14_method_85_code 55 = .ok (.ior, 1) := by decide +kernel
theorem d_M_takesBy_56 : decode prog_14_method_85_code 56 = .ok (.imul, 1) := by decide +kernel
theorem d_M_takesBy_57 : decode prog_14_method_85_code 57 = .ok (.iload 6, 2) := by decide +kernel
theorem d_M_takesBy_59 : decode prog_14_method_85_code 59 = .ok (.iadd, 1) := by decide +kernel
theorem d_M_takesBy_60 : decode prog_14_method_85_code 60 = .ok (.iaload, 1) := by decide +kernel
theorem d_M_takesBy_61 : decode prog_14_method_85_code 61 = .ok (.istore 5, 2) := by decide +kernel
theorem d_M_takesBy_63 : decode prog_14_method_85_code 63 = .ok (.iinc 6 1, 3) := by decide +kernel
theorem d_M_takesBy_66 : decode prog_14_method_85_code 66 = .ok (.goto (-60), 3) := by decide +kernel
theorem d_M_takesBy_69 : decode prog_14_method_85_code 69 = .ok (.iload 5, 2) := by decide +kernel
theorem d_M_takesBy_71 : decode prog_14_method_85_code 71 = .ok (.iconst 1, 1) := by decide +kernel
theorem d_M_takesBy_72 : decode prog_14_method_85_code 72 = .ok (.iadd, 1) := by decide +kernel
theorem d_M_takesBy_73 : decode prog_14_method_85_code 73 = .ok (.ireturn, 1) := by decide +kernel
theorem d_M_rest_0 : decode prog_14_method_90_code 0 = .ok (.iload_n 1, 1) := by decide +kernel
theorem d_M_rest_1 : decode prog_14_method_90_code 1 = .ok (.iconst 1, 1) := by decide +kernel
theorem d_M_rest_2 : decode prog_14_method_90_code 2 = .ok (.sipush 9999, 3) := by decide +kernel
theorem d_M_rest_5 : decode prog_14_method_90_code 5 = .ok (.invokestatic 68, 3) := by decide +kernel
theorem d_M_rest_8 : decode prog_14_method_90_code 8 = .ok (.ifCond .eq 19, 3) := by decide +kernel
theorem d_M_rest_11 : decode prog_14_method_90_code 11 = .ok (.aload_n 0, 1) := by decide +kernel
theorem d_M_rest_12 : decode prog_14_method_90_code 12 = .ok (.invokevirtual 341, 3) := by decide +kernel
theorem d_M_rest_15 : decode prog_14_method_90_code 15 = .ok (.ifCond .ne 12, 3) := by decide +kernel
theorem d_M_rest_18 : decode prog_14_method_90_code 18 = .ok (.aload_n 0, 1) := by decide +kernel
theorem d_M_rest_19 : decode prog_14_method_90_code 19 = .ok (.iload_n 1, 1) := by decide +kernel
theorem d_M_rest_20 : decode prog_14_method_90_code 20 = .ok (.iconst 0, 1) := by decide +kernel
theorem d_M_rest_21 : decode prog_14_method_90_code 21 = .ok (.invokevirtual 344, 3) := by decide +kernel
theorem d_M_rest_24 : decode prog_14_method_90_code 24 = .ok (.goto 4, 3) := by decide +kernel
theorem d_M_rest_27 : decode prog_14_method_90_code 27 = .ok (.iconst (-1), 1) := by decide +kernel
theorem d_M_rest_28 : decode prog_14_method_90_code 28 = .ok (.ireturn, 1) := by decide +kernel
theorem d_M_hidden_0 : decode prog_14_method_88_code 0 = .ok (.iconst 0, 1) := by decide +kernel
theorem d_M_hidden_1 : decode prog_14_method_88_code 1 = .ok (.istore_n 1, 1) := by decide +kernel
theorem d_M_hidden_2 : decode prog_14_method_88_code 2 = .ok (.iconst 0, 1) := by decide +kernel
theorem d_M_hidden_3 : decode prog_14_method_88_code 3 = .ok (.istore_n 2, 1) := by decide +kernel
theorem d_M_hidden_4 : decode prog_14_method_88_code 4 = .ok (.iload_n 2, 1) := by decide +kernel
theorem d_M_hidden_5 : decode prog_14_method_88_code 5 = .ok (.aload_n 0, 1) := by decide +kernel
theorem d_M_hidden_6 : decode prog_14_method_88_code 6 = .ok (.getfield 76, 3) := by decide +kernel
theorem d_M_hidden_9 : decode prog_14_method_88_code 9 = .ok (.if_icmp .ge 40, 3) := by decide +kernel
theorem d_M_hidden_12 : decode prog_14_method_88_code 12 = .ok (.aload_n 0, 1) := by decide +kernel
theorem d_M_hidden_13 : decode prog_14_method_88_code 13 = .ok (.getfield 26, 3) := by decide +kernel
theorem d_M_hidden_16 : decode prog_14_method_88_code 16 = .ok (.iload_n 2, 1) := by decide +kernel
theorem d_M_hidden_17 : decode prog_14_method_88_code 17 = .ok (.iaload, 1) := by decide +kernel
theorem d_M_hidden_18 : decode prog_14_method_88_code 18 = .ok (.bipush 63, 2) := by decide +kernel
theorem d_M_hidden_20 : decode prog_14_method_88_code 20 = .ok (.if_icmp .ne 9, 3) := by decide +kernel
theorem d_M_hidden_23 : decode prog_14_method_88_code 23 = .ok (.iinc 1 1, 3) := by decide +kernel
theorem d_M_hidden_26 : decode prog_14_method_88_code 26 = .ok (.goto 17, 3) := by decide +kernel
theorem d_M_hidden_29 : decode prog_14_method_88_code 29 = .ok (.aload_n 0, 1) := by decide +kernel
theorem d_M_hidden_30 : decode prog_14_method_88_code 30 = .ok (.getfield 26, 3) := by decide +kernel
theorem d_M_hidden_33 : decode prog_14_method_88_code 33 = .ok (.iload_n 2, 1) := by decide +kernel
theorem d_M_hidden_34 : decode prog_14_method_88_code 34 = .ok (.iaload, 1) := by decide +kernel
theorem d_M_hidden_35 : decode prog_14_method_88_code 35 = .ok (.invokestatic 96, 3) := by decide +kernel
theorem d_M_hidden_38 : decode prog_14_method_88_code 38 = .ok (.ifCond .ne 5, 3) := by decide +kernel
theorem d_M_hidden_41 : decode prog_14_method_88_code 41 = .ok (.iconst (-1), 1) := by decide +kernel
theorem d_M_hidden_42 : decode prog_14_method_88_code 42 = .ok (.ireturn, 1) := by decide +kernel
theorem d_M_hidden_43 : decode prog_14_method_88_code 43 = .ok (.iinc 2 1, 3) := by decide +kernel
theorem d_M_hidden_46 : decode prog_14_method_88_code 46 = .ok (.goto (-42), 3) := by decide +kernel
theorem d_M_hidden_49 : decode prog_14_method_88_code 49 = .ok (.aload_n 0, 1) := by decide +kernel
theorem d_M_hidden_50 : decode prog_14_method_88_code 50 = .ok (.getfield 76, 3) := by decide +kernel
theorem d_M_hidden_53 : decode prog_14_method_88_code 53 = .ok (.ifCond .eq 8, 3) := by decide +kernel
theorem d_M_hidden_56 : decode prog_14_method_88_code 56 = .ok (.iload_n 1, 1) := by decide +kernel
theorem d_M_hidden_57 : decode prog_14_method_88_code 57 = .ok (.iconst 1, 1) := by decide +kernel
theorem d_M_hidden_58 : decode prog_14_method_88_code 58 = .ok (.if_icmp .le 7, 3) := by decide +kernel
theorem d_M_hidden_61 : decode prog_14_method_88_code 61 = .ok (.iconst (-1), 1) := by decide +kernel
theorem d_M_hidden_62 : decode prog_14_method_88_code 62 = .ok (.goto 4, 3) := by decide +kernel
theorem d_M_hidden_65 : decode prog_14_method_88_code 65 = .ok (.iload_n 1, 1) := by decide +kernel
theorem d_M_hidden_66 : decode prog_14_method_88_code 66 = .ok (.ireturn, 1) := by decide +kernel
theorem d_M_restBy_0 : decode prog_14_method_89_code 0 = .ok (.iconst 0, 1) := by decide +kernel
theorem d_M_restBy_1 : decode prog_14_method_89_code 1 = .ok (.istore_n 3, 1) := by decide +kernel
theorem d_M_restBy_2 : decode prog_14_method_89_code 2 = .ok (.iconst 0, 1) := by decide +kernel
theorem d_M_restBy_3 : decode prog_14_method_89_code 3 = .ok (.istore 4, 2) := by decide +kernel
theorem d_M_restBy_5 : decode prog_14_method_89_code 5 = .ok (.iload 4, 2) := by decide +kernel
theorem d_M_restBy_7 : decode prog_14_method_89_code 7 = .ok (.aload_n 0, 1) := by decide +kernel
theorem d_M_restBy_8 : decode prog_14_method_89_code 8 = .ok (.getfield 76, 3) := by decide +kernel
theorem d_M_restBy_11 : decode prog_14_method_89_code 11 = .ok (.if_icmp .ge 43, 3) := by decide +kernel
theorem d_M_restBy_14 : decode prog_14_method_89_code 14 = .ok (.bipush 10, 2) := by decide +kernel
theorem d_M_restBy_16 : decode prog_14_method_89_code 16 = .ok (.iload_n 3, 1) := by decide +kernel
theorem d_M_restBy_17 : decode prog_14_method_89_code 17 = .ok (.imul, 1) := by decide +kernel
theorem d_M_restBy_18 : decode prog_14_method_89_code 18 = .ok (.aload_n 0, 1) := by decide +kernel
theorem d_M_restBy_19 : decode prog_14_method_89_code 19 = .ok (.getfield 26, 3) := by decide +kernel
theorem d_M_restBy_22 : decode prog_14_method_89_code 22 = .ok (.iload 4, 2) := by decide +kernel
theorem d_M_restBy_24 : decode prog_14_method_89_code 24 = .ok (.iaload, 1) := by decide +kernel
theorem d_M_restBy_25 : decode prog_14_method_89_code 25 = .ok (.bipush 63, 2) := by decide +kernel
theorem d_M_restBy_27 : decode prog_14_method_89_code 27 = .ok (.if_icmp .ne 7, 3) := by decide +kernel
theorem d_M_restBy_30 : decode prog_14_method_89_code 30 = .ok (.iload_n 2, 1) := by decide +kernel
theorem d_M_restBy_31 : decode prog_14_method_89_code 31 = .ok (.goto 13, 3) := by decide +kernel
theorem d_M_restBy_34 : decode prog_14_method_89_code 34 = .ok (.aload_n 0, 1) := by decide +kernel
theorem d_M_restBy_35 : decode prog_14_method_89_code 35 = .ok (.getfield 26, 3) := by decide +kernel
theorem d_M_restBy_38 : decode prog_14_method_89_code 38 = .ok (.iload 4, 2) := by decide +kernel
theorem d_M_restBy_40 : decode prog_14_method_89_code 40 = .ok (.iaload, 1) := by decide +kernel
theorem d_M_restBy_41 : decode prog_14_method_89_code 41 = .ok (.bipush 48, 2) := by decide +kernel
theorem d_M_restBy_43 : decode prog_14_method_89_code 43 = .ok (.isub, 1) := by decide +kernel
theorem d_M_restBy_44 : decode prog_14_method_89_code 44 = .ok (.iadd, 1) := by decide +kernel
theorem d_M_restBy_45 : decode prog_14_method_89_code 45 = .ok (.iload_n 1, 1) := by decide +kernel
theorem d_M_restBy_46 : decode prog_14_method_89_code 46 = .ok (.irem, 1) := by decide +kernel
theorem d_M_restBy_47 : decode prog_14_method_89_code 47 = .ok (.istore_n 3, 1) := by decide +kernel
theorem d_M_restBy_48 : decode prog_14_method_89_code 48 = .ok (.iinc 4 1, 3) := by decide +kernel
theorem d_M_restBy_51 : decode prog_14_method_89_code 51 = .ok (.goto (-46), 3) := by decide +kernel
theorem d_M_restBy_54 : decode prog_14_method_89_code 54 = .ok (.iload_n 3, 1) := by decide +kernel
theorem d_M_restBy_55 : decode prog_14_method_89_code 55 = .ok (.ireturn, 1) := by decide +kernel
theorem d_M_struck_0 : decode prog_14_method_91_code 0 = .ok (.iload_n 1, 1) := by decide +kernel
theorem d_M_struck_1 : decode prog_14_method_91_code 1 = .ok (.iconst 1, 1) := by decide +kernel
theorem d_M_struck_2 : decode prog_14_method_91_code 2 = .ok (.sipush 9999, 3) := by decide +kernel
theorem d_M_struck_5 : decode prog_14_method_91_code 5 = .ok (.invokestatic 68, 3) := by decide +kernel
theorem d_M_struck_8 : decode prog_14_method_91_code 8 = .ok (.ifCond .eq 11, 3) := by decide +kernel
theorem d_M_struck_11 : decode prog_14_method_91_code 11 = .ok (.aload_n 0, 1) := by decide +kernel
theorem d_M_struck_12 : decode prog_14_method_91_code 12 = .ok (.invokevirtual 341, 3) := by decide +kernel
theorem d_M_struck_15 : decode prog_14_method_91_code 15 = .ok (.iconst 1, 1) := by decide +kernel
theorem d_M_struck_16 : decode prog_14_method_91_code 16 = .ok (.if_icmp .eq 5, 3) := by decide +kernel
theorem d_M_struck_19 : decode prog_14_method_91_code 19 = .ok (.iconst (-1), 1) := by decide +kernel
theorem d_M_struck_20 : decode prog_14_method_91_code 20 = .ok (.ireturn, 1) := by decide +kernel
theorem d_M_struck_21 : decode prog_14_method_91_code 21 = .ok (.iconst 0, 1) := by decide +kernel
theorem d_M_struck_22 : decode prog_14_method_91_code 22 = .ok (.istore_n 2, 1) := by decide +kernel
theorem d_M_struck_23 : decode prog_14_method_91_code 23 = .ok (.iconst 0, 1) := by decide +kernel
theorem d_M_struck_24 : decode prog_14_method_91_code 24 = .ok (.istore_n 3, 1) := by decide +kernel
theorem d_M_struck_25 : decode prog_14_method_91_code 25 = .ok (.iload_n 3, 1) := by decide +kernel
theorem d_M_struck_26 : decode prog_14_method_91_code 26 = .ok (.bipush 10, 2) := by decide +kernel
theorem d_M_struck_28 : decode prog_14_method_91_code 28 = .ok (.if_icmp .ge 28, 3) := by decide +kernel
theorem d_M_struck_31 : decode prog_14_method_91_code 31 = .ok (.iload_n 2, 1) := by decide +kernel
theorem d_M_struck_32 : decode prog_14_method_91_code 32 = .ok (.aload_n 0, 1) := by decide +kernel
theorem d_M_struck_33 : decode prog_14_method_91_code 33 = .ok (.iload_n 1, 1) := by decide +kernel
theorem d_M_struck_34 : decode prog_14_method_91_code 34 = .ok (.iload_n 3, 1) := by decide +kernel
theorem d_M_struck_35 : decode prog_14_method_91_code 35 = .ok (.invokevirtual 344, 3) := by decide +kernel
theorem d_M_struck_38 : decode prog_14_method_91_code 38 = .ok (.ifCond .ne 9, 3) := by decide +kernel
theorem d_M_struck_41 : decode prog_14_method_91_code 41 = .ok (.iconst 1, 1) := by decide +kernel
theorem d_M_struck_42 : decode prog_14_method_91_code 42 = .ok (.iload_n 3, 1) := by decide +kernel
theorem d_M_struck_43 : decode prog_14_method_91_code 43 = .ok (.ishl, 1) := by decide +kernel
theorem d_M_struck_44 : decode prog_14_method_91_code 44 = .ok (.goto 4, 3) := by decide +kernel
theorem d_M_struck_47 : decode prog_14_method_91_code 47 = .ok (.iconst 0, 1) := by decide +kernel
theorem d_M_struck_48 : decode prog_14_method_91_code 48 = .ok (.ior, 1) := by decide +kernel
theorem d_M_struck_49 : decode prog_14_method_91_code 49 = .ok (.istore_n 2, 1) := by decide +kernel
theorem d_M_struck_50 : decode prog_14_method_91_code 50 = .ok (.iinc 3 1, 3) := by decide +kernel
theorem d_M_struck_53 : decode prog_14_method_91_code 53 = .ok (.goto (-28), 3) := by decide +kernel
theorem d_M_struck_56 : decode prog_14_method_91_code 56 = .ok (.iload_n 2, 1) := by decide +kernel
theorem d_M_struck_57 : decode prog_14_method_91_code 57 = .ok (.ireturn, 1) := by decide +kernel
theorem d_M_play_0 : decode prog_14_method_92_code 0 = .ok (.aload_n 0, 1) := by decide +kernel
theorem d_M_play_1 : decode prog_14_method_92_code 1 = .ok (.iload_n 1, 1) := by decide +kernel
theorem d_M_play_2 : decode prog_14_method_92_code 2 = .ok (.invokevirtual 169, 3) := by decide +kernel
theorem d_M_play_5 : decode prog_14_method_92_code 5 = .ok (.ifCond .ne 5, 3) := by decide +kernel
theorem d_M_play_8 : decode prog_14_method_92_code 8 = .ok (.iconst (-1), 1) := by decide +kernel
theorem d_M_play_9 : decode prog_14_method_92_code 9 = .ok (.ireturn, 1) := by decide +kernel
theorem d_M_play_10 : decode prog_14_method_92_code 10 = .ok (.aload_n 0, 1) := by decide +kernel
theorem d_M_play_11 : decode prog_14_method_92_code 11 = .ok (.invokevirtual 235, 3) := by decide +kernel
theorem d_M_play_14 : decode prog_14_method_92_code 14 = .ok (.aload_n 0, 1) := by decide +kernel
theorem d_M_play_15 : decode prog_14_method_92_code 15 = .ok (.iload_n 1, 1) := by decide +kernel
theorem d_M_play_16 : decode prog_14_method_92_code 16 = .ok (.invokevirtual 227, 3) := by decide +kernel
theorem d_M_play_19 : decode prog_14_method_92_code 19 = .ok (.aload_n 0, 1) := by decide +kernel
theorem d_M_play_20 : decode prog_14_method_92_code 20 = .ok (.getfield 7, 3) := by decide +kernel
theorem d_M_play_23 : decode prog_14_method_92_code 23 = .ok (.iconst 1, 1) := by decide +kernel
theorem d_M_play_24 : decode prog_14_method_92_code 24 = .ok (.iload_n 1, 1) := by decide +kernel
theorem d_M_play_25 : decode prog_14_method_92_code 25 = .ok (.iastore, 1) := by decide +kernel
theorem d_M_play_26 : decode prog_14_method_92_code 26 = .ok (.aload_n 0, 1) := by decide +kernel
theorem d_M_play_27 : decode prog_14_method_92_code 27 = .ok (.getfield 7, 3) := by decide +kernel
theorem d_M_play_30 : decode prog_14_method_92_code 30 = .ok (.iconst 2, 1) := by decide +kernel
theorem d_M_play_31 : decode prog_14_method_92_code 31 = .ok (.iconst 0, 1) := by decide +kernel
theorem d_M_play_32 : decode prog_14_method_92_code 32 = .ok (.iastore, 1) := by decide +kernel
theorem d_M_play_33 : decode prog_14_method_92_code 33 = .ok (.aload_n 0, 1) := by decide +kernel
theorem d_M_play_34 : decode prog_14_method_92_code 34 = .ok (.getfield 7, 3) := by decide +kernel
theorem d_M_play_37 : decode prog_14_method_92_code 37 = .ok (.iconst 3, 1) := by decide +kernel
theorem d_M_play_38 : decode prog_14_method_92_code 38 = .ok (.iconst 0, 1) := by decide +kernel
theorem d_M_play_39 : decode prog_14_method_92_code 39 = .ok (.iastore, 1) := by decide +kernel
theorem d_M_play_40 : decode prog_14_method_92_code 40 = .ok (.aload_n 0, 1) := by decide +kernel
theorem d_M_play_41 : decode prog_14_method_92_code 41 = .ok (.getfield 16, 3) := by decide +kernel
theorem d_M_play_44 : decode prog_14_method_92_code 44 = .ok (.bipush 60, 2) := by decide +kernel
theorem d_M_play_46 : decode prog_14_method_92_code 46 = .ok (.aload_n 0, 1) := by decide +kernel
theorem d_M_play_47 : decode prog_14_method_92_code 47 = .ok (.getfield 196, 3) := by decide +kernel
theorem d_M_play_50 : decode prog_14_method_92_code 50 = .ok (.lastore, 1) := by decide +kernel
theorem d_M_play_51 : decode prog_14_method_92_code 51 = .ok (.aload_n 0, 1) := by decide +kernel
theorem d_M_play_52 : decode prog_14_method_92_code 52 = .ok (.getfield 16, 3) := by decide +kernel
theorem d_M_play_55 : decode prog_14_method_92_code 55 = .ok (.bipush 61, 2) := by decide +kernel
theorem d_M_play_57 : decode prog_14_method_92_code 57 = .ok (.aload_n 0, 1) := by decide +kernel
theorem d_M_play_58 : decode prog_14_method_92_code 58 = .ok (.getfield 199, 3) := by decide +kernel
theorem d_M_play_61 : decode prog_14_method_92_code 61 = .ok (.lastore, 1) := by decide +kernel
theorem d_M_play_62 : decode prog_14_method_92_code 62 = .ok (.aload_n 0, 1) := by decide +kernel
theorem d_M_play_63 : decode prog_14_method_92_code 63 = .ok (.iload_n 1, 1) := by decide +kernel
theorem d_M_play_64 : decode prog_14_method_92_code 64 = .ok (.invokevirtual 172, 3) := by decide +kernel
theorem d_M_play_67 : decode prog_14_method_92_code 67 = .ok (.ireturn, 1) := by decide +kernel
theorem d_M_go_0 : decode prog_14_method_94_code 0 = .ok (.aload_n 0, 1) := by decide +kernel
theorem d_M_go_1 : decode prog_14_method_94_code 1 = .ok (.getfield 7, 3) := by decide +kernel
theorem d_M_go_4 : decode prog_14_method_94_code 4 = .ok (.iconst 1, 1) := by decide +kernel
theorem d_M_go_5 : decode prog_14_method_94_code 5 = .ok (.iaload, 1) := by decide +kernel
theorem d_M_go_6 : decode prog_14_method_94_code 6 = .ok (.iconst (-1), 1) := by decide +kernel
theorem d_M_go_7 : decode prog_14_method_94_code 7 = .ok (.if_icmp .eq 22, 3) := by decide +kernel
theorem d_M_go_10 : decode prog_14_method_94_code 10 = .ok (.aload_n 0, 1) := by decide +kernel
theorem d_M_go_11 : decode prog_14_method_94_code 11 = .ok (.getfield 7, 3) := by decide +kernel
theorem d_M_go_14 : decode prog_14_method_94_code 14 = .ok (.iconst 2, 1) := by decide +kernel
theorem d_M_go_15 : decode prog_14_method_94_code 15 = .ok (.iaload, 1) := by decide +kernel
theorem d_M_go_16 : decode prog_14_method_94_code 16 = .ok (.aload_n 0, 1) := by decide +kernel
theorem d_M_go_17 : decode prog_14_method_94_code 17 = .ok (.aload_n 0, 1) := by decide +kernel
theorem d_M_go_18 : decode prog_14_method_94_code 18 = .ok (.getfield 7, 3) := by decide +kernel
theorem d_M_go_21 : decode prog_14_method_94_code 21 = .ok (.iconst 1, 1) := by decide +kernel
theorem d_M_go_22 : decode prog_14_method_94_code 22 = .ok (.iaload, 1) := by decide +kernel
theorem d_M_go_23 : decode prog_14_method_94_code 23 = .ok (.invokevirtual 172, 3) := by decide +kernel
theorem d_M_go_26 : decode prog_14_method_94_code 26 = .ok (.if_icmp .ne 5, 3) := by decide +kernel
theorem d_M_go_29 : decode prog_14_method_94_code 29 = .ok (.iconst (-1), 1) := by decide +kernel
theorem d_M_go_30 : decode prog_14_method_94_code 30 = .ok (.ireturn, 1) := by decide +kernel
theorem d_M_go_31 : decode prog_14_method_94_code 31 = .ok (.aload_n 0, 1) := by decide +kernel
theorem d_M_go_32 : decode prog_14_method_94_code 32 = .ok (.invokevirtual 235, 3) := by decide +kernel
theorem d_M_go_35 : decode prog_14_method_94_code 35 = .ok (.aload_n 0, 1) := by decide +kernel
theorem d_M_go_36 : decode prog_14_method_94_code 36 = .ok (.aload_n 0, 1) := by decide +kernel
theorem d_M_go_37 : decode prog_14_method_94_code 37 = .ok (.getfield 16, 3) := by decide +kernel
theorem d_M_go_40 : decode prog_14_method_94_code 40 = .ok (.bipush 60, 2) := by decide +kernel
theorem d_M_go_42 : decode prog_14_method_94_code 42 = .ok (.laload, 1) := by decide +kernel
theorem d_M_go_43 : decode prog_14_method_94_code 43 = .ok (.putfield 196, 3) := by decide +kernel
theorem d_M_go_46 : decode prog_14_method_94_code 46 = .ok (.aload_n 0, 1) := by decide +kernel
theorem d_M_go_47 : decode prog_14_method_94_code 47 = .ok (.aload_n 0, 1) := by decide +kernel
theorem d_M_go_48 : decode prog_14_method_94_code 48 = .ok (.getfield 16, 3) := by decide +kernel
theorem d_M_go_51 : decode prog_14_method_94_code 51 = .ok (.bipush 61, 2) := by decide +kernel
theorem d_M_go_53 : decode prog_14_method_94_code 53 = .ok (.laload, 1) := by decide +kernel
theorem d_M_go_54 : decode prog_14_method_94_code 54 = .ok (.putfield 199, 3) := by decide +kernel
theorem d_M_go_57 : decode prog_14_method_94_code 57 = .ok (.aload_n 0, 1) := by decide +kernel
theorem d_M_go_58 : decode prog_14_method_94_code 58 = .ok (.aload_n 0, 1) := by decide +kernel
theorem d_M_go_59 : decode prog_14_method_94_code 59 = .ok (.aload_n 0, 1) := by decide +kernel
theorem d_M_go_60 : decode prog_14_method_94_code 60 = .ok (.getfield 7, 3) := by decide +kernel
theorem d_M_go_63 : decode prog_14_method_94_code 63 = .ok (.iconst 1, 1) := by decide +kernel
theorem d_M_go_64 : decode prog_14_method_94_code 64 = .ok (.iaload, 1) := by decide +kernel
theorem d_M_go_65 : decode prog_14_method_94_code 65 = .ok (.aload_n 0, 1) := by decide +kernel
theorem d_M_go_66 : decode prog_14_method_94_code 66 = .ok (.getfield 7, 3) := by decide +kernel
theorem d_M_go_69 : decode prog_14_method_94_code 69 = .ok (.iconst 2, 1) := by decide +kernel
theorem d_M_go_70 : decode prog_14_method_94_code 70 = .ok (.iaload, 1) := by decide +kernel
theorem d_M_go_71 : decode prog_14_method_94_code 71 = .ok (.invokevirtual 179, 3) := by decide +kernel
theorem d_M_go_74 : decode prog_14_method_94_code 74 = .ok (.aload_n 0, 1) := by decide +kernel
theorem d_M_go_75 : decode prog_14_method_94_code 75 = .ok (.aload_n 0, 1) := by decide +kernel
theorem d_M_go_76 : decode prog_14_method_94_code 76 = .ok (.getfield 7, 3) := by decide +kernel
theorem d_M_go_79 : decode prog_14_method_94_code 79 = .ok (.iconst 1, 1) := by decide +kernel
theorem d_M_go_80 : decode prog_14_method_94_code 80 = .ok (.iaload, 1) := by decide +kernel
theorem d_M_go_81 : decode prog_14_method_94_code 81 = .ok (.aload_n 0, 1) := by decide +kernel
theorem d_M_go_82 : decode prog_14_method_94_code 82 = .ok (.getfield 7, 3) := by decide +kernel
theorem d_M_go_85 : decode prog_14_method_94_code 85 = .ok (.iconst 2, 1) := by decide +kernel
theorem d_M_go_86 : decode prog_14_method_94_code 86 = .ok (.iaload, 1) := by decide +kernel
theorem d_M_go_87 : decode prog_14_method_94_code 87 = .ok (.invokevirtual 175, 3) := by decide +kernel
theorem d_M_go_90 : decode prog_14_method_94_code 90 = .ok (.invokevirtual 230, 3) := by decide +kernel
theorem d_M_go_93 : decode prog_14_method_94_code 93 = .ok (.ifCond .ne 5, 3) := by decide +kernel
theorem d_M_go_96 : decode prog_14_method_94_code 96 = .ok (.iconst (-1), 1) := by decide +kernel
theorem d_M_go_97 : decode prog_14_method_94_code 97 = .ok (.ireturn, 1) := by decide +kernel
theorem d_M_go_98 : decode prog_14_method_94_code 98 = .ok (.aload_n 0, 1) := by decide +kernel
theorem d_M_go_99 : decode prog_14_method_94_code 99 = .ok (.invokevirtual 347, 3) := by decide +kernel
theorem d_M_go_102 : decode prog_14_method_94_code 102 = .ok (.aload_n 0, 1) := by decide +kernel
theorem d_M_go_103 : decode prog_14_method_94_code 103 = .ok (.getfield 16, 3) := by decide +kernel
theorem d_M_go_106 : decode prog_14_method_94_code 106 = .ok (.bipush 60, 2) := by decide +kernel
theorem d_M_go_108 : decode prog_14_method_94_code 108 = .ok (.aload_n 0, 1) := by decide +kernel
theorem d_M_go_109 : decode prog_14_method_94_code 109 = .ok (.getfield 196, 3) := by decide +kernel
theorem d_M_go_112 : decode prog_14_method_94_code 112 = .ok (.lastore, 1) := by decide +kernel
theorem d_M_go_113 : decode prog_14_method_94_code 113 = .ok (.aload_n 0, 1) := by decide +kernel
theorem d_M_go_114 : decode prog_14_method_94_code 114 = .ok (.getfield 16, 3) := by decide +kernel
theorem d_M_go_117 : decode prog_14_method_94_code 117 = .ok (.bipush 61, 2) := by decide +kernel
theorem d_M_go_119 : decode prog_14_method_94_code 119 = .ok (.aload_n 0, 1) := by decide +kernel
theorem d_M_go_120 : decode prog_14_method_94_code 120 = .ok (.getfield 199, 3) := by decide +kernel
theorem d_M_go_123 : decode prog_14_method_94_code 123 = .ok (.lastore, 1) := by decide +kernel
theorem d_M_go_124 : decode prog_14_method_94_code 124 = .ok (.aload_n 0, 1) := by decide +kernel
theorem d_M_go_125 : decode prog_14_method_94_code 125 = .ok (.getfield 7, 3) := by decide +kernel
theorem d_M_go_128 : decode prog_14_method_94_code 128 = .ok (.iconst 2, 1) := by decide +kernel
theorem d_M_go_129 : decode prog_14_method_94_code 129 = .ok (.dup2, 1) := by decide +kernel
theorem d_M_go_130 : decode prog_14_method_94_code 130 = .ok (.iaload, 1) := by decide +kernel
theorem d_M_go_131 : decode prog_14_method_94_code 131 = .ok (.iconst 1, 1) := by decide +kernel
theorem d_M_go_132 : decode prog_14_method_94_code 132 = .ok (.iadd, 1) := by decide +kernel
theorem d_M_go_133 : decode prog_14_method_94_code 133 = .ok (.iastore, 1) := by decide +kernel
theorem d_M_go_134 : decode prog_14_method_94_code 134 = .ok (.aload_n 0, 1) := by decide +kernel
theorem d_M_go_135 : decode prog_14_method_94_code 135 = .ok (.getfield 7, 3) := by decide +kernel
theorem d_M_go_138 : decode prog_14_method_94_code 138 = .ok (.iconst 2, 1) := by decide +kernel
theorem d_M_go_139 : decode prog_14_method_94_code 139 = .ok (.iaload, 1) := by decide +kernel
theorem d_M_go_140 : decode prog_14_method_94_code 140 = .ok (.iconst 1, 1) := by decide +kernel
theorem d_M_go_141 : decode prog_14_method_94_code 141 = .ok (.isub, 1) := by decide +kernel
theorem d_M_go_142 : decode prog_14_method_94_code 142 = .ok (.ireturn, 1) := by decide +kernel
theorem d_M_keep_0 : decode prog_14_method_93_code 0 = .ok (.aload_n 0, 1) := by decide +kernel
theorem d_M_keep_1 : decode prog_14_method_93_code 1 = .ok (.getfield 7, 3) := by decide +kernel
theorem d_M_keep_4 : decode prog_14_method_93_code 4 = .ok (.iconst 3, 1) := by decide +kernel
theorem d_M_keep_5 : decode prog_14_method_93_code 5 = .ok (.iaload, 1) := by decide +kernel
theorem d_M_keep_6 : decode prog_14_method_93_code 6 = .ok (.bipush 30, 2) := by decide +kernel
theorem d_M_keep_8 : decode prog_14_method_93_code 8 = .ok (.if_icmp .ne 47, 3) := by decide +kernel
theorem d_M_keep_11 : decode prog_14_method_93_code 11 = .ok (.iconst 0, 1) := by decide +kernel
theorem d_M_keep_12 : decode prog_14_method_93_code 12 = .ok (.istore_n 1, 1) := by decide +kernel
theorem d_M_keep_13 : decode prog_14_method_93_code 13 = .ok (.iload_n 1, 1) := by decide +kernel
theorem d_M_keep_14 : decode prog_14_method_93_code 14 = .ok (.bipush 58, 2) := by decide +kernel
theorem d_M_keep_16 : decode prog_14_method_93_code 16 = .ok (.if_icmp .ge 29, 3) := by decide +kernel
theorem d_M_keep_19 : decode prog_14_method_93_code 19 = .ok (.aload_n 0, 1) := by decide +kernel
theorem d_M_keep_20 : decode prog_14_method_93_code 20 = .ok (.getfield 16, 3) := by decide +kernel
theorem d_M_keep_23 : decode prog_14_method_93_code 23 = .ok (.bipush 62, 2) := by decide +kernel
theorem d_M_keep_25 : decode prog_14_method_93_code 25 = .ok (.iload_n 1, 1) := by decide +kernel
theorem d_M_keep_26 : decode prog_14_method_93_code 26 = .ok (.iadd, 1) := by decide +kernel
theorem d_M_keep_27 : decode prog_14_method_93_code 27 = .ok (.aload_n 0, 1) := by decide +kernel
theorem d_M_keep_28 : decode prog_14_method_93_code 28 = .ok (.getfield 16, 3) := by decide +kernel
theorem d_M_keep_31 : decode prog_14_method_93_code 31 = .ok (.bipush 62, 2) := by decide +kernel
theorem d_M_keep_33 : decode prog_14_method_93_code 33 = .ok (.iload_n 1, 1) := by decide +kernel
theorem d_M_keep_34 : decode prog_14_method_93_code 34 = .ok (.iadd, 1) := by decide +kernel
theorem d_M_keep_35 : decode prog_14_method_93_code 35 = .ok (.iconst 2, 1) := by decide +kernel
theorem d_M_keep_36 : decode prog_14_method_93_code 36 = .ok (.iadd, 1) := by decide +kernel
theorem d_M_keep_37 : decode prog_14_method_93_code 37 = .ok (.laload, 1) := by decide +kernel
theorem d_M_keep_38 : decode prog_14_method_93_code 38 = .ok (.lastore, 1) := by decide +kernel
theorem d_M_keep_39 : decode prog_14_method_93_code 39 = .ok (.iinc 1 1, 3) := by decide +kernel
theorem d_M_keep_42 : decode prog_14_method_93_code 42 = .ok (.goto (-29), 3) := by decide +kernel
theorem d_M_keep_45 : decode prog_14_method_93_code 45 = .ok (.aload_n 0, 1) := by decide +kernel
theorem d_M_keep_46 : decode prog_14_method_93_code 46 = .ok (.getfield 7, 3) := by decide +kernel
theorem d_M_keep_49 : decode prog_14_method_93_code 49 = .ok (.iconst 3, 1) := by decide +kernel
theorem d_M_keep_50 : decode prog_14_method_93_code 50 = .ok (.dup2, 1) := by decide +kernel
theorem d_M_keep_51 : decode prog_14_method_93_code 51 = .ok (.iaload, 1) := by decide +kernel
theorem d_M_keep_52 : decode prog_14_method_93_code 52 = .ok (.iconst 1, 1) := by decide +kernel
theorem d_M_keep_53 : decode prog_14_method_93_code 53 = .ok (.isub, 1) := by decide +kernel
theorem d_M_keep_54 : decode prog_14_method_93_code 54 = .ok (.iastore, 1) := by decide +kernel
theorem d_M_keep_55 : decode prog_14_method_93_code 55 = .ok (.aload_n 0, 1) := by decide +kernel
theorem d_M_keep_56 : decode prog_14_method_93_code 56 = .ok (.getfield 16, 3) := by decide +kernel
theorem d_M_keep_59 : decode prog_14_method_93_code 59 = .ok (.bipush 62, 2) := by decide +kernel
theorem d_M_keep_61 : decode prog_14_method_93_code 61 = .ok (.iconst 2, 1) := by decide +kernel
theorem d_M_keep_62 : decode prog_14_method_93_code 62 = .ok (.aload_n 0, 1) := by decide +kernel
theorem d_M_keep_63 : decode prog_14_method_93_code 63 = .ok (.getfield 7, 3) := by decide +kernel
theorem d_M_keep_66 : decode prog_14_method_93_code 66 = .ok (.iconst 3, 1) := by decide +kernel
theorem d_M_keep_67 : decode prog_14_method_93_code 67 = .ok (.iaload, 1) := by decide +kernel
theorem d_M_keep_68 : decode prog_14_method_93_code 68 = .ok (.imul, 1) := by decide +kernel
theorem d_M_keep_69 : decode prog_14_method_93_code 69 = .ok (.iadd, 1) := by decide +kernel
theorem d_M_keep_70 : decode prog_14_method_93_code 70 = .ok (.aload_n 0, 1) := by decide +kernel
theorem d_M_keep_71 : decode prog_14_method_93_code 71 = .ok (.getfield 16, 3) := by decide +kernel
theorem d_M_keep_74 : decode prog_14_method_93_code 74 = .ok (.bipush 60, 2) := by decide +kernel
theorem d_M_keep_76 : decode prog_14_method_93_code 76 = .ok (.laload, 1) := by decide +kernel
theorem d_M_keep_77 : decode prog_14_method_93_code 77 = .ok (.lastore, 1) := by decide +kernel
theorem d_M_keep_78 : decode prog_14_method_93_code 78 = .ok (.aload_n 0, 1) := by decide +kernel
theorem d_M_keep_79 : decode prog_14_method_93_code 79 = .ok (.getfield 16, 3) := by decide +kernel
theorem d_M_keep_82 : decode prog_14_method_93_code 82 = .ok (.bipush 62, 2) := by decide +kernel
theorem d_M_keep_84 : decode prog_14_method_93_code 84 = .ok (.iconst 2, 1) := by decide +kernel
theorem d_M_keep_85 : decode prog_14_method_93_code 85 = .ok (.aload_n 0, 1) := by decide +kernel
theorem d_M_keep_86 : decode prog_14_method_93_code 86 = .ok (.getfield 7, 3) := by decide +kernel
theorem d_M_keep_89 : decode prog_14_method_93_code 89 = .ok (.iconst 3, 1) := by decide +kernel
theorem d_M_keep_90 : decode prog_14_method_93_code 90 = .ok (.iaload, 1) := by decide +kernel
theorem d_M_keep_91 : decode prog_14_method_93_code 91 = .ok (.imul, 1) := by decide +kernel
theorem d_M_keep_92 : decode prog_14_method_93_code 92 = .ok (.iadd, 1) := by decide +kernel
theorem d_M_keep_93 : decode prog_14_method_93_code 93 = .ok (.iconst 1, 1) := by decide +kernel
theorem d_M_keep_94 : decode prog_14_method_93_code 94 = .ok (.iadd, 1) := by decide +kernel
theorem d_M_keep_95 : decode prog_14_method_93_code 95 = .ok (.aload_n 0, 1) := by decide +kernel
theorem d_M_keep_96 : decode prog_14_method_93_code 96 = .ok (.getfield 16, 3) := by decide +kernel
theorem d_M_keep_99 : decode prog_14_method_93_code 99 = .ok (.bipush 61, 2) := by decide +kernel
theorem d_M_keep_101 : decode prog_14_method_93_code 101 = .ok (.laload, 1) := by decide +kernel
theorem d_M_keep_102 : decode prog_14_method_93_code 102 = .ok (.lastore, 1) := by decide +kernel
theorem d_M_keep_103 : decode prog_14_method_93_code 103 = .ok (.aload_n 0, 1) := by decide +kernel
theorem d_M_keep_104 : decode prog_14_method_93_code 104 = .ok (.getfield 7, 3) := by decide +kernel
theorem d_M_keep_107 : decode prog_14_method_93_code 107 = .ok (.iconst 3, 1) := by decide +kernel
theorem d_M_keep_108 : decode prog_14_method_93_code 108 = .ok (.dup2, 1) := by decide +kernel
theorem d_M_keep_109 : decode prog_14_method_93_code 109 = .ok (.iaload, 1) := by decide +kernel
theorem d_M_keep_110 : decode prog_14_method_93_code 110 = .ok (.iconst 1, 1) := by decide +kernel
theorem d_M_keep_111 : decode prog_14_method_93_code 111 = .ok (.iadd, 1) := by decide +kernel
theorem d_M_keep_112 : decode prog_14_method_93_code 112 = .ok (.iastore, 1) := by decide +kernel
theorem d_M_keep_113 : decode prog_14_method_93_code 113 = .ok (.return_, 1) := by decide +kernel
theorem d_M_undo_0 : decode prog_14_method_95_code 0 = .ok (.aload_n 0, 1) := by decide +kernel
theorem d_M_undo_1 : decode prog_14_method_95_code 1 = .ok (.getfield 7, 3) := by decide +kernel
theorem d_M_undo_4 : decode prog_14_method_95_code 4 = .ok (.iconst 3, 1) := by decide +kernel
theorem d_M_undo_5 : decode prog_14_method_95_code 5 = .ok (.iaload, 1) := by decide +kernel
theorem d_M_undo_6 : decode prog_14_method_95_code 6 = .ok (.ifCond .ne 5, 3) := by decide +kernel
theorem d_M_undo_9 : decode prog_14_method_95_code 9 = .ok (.iconst (-1), 1) := by decide +kernel
theorem d_M_undo_10 : decode prog_14_method_95_code 10 = .ok (.ireturn, 1) := by decide +kernel
theorem d_M_undo_11 : decode prog_14_method_95_code 11 = .ok (.aload_n 0, 1) := by decide +kernel
theorem d_M_undo_12 : decode prog_14_method_95_code 12 = .ok (.getfield 7, 3) := by decide +kernel
theorem d_M_undo_15 : decode prog_14_method_95_code 15 = .ok (.iconst 3, 1) := by decide +kernel
theorem d_M_undo_16 : decode prog_14_method_95_code 16 = .ok (.dup2, 1) := by decide +kernel
theorem d_M_undo_17 : decode prog_14_method_95_code 17 = .ok (.iaload, 1) := by decide +kernel
theorem d_M_undo_18 : decode prog_14_method_95_code 18 = .ok (.iconst 1, 1) := by decide +kernel
theorem d_M_undo_19 : decode prog_14_method_95_code 19 = .ok (.isub, 1) := by decide +kernel
theorem d_M_undo_20 : decode prog_14_method_95_code 20 = .ok (.iastore, 1) := by decide +kernel
theorem d_M_undo_21 : decode prog_14_method_95_code 21 = .ok (.aload_n 0, 1) := by decide +kernel
theorem d_M_undo_22 : decode prog_14_method_95_code 22 = .ok (.getfield 7, 3) := by decide +kernel
theorem d_M_undo_25 : decode prog_14_method_95_code 25 = .ok (.iconst 2, 1) := by decide +kernel
theorem d_M_undo_26 : decode prog_14_method_95_code 26 = .ok (.dup2, 1) := by decide +kernel
theorem d_M_undo_27 : decode prog_14_method_95_code 27 = .ok (.iaload, 1) := by decide +kernel
theorem d_M_undo_28 : decode prog_14_method_95_code 28 = .ok (.iconst 1, 1) := by decide +kernel
theorem d_M_undo_29 : decode prog_14_method_95_code 29 = .ok (.isub, 1) := by decide +kernel
theorem d_M_undo_30 : decode prog_14_method_95_code 30 = .ok (.iastore, 1) := by decide +kernel
theorem d_M_undo_31 : decode prog_14_method_95_code 31 = .ok (.aload_n 0, 1) := by decide +kernel
theorem d_M_undo_32 : decode prog_14_method_95_code 32 = .ok (.getfield 16, 3) := by decide +kernel
theorem d_M_undo_35 : decode prog_14_method_95_code 35 = .ok (.bipush 60, 2) := by decide +kernel
theorem d_M_undo_37 : decode prog_14_method_95_code 37 = .ok (.aload_n 0, 1) := by decide +kernel
theorem d_M_undo_38 : decode prog_14_method_95_code 38 = .ok (.getfield 16, 3) := by decide +kernel
theorem d_M_undo_41 : decode prog_14_method_95_code 41 = .ok (.bipush 62, 2) := by decide +kernel
theorem d_M_undo_43 : decode prog_14_method_95_code 43 = .ok (.iconst 2, 1) := by decide +kernel
theorem d_M_undo_44 : decode prog_14_method_95_code 44 = .ok (.aload_n 0, 1) := by decide +kernel
theorem d_M_undo_45 : decode prog_14_method_95_code 45 = .ok (.getfield 7, 3) := by decide +kernel
theorem d_M_undo_48 : decode prog_14_method_95_code 48 = .ok (.iconst 3, 1) := by decide +kernel
theorem d_M_undo_49 : decode prog_14_method_95_code 49 = .ok (.iaload, 1) := by decide +kernel
theorem d_M_undo_50 : decode prog_14_method_95_code 50 = .ok (.imul, 1) := by decide +kernel
theorem d_M_undo_51 : decode prog_14_method_95_code 51 = .ok (.iadd, 1) := by decide +kernel
theorem d_M_undo_52 : decode prog_14_method_95_code 52 = .ok (.laload, 1) := by decide +kernel
theorem d_M_undo_53 : decode prog_14_method_95_code 53 = .ok (.lastore, 1) := by decide +kernel
theorem d_M_undo_54 : decode prog_14_method_95_code 54 = .ok (.aload_n 0, 1) := by decide +kernel
theorem d_M_undo_55 : decode prog_14_method_95_code 55 = .ok (.getfield 16, 3) := by decide +kernel
theorem d_M_undo_58 : decode prog_14_method_95_code 58 = .ok (.bipush 61, 2) := by decide +kernel
theorem d_M_undo_60 : decode prog_14_method_95_code 60 = .ok (.aload_n 0, 1) := by decide +kernel
theorem d_M_undo_61 : decode prog_14_method_95_code 61 = .ok (.getfield 16, 3) := by decide +kernel
theorem d_M_undo_64 : decode prog_14_method_95_code 64 = .ok (.bipush 62, 2) := by decide +kernel
theorem d_M_undo_66 : decode prog_14_method_95_code 66 = .ok (.iconst 2, 1) := by decide +kernel
theorem d_M_undo_67 : decode prog_14_method_95_code 67 = .ok (.aload_n 0, 1) := by decide +kernel
theorem d_M_undo_68 : decode prog_14_method_95_code 68 = .ok (.getfield 7, 3) := by decide +kernel
theorem d_M_undo_71 : decode prog_14_method_95_code 71 = .ok (.iconst 3, 1) := by decide +kernel
theorem d_M_undo_72 : decode prog_14_method_95_code 72 = .ok (.iaload, 1) := by decide +kernel
theorem d_M_undo_73 : decode prog_14_method_95_code 73 = .ok (.imul, 1) := by decide +kernel
theorem d_M_undo_74 : decode prog_14_method_95_code 74 = .ok (.iadd, 1) := by decide +kernel
theorem d_M_undo_75 : decode prog_14_method_95_code 75 = .ok (.iconst 1, 1) := by decide +kernel
theorem d_M_undo_76 : decode prog_14_method_95_code 76 = .ok (.iadd, 1) := by decide +kernel
theorem d_M_undo_77 : decode prog_14_method_95_code 77 = .ok (.laload, 1) := by decide +kernel
theorem d_M_undo_78 : decode prog_14_method_95_code 78 = .ok (.lastore, 1) := by decide +kernel
theorem d_M_undo_79 : decode prog_14_method_95_code 79 = .ok (.aload_n 0, 1) := by decide +kernel
theorem d_M_undo_80 : decode prog_14_method_95_code 80 = .ok (.getfield 7, 3) := by decide +kernel
theorem d_M_undo_83 : decode prog_14_method_95_code 83 = .ok (.iconst 3, 1) := by decide +kernel
theorem d_M_undo_84 : decode prog_14_method_95_code 84 = .ok (.iaload, 1) := by decide +kernel
theorem d_M_undo_85 : decode prog_14_method_95_code 85 = .ok (.ireturn, 1) := by decide +kernel
theorem d_M_value_0 : decode prog_14_method_96_code 0 = .ok (.aload_n 0, 1) := by decide +kernel
theorem d_M_value_1 : decode prog_14_method_96_code 1 = .ok (.getfield 16, 3) := by decide +kernel
theorem d_M_value_4 : decode prog_14_method_96_code 4 = .ok (.iload_n 1, 1) := by decide +kernel
theorem d_M_value_5 : decode prog_14_method_96_code 5 = .ok (.ifCond .eq 8, 3) := by decide +kernel
theorem d_M_value_8 : decode prog_14_method_96_code 8 = .ok (.bipush 61, 2) := by decide +kernel
theorem d_M_value_10 : decode prog_14_method_96_code 10 = .ok (.goto 5, 3) := by decide +kernel
theorem d_M_value_13 : decode prog_14_method_96_code 13 = .ok (.bipush 60, 2) := by decide +kernel
theorem d_M_value_15 : decode prog_14_method_96_code 15 = .ok (.laload, 1) := by decide +kernel
theorem d_M_value_16 : decode prog_14_method_96_code 16 = .ok (.lreturn, 1) := by decide +kernel
theorem d_M_image_0 : decode prog_14_method_97_code 0 = .ok (.aload_n 0, 1) := by decide +kernel
theorem d_M_image_1 : decode prog_14_method_97_code 1 = .ok (.getfield 7, 3) := by decide +kernel
theorem d_M_image_4 : decode prog_14_method_97_code 4 = .ok (.aload_n 0, 1) := by decide +kernel
theorem d_M_image_5 : decode prog_14_method_97_code 5 = .ok (.getfield 16, 3) := by decide +kernel
theorem d_M_image_8 : decode prog_14_method_97_code 8 = .ok (.aload_n 0, 1) := by decide +kernel
theorem d_M_image_9 : decode prog_14_method_97_code 9 = .ok (.getfield 13, 3) := by decide +kernel
theorem d_M_image_12 : decode prog_14_method_97_code 12 = .ok (.aload_n 0, 1) := by decide +kernel
theorem d_M_image_13 : decode prog_14_method_97_code 13 = .ok (.getfield 20, 3) := by decide +kernel
theorem d_M_image_16 : decode prog_14_method_97_code 16 = .ok (.invokestatic 64, 3) := by decide +kernel
theorem d_M_image_19 : decode prog_14_method_97_code 19 = .ok (.aload_n 0, 1) := by decide +kernel
theorem d_M_image_20 : decode prog_14_method_97_code 20 = .ok (.getfield 7, 3) := by decide +kernel
theorem d_M_image_23 : decode prog_14_method_97_code 23 = .ok (.iconst 2, 1) := by decide +kernel
theorem d_M_image_24 : decode prog_14_method_97_code 24 = .ok (.iaload, 1) := by decide +kernel
theorem d_M_image_25 : decode prog_14_method_97_code 25 = .ok (.ireturn, 1) := by decide +kernel
theorem d_M_back_0 : decode prog_14_method_98_code 0 = .ok (.aload_n 0, 1) := by decide +kernel
theorem d_M_back_1 : decode prog_14_method_98_code 1 = .ok (.getfield 13, 3) := by decide +kernel
theorem d_M_back_4 : decode prog_14_method_98_code 4 = .ok (.aload_n 0, 1) := by decide +kernel
theorem d_M_back_5 : decode prog_14_method_98_code 5 = .ok (.getfield 20, 3) := by decide +kernel
theorem d_M_back_8 : decode prog_14_method_98_code 8 = .ok (.aload_n 0, 1) := by decide +kernel
theorem d_M_back_9 : decode prog_14_method_98_code 9 = .ok (.getfield 7, 3) := by decide +kernel
theorem d_M_back_12 : decode prog_14_method_98_code 12 = .ok (.aload_n 0, 1) := by decide +kernel
theorem d_M_back_13 : decode prog_14_method_98_code 13 = .ok (.getfield 16, 3) := by decide +kernel
theorem d_M_back_16 : decode prog_14_method_98_code 16 = .ok (.invokestatic 64, 3) := by decide +kernel
theorem d_M_back_19 : decode prog_14_method_98_code 19 = .ok (.aload_n 0, 1) := by decide +kernel
theorem d_M_back_20 : decode prog_14_method_98_code 20 = .ok (.getfield 7, 3) := by decide +kernel
theorem d_M_back_23 : decode prog_14_method_98_code 23 = .ok (.iconst 2, 1) := by decide +kernel
theorem d_M_back_24 : decode prog_14_method_98_code 24 = .ok (.iaload, 1) := by decide +kernel
theorem d_M_back_25 : decode prog_14_method_98_code 25 = .ok (.ireturn, 1) := by decide +kernel
theorem d_M_about_0 : decode prog_14_method_99_code 0 = .ok (.iload_n 1, 1) := by decide +kernel
theorem d_M_about_1 : decode prog_14_method_99_code 1 = .ok (.bipush 10, 2) := by decide +kernel
theorem d_M_about_3 : decode prog_14_method_99_code 3 = .ok (.bipush 13, 2) := by decide +kernel
theorem d_M_about_5 : decode prog_14_method_99_code 5 = .ok (.invokestatic 68, 3) := by decide +kernel
theorem d_M_about_8 : decode prog_14_method_99_code 8 = .ok (.ifCond .eq 16, 3) := by decide +kernel
theorem d_M_about_11 : decode prog_14_method_99_code 11 = .ok (.aload_n 0, 1) := by decide +kernel
theorem d_M_about_12 : decode prog_14_method_99_code 12 = .ok (.getfield 7, 3) := by decide +kernel
theorem d_M_about_15 : decode prog_14_method_99_code 15 = .ok (.bipush 8, 2) := by decide +kernel
theorem d_M_about_17 : decode prog_14_method_99_code 17 = .ok (.iload_n 1, 1) := by decide +kernel
theorem d_M_about_18 : decode prog_14_method_99_code 18 = .ok (.iadd, 1) := by decide +kernel
theorem d_M_about_19 : decode prog_14_method_99_code 19 = .ok (.bipush 10, 2) := by decide +kernel
theorem d_M_about_21 : decode prog_14_method_99_code 21 = .ok (.isub, 1) := by decide +kernel
theorem d_M_about_22 : decode prog_14_method_99_code 22 = .ok (.iaload, 1) := by decide +kernel
theorem d_M_about_23 : decode prog_14_method_99_code 23 = .ok (.ireturn, 1) := by decide +kernel
theorem d_M_about_24 : decode prog_14_method_99_code 24 = .ok (.iload_n 1, 1) := by decide +kernel
theorem d_M_about_25 : decode prog_14_method_99_code 25 = .ok (.iconst 0, 1) := by decide +kernel
theorem d_M_about_26 : decode prog_14_method_99_code 26 = .ok (.bipush 7, 2) := by decide +kernel
theorem d_M_about_28 : decode prog_14_method_99_code 28 = .ok (.invokestatic 68, 3) := by decide +kernel
theorem d_M_about_31 : decode prog_14_method_99_code 31 = .ok (.ifCond .eq 12, 3) := by decide +kernel
theorem d_M_about_34 : decode prog_14_method_99_code 34 = .ok (.aload_n 0, 1) := by decide +kernel
theorem d_M_about_35 : decode prog_14_method_99_code 35 = .ok (.getfield 7, 3) := by decide +kernel
theorem d_M_about_38 : decode prog_14_method_99_code 38 = .ok (.iload_n 1, 1) := by decide +kernel
theorem d_M_about_39 : decode prog_14_method_99_code 39 = .ok (.iaload, 1) := by decide +kernel
theorem d_M_about_40 : decode prog_14_method_99_code 40 = .ok (.goto 18, 3) := by decide +kernel
theorem d_M_about_43 : decode prog_14_method_99_code 43 = .ok (.iload_n 1, 1) := by decide +kernel
theorem d_M_about_44 : decode prog_14_method_99_code 44 = .ok (.bipush 8, 2) := by decide +kernel
theorem d_M_about_46 : decode prog_14_method_99_code 46 = .ok (.if_icmp .ne 10, 3) := by decide +kernel
theorem d_M_about_49 : decode prog_14_method_99_code 49 = .ok (.aload_n 0, 1) := by decide +kernel
theorem d_M_about_50 : decode prog_14_method_99_code 50 = .ok (.getfield 76, 3) := by decide +kernel
theorem d_M_about_53 : decode prog_14_method_99_code 53 = .ok (.goto 5, 3) := by decide +kernel
theorem d_M_about_56 : decode prog_14_method_99_code 56 = .ok (.bipush (-2), 2) := by decide +kernel
theorem d_M_about_58 : decode prog_14_method_99_code 58 = .ok (.ireturn, 1) := by decide +kernel
