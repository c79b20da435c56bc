/-! decode rows (by program: wip/whole/facts.py) -/
theorem d_A_think_0 : decode prog_1_method_2_code 0 = .ok (.iload_n 1, 1) := by decide +kernel
theorem d_A_think_1 : decode prog_1_method_2_code 1 = .ok (.invokestatic 84, 3) := by decide +kernel
theorem d_A_think_4 : decode prog_1_method_2_code 4 = .ok (.ifCond .eq 25, 3) := by decide +kernel
theorem d_A_think_7 : decode prog_1_method_2_code 7 = .ok (.iload_n 2, 1) := by decide +kernel
theorem d_A_think_8 : decode prog_1_method_2_code 8 = .ok (.invokestatic 84, 3) := by decide +kernel
theorem d_A_think_11 : decode prog_1_method_2_code 11 = .ok (.ifCond .eq 18, 3) := by decide +kernel
theorem d_A_think_14 : decode prog_1_method_2_code 14 = .ok (.iload_n 3, 1) := by decide +kernel
theorem d_A_think_15 : decode prog_1_method_2_code 15 = .ok (.invokestatic 84, 3) := by decide +kernel
theorem d_A_think_18 : decode prog_1_method_2_code 18 = .ok (.ifCond .eq 11, 3) := by decide +kernel
theorem d_A_think_21 : decode prog_1_method_2_code 21 = .ok (.iload 4, 2) := by decide +kernel
theorem d_A_think_23 : decode prog_1_method_2_code 23 = .ok (.invokestatic 84, 3) := by decide +kernel
theorem d_A_think_26 : decode prog_1_method_2_code 26 = .ok (.ifCond .ne 5, 3) := by decide +kernel
theorem d_A_think_29 : decode prog_1_method_2_code 29 = .ok (.iconst 0, 1) := by decide +kernel
theorem d_A_think_30 : decode prog_1_method_2_code 30 = .ok (.ireturn, 1) := by decide +kernel
theorem d_A_think_31 : decode prog_1_method_2_code 31 = .ok (.aload_n 0, 1) := by decide +kernel
theorem d_A_think_32 : decode prog_1_method_2_code 32 = .ok (.getfield 35, 3) := by decide +kernel
theorem d_A_think_35 : decode prog_1_method_2_code 35 = .ok (.getfield 88, 3) := by decide +kernel
theorem d_A_think_38 : decode prog_1_method_2_code 38 = .ok (.iconst 0, 1) := by decide +kernel
theorem d_A_think_39 : decode prog_1_method_2_code 39 = .ok (.iload_n 1, 1) := by decide +kernel
theorem d_A_think_40 : decode prog_1_method_2_code 40 = .ok (.iastore, 1) := by decide +kernel
theorem d_A_think_41 : decode prog_1_method_2_code 41 = .ok (.aload_n 0, 1) := by decide +kernel
theorem d_A_think_42 : decode prog_1_method_2_code 42 = .ok (.getfield 35, 3) := by decide +kernel
theorem d_A_think_45 : decode prog_1_method_2_code 45 = .ok (.getfield 88, 3) := by decide +kernel
theorem d_A_think_48 : decode prog_1_method_2_code 48 = .ok (.iconst 1, 1) := by decide +kernel
theorem d_A_think_49 : decode prog_1_method_2_code 49 = .ok (.iload_n 2, 1) := by decide +kernel
theorem d_A_think_50 : decode prog_1_method_2_code 50 = .ok (.iastore, 1) := by decide +kernel
theorem d_A_think_51 : decode prog_1_method_2_code 51 = .ok (.aload_n 0, 1) := by decide +kernel
theorem d_A_think_52 : decode prog_1_method_2_code 52 = .ok (.getfield 35, 3) := by decide +kernel
theorem d_A_think_55 : decode prog_1_method_2_code 55 = .ok (.getfield 88, 3) := by decide +kernel
theorem d_A_think_58 : decode prog_1_method_2_code 58 = .ok (.iconst 2, 1) := by decide +kernel
theorem d_A_think_59 : decode prog_1_method_2_code 59 = .ok (.iload_n 3, 1) := by decide +kernel
theorem d_A_think_60 : decode prog_1_method_2_code 60 = .ok (.iastore, 1) := by decide +kernel
theorem d_A_think_61 : decode prog_1_method_2_code 61 = .ok (.aload_n 0, 1) := by decide +kernel
theorem d_A_think_62 : decode prog_1_method_2_code 62 = .ok (.getfield 35, 3) := by decide +kernel
theorem d_A_think_65 : decode prog_1_method_2_code 65 = .ok (.getfield 88, 3) := by decide +kernel
theorem d_A_think_68 : decode prog_1_method_2_code 68 = .ok (.iconst 3, 1) := by decide +kernel
theorem d_A_think_69 : decode prog_1_method_2_code 69 = .ok (.iload 4, 2) := by decide +kernel
theorem d_A_think_71 : decode prog_1_method_2_code 71 = .ok (.iastore, 1) := by decide +kernel
theorem d_A_think_72 : decode prog_1_method_2_code 72 = .ok (.iconst 1, 1) := by decide +kernel
theorem d_A_think_73 : decode prog_1_method_2_code 73 = .ok (.ireturn, 1) := by decide +kernel
theorem d_A_isNumber_0 : decode prog_1_method_40_code 0 = .ok (.iload_n 0, 1) := by decide +kernel
theorem d_A_isNumber_1 : decode prog_1_method_40_code 1 = .ok (.ifCond .lt 14, 3) := by decide +kernel
theorem d_A_isNumber_4 : decode prog_1_method_40_code 4 = .ok (.iload_n 0, 1) := by decide +kernel
theorem d_A_isNumber_5 : decode prog_1_method_40_code 5 = .ok (.sipush 9999, 3) := by decide +kernel
theorem d_A_isNumber_8 : decode prog_1_method_40_code 8 = .ok (.if_icmp .gt 7, 3) := by decide +kernel
theorem d_A_isNumber_11 : decode prog_1_method_40_code 11 = .ok (.iconst 1, 1) := by decide +kernel
theorem d_A_isNumber_12 : decode prog_1_method_40_code 12 = .ok (.goto 4, 3) := by decide +kernel
theorem d_A_isNumber_15 : decode prog_1_method_40_code 15 = .ok (.iconst 0, 1) := by decide +kernel
theorem d_A_isNumber_16 : decode prog_1_method_40_code 16 = .ok (.ireturn, 1) := by decide +kernel
theorem d_A_feed_0 : decode prog_1_method_3_code 0 = .ok (.aload_n 0, 1) := by decide +kernel
theorem d_A_feed_1 : decode prog_1_method_3_code 1 = .ok (.getfield 10, 3) := by decide +kernel
theorem d_A_feed_4 : decode prog_1_method_3_code 4 = .ok (.invokevirtual 91, 3) := by decide +kernel
theorem d_A_feed_7 : decode prog_1_method_3_code 7 = .ok (.ifCond .ne 5, 3) := by decide +kernel
theorem d_A_feed_10 : decode prog_1_method_3_code 10 = .ok (.iconst (-1), 1) := by decide +kernel
theorem d_A_feed_11 : decode prog_1_method_3_code 11 = .ok (.ireturn, 1) := by decide +kernel
theorem d_A_feed_12 : decode prog_1_method_3_code 12 = .ok (.aload_n 0, 1) := by decide +kernel
theorem d_A_feed_13 : decode prog_1_method_3_code 13 = .ok (.getfield 10, 3) := by decide +kernel
theorem d_A_feed_16 : decode prog_1_method_3_code 16 = .ok (.iload_n 1, 1) := by decide +kernel
theorem d_A_feed_17 : decode prog_1_method_3_code 17 = .ok (.invokevirtual 95, 3) := by decide +kernel
theorem d_A_feed_20 : decode prog_1_method_3_code 20 = .ok (.aload_n 0, 1) := by decide +kernel
theorem d_A_feed_21 : decode prog_1_method_3_code 21 = .ok (.getfield 10, 3) := by decide +kernel
theorem d_A_feed_24 : decode prog_1_method_3_code 24 = .ok (.iload_n 2, 1) := by decide +kernel
theorem d_A_feed_25 : decode prog_1_method_3_code 25 = .ok (.invokevirtual 95, 3) := by decide +kernel
theorem d_A_feed_28 : decode prog_1_method_3_code 28 = .ok (.aload_n 0, 1) := by decide +kernel
theorem d_A_feed_29 : decode prog_1_method_3_code 29 = .ok (.getfield 10, 3) := by decide +kernel
theorem d_A_feed_32 : decode prog_1_method_3_code 32 = .ok (.iload_n 3, 1) := by decide +kernel
theorem d_A_feed_33 : decode prog_1_method_3_code 33 = .ok (.invokevirtual 95, 3) := by decide +kernel
theorem d_A_feed_36 : decode prog_1_method_3_code 36 = .ok (.aload_n 0, 1) := by decide +kernel
theorem d_A_feed_37 : decode prog_1_method_3_code 37 = .ok (.getfield 10, 3) := by decide +kernel
theorem d_A_feed_40 : decode prog_1_method_3_code 40 = .ok (.iload 4, 2) := by decide +kernel
theorem d_A_feed_42 : decode prog_1_method_3_code 42 = .ok (.invokevirtual 95, 3) := by decide +kernel
theorem d_A_feed_45 : decode prog_1_method_3_code 45 = .ok (.aload_n 0, 1) := by decide +kernel
theorem d_A_feed_46 : decode prog_1_method_3_code 46 = .ok (.getfield 10, 3) := by decide +kernel
theorem d_A_feed_49 : decode prog_1_method_3_code 49 = .ok (.iload 5, 2) := by decide +kernel
theorem d_A_feed_51 : decode prog_1_method_3_code 51 = .ok (.invokevirtual 95, 3) := by decide +kernel
theorem d_A_feed_54 : decode prog_1_method_3_code 54 = .ok (.aload_n 0, 1) := by decide +kernel
theorem d_A_feed_55 : decode prog_1_method_3_code 55 = .ok (.getfield 10, 3) := by decide +kernel
theorem d_A_feed_58 : decode prog_1_method_3_code 58 = .ok (.getfield 99, 3) := by decide +kernel
theorem d_A_feed_61 : decode prog_1_method_3_code 61 = .ok (.ireturn, 1) := by decide +kernel
theorem d_Tape_hasRoom_0 : decode prog_10_method_2_code 0 = .ok (.aload_n 0, 1) := by decide +kernel
theorem d_Tape_hasRoom_1 : decode prog_10_method_2_code 1 = .ok (.getfield 15, 3) := by decide +kernel
theorem d_Tape_hasRoom_4 : decode prog_10_method_2_code 4 = .ok (.bipush 20, 2) := by decide +kernel
theorem d_Tape_hasRoom_6 : decode prog_10_method_2_code 6 = .ok (.iadd, 1) := by decide +kernel
theorem d_Tape_hasRoom_7 : decode prog_10_method_2_code 7 = .ok (.sipush 300, 3) := by decide +kernel
theorem d_Tape_hasRoom_10 : decode prog_10_method_2_code 10 = .ok (.if_icmp .gt 7, 3) := by decide +kernel
theorem d_Tape_hasRoom_13 : decode prog_10_method_2_code 13 = .ok (.iconst 1, 1) := by decide +kernel
theorem d_Tape_hasRoom_14 : decode prog_10_method_2_code 14 = .ok (.goto 4, 3) := by decide +kernel
theorem d_Tape_hasRoom_17 : decode prog_10_method_2_code 17 = .ok (.iconst 0, 1) := by decide +kernel
theorem d_Tape_hasRoom_18 : decode prog_10_method_2_code 18 = .ok (.ireturn, 1) := by decide +kernel
theorem d_Tape_append_0 : decode prog_10_method_3_code 0 = .ok (.bipush 24, 2) := by decide +kernel
theorem d_Tape_append_2 : decode prog_10_method_3_code 2 = .ok (.istore_n 2, 1) := by decide +kernel
theorem d_Tape_append_3 : decode prog_10_method_3_code 3 = .ok (.iload_n 2, 1) := by decide +kernel
theorem d_Tape_append_4 : decode prog_10_method_3_code 4 = .ok (.ifCond .lt 42, 3) := by decide +kernel
theorem d_Tape_append_7 : decode prog_10_method_3_code 7 = .ok (.aload_n 0, 1) := by decide +kernel
theorem d_Tape_append_8 : decode prog_10_method_3_code 8 = .ok (.getfield 15, 3) := by decide +kernel
theorem d_Tape_append_11 : decode prog_10_method_3_code 11 = .ok (.sipush 300, 3) := by decide +kernel
theorem d_Tape_append_14 : decode prog_10_method_3_code 14 = .ok (.if_icmp .ge 32, 3) := by decide +kernel
theorem d_Tape_append_17 : decode prog_10_method_3_code 17 = .ok (.aload_n 0, 1) := by decide +kernel
theorem d_Tape_append_18 : decode prog_10_method_3_code 18 = .ok (.getfield 11, 3) := by decide +kernel
theorem d_Tape_append_21 : decode prog_10_method_3_code 21 = .ok (.aload_n 0, 1) := by decide +kernel
theorem d_Tape_append_22 : decode prog_10_method_3_code 22 = .ok (.getfield 15, 3) := by decide +kernel
theorem d_Tape_append_25 : decode prog_10_method_3_code 25 = .ok (.iload_n 1, 1) := by decide +kernel
theorem d_Tape_append_26 : decode prog_10_method_3_code 26 = .ok (.iload_n 2, 1) := by decide +kernel
theorem d_Tape_append_27 : decode prog_10_method_3_code 27 = .ok (.ishr, 1) := by decide +kernel
theorem d_Tape_append_28 : decode prog_10_method_3_code 28 = .ok (.i2b, 1) := by decide +kernel
theorem d_Tape_append_29 : decode prog_10_method_3_code 29 = .ok (.bastore, 1) := by decide +kernel
theorem d_Tape_append_30 : decode prog_10_method_3_code 30 = .ok (.aload_n 0, 1) := by decide +kernel
theorem d_Tape_append_31 : decode prog_10_method_3_code 31 = .ok (.dup, 1) := by decide +kernel
theorem d_Tape_append_32 : decode prog_10_method_3_code 32 = .ok (.getfield 15, 3) := by decide +kernel
theorem d_Tape_append_35 : decode prog_10_method_3_code 35 = .ok (.iconst 1, 1) := by decide +kernel
theorem d_Tape_append_36 : decode prog_10_method_3_code 36 = .ok (.iadd, 1) := by decide +kernel
theorem d_Tape_append_37 : decode prog_10_method_3_code 37 = .ok (.putfield 15, 3) := by decide +kernel
theorem d_Tape_append_40 : decode prog_10_method_3_code 40 = .ok (.iinc 2 (-8), 3) := by decide +kernel
theorem d_Tape_append_43 : decode prog_10_method_3_code 43 = .ok (.goto (-40), 3) := by decide +kernel
theorem d_Tape_append_46 : decode prog_10_method_3_code 46 = .ok (.return_, 1) := by decide +kernel
theorem d_A_end_0 : decode prog_1_method_4_code 0 = .ok (.iload_n 1, 1) := by decide +kernel
theorem d_A_end_1 : decode prog_1_method_4_code 1 = .ok (.ifCond .lt 14, 3) := by decide +kernel
theorem d_A_end_4 : decode prog_1_method_4_code 4 = .ok (.iload_n 1, 1) := by decide +kernel
theorem d_A_end_5 : decode prog_1_method_4_code 5 = .ok (.aload_n 0, 1) := by decide +kernel
theorem d_A_end_6 : decode prog_1_method_4_code 6 = .ok (.getfield 10, 3) := by decide +kernel
theorem d_A_end_9 : decode prog_1_method_4_code 9 = .ok (.getfield 99, 3) := by decide +kernel
theorem d_A_end_12 : decode prog_1_method_4_code 12 = .ok (.if_icmp .le 5, 3) := by decide +kernel
theorem d_A_end_15 : decode prog_1_method_4_code 15 = .ok (.iconst (-1), 1) := by decide +kernel
theorem d_A_end_16 : decode prog_1_method_4_code 16 = .ok (.ireturn, 1) := by decide +kernel
theorem d_A_end_17 : decode prog_1_method_4_code 17 = .ok (.aload_n 0, 1) := by decide +kernel
theorem d_A_end_18 : decode prog_1_method_4_code 18 = .ok (.getfield 10, 3) := by decide +kernel
theorem d_A_end_21 : decode prog_1_method_4_code 21 = .ok (.iload_n 1, 1) := by decide +kernel
theorem d_A_end_22 : decode prog_1_method_4_code 22 = .ok (.putfield 99, 3) := by decide +kernel
theorem d_A_end_25 : decode prog_1_method_4_code 25 = .ok (.iload_n 1, 1) := by decide +kernel
theorem d_A_end_26 : decode prog_1_method_4_code 26 = .ok (.ireturn, 1) := by decide +kernel
theorem d_A_table_0 : decode prog_1_method_5_code 0 = .ok (.aload_n 0, 1) := by decide +kernel
theorem d_A_table_1 : decode prog_1_method_5_code 1 = .ok (.getfield 35, 3) := by decide +kernel
theorem d_A_table_4 : decode prog_1_method_5_code 4 = .ok (.getfield 103, 3) := by decide +kernel
theorem d_A_table_7 : decode prog_1_method_5_code 7 = .ok (.istore_n 1, 1) := by decide +kernel
theorem d_A_table_8 : decode prog_1_method_5_code 8 = .ok (.iload_n 1, 1) := by decide +kernel
theorem d_A_table_9 : decode prog_1_method_5_code 9 = .ok (.iconst 4, 1) := by decide +kernel
theorem d_A_table_10 : decode prog_1_method_5_code 10 = .ok (.if_icmp .lt 5, 3) := by decide +kernel
theorem d_A_table_13 : decode prog_1_method_5_code 13 = .ok (.iconst (-1), 1) := by decide +kernel
theorem d_A_table_14 : decode prog_1_method_5_code 14 = .ok (.ireturn, 1) := by decide +kernel
theorem d_A_table_15 : decode prog_1_method_5_code 15 = .ok (.aload_n 0, 1) := by decide +kernel
theorem d_A_table_16 : decode prog_1_method_5_code 16 = .ok (.getfield 21, 3) := by decide +kernel
theorem d_A_table_19 : decode prog_1_method_5_code 19 = .ok (.aload_n 0, 1) := by decide +kernel
theorem d_A_table_20 : decode prog_1_method_5_code 20 = .ok (.getfield 27, 3) := by decide +kernel
theorem d_A_table_23 : decode prog_1_method_5_code 23 = .ok (.iload_n 1, 1) := by decide +kernel
theorem d_A_table_24 : decode prog_1_method_5_code 24 = .ok (.aaload, 1) := by decide +kernel
theorem d_A_table_25 : decode prog_1_method_5_code 25 = .ok (.invokevirtual 105, 3) := by decide +kernel
theorem d_A_table_28 : decode prog_1_method_5_code 28 = .ok (.istore_n 2, 1) := by decide +kernel
theorem d_A_table_29 : decode prog_1_method_5_code 29 = .ok (.aload_n 0, 1) := by decide +kernel
theorem d_A_table_30 : decode prog_1_method_5_code 30 = .ok (.getfield 10, 3) := by decide +kernel
theorem d_A_table_33 : decode prog_1_method_5_code 33 = .ok (.iconst 0, 1) := by decide +kernel
theorem d_A_table_34 : decode prog_1_method_5_code 34 = .ok (.putfield 99, 3) := by decide +kernel
theorem d_A_table_37 : decode prog_1_method_5_code 37 = .ok (.iload_n 2, 1) := by decide +kernel
theorem d_A_table_38 : decode prog_1_method_5_code 38 = .ok (.ifCond .ne 5, 3) := by decide +kernel
theorem d_A_table_41 : decode prog_1_method_5_code 41 = .ok (.iconst (-1), 1) := by decide +kernel
theorem d_A_table_42 : decode prog_1_method_5_code 42 = .ok (.ireturn, 1) := by decide +kernel
theorem d_A_table_43 : decode prog_1_method_5_code 43 = .ok (.aload_n 0, 1) := by decide +kernel
theorem d_A_table_44 : decode prog_1_method_5_code 44 = .ok (.getfield 35, 3) := by decide +kernel
theorem d_A_table_47 : decode prog_1_method_5_code 47 = .ok (.iload_n 1, 1) := by decide +kernel
theorem d_A_table_48 : decode prog_1_method_5_code 48 = .ok (.iconst 1, 1) := by decide +kernel
theorem d_A_table_49 : decode prog_1_method_5_code 49 = .ok (.iadd, 1) := by decide +kernel
theorem d_A_table_50 : decode prog_1_method_5_code 50 = .ok (.putfield 103, 3) := by decide +kernel
theorem d_A_table_53 : decode prog_1_method_5_code 53 = .ok (.iload_n 1, 1) := by decide +kernel
theorem d_A_table_54 : decode prog_1_method_5_code 54 = .ok (.ireturn, 1) := by decide +kernel
theorem d_Reader_read_0 : decode prog_5_method_2_code 0 = .ok (.aload_n 0, 1) := by decide +kernel
theorem d_Reader_read_1 : decode prog_5_method_2_code 1 = .ok (.iconst 0, 1) := by decide +kernel
theorem d_Reader_read_2 : decode prog_5_method_2_code 2 = .ok (.putfield 9, 3) := by decide +kernel
theorem d_Reader_read_5 : decode prog_5_method_2_code 5 = .ok (.aload_n 0, 1) := by decide +kernel
theorem d_Reader_read_6 : decode prog_5_method_2_code 6 = .ok (.iconst (-1), 1) := by decide +kernel
theorem d_Reader_read_7 : decode prog_5_method_2_code 7 = .ok (.putfield 15, 3) := by decide +kernel
theorem d_Reader_read_10 : decode prog_5_method_2_code 10 = .ok (.aload_n 0, 1) := by decide +kernel
theorem d_Reader_read_11 : decode prog_5_method_2_code 11 = .ok (.iconst 0, 1) := by decide +kernel
theorem d_Reader_read_12 : decode prog_5_method_2_code 12 = .ok (.putfield 22, 3) := by decide +kernel
theorem d_Reader_read_15 : decode prog_5_method_2_code 15 = .ok (.aload_n 1, 1) := by decide +kernel
theorem d_Reader_read_16 : decode prog_5_method_2_code 16 = .ok (.invokevirtual 25, 3) := by decide +kernel
theorem d_Reader_read_19 : decode prog_5_method_2_code 19 = .ok (.iconst 0, 1) := by decide +kernel
theorem d_Reader_read_20 : decode prog_5_method_2_code 20 = .ok (.istore_n 2, 1) := by decide +kernel
theorem d_Reader_read_21 : decode prog_5_method_2_code 21 = .ok (.iload_n 2, 1) := by decide +kernel
theorem d_Reader_read_22 : decode prog_5_method_2_code 22 = .ok (.bipush 24, 2) := by decide +kernel
theorem d_Reader_read_24 : decode prog_5_method_2_code 24 = .ok (.if_icmp .gt 33, 3) := by decide +kernel
theorem d_Reader_read_27 : decode prog_5_method_2_code 27 = .ok (.aload_n 0, 1) := by decide +kernel
theorem d_Reader_read_28 : decode prog_5_method_2_code 28 = .ok (.invokevirtual 30, 3) := by decide +kernel
theorem d_Reader_read_31 : decode prog_5_method_2_code 31 = .ok (.aload_n 0, 1) := by decide +kernel
theorem d_Reader_read_32 : decode prog_5_method_2_code 32 = .ok (.getfield 33, 3) := by decide +kernel
theorem d_Reader_read_35 : decode prog_5_method_2_code 35 = .ok (.ifCond .ne 5, 3) := by decide +kernel
theorem d_Reader_read_38 : decode prog_5_method_2_code 38 = .ok (.iconst 1, 1) := by decide +kernel
theorem d_Reader_read_39 : decode prog_5_method_2_code 39 = .ok (.ireturn, 1) := by decide +kernel
theorem d_Reader_read_40 : decode prog_5_method_2_code 40 = .ok (.aload_n 0, 1) := by decide +kernel
theorem d_Reader_read_41 : decode prog_5_method_2_code 41 = .ok (.aload_n 1, 1) := by decide +kernel
theorem d_Reader_read_42 : decode prog_5_method_2_code 42 = .ok (.iload_n 2, 1) := by decide +kernel
theorem d_Reader_read_43 : decode prog_5_method_2_code 43 = .ok (.invokevirtual 36, 3) := by decide +kernel
theorem d_Reader_read_46 : decode prog_5_method_2_code 46 = .ok (.ifCond .ne 5, 3) := by decide +kernel
theorem d_Reader_read_49 : decode prog_5_method_2_code 49 = .ok (.iconst 0, 1) := by decide +kernel
theorem d_Reader_read_50 : decode prog_5_method_2_code 50 = .ok (.ireturn, 1) := by decide +kernel
theorem d_Reader_read_51 : decode prog_5_method_2_code 51 = .ok (.iinc 2 1, 3) := by decide +kernel
theorem d_Reader_read_54 : decode prog_5_method_2_code 54 = .ok (.goto (-33), 3) := by decide +kernel
theorem d_Reader_read_57 : decode prog_5_method_2_code 57 = .ok (.iconst 0, 1) := by decide +kernel
theorem d_Reader_read_58 : decode prog_5_method_2_code 58 = .ok (.ireturn, 1) := by decide +kernel
theorem d_Table_clear_0 : decode prog_8_method_2_code 0 = .ok (.aload_n 0, 1) := by decide +kernel
theorem d_Table_clear_1 : decode prog_8_method_2_code 1 = .ok (.getfield 14, 3) := by decide +kernel
theorem d_Table_clear_4 : decode prog_8_method_2_code 4 = .ok (.iconst 0, 1) := by decide +kernel
theorem d_Table_clear_5 : decode prog_8_method_2_code 5 = .ok (.putfield 27, 3) := by decide +kernel
theorem d_Table_clear_8 : decode prog_8_method_2_code 8 = .ok (.aload_n 0, 1) := by decide +kernel
theorem d_Table_clear_9 : decode prog_8_method_2_code 9 = .ok (.getfield 20, 3) := by decide +kernel
theorem d_Table_clear_12 : decode prog_8_method_2_code 12 = .ok (.iconst (-1), 1) := by decide +kernel
theorem d_Table_clear_13 : decode prog_8_method_2_code 13 = .ok (.invokestatic 31, 3) := by decide +kernel
theorem d_Table_clear_16 : decode prog_8_method_2_code 16 = .ok (.aload_n 0, 1) := by decide +kernel
theorem d_Table_clear_17 : decode prog_8_method_2_code 17 = .ok (.getfield 24, 3) := by decide +kernel
theorem d_Table_clear_20 : decode prog_8_method_2_code 20 = .ok (.iconst (-1), 1) := by decide +kernel
theorem d_Table_clear_21 : decode prog_8_method_2_code 21 = .ok (.invokestatic 31, 3) := by decide +kernel
theorem d_Table_clear_24 : decode prog_8_method_2_code 24 = .ok (.return_, 1) := by decide +kernel
theorem d_JArr_fillI_0 : decode prog_21_method_103_code 0 = .ok (.iconst 0, 1) := by decide +kernel
theorem d_JArr_fillI_1 : decode prog_21_method_103_code 1 = .ok (.istore_n 2, 1) := by decide +kernel
theorem d_JArr_fillI_2 : decode prog_21_method_103_code 2 = .ok (.aload_n 0, 1) := by decide +kernel
theorem d_JArr_fillI_3 : decode prog_21_method_103_code 3 = .ok (.arraylength, 1) := by decide +kernel
theorem d_JArr_fillI_4 : decode prog_21_method_103_code 4 = .ok (.istore_n 3, 1) := by decide +kernel
theorem d_JArr_fillI_5 : decode prog_21_method_103_code 5 = .ok (.iload_n 2, 1) := by decide +kernel
theorem d_JArr_fillI_6 : decode prog_21_method_103_code 6 = .ok (.iload_n 3, 1) := by decide +kernel
theorem d_JArr_fillI_7 : decode prog_21_method_103_code 7 = .ok (.if_icmp .ge 13, 3) := by decide +kernel
theorem d_JArr_fillI_10 : decode prog_21_method_103_code 10 = .ok (.aload_n 0, 1) := by decide +kernel
theorem d_JArr_fillI_11 : decode prog_21_method_103_code 11 = .ok (.iload_n 2, 1) := by decide +kernel
theorem d_JArr_fillI_12 : decode prog_21_method_103_code 12 = .ok (.iload_n 1, 1) := by decide +kernel
theorem d_JArr_fillI_13 : decode prog_21_method_103_code 13 = .ok (.iastore, 1) := by decide +kernel
theorem d_JArr_fillI_14 : decode prog_21_method_103_code 14 = .ok (.iinc 2 1, 3) := by decide +kernel
theorem d_JArr_fillI_17 : decode prog_21_method_103_code 17 = .ok (.goto (-12), 3) := by decide +kernel
theorem d_JArr_fillI_20 : decode prog_21_method_103_code 20 = .ok (.return_, 1) := by decide +kernel
theorem d_Reader_advance_0 : decode prog_5_method_11_code 0 = .ok (.aload_n 0, 1) := by decide +kernel
theorem d_Reader_advance_1 : decode prog_5_method_11_code 1 = .ok (.aload_n 0, 1) := by decide +kernel
theorem d_Reader_advance_2 : decode prog_5_method_11_code 2 = .ok (.getfield 22, 3) := by decide +kernel
theorem d_Reader_advance_5 : decode prog_5_method_11_code 5 = .ok (.putfield 105, 3) := by decide +kernel
theorem d_Reader_advance_8 : decode prog_5_method_11_code 8 = .ok (.aload_n 0, 1) := by decide +kernel
theorem d_Reader_advance_9 : decode prog_5_method_11_code 9 = .ok (.getfield 105, 3) := by decide +kernel
theorem d_Reader_advance_12 : decode prog_5_method_11_code 12 = .ok (.aload_n 0, 1) := by decide +kernel
theorem d_Reader_advance_13 : decode prog_5_method_11_code 13 = .ok (.getfield 18, 3) := by decide +kernel
theorem d_Reader_advance_16 : decode prog_5_method_11_code 16 = .ok (.getfield 108, 3) := by decide +kernel
theorem d_Reader_advance_19 : decode prog_5_method_11_code 19 = .ok (.if_icmp .ge 35, 3) := by decide +kernel
theorem d_Reader_advance_22 : decode prog_5_method_11_code 22 = .ok (.aload_n 0, 1) := by decide +kernel
theorem d_Reader_advance_23 : decode prog_5_method_11_code 23 = .ok (.getfield 18, 3) := by decide +kernel
theorem d_Reader_advance_26 : decode prog_5_method_11_code 26 = .ok (.getfield 113, 3) := by decide +kernel
theorem d_Reader_advance_29 : decode prog_5_method_11_code 29 = .ok (.aload_n 0, 1) := by decide +kernel
theorem d_Reader_advance_30 : decode prog_5_method_11_code 30 = .ok (.getfield 105, 3) := by decide +kernel
theorem d_Reader_advance_33 : decode prog_5_method_11_code 33 = .ok (.baload, 1) := by decide +kernel
theorem d_Reader_advance_34 : decode prog_5_method_11_code 34 = .ok (.invokestatic 117, 3) := by decide +kernel
theorem d_Reader_advance_37 : decode prog_5_method_11_code 37 = .ok (.iconst 4, 1) := by decide +kernel
theorem d_Reader_advance_38 : decode prog_5_method_11_code 38 = .ok (.if_icmp .ne 16, 3) := by decide +kernel
theorem d_Reader_advance_41 : decode prog_5_method_11_code 41 = .ok (.aload_n 0, 1) := by decide +kernel
theorem d_Reader_advance_42 : decode prog_5_method_11_code 42 = .ok (.dup, 1) := by decide +kernel
theorem d_Reader_advance_43 : decode prog_5_method_11_code 43 = .ok (.getfield 105, 3) := by decide +kernel
theorem d_Reader_advance_46 : decode prog_5_method_11_code 46 = .ok (.iconst 1, 1) := by decide +kernel
theorem d_Reader_advance_47 : decode prog_5_method_11_code 47 = .ok (.iadd, 1) := by decide +kernel
theorem d_Reader_advance_48 : decode prog_5_method_11_code 48 = .ok (.putfield 105, 3) := by decide +kernel
theorem d_Reader_advance_51 : decode prog_5_method_11_code 51 = .ok (.goto (-43), 3) := by decide +kernel
theorem d_Reader_advance_54 : decode prog_5_method_11_code 54 = .ok (.aload_n 0, 1) := by decide +kernel
theorem d_Reader_advance_55 : decode prog_5_method_11_code 55 = .ok (.aload_n 0, 1) := by decide +kernel
theorem d_Reader_advance_56 : decode prog_5_method_11_code 56 = .ok (.getfield 105, 3) := by decide +kernel
theorem d_Reader_advance_59 : decode prog_5_method_11_code 59 = .ok (.aload_n 0, 1) := by decide +kernel
theorem d_Reader_advance_60 : decode prog_5_method_11_code 60 = .ok (.getfield 18, 3) := by decide +kernel
theorem d_Reader_advance_63 : decode prog_5_method_11_code 63 = .ok (.getfield 108, 3) := by decide +kernel
theorem d_Reader_advance_66 : decode prog_5_method_11_code 66 = .ok (.if_icmp .ge 21, 3) := by decide +kernel
theorem d_Reader_advance_69 : decode prog_5_method_11_code 69 = .ok (.aload_n 0, 1) := by decide +kernel
theorem d_Reader_advance_70 : decode prog_5_method_11_code 70 = .ok (.getfield 18, 3) := by decide +kernel
theorem d_Reader_advance_73 : decode prog_5_method_11_code 73 = .ok (.getfield 113, 3) := by decide +kernel
theorem d_Reader_advance_76 : decode prog_5_method_11_code 76 = .ok (.aload_n 0, 1) := by decide +kernel
theorem d_Reader_advance_77 : decode prog_5_method_11_code 77 = .ok (.getfield 105, 3) := by decide +kernel
theorem d_Reader_advance_80 : decode prog_5_method_11_code 80 = .ok (.baload, 1) := by decide +kernel
theorem d_Reader_advance_81 : decode prog_5_method_11_code 81 = .ok (.invokestatic 117, 3) := by decide +kernel
theorem d_Reader_advance_84 : decode prog_5_method_11_code 84 = .ok (.goto 4, 3) := by decide +kernel
theorem d_Reader_advance_87 : decode prog_5_method_11_code 87 = .ok (.iconst 0, 1) := by decide +kernel
theorem d_Reader_advance_88 : decode prog_5_method_11_code 88 = .ok (.putfield 33, 3) := by decide +kernel
theorem d_Reader_advance_91 : decode prog_5_method_11_code 91 = .ok (.aload_n 0, 1) := by decide +kernel
theorem d_Reader_advance_92 : decode prog_5_method_11_code 92 = .ok (.aload_n 0, 1) := by decide +kernel
theorem d_Reader_advance_93 : decode prog_5_method_11_code 93 = .ok (.getfield 33, 3) := by decide +kernel
theorem d_Reader_advance_96 : decode prog_5_method_11_code 96 = .ok (.ifCond .ne 10, 3) := by decide +kernel
theorem d_Reader_advance_99 : decode prog_5_method_11_code 99 = .ok (.aload_n 0, 1) := by decide +kernel
theorem d_Reader_advance_100 : decode prog_5_method_11_code 100 = .ok (.getfield 105, 3) := by decide +kernel
theorem d_Reader_advance_103 : decode prog_5_method_11_code 103 = .ok (.goto 9, 3) := by decide +kernel
theorem d_Reader_advance_106 : decode prog_5_method_11_code 106 = .ok (.aload_n 0, 1) := by decide +kernel
theorem d_Reader_advance_107 : decode prog_5_method_11_code 107 = .ok (.getfield 105, 3) := by decide +kernel
theorem d_Reader_advance_110 : decode prog_5_method_11_code 110 = .ok (.iconst 1, 1) := by decide +kernel
theorem d_Reader_advance_111 : decode prog_5_method_11_code 111 = .ok (.iadd, 1) := by decide +kernel
theorem d_Reader_advance_112 : decode prog_5_method_11_code 112 = .ok (.putfield 22, 3) := by decide +kernel
theorem d_Reader_advance_115 : decode prog_5_method_11_code 115 = .ok (.aload_n 0, 1) := by decide +kernel
theorem d_Reader_advance_116 : decode prog_5_method_11_code 116 = .ok (.getfield 33, 3) := by decide +kernel
theorem d_Reader_advance_119 : decode prog_5_method_11_code 119 = .ok (.iconst 1, 1) := by decide +kernel
theorem d_Reader_advance_120 : decode prog_5_method_11_code 120 = .ok (.if_icmp .eq 11, 3) := by decide +kernel
theorem d_Reader_advance_123 : decode prog_5_method_11_code 123 = .ok (.aload_n 0, 1) := by decide +kernel
theorem d_Reader_advance_124 : decode prog_5_method_11_code 124 = .ok (.getfield 33, 3) := by decide +kernel
theorem d_Reader_advance_127 : decode prog_5_method_11_code 127 = .ok (.iconst 2, 1) := by decide +kernel
theorem d_Reader_advance_128 : decode prog_5_method_11_code 128 = .ok (.if_icmp .ne 7, 3) := by decide +kernel
theorem d_Reader_advance_131 : decode prog_5_method_11_code 131 = .ok (.iconst 1, 1) := by decide +kernel
theorem d_Reader_advance_132 : decode prog_5_method_11_code 132 = .ok (.goto 4, 3) := by decide +kernel
theorem d_Reader_advance_135 : decode prog_5_method_11_code 135 = .ok (.iconst 0, 1) := by decide +kernel
theorem d_Reader_advance_136 : decode prog_5_method_11_code 136 = .ok (.istore_n 1, 1) := by decide +kernel
theorem d_Reader_advance_137 : decode prog_5_method_11_code 137 = .ok (.iload_n 1, 1) := by decide +kernel
theorem d_Reader_advance_138 : decode prog_5_method_11_code 138 = .ok (.ifCond .eq 52, 3) := by decide +kernel
theorem d_Reader_advance_141 : decode prog_5_method_11_code 141 = .ok (.aload_n 0, 1) := by decide +kernel
theorem d_Reader_advance_142 : decode prog_5_method_11_code 142 = .ok (.getfield 22, 3) := by decide +kernel
theorem d_Reader_advance_145 : decode prog_5_method_11_code 145 = .ok (.aload_n 0, 1) := by decide +kernel
theorem d_Reader_advance_146 : decode prog_5_method_11_code 146 = .ok (.getfield 18, 3) := by decide +kernel
theorem d_Reader_advance_149 : decode prog_5_method_11_code 149 = .ok (.getfield 108, 3) := by decide +kernel
theorem d_Reader_advance_152 : decode prog_5_method_11_code 152 = .ok (.if_icmp .ge 38, 3) := by decide +kernel
theorem d_Reader_advance_155 : decode prog_5_method_11_code 155 = .ok (.aload_n 0, 1) := by decide +kernel
theorem d_Reader_advance_156 : decode prog_5_method_11_code 156 = .ok (.getfield 18, 3) := by decide +kernel
theorem d_Reader_advance_159 : decode prog_5_method_11_code 159 = .ok (.getfield 113, 3) := by decide +kernel
theorem d_Reader_advance_162 : decode prog_5_method_11_code 162 = .ok (.aload_n 0, 1) := by decide +kernel
theorem d_Reader_advance_163 : decode prog_5_method_11_code 163 = .ok (.getfield 22, 3) := by decide +kernel
theorem d_Reader_advance_166 : decode prog_5_method_11_code 166 = .ok (.baload, 1) := by decide +kernel
theorem d_Reader_advance_167 : decode prog_5_method_11_code 167 = .ok (.invokestatic 117, 3) := by decide +kernel
theorem d_Reader_advance_170 : decode prog_5_method_11_code 170 = .ok (.aload_n 0, 1) := by decide +kernel
theorem d_Reader_advance_171 : decode prog_5_method_11_code 171 = .ok (.getfield 33, 3) := by decide +kernel
theorem d_Reader_advance_174 : decode prog_5_method_11_code 174 = .ok (.if_icmp .ne 16, 3) := by decide +kernel
theorem d_Reader_advance_177 : decode prog_5_method_11_code 177 = .ok (.aload_n 0, 1) := by decide +kernel
theorem d_Reader_advance_178 : decode prog_5_method_11_code 178 = .ok (.dup, 1) := by decide +kernel
theorem d_Reader_advance_179 : decode prog_5_method_11_code 179 = .ok (.getfield 22, 3) := by decide +kernel
theorem d_Reader_advance_182 : decode prog_5_method_11_code 182 = .ok (.iconst 1, 1) := by decide +kernel
theorem d_Reader_advance_183 : decode prog_5_method_11_code 183 = .ok (.iadd, 1) := by decide +kernel
theorem d_Reader_advance_184 : decode prog_5_method_11_code 184 = .ok (.putfield 22, 3) := by decide +kernel
theorem d_Reader_advance_187 : decode prog_5_method_11_code 187 = .ok (.goto (-50), 3) := by decide +kernel
theorem d_Reader_advance_190 : decode prog_5_method_11_code 190 = .ok (.return_, 1) := by decide +kernel
theorem d_Reader_sortOf_0 : decode prog_5_method_12_code 0 = .ok (.iload_n 0, 1) := by decide +kernel
theorem d_Reader_sortOf_1 : decode prog_5_method_12_code 1 = .ok (.bipush 97, 2) := by decide +kernel
theorem d_Reader_sortOf_3 : decode prog_5_method_12_code 3 = .ok (.if_icmp .lt 9, 3) := by decide +kernel
theorem d_Reader_sortOf_6 : decode prog_5_method_12_code 6 = .ok (.iload_n 0, 1) := by decide +kernel
theorem d_Reader_sortOf_7 : decode prog_5_method_12_code 7 = .ok (.bipush 122, 2) := by decide +kernel
theorem d_Reader_sortOf_9 : decode prog_5_method_12_code 9 = .ok (.if_icmp .le 15, 3) := by decide +kernel
theorem d_Reader_sortOf_12 : decode prog_5_method_12_code 12 = .ok (.iload_n 0, 1) := by decide +kernel
theorem d_Reader_sortOf_13 : decode prog_5_method_12_code 13 = .ok (.bipush 65, 2) := by decide +kernel
theorem d_Reader_sortOf_15 : decode prog_5_method_12_code 15 = .ok (.if_icmp .lt 11, 3) := by decide +kernel
theorem d_Reader_sortOf_18 : decode prog_5_method_12_code 18 = .ok (.iload_n 0, 1) := by decide +kernel
theorem d_Reader_sortOf_19 : decode prog_5_method_12_code 19 = .ok (.bipush 90, 2) := by decide +kernel
theorem d_Reader_sortOf_21 : decode prog_5_method_12_code 21 = .ok (.if_icmp .gt 5, 3) := by decide +kernel
theorem d_Reader_sortOf_24 : decode prog_5_method_12_code 24 = .ok (.iconst 1, 1) := by decide +kernel
theorem d_Reader_sortOf_25 : decode prog_5_method_12_code 25 = .ok (.ireturn, 1) := by decide +kernel
theorem d_Reader_sortOf_26 : decode prog_5_method_12_code 26 = .ok (.iload_n 0, 1) := by decide +kernel
theorem d_Reader_sortOf_27 : decode prog_5_method_12_code 27 = .ok (.bipush 48, 2) := by decide +kernel
theorem d_Reader_sortOf_29 : decode prog_5_method_12_code 29 = .ok (.if_icmp .lt 11, 3) := by decide +kernel
theorem d_Reader_sortOf_32 : decode prog_5_method_12_code 32 = .ok (.iload_n 0, 1) := by decide +kernel
theorem d_Reader_sortOf_33 : decode prog_5_method_12_code 33 = .ok (.bipush 57, 2) := by decide +kernel
theorem d_Reader_sortOf_35 : decode prog_5_method_12_code 35 = .ok (.if_icmp .gt 5, 3) := by decide +kernel
theorem d_Reader_sortOf_38 : decode prog_5_method_12_code 38 = .ok (.iconst 2, 1) := by decide +kernel
theorem d_Reader_sortOf_39 : decode prog_5_method_12_code 39 = .ok (.ireturn, 1) := by decide +kernel
theorem d_Reader_sortOf_40 : decode prog_5_method_12_code 40 = .ok (.iload_n 0, 1) := by decide +kernel
theorem d_Reader_sortOf_41 : decode prog_5_method_12_code 41 = .ok (.bipush 32, 2) := by decide +kernel
theorem d_Reader_sortOf_43 : decode prog_5_method_12_code 43 = .ok (.if_icmp .eq 9, 3) := by decide +kernel
theorem d_Reader_sortOf_46 : decode prog_5_method_12_code 46 = .ok (.iload_n 0, 1) := by decide +kernel
theorem d_Reader_sortOf_47 : decode prog_5_method_12_code 47 = .ok (.bipush 10, 2) := by decide +kernel
theorem d_Reader_sortOf_49 : decode prog_5_method_12_code 49 = .ok (.if_icmp .ne 5, 3) := by decide +kernel
theorem d_Reader_sortOf_52 : decode prog_5_method_12_code 52 = .ok (.iconst 4, 1) := by decide +kernel
theorem d_Reader_sortOf_53 : decode prog_5_method_12_code 53 = .ok (.ireturn, 1) := by decide +kernel
theorem d_Reader_sortOf_54 : decode prog_5_method_12_code 54 = .ok (.iload_n 0, 1) := by decide +kernel
theorem d_Reader_sortOf_55 : decode prog_5_method_12_code 55 = .ok (.bipush 59, 2) := by decide +kernel
theorem d_Reader_sortOf_57 : decode prog_5_method_12_code 57 = .ok (.if_icmp .ne 7, 3) := by decide +kernel
theorem d_Reader_sortOf_60 : decode prog_5_method_12_code 60 = .ok (.iconst 3, 1) := by decide +kernel
theorem d_Reader_sortOf_61 : decode prog_5_method_12_code 61 = .ok (.goto 4, 3) := by decide +kernel
theorem d_Reader_sortOf_64 : decode prog_5_method_12_code 64 = .ok (.iconst 5, 1) := by decide +kernel
theorem d_Reader_sortOf_65 : decode prog_5_method_12_code 65 = .ok (.ireturn, 1) := by decide +kernel
theorem d_Reader_readClause_0 : decode prog_5_method_3_code 0 = .ok (.aload_n 0, 1) := by decide +kernel
theorem d_Reader_readClause_1 : decode prog_5_method_3_code 1 = .ok (.invokevirtual 40, 3) := by decide +kernel
theorem d_Reader_readClause_4 : decode prog_5_method_3_code 4 = .ok (.istore_n 3, 1) := by decide +kernel
theorem d_Reader_readClause_5 : decode prog_5_method_3_code 5 = .ok (.iload_n 3, 1) := by decide +kernel
theorem d_Reader_readClause_6 : decode prog_5_method_3_code 6 = .ok (.iconst (-1), 1) := by decide +kernel
theorem d_Reader_readClause_7 : decode prog_5_method_3_code 7 = .ok (.if_icmp .ne 9, 3) := by decide +kernel
theorem d_Reader_readClause_10 : decode prog_5_method_3_code 10 = .ok (.aload_n 0, 1) := by decide +kernel
theorem d_Reader_readClause_11 : decode prog_5_method_3_code 11 = .ok (.iconst 1, 1) := by decide +kernel
theorem d_Reader_readClause_12 : decode prog_5_method_3_code 12 = .ok (.invokevirtual 44, 3) := by decide +kernel
theorem d_Reader_readClause_15 : decode prog_5_method_3_code 15 = .ok (.ireturn, 1) := by decide +kernel
theorem d_Reader_readClause_16 : decode prog_5_method_3_code 16 = .ok (.iload_n 2, 1) := by decide +kernel
theorem d_Reader_readClause_17 : decode prog_5_method_3_code 17 = .ok (.bipush 24, 2) := by decide +kernel
theorem d_Reader_readClause_19 : decode prog_5_method_3_code 19 = .ok (.if_icmp .lt 10, 3) := by decide +kernel
theorem d_Reader_readClause_22 : decode prog_5_method_3_code 22 = .ok (.aload_n 0, 1) := by decide +kernel
theorem d_Reader_readClause_23 : decode prog_5_method_3_code 23 = .ok (.bipush 6, 2) := by decide +kernel
theorem d_Reader_readClause_25 : decode prog_5_method_3_code 25 = .ok (.invokevirtual 44, 3) := by decide +kernel
theorem d_Reader_readClause_28 : decode prog_5_method_3_code 28 = .ok (.ireturn, 1) := by decide +kernel
theorem d_Reader_readClause_29 : decode prog_5_method_3_code 29 = .ok (.iload_n 3, 1) := by decide +kernel
theorem d_Reader_readClause_30 : decode prog_5_method_3_code 30 = .ok (.bipush 10, 2) := by decide +kernel
theorem d_Reader_readClause_32 : decode prog_5_method_3_code 32 = .ok (.if_icmp .ne 9, 3) := by decide +kernel
theorem d_Reader_readClause_35 : decode prog_5_method_3_code 35 = .ok (.aload_n 0, 1) := by decide +kernel
theorem d_Reader_readClause_36 : decode prog_5_method_3_code 36 = .ok (.aload_n 1, 1) := by decide +kernel
theorem d_Reader_readClause_37 : decode prog_5_method_3_code 37 = .ok (.invokevirtual 48, 3) := by decide +kernel
theorem d_Reader_readClause_40 : decode prog_5_method_3_code 40 = .ok (.ireturn, 1) := by decide +kernel
theorem d_Reader_readClause_41 : decode prog_5_method_3_code 41 = .ok (.aload_n 0, 1) := by decide +kernel
theorem d_Reader_readClause_42 : decode prog_5_method_3_code 42 = .ok (.aload_n 1, 1) := by decide +kernel
theorem d_Reader_readClause_43 : decode prog_5_method_3_code 43 = .ok (.iload_n 3, 1) := by decide +kernel
theorem d_Reader_readClause_44 : decode prog_5_method_3_code 44 = .ok (.invokevirtual 52, 3) := by decide +kernel
theorem d_Reader_readClause_47 : decode prog_5_method_3_code 47 = .ok (.ifCond .ne 5, 3) := by decide +kernel
theorem d_Reader_readClause_50 : decode prog_5_method_3_code 50 = .ok (.iconst 0, 1) := by decide +kernel
theorem d_Reader_readClause_51 : decode prog_5_method_3_code 51 = .ok (.ireturn, 1) := by decide +kernel
theorem d_Reader_readClause_52 : decode prog_5_method_3_code 52 = .ok (.aload_n 0, 1) := by decide +kernel
theorem d_Reader_readClause_53 : decode prog_5_method_3_code 53 = .ok (.invokevirtual 55, 3) := by decide +kernel
theorem d_Reader_readClause_56 : decode prog_5_method_3_code 56 = .ok (.ifCond .eq 22, 3) := by decide +kernel
theorem d_Reader_readClause_59 : decode prog_5_method_3_code 59 = .ok (.aload_n 1, 1) := by decide +kernel
theorem d_Reader_readClause_60 : decode prog_5_method_3_code 60 = .ok (.getfield 59, 3) := by decide +kernel
theorem d_Reader_readClause_63 : decode prog_5_method_3_code 63 = .ok (.iload_n 3, 1) := by decide +kernel
theorem d_Reader_readClause_64 : decode prog_5_method_3_code 64 = .ok (.aload_n 0, 1) := by decide +kernel
theorem d_Reader_readClause_65 : decode prog_5_method_3_code 65 = .ok (.getfield 63, 3) := by decide +kernel
theorem d_Reader_readClause_68 : decode prog_5_method_3_code 68 = .ok (.invokevirtual 66, 3) := by decide +kernel
theorem d_Reader_readClause_71 : decode prog_5_method_3_code 71 = .ok (.ifCond .eq 7, 3) := by decide +kernel
theorem d_Reader_readClause_74 : decode prog_5_method_3_code 74 = .ok (.iconst 1, 1) := by decide +kernel
theorem d_Reader_readClause_75 : decode prog_5_method_3_code 75 = .ok (.goto 4, 3) := by decide +kernel
theorem d_Reader_readClause_78 : decode prog_5_method_3_code 78 = .ok (.iconst 0, 1) := by decide +kernel
theorem d_Reader_readClause_79 : decode prog_5_method_3_code 79 = .ok (.ireturn, 1) := by decide +kernel
theorem d_Reader_kindOfWord_0 : decode prog_5_method_14_code 0 = .ok (.aload_n 0, 1) := by decide +kernel
theorem d_Reader_kindOfWord_1 : decode prog_5_method_14_code 1 = .ok (.getfield 33, 3) := by decide +kernel
theorem d_Reader_kindOfWord_4 : decode prog_5_method_14_code 4 = .ok (.iconst 1, 1) := by decide +kernel
theorem d_Reader_kindOfWord_5 : decode prog_5_method_14_code 5 = .ok (.if_icmp .eq 5, 3) := by decide +kernel
theorem d_Reader_kindOfWord_8 : decode prog_5_method_14_code 8 = .ok (.iconst (-1), 1) := by decide +kernel
theorem d_Reader_kindOfWord_9 : decode prog_5_method_14_code 9 = .ok (.ireturn, 1) := by decide +kernel
theorem d_Reader_kindOfWord_10 : decode prog_5_method_14_code 10 = .ok (.iconst 0, 1) := by decide +kernel
theorem d_Reader_kindOfWord_11 : decode prog_5_method_14_code 11 = .ok (.istore_n 1, 1) := by decide +kernel
theorem d_Reader_kindOfWord_12 : decode prog_5_method_14_code 12 = .ok (.iload_n 1, 1) := by decide +kernel
theorem d_Reader_kindOfWord_13 : decode prog_5_method_14_code 13 = .ok (.bipush 10, 2) := by decide +kernel
theorem d_Reader_kindOfWord_15 : decode prog_5_method_14_code 15 = .ok (.if_icmp .gt 22, 3) := by decide +kernel
theorem d_Reader_kindOfWord_18 : decode prog_5_method_14_code 18 = .ok (.aload_n 0, 1) := by decide +kernel
theorem d_Reader_kindOfWord_19 : decode prog_5_method_14_code 19 = .ok (.iload_n 1, 1) := by decide +kernel
theorem d_Reader_kindOfWord_20 : decode prog_5_method_14_code 20 = .ok (.invokestatic 121, 3) := by decide +kernel
theorem d_Reader_kindOfWord_23 : decode prog_5_method_14_code 23 = .ok (.invokevirtual 102, 3) := by decide +kernel
theorem d_Reader_kindOfWord_26 : decode prog_5_method_14_code 26 = .ok (.ifCond .eq 5, 3) := by decide +kernel
theorem d_Reader_kindOfWord_29 : decode prog_5_method_14_code 29 = .ok (.iload_n 1, 1) := by decide +kernel
theorem d_Reader_kindOfWord_30 : decode prog_5_method_14_code 30 = .ok (.ireturn, 1) := by decide +kernel
theorem d_Reader_kindOfWord_31 : decode prog_5_method_14_code 31 = .ok (.iinc 1 1, 3) := by decide +kernel
theorem d_Reader_kindOfWord_34 : decode prog_5_method_14_code 34 = .ok (.goto (-22), 3) := by decide +kernel
theorem d_Reader_kindOfWord_37 : decode prog_5_method_14_code 37 = .ok (.iconst (-1), 1) := by decide +kernel
theorem d_Reader_kindOfWord_38 : decode prog_5_method_14_code 38 = .ok (.ireturn, 1) := by decide +kernel
theorem d_Reader_wordOf_0 : decode prog_5_method_17_code 0 = .ok (.iload_n 0, 1) := by decide +kernel
theorem d_Reader_wordOf_1 : decode prog_5_method_17_code 1 = .ok (.tableswitch 85 0 9 #[55, 58, 61, 64, 67, 70, 73, 76, 79, 82], 55) := by decide +kernel
theorem d_Reader_wordOf_56 : decode prog_5_method_17_code 56 = .ok (.ldc 136, 2) := by decide +kernel
theorem d_Reader_wordOf_58 : decode prog_5_method_17_code 58 = .ok (.areturn, 1) := by decide +kernel
theorem d_Reader_wordOf_59 : decode prog_5_method_17_code 59 = .ok (.ldc 137, 2) := by decide +kernel
theorem d_Reader_wordOf_61 : decode prog_5_method_17_code 61 = .ok (.areturn, 1) := by decide +kernel
theorem d_Reader_wordOf_62 : decode prog_5_method_17_code 62 = .ok (.ldc 139, 2) := by decide +kernel
theorem d_Reader_wordOf_64 : decode prog_5_method_17_code 64 = .ok (.areturn, 1) := by decide +kernel
theorem d_Reader_wordOf_65 : decode prog_5_method_17_code 65 = .ok (.ldc 141, 2) := by decide +kernel
theorem d_Reader_wordOf_67 : decode prog_5_method_17_code 67 = .ok (.areturn, 1) := by decide +kernel
theorem d_Reader_wordOf_68 : decode prog_5_method_17_code 68 = .ok (.ldc 143, 2) := by decide +kernel
theorem d_Reader_wordOf_70 : decode prog_5_method_17_code 70 = .ok (.areturn, 1) := by decide +kernel
theorem d_Reader_wordOf_71 : decode prog_5_method_17_code 71 = .ok (.ldc 145, 2) := by decide +kernel
theorem d_Reader_wordOf_73 : decode prog_5_method_17_code 73 = .ok (.areturn, 1) := by decide +kernel
theorem d_Reader_wordOf_74 : decode prog_5_method_17_code 74 = .ok (.ldc 147, 2) := by decide +kernel
theorem d_Reader_wordOf_76 : decode prog_5_method_17_code 76 = .ok (.areturn, 1) := by decide +kernel
theorem d_Reader_wordOf_77 : decode prog_5_method_17_code 77 = .ok (.ldc 149, 2) := by decide +kernel
theorem d_Reader_wordOf_79 : decode prog_5_method_17_code 79 = .ok (.areturn, 1) := by decide +kernel
theorem d_Reader_wordOf_80 : decode prog_5_method_17_code 80 = .ok (.ldc 151, 2) := by decide +kernel
theorem d_Reader_wordOf_82 : decode prog_5_method_17_code 82 = .ok (.areturn, 1) := by decide +kernel
theorem d_Reader_wordOf_83 : decode prog_5_method_17_code 83 = .ok (.ldc 153, 2) := by decide +kernel
theorem d_Reader_wordOf_85 : decode prog_5_method_17_code 85 = .ok (.areturn, 1) := by decide +kernel
theorem d_Reader_wordOf_86 : decode prog_5_method_17_code 86 = .ok (.ldc 155, 2) := by decide +kernel
theorem d_Reader_wordOf_88 : decode prog_5_method_17_code 88 = .ok (.areturn, 1) := by decide +kernel
theorem d_Reader_spells_0 : decode prog_5_method_16_code 0 = .ok (.aload_n 0, 1) := by decide +kernel
theorem d_Reader_spells_1 : decode prog_5_method_16_code 1 = .ok (.getfield 22, 3) := by decide +kernel
theorem d_Reader_spells_4 : decode prog_5_method_16_code 4 = .ok (.aload_n 0, 1) := by decide +kernel
theorem d_Reader_spells_5 : decode prog_5_method_16_code 5 = .ok (.getfield 105, 3) := by decide +kernel
theorem d_Reader_spells_8 : decode prog_5_method_16_code 8 = .ok (.isub, 1) := by decide +kernel
theorem d_Reader_spells_9 : decode prog_5_method_16_code 9 = .ok (.aload_n 1, 1) := by decide +kernel
theorem d_Reader_spells_10 : decode prog_5_method_16_code 10 = .ok (.invokevirtual 128, 3) := by decide +kernel
theorem d_Reader_spells_13 : decode prog_5_method_16_code 13 = .ok (.if_icmp .eq 5, 3) := by decide +kernel
theorem d_Reader_spells_16 : decode prog_5_method_16_code 16 = .ok (.iconst 0, 1) := by decide +kernel
theorem d_Reader_spells_17 : decode prog_5_method_16_code 17 = .ok (.ireturn, 1) := by decide +kernel
theorem d_Reader_spells_18 : decode prog_5_method_16_code 18 = .ok (.iconst 0, 1) := by decide +kernel
theorem d_Reader_spells_19 : decode prog_5_method_16_code 19 = .ok (.istore_n 2, 1) := by decide +kernel
theorem d_Reader_spells_20 : decode prog_5_method_16_code 20 = .ok (.iload_n 2, 1) := by decide +kernel
theorem d_Reader_spells_21 : decode prog_5_method_16_code 21 = .ok (.aload_n 1, 1) := by decide +kernel
theorem d_Reader_spells_22 : decode prog_5_method_16_code 22 = .ok (.invokevirtual 128, 3) := by decide +kernel
theorem d_Reader_spells_25 : decode prog_5_method_16_code 25 = .ok (.if_icmp .ge 33, 3) := by decide +kernel
theorem d_Reader_spells_28 : decode prog_5_method_16_code 28 = .ok (.aload_n 0, 1) := by decide +kernel
theorem d_Reader_spells_29 : decode prog_5_method_16_code 29 = .ok (.getfield 18, 3) := by decide +kernel
theorem d_Reader_spells_32 : decode prog_5_method_16_code 32 = .ok (.getfield 113, 3) := by decide +kernel
theorem d_Reader_spells_35 : decode prog_5_method_16_code 35 = .ok (.aload_n 0, 1) := by decide +kernel
theorem d_Reader_spells_36 : decode prog_5_method_16_code 36 = .ok (.getfield 105, 3) := by decide +kernel
theorem d_Reader_spells_39 : decode prog_5_method_16_code 39 = .ok (.iload_n 2, 1) := by decide +kernel
theorem d_Reader_spells_40 : decode prog_5_method_16_code 40 = .ok (.iadd, 1) := by decide +kernel
theorem d_Reader_spells_41 : decode prog_5_method_16_code 41 = .ok (.baload, 1) := by decide +kernel
theorem d_Reader_spells_42 : decode prog_5_method_16_code 42 = .ok (.aload_n 1, 1) := by decide +kernel
theorem d_Reader_spells_43 : decode prog_5_method_16_code 43 = .ok (.iload_n 2, 1) := by decide +kernel
theorem d_Reader_spells_44 : decode prog_5_method_16_code 44 = .ok (.invokevirtual 132, 3) := by decide +kernel
theorem d_Reader_spells_47 : decode prog_5_method_16_code 47 = .ok (.if_icmp .eq 5, 3) := by decide +kernel
theorem d_Reader_spells_50 : decode prog_5_method_16_code 50 = .ok (.iconst 0, 1) := by decide +kernel
theorem d_Reader_spells_51 : decode prog_5_method_16_code 51 = .ok (.ireturn, 1) := by decide +kernel
theorem d_Reader_spells_52 : decode prog_5_method_16_code 52 = .ok (.iinc 2 1, 3) := by decide +kernel
theorem d_Reader_spells_55 : decode prog_5_method_16_code 55 = .ok (.goto (-35), 3) := by decide +kernel
theorem d_Reader_spells_58 : decode prog_5_method_16_code 58 = .ok (.iconst 1, 1) := by decide +kernel
theorem d_Reader_spells_59 : decode prog_5_method_16_code 59 = .ok (.ireturn, 1) := by decide +kernel
theorem d_JStr_length_0 : decode prog_17_method_54_code 0 = .ok (.aload_n 0, 1) := by decide +kernel
theorem d_JStr_length_1 : decode prog_17_method_54_code 1 = .ok (.getfield 9, 3) := by decide +kernel
theorem d_JStr_length_4 : decode prog_17_method_54_code 4 = .ok (.arraylength, 1) := by decide +kernel
theorem d_JStr_length_5 : decode prog_17_method_54_code 5 = .ok (.aload_n 0, 1) := by decide +kernel
theorem d_JStr_length_6 : decode prog_17_method_54_code 6 = .ok (.invokevirtual 335, 3) := by decide +kernel
theorem d_JStr_length_9 : decode prog_17_method_54_code 9 = .ok (.ishr, 1) := by decide +kernel
theorem d_JStr_length_10 : decode prog_17_method_54_code 10 = .ok (.ireturn, 1) := by decide +kernel
theorem d_JStr_coder_0 : decode prog_17_method_152_code 0 = .ok (.getstatic 38, 3) := by decide +kernel
theorem d_JStr_coder_3 : decode prog_17_method_152_code 3 = .ok (.ifCond .eq 10, 3) := by decide +kernel
theorem d_JStr_coder_6 : decode prog_17_method_152_code 6 = .ok (.aload_n 0, 1) := by decide +kernel
theorem d_JStr_coder_7 : decode prog_17_method_152_code 7 = .ok (.getfield 15, 3) := by decide +kernel
theorem d_JStr_coder_10 : decode prog_17_method_152_code 10 = .ok (.goto 4, 3) := by decide +kernel
theorem d_JStr_coder_13 : decode prog_17_method_152_code 13 = .ok (.iconst 1, 1) := by decide +kernel
theorem d_JStr_coder_14 : decode prog_17_method_152_code 14 = .ok (.ireturn, 1) := by decide +kernel
theorem d_JStr_charAt_0 : decode prog_17_method_56_code 0 = .ok (.aload_n 0, 1) := by decide +kernel
theorem d_JStr_charAt_1 : decode prog_17_method_56_code 1 = .ok (.invokevirtual 492, 3) := by decide +kernel
theorem d_JStr_charAt_4 : decode prog_17_method_56_code 4 = .ok (.ifCond .eq 12, 3) := by decide +kernel
theorem d_JStr_charAt_7 : decode prog_17_method_56_code 7 = .ok (.aload_n 0, 1) := by decide +kernel
theorem d_JStr_charAt_8 : decode prog_17_method_56_code 8 = .ok (.getfield 9, 3) := by decide +kernel
theorem d_JStr_charAt_11 : decode prog_17_method_56_code 11 = .ok (.iload_n 1, 1) := by decide +kernel
theorem d_JStr_charAt_12 : decode prog_17_method_56_code 12 = .ok (.invokestatic 495, 3) := by decide +kernel
theorem d_JStr_charAt_15 : decode prog_17_method_56_code 15 = .ok (.ireturn, 1) := by decide +kernel
theorem d_JStr_charAt_16 : decode prog_17_method_56_code 16 = .ok (.aload_n 0, 1) := by decide +kernel
theorem d_JStr_charAt_17 : decode prog_17_method_56_code 17 = .ok (.getfield 9, 3) := by decide +kernel
theorem d_JStr_charAt_20 : decode prog_17_method_56_code 20 = .ok (.iload_n 1, 1) := by decide +kernel
theorem d_JStr_charAt_21 : decode prog_17_method_56_code 21 = .ok (.invokestatic 498, 3) := by decide +kernel
theorem d_JStr_charAt_24 : decode prog_17_method_56_code 24 = .ok (.ireturn, 1) := by decide +kernel
theorem d_JStr_isLatin1_0 : decode prog_17_method_154_code 0 = .ok (.getstatic 38, 3) := by decide +kernel
theorem d_JStr_isLatin1_3 : decode prog_17_method_154_code 3 = .ok (.ifCond .eq 14, 3) := by decide +kernel
theorem d_JStr_isLatin1_6 : decode prog_17_method_154_code 6 = .ok (.aload_n 0, 1) := by decide +kernel
theorem d_JStr_isLatin1_7 : decode prog_17_method_154_code 7 = .ok (.getfield 15, 3) := by decide +kernel
theorem d_JStr_isLatin1_10 : decode prog_17_method_154_code 10 = .ok (.ifCond .ne 7, 3) := by decide +kernel
theorem d_JStr_isLatin1_13 : decode prog_17_method_154_code 13 = .ok (.iconst 1, 1) := by decide +kernel
theorem d_JStr_isLatin1_14 : decode prog_17_method_154_code 14 = .ok (.goto 4, 3) := by decide +kernel
theorem d_JStr_isLatin1_17 : decode prog_17_method_154_code 17 = .ok (.iconst 0, 1) := by decide +kernel
theorem d_JStr_isLatin1_18 : decode prog_17_method_154_code 18 = .ok (.ireturn, 1) := by decide +kernel
theorem d_JLat_charAt_0 : decode prog_18_method_2_code 0 = .ok (.iload_n 1, 1) := by decide +kernel
theorem d_JLat_charAt_1 : decode prog_18_method_2_code 1 = .ok (.aload_n 0, 1) := by decide +kernel
theorem d_JLat_charAt_2 : decode prog_18_method_2_code 2 = .ok (.arraylength, 1) := by decide +kernel
theorem d_JLat_charAt_3 : decode prog_18_method_2_code 3 = .ok (.invokestatic 9, 3) := by decide +kernel
theorem d_JLat_charAt_6 : decode prog_18_method_2_code 6 = .ok (.aload_n 0, 1) := by decide +kernel
theorem d_JLat_charAt_7 : decode prog_18_method_2_code 7 = .ok (.iload_n 1, 1) := by decide +kernel
theorem d_JLat_charAt_8 : decode prog_18_method_2_code 8 = .ok (.baload, 1) := by decide +kernel
theorem d_JLat_charAt_9 : decode prog_18_method_2_code 9 = .ok (.sipush 255, 3) := by decide +kernel
theorem d_JLat_charAt_12 : decode prog_18_method_2_code 12 = .ok (.iand, 1) := by decide +kernel
theorem d_JLat_charAt_13 : decode prog_18_method_2_code 13 = .ok (.i2c, 1) := by decide +kernel
theorem d_JLat_charAt_14 : decode prog_18_method_2_code 14 = .ok (.ireturn, 1) := by decide +kernel
theorem d_JStr_checkIndex_0 : decode prog_17_method_155_code 0 = .ok (.iload_n 0, 1) := by decide +kernel
theorem d_JStr_checkIndex_1 : decode prog_17_method_155_code 1 = .ok (.iload_n 1, 1) := by decide +kernel
theorem d_JStr_checkIndex_2 : decode prog_17_method_155_code 2 = .ok (.getstatic 1053, 3) := by decide +kernel
theorem d_JStr_checkIndex_5 : decode prog_17_method_155_code 5 = .ok (.invokestatic 1059, 3) := by decide +kernel
theorem d_JStr_checkIndex_8 : decode prog_17_method_155_code 8 = .ok (.pop, 1) := by decide +kernel
theorem d_JStr_checkIndex_9 : decode prog_17_method_155_code 9 = .ok (.return_, 1) := by decide +kernel
theorem d_JPre_checkIndex_0 : decode prog_22_method_11_code 0 = .ok (.iload_n 0, 1) := by decide +kernel
theorem d_JPre_checkIndex_1 : decode prog_22_method_11_code 1 = .ok (.ifCond .lt 8, 3) := by decide +kernel
theorem d_JPre_checkIndex_4 : decode prog_22_method_11_code 4 = .ok (.iload_n 0, 1) := by decide +kernel
theorem d_JPre_checkIndex_5 : decode prog_22_method_11_code 5 = .ok (.iload_n 1, 1) := by decide +kernel
theorem d_JPre_checkIndex_6 : decode prog_22_method_11_code 6 = .ok (.if_icmp .lt 10, 3) := by decide +kernel
theorem d_JPre_checkIndex_9 : decode prog_22_method_11_code 9 = .ok (.aload_n 2, 1) := by decide +kernel
theorem d_JPre_checkIndex_10 : decode prog_22_method_11_code 10 = .ok (.iload_n 0, 1) := by decide +kernel
theorem d_JPre_checkIndex_11 : decode prog_22_method_11_code 11 = .ok (.iload_n 1, 1) := by decide +kernel
theorem d_JPre_checkIndex_12 : decode prog_22_method_11_code 12 = .ok (.invokestatic 95, 3) := by decide +kernel
theorem d_JPre_checkIndex_15 : decode prog_22_method_11_code 15 = .ok (.athrow, 1) := by decide +kernel
theorem d_JPre_checkIndex_16 : decode prog_22_method_11_code 16 = .ok (.iload_n 0, 1) := by decide +kernel
theorem d_JPre_checkIndex_17 : decode prog_22_method_11_code 17 = .ok (.ireturn, 1) := by decide +kernel
theorem d_Reader_refuse_0 : decode prog_5_method_10_code 0 = .ok (.aload_n 0, 1) := by decide +kernel
theorem d_Reader_refuse_1 : decode prog_5_method_10_code 1 = .ok (.iload_n 1, 1) := by decide +kernel
theorem d_Reader_refuse_2 : decode prog_5_method_10_code 2 = .ok (.putfield 9, 3) := by decide +kernel
theorem d_Reader_refuse_5 : decode prog_5_method_10_code 5 = .ok (.aload_n 0, 1) := by decide +kernel
theorem d_Reader_refuse_6 : decode prog_5_method_10_code 6 = .ok (.aload_n 0, 1) := by decide +kernel
theorem d_Reader_refuse_7 : decode prog_5_method_10_code 7 = .ok (.getfield 105, 3) := by decide +kernel
theorem d_Reader_refuse_10 : decode prog_5_method_10_code 10 = .ok (.putfield 15, 3) := by decide +kernel
theorem d_Reader_refuse_13 : decode prog_5_method_10_code 13 = .ok (.iconst 0, 1) := by decide +kernel
theorem d_Reader_refuse_14 : decode prog_5_method_10_code 14 = .ok (.ireturn, 1) := by decide +kernel
theorem d_Reader_readHide_0 : decode prog_5_method_4_code 0 = .ok (.aload_n 0, 1) := by decide +kernel
theorem d_Reader_readHide_1 : decode prog_5_method_4_code 1 = .ok (.invokevirtual 30, 3) := by decide +kernel
theorem d_Reader_readHide_4 : decode prog_5_method_4_code 4 = .ok (.aload_n 0, 1) := by decide +kernel
theorem d_Reader_readHide_5 : decode prog_5_method_4_code 5 = .ok (.invokevirtual 72, 3) := by decide +kernel
theorem d_Reader_readHide_8 : decode prog_5_method_4_code 8 = .ok (.istore_n 2, 1) := by decide +kernel
theorem d_Reader_readHide_9 : decode prog_5_method_4_code 9 = .ok (.iload_n 2, 1) := by decide +kernel
theorem d_Reader_readHide_10 : decode prog_5_method_4_code 10 = .ok (.iconst (-1), 1) := by decide +kernel
theorem d_Reader_readHide_11 : decode prog_5_method_4_code 11 = .ok (.if_icmp .ne 9, 3) := by decide +kernel
theorem d_Reader_readHide_14 : decode prog_5_method_4_code 14 = .ok (.aload_n 0, 1) := by decide +kernel
theorem d_Reader_readHide_15 : decode prog_5_method_4_code 15 = .ok (.iconst 1, 1) := by decide +kernel
theorem d_Reader_readHide_16 : decode prog_5_method_4_code 16 = .ok (.invokevirtual 44, 3) := by decide +kernel
theorem d_Reader_readHide_19 : decode prog_5_method_4_code 19 = .ok (.ireturn, 1) := by decide +kernel
theorem d_Reader_readHide_20 : decode prog_5_method_4_code 20 = .ok (.aload_n 1, 1) := by decide +kernel
theorem d_Reader_readHide_21 : decode prog_5_method_4_code 21 = .ok (.iload_n 2, 1) := by decide +kernel
theorem d_Reader_readHide_22 : decode prog_5_method_4_code 22 = .ok (.invokevirtual 75, 3) := by decide +kernel
theorem d_Reader_readHide_25 : decode prog_5_method_4_code 25 = .ok (.ifCond .eq 9, 3) := by decide +kernel
theorem d_Reader_readHide_28 : decode prog_5_method_4_code 28 = .ok (.aload_n 0, 1) := by decide +kernel
theorem d_Reader_readHide_29 : decode prog_5_method_4_code 29 = .ok (.iconst 3, 1) := by decide +kernel
theorem d_Reader_readHide_30 : decode prog_5_method_4_code 30 = .ok (.invokevirtual 44, 3) := by decide +kernel
theorem d_Reader_readHide_33 : decode prog_5_method_4_code 33 = .ok (.ireturn, 1) := by decide +kernel
theorem d_Reader_readHide_34 : decode prog_5_method_4_code 34 = .ok (.aload_n 0, 1) := by decide +kernel
theorem d_Reader_readHide_35 : decode prog_5_method_4_code 35 = .ok (.ldc 78, 2) := by decide +kernel
theorem d_Reader_readHide_37 : decode prog_5_method_4_code 37 = .ok (.invokevirtual 80, 3) := by decide +kernel
theorem d_Reader_readHide_40 : decode prog_5_method_4_code 40 = .ok (.ifCond .eq 14, 3) := by decide +kernel
theorem d_Reader_readHide_43 : decode prog_5_method_4_code 43 = .ok (.aload_n 0, 1) := by decide +kernel
theorem d_Reader_readHide_44 : decode prog_5_method_4_code 44 = .ok (.iconst 0, 1) := by decide +kernel
theorem d_Reader_readHide_45 : decode prog_5_method_4_code 45 = .ok (.sipush 9999, 3) := by decide +kernel
theorem d_Reader_readHide_48 : decode prog_5_method_4_code 48 = .ok (.invokevirtual 84, 3) := by decide +kernel
theorem d_Reader_readHide_51 : decode prog_5_method_4_code 51 = .ok (.ifCond .ne 5, 3) := by decide +kernel
theorem d_Reader_readHide_54 : decode prog_5_method_4_code 54 = .ok (.iconst 0, 1) := by decide +kernel
theorem d_Reader_readHide_55 : decode prog_5_method_4_code 55 = .ok (.ireturn, 1) := by decide +kernel
theorem d_Reader_readHide_56 : decode prog_5_method_4_code 56 = .ok (.aload_n 0, 1) := by decide +kernel
theorem d_Reader_readHide_57 : decode prog_5_method_4_code 57 = .ok (.getfield 63, 3) := by decide +kernel
theorem d_Reader_readHide_60 : decode prog_5_method_4_code 60 = .ok (.istore_n 3, 1) := by decide +kernel
theorem d_Reader_readHide_61 : decode prog_5_method_4_code 61 = .ok (.aload_n 0, 1) := by decide +kernel
theorem d_Reader_readHide_62 : decode prog_5_method_4_code 62 = .ok (.ldc 87, 2) := by decide +kernel
theorem d_Reader_readHide_64 : decode prog_5_method_4_code 64 = .ok (.invokevirtual 80, 3) := by decide +kernel
theorem d_Reader_readHide_67 : decode prog_5_method_4_code 67 = .ok (.ifCond .eq 14, 3) := by decide +kernel
theorem d_Reader_readHide_70 : decode prog_5_method_4_code 70 = .ok (.aload_n 0, 1) := by decide +kernel
theorem d_Reader_readHide_71 : decode prog_5_method_4_code 71 = .ok (.iconst 0, 1) := by decide +kernel
theorem d_Reader_readHide_72 : decode prog_5_method_4_code 72 = .ok (.sipush 9999, 3) := by decide +kernel
theorem d_Reader_readHide_75 : decode prog_5_method_4_code 75 = .ok (.invokevirtual 84, 3) := by decide +kernel
theorem d_Reader_readHide_78 : decode prog_5_method_4_code 78 = .ok (.ifCond .ne 5, 3) := by decide +kernel
theorem d_Reader_readHide_81 : decode prog_5_method_4_code 81 = .ok (.iconst 0, 1) := by decide +kernel
theorem d_Reader_readHide_82 : decode prog_5_method_4_code 82 = .ok (.ireturn, 1) := by decide +kernel
theorem d_Reader_readHide_83 : decode prog_5_method_4_code 83 = .ok (.aload_n 0, 1) := by decide +kernel
theorem d_Reader_readHide_84 : decode prog_5_method_4_code 84 = .ok (.getfield 63, 3) := by decide +kernel
theorem d_Reader_readHide_87 : decode prog_5_method_4_code 87 = .ok (.iload_n 3, 1) := by decide +kernel
theorem d_Reader_readHide_88 : decode prog_5_method_4_code 88 = .ok (.if_icmp .ge 9, 3) := by decide +kernel
theorem d_Reader_readHide_91 : decode prog_5_method_4_code 91 = .ok (.aload_n 0, 1) := by decide +kernel
theorem d_Reader_readHide_92 : decode prog_5_method_4_code 92 = .ok (.iconst 5, 1) := by decide +kernel
theorem d_Reader_readHide_93 : decode prog_5_method_4_code 93 = .ok (.invokevirtual 44, 3) := by decide +kernel
theorem d_Reader_readHide_96 : decode prog_5_method_4_code 96 = .ok (.ireturn, 1) := by decide +kernel
theorem d_Reader_readHide_97 : decode prog_5_method_4_code 97 = .ok (.aload_n 1, 1) := by decide +kernel
theorem d_Reader_readHide_98 : decode prog_5_method_4_code 98 = .ok (.getfield 89, 3) := by decide +kernel
theorem d_Reader_readHide_101 : decode prog_5_method_4_code 101 = .ok (.iload_n 2, 1) := by decide +kernel
theorem d_Reader_readHide_102 : decode prog_5_method_4_code 102 = .ok (.iload_n 3, 1) := by decide +kernel
theorem d_Reader_readHide_103 : decode prog_5_method_4_code 103 = .ok (.iastore, 1) := by decide +kernel
theorem d_Reader_readHide_104 : decode prog_5_method_4_code 104 = .ok (.aload_n 1, 1) := by decide +kernel
theorem d_Reader_readHide_105 : decode prog_5_method_4_code 105 = .ok (.getfield 93, 3) := by decide +kernel
theorem d_Reader_readHide_108 : decode prog_5_method_4_code 108 = .ok (.iload_n 2, 1) := by decide +kernel
theorem d_Reader_readHide_109 : decode prog_5_method_4_code 109 = .ok (.aload_n 0, 1) := by decide +kernel
theorem d_Reader_readHide_110 : decode prog_5_method_4_code 110 = .ok (.getfield 63, 3) := by decide +kernel
theorem d_Reader_readHide_113 : decode prog_5_method_4_code 113 = .ok (.iastore, 1) := by decide +kernel
theorem d_Reader_readHide_114 : decode prog_5_method_4_code 114 = .ok (.aload_n 0, 1) := by decide +kernel
theorem d_Reader_readHide_115 : decode prog_5_method_4_code 115 = .ok (.invokevirtual 55, 3) := by decide +kernel
theorem d_Reader_readHide_118 : decode prog_5_method_4_code 118 = .ok (.ireturn, 1) := by decide +kernel
theorem d_Reader_letterOfWord_0 : decode prog_5_method_15_code 0 = .ok (.aload_n 0, 1) := by decide +kernel
theorem d_Reader_letterOfWord_1 : decode prog_5_method_15_code 1 = .ok (.getfield 33, 3) := by decide +kernel
theorem d_Reader_letterOfWord_4 : decode prog_5_method_15_code 4 = .ok (.iconst 1, 1) := by decide +kernel
theorem d_Reader_letterOfWord_5 : decode prog_5_method_15_code 5 = .ok (.if_icmp .ne 16, 3) := by decide +kernel
theorem d_Reader_letterOfWord_8 : decode prog_5_method_15_code 8 = .ok (.aload_n 0, 1) := by decide +kernel
theorem d_Reader_letterOfWord_9 : decode prog_5_method_15_code 9 = .ok (.getfield 22, 3) := by decide +kernel
theorem d_Reader_letterOfWord_12 : decode prog_5_method_15_code 12 = .ok (.aload_n 0, 1) := by decide +kernel
theorem d_Reader_letterOfWord_13 : decode prog_5_method_15_code 13 = .ok (.getfield 105, 3) := by decide +kernel
theorem d_Reader_letterOfWord_16 : decode prog_5_method_15_code 16 = .ok (.isub, 1) := by decide +kernel
theorem d_Reader_letterOfWord_17 : decode prog_5_method_15_code 17 = .ok (.iconst 1, 1) := by decide +kernel
theorem d_Reader_letterOfWord_18 : decode prog_5_method_15_code 18 = .ok (.if_icmp .eq 5, 3) := by decide +kernel
theorem d_Reader_letterOfWord_21 : decode prog_5_method_15_code 21 = .ok (.iconst (-1), 1) := by decide +kernel
theorem d_Reader_letterOfWord_22 : decode prog_5_method_15_code 22 = .ok (.ireturn, 1) := by decide +kernel
theorem d_Reader_letterOfWord_23 : decode prog_5_method_15_code 23 = .ok (.aload_n 0, 1) := by decide +kernel
theorem d_Reader_letterOfWord_24 : decode prog_5_method_15_code 24 = .ok (.getfield 18, 3) := by decide +kernel
theorem d_Reader_letterOfWord_27 : decode prog_5_method_15_code 27 = .ok (.getfield 113, 3) := by decide +kernel
theorem d_Reader_letterOfWord_30 : decode prog_5_method_15_code 30 = .ok (.aload_n 0, 1) := by decide +kernel
theorem d_Reader_letterOfWord_31 : decode prog_5_method_15_code 31 = .ok (.getfield 105, 3) := by decide +kernel
theorem d_Reader_letterOfWord_34 : decode prog_5_method_15_code 34 = .ok (.baload, 1) := by decide +kernel
theorem d_Reader_letterOfWord_35 : decode prog_5_method_15_code 35 = .ok (.bipush 97, 2) := by decide +kernel
theorem d_Reader_letterOfWord_37 : decode prog_5_method_15_code 37 = .ok (.isub, 1) := by decide +kernel
theorem d_Reader_letterOfWord_38 : decode prog_5_method_15_code 38 = .ok (.istore_n 1, 1) := by decide +kernel
theorem d_Reader_letterOfWord_39 : decode prog_5_method_15_code 39 = .ok (.iload_n 1, 1) := by decide +kernel
theorem d_Reader_letterOfWord_40 : decode prog_5_method_15_code 40 = .ok (.invokestatic 125, 3) := by decide +kernel
theorem d_Reader_letterOfWord_43 : decode prog_5_method_15_code 43 = .ok (.ifCond .eq 7, 3) := by decide +kernel
theorem d_Reader_letterOfWord_46 : decode prog_5_method_15_code 46 = .ok (.iload_n 1, 1) := by decide +kernel
theorem d_Reader_letterOfWord_47 : decode prog_5_method_15_code 47 = .ok (.goto 4, 3) := by decide +kernel
theorem d_Reader_letterOfWord_50 : decode prog_5_method_15_code 50 = .ok (.iconst (-1), 1) := by decide +kernel
theorem d_Reader_letterOfWord_51 : decode prog_5_method_15_code 51 = .ok (.ireturn, 1) := by decide +kernel
theorem d_A_isLetter_0 : decode prog_1_method_41_code 0 = .ok (.iload_n 0, 1) := by decide +kernel
theorem d_A_isLetter_1 : decode prog_1_method_41_code 1 = .ok (.ifCond .lt 12, 3) := by decide +kernel
theorem d_A_isLetter_4 : decode prog_1_method_41_code 4 = .ok (.iload_n 0, 1) := by decide +kernel
theorem d_A_isLetter_5 : decode prog_1_method_41_code 5 = .ok (.iconst 4, 1) := by decide +kernel
theorem d_A_isLetter_6 : decode prog_1_method_41_code 6 = .ok (.if_icmp .ge 7, 3) := by decide +kernel
theorem d_A_isLetter_9 : decode prog_1_method_41_code 9 = .ok (.iconst 1, 1) := by decide +kernel
theorem d_A_isLetter_10 : decode prog_1_method_41_code 10 = .ok (.goto 4, 3) := by decide +kernel
theorem d_A_isLetter_13 : decode prog_1_method_41_code 13 = .ok (.iconst 0, 1) := by decide +kernel
theorem d_A_isLetter_14 : decode prog_1_method_41_code 14 = .ok (.ireturn, 1) := by decide +kernel
theorem d_Table_isHidden_0 : decode prog_8_method_3_code 0 = .ok (.iload_n 1, 1) := by decide +kernel
theorem d_Table_isHidden_1 : decode prog_8_method_3_code 1 = .ok (.invokestatic 37, 3) := by decide +kernel
theorem d_Table_isHidden_4 : decode prog_8_method_3_code 4 = .ok (.ifCond .eq 17, 3) := by decide +kernel
theorem d_Table_isHidden_7 : decode prog_8_method_3_code 7 = .ok (.aload_n 0, 1) := by decide +kernel
theorem d_Table_isHidden_8 : decode prog_8_method_3_code 8 = .ok (.getfield 20, 3) := by decide +kernel
theorem d_Table_isHidden_11 : decode prog_8_method_3_code 11 = .ok (.iload_n 1, 1) := by decide +kernel
theorem d_Table_isHidden_12 : decode prog_8_method_3_code 12 = .ok (.iaload, 1) := by decide +kernel
theorem d_Table_isHidden_13 : decode prog_8_method_3_code 13 = .ok (.iconst (-1), 1) := by decide +kernel
theorem d_Table_isHidden_14 : decode prog_8_method_3_code 14 = .ok (.if_icmp .eq 7, 3) := by decide +kernel
theorem d_Table_isHidden_17 : decode prog_8_method_3_code 17 = .ok (.iconst 1, 1) := by decide +kernel
theorem d_Table_isHidden_18 : decode prog_8_method_3_code 18 = .ok (.goto 4, 3) := by decide +kernel
theorem d_Table_isHidden_21 : decode prog_8_method_3_code 21 = .ok (.iconst 0, 1) := by decide +kernel
theorem d_Table_isHidden_22 : decode prog_8_method_3_code 22 = .ok (.ireturn, 1) := by decide +kernel
theorem d_Reader_readWord_0 : decode prog_5_method_8_code 0 = .ok (.aload_n 0, 1) := by decide +kernel
theorem d_Reader_readWord_1 : decode prog_5_method_8_code 1 = .ok (.invokevirtual 30, 3) := by decide +kernel
theorem d_Reader_readWord_4 : decode prog_5_method_8_code 4 = .ok (.aload_n 0, 1) := by decide +kernel
theorem d_Reader_readWord_5 : decode prog_5_method_8_code 5 = .ok (.getfield 33, 3) := by decide +kernel
theorem d_Reader_readWord_8 : decode prog_5_method_8_code 8 = .ok (.iconst 1, 1) := by decide +kernel
theorem d_Reader_readWord_9 : decode prog_5_method_8_code 9 = .ok (.if_icmp .ne 11, 3) := by decide +kernel
theorem d_Reader_readWord_12 : decode prog_5_method_8_code 12 = .ok (.aload_n 0, 1) := by decide +kernel
theorem d_Reader_readWord_13 : decode prog_5_method_8_code 13 = .ok (.aload_n 1, 1) := by decide +kernel
theorem d_Reader_readWord_14 : decode prog_5_method_8_code 14 = .ok (.invokevirtual 102, 3) := by decide +kernel
theorem d_Reader_readWord_17 : decode prog_5_method_8_code 17 = .ok (.ifCond .ne 11, 3) := by decide +kernel
theorem d_Reader_readWord_20 : decode prog_5_method_8_code 20 = .ok (.aload_n 0, 1) := by decide +kernel
theorem d_Reader_readWord_21 : decode prog_5_method_8_code 21 = .ok (.iconst 1, 1) := by decide +kernel
theorem d_Reader_readWord_22 : decode prog_5_method_8_code 22 = .ok (.invokevirtual 44, 3) := by decide +kernel
theorem d_Reader_readWord_25 : decode prog_5_method_8_code 25 = .ok (.ifCond .eq 7, 3) := by decide +kernel
theorem d_Reader_readWord_28 : decode prog_5_method_8_code 28 = .ok (.iconst 1, 1) := by decide +kernel
theorem d_Reader_readWord_29 : decode prog_5_method_8_code 29 = .ok (.goto 4, 3) := by decide +kernel
theorem d_Reader_readWord_32 : decode prog_5_method_8_code 32 = .ok (.iconst 0, 1) := by decide +kernel
theorem d_Reader_readWord_33 : decode prog_5_method_8_code 33 = .ok (.ireturn, 1) := by decide +kernel
theorem d_Reader_readNumber_0 : decode prog_5_method_7_code 0 = .ok (.aload_n 0, 1) := by decide +kernel
theorem d_Reader_readNumber_1 : decode prog_5_method_7_code 1 = .ok (.invokevirtual 30, 3) := by decide +kernel
theorem d_Reader_readNumber_4 : decode prog_5_method_7_code 4 = .ok (.aload_n 0, 1) := by decide +kernel
theorem d_Reader_readNumber_5 : decode prog_5_method_7_code 5 = .ok (.getfield 33, 3) := by decide +kernel
theorem d_Reader_readNumber_8 : decode prog_5_method_7_code 8 = .ok (.iconst 2, 1) := by decide +kernel
theorem d_Reader_readNumber_9 : decode prog_5_method_7_code 9 = .ok (.if_icmp .eq 9, 3) := by decide +kernel
theorem d_Reader_readNumber_12 : decode prog_5_method_7_code 12 = .ok (.aload_n 0, 1) := by decide +kernel
theorem d_Reader_readNumber_13 : decode prog_5_method_7_code 13 = .ok (.iconst 1, 1) := by decide +kernel
theorem d_Reader_readNumber_14 : decode prog_5_method_7_code 14 = .ok (.invokevirtual 44, 3) := by decide +kernel
theorem d_Reader_readNumber_17 : decode prog_5_method_7_code 17 = .ok (.ireturn, 1) := by decide +kernel
theorem d_Reader_readNumber_18 : decode prog_5_method_7_code 18 = .ok (.aload_n 0, 1) := by decide +kernel
theorem d_Reader_readNumber_19 : decode prog_5_method_7_code 19 = .ok (.aload_n 0, 1) := by decide +kernel
theorem d_Reader_readNumber_20 : decode prog_5_method_7_code 20 = .ok (.invokevirtual 99, 3) := by decide +kernel
theorem d_Reader_readNumber_23 : decode prog_5_method_7_code 23 = .ok (.putfield 63, 3) := by decide +kernel
theorem d_Reader_readNumber_26 : decode prog_5_method_7_code 26 = .ok (.aload_n 0, 1) := by decide +kernel
theorem d_Reader_readNumber_27 : decode prog_5_method_7_code 27 = .ok (.getfield 63, 3) := by decide +kernel
theorem d_Reader_readNumber_30 : decode prog_5_method_7_code 30 = .ok (.iload_n 1, 1) := by decide +kernel
theorem d_Reader_readNumber_31 : decode prog_5_method_7_code 31 = .ok (.if_icmp .lt 11, 3) := by decide +kernel
theorem d_Reader_readNumber_34 : decode prog_5_method_7_code 34 = .ok (.aload_n 0, 1) := by decide +kernel
theorem d_Reader_readNumber_35 : decode prog_5_method_7_code 35 = .ok (.getfield 63, 3) := by decide +kernel
theorem d_Reader_readNumber_38 : decode prog_5_method_7_code 38 = .ok (.iload_n 2, 1) := by decide +kernel
theorem d_Reader_readNumber_39 : decode prog_5_method_7_code 39 = .ok (.if_icmp .le 11, 3) := by decide +kernel
theorem d_Reader_readNumber_42 : decode prog_5_method_7_code 42 = .ok (.aload_n 0, 1) := by decide +kernel
theorem d_Reader_readNumber_43 : decode prog_5_method_7_code 43 = .ok (.iconst 2, 1) := by decide +kernel
theorem d_Reader_readNumber_44 : decode prog_5_method_7_code 44 = .ok (.invokevirtual 44, 3) := by decide +kernel
theorem d_Reader_readNumber_47 : decode prog_5_method_7_code 47 = .ok (.ifCond .eq 7, 3) := by decide +kernel
theorem d_Reader_readNumber_50 : decode prog_5_method_7_code 50 = .ok (.iconst 1, 1) := by decide +kernel
theorem d_Reader_readNumber_51 : decode prog_5_method_7_code 51 = .ok (.goto 4, 3) := by decide +kernel
theorem d_Reader_readNumber_54 : decode prog_5_method_7_code 54 = .ok (.iconst 0, 1) := by decide +kernel
theorem d_Reader_readNumber_55 : decode prog_5_method_7_code 55 = .ok (.ireturn, 1) := by decide +kernel
theorem d_Reader_numberOfDigits_0 : decode prog_5_method_13_code 0 = .ok (.iconst 0, 1) := by decide +kernel
theorem d_Reader_numberOfDigits_1 : decode prog_5_method_13_code 1 = .ok (.istore_n 1, 1) := by decide +kernel
theorem d_Reader_numberOfDigits_2 : decode prog_5_method_13_code 2 = .ok (.aload_n 0, 1) := by decide +kernel
theorem d_Reader_numberOfDigits_3 : decode prog_5_method_13_code 3 = .ok (.getfield 105, 3) := by decide +kernel
theorem d_Reader_numberOfDigits_6 : decode prog_5_method_13_code 6 = .ok (.istore_n 2, 1) := by decide +kernel
theorem d_Reader_numberOfDigits_7 : decode prog_5_method_13_code 7 = .ok (.iload_n 2, 1) := by decide +kernel
theorem d_Reader_numberOfDigits_8 : decode prog_5_method_13_code 8 = .ok (.aload_n 0, 1) := by decide +kernel
theorem d_Reader_numberOfDigits_9 : decode prog_5_method_13_code 9 = .ok (.getfield 22, 3) := by decide +kernel
theorem d_Reader_numberOfDigits_12 : decode prog_5_method_13_code 12 = .ok (.if_icmp .ge 34, 3) := by decide +kernel
theorem d_Reader_numberOfDigits_15 : decode prog_5_method_13_code 15 = .ok (.iload_n 1, 1) := by decide +kernel
theorem d_Reader_numberOfDigits_16 : decode prog_5_method_13_code 16 = .ok (.sipush 9999, 3) := by decide +kernel
theorem d_Reader_numberOfDigits_19 : decode prog_5_method_13_code 19 = .ok (.if_icmp .gt 27, 3) := by decide +kernel
theorem d_Reader_numberOfDigits_22 : decode prog_5_method_13_code 22 = .ok (.iload_n 1, 1) := by decide +kernel
theorem d_Reader_numberOfDigits_23 : decode prog_5_method_13_code 23 = .ok (.bipush 10, 2) := by decide +kernel
theorem d_Reader_numberOfDigits_25 : decode prog_5_method_13_code 25 = .ok (.imul, 1) := by decide +kernel
theorem d_Reader_numberOfDigits_26 : decode prog_5_method_13_code 26 = .ok (.aload_n 0, 1) := by decide +kernel
theorem d_Reader_numberOfDigits_27 : decode prog_5_method_13_code 27 = .ok (.getfield 18, 3) := by decide +kernel
theorem d_Reader_numberOfDigits_30 : decode prog_5_method_13_code 30 = .ok (.getfield 113, 3) := by decide +kernel
theorem d_Reader_numberOfDigits_33 : decode prog_5_method_13_code 33 = .ok (.iload_n 2, 1) := by decide +kernel
theorem d_Reader_numberOfDigits_34 : decode prog_5_method_13_code 34 = .ok (.baload, 1) := by decide +kernel
theorem d_Reader_numberOfDigits_35 : decode prog_5_method_13_code 35 = .ok (.iadd, 1) := by decide +kernel
theorem d_Reader_numberOfDigits_36 : decode prog_5_method_13_code 36 = .ok (.bipush 48, 2) := by decide +kernel
theorem d_Reader_numberOfDigits_38 : decode prog_5_method_13_code 38 = .ok (.isub, 1) := by decide +kernel
theorem d_Reader_numberOfDigits_39 : decode prog_5_method_13_code 39 = .ok (.istore_n 1, 1) := by decide +kernel
theorem d_Reader_numberOfDigits_40 : decode prog_5_method_13_code 40 = .ok (.iinc 2 1, 3) := by decide +kernel
theorem d_Reader_numberOfDigits_43 : decode prog_5_method_13_code 43 = .ok (.goto (-36), 3) := by decide +kernel
theorem d_Reader_numberOfDigits_46 : decode prog_5_method_13_code 46 = .ok (.iload_n 1, 1) := by decide +kernel
theorem d_Reader_numberOfDigits_47 : decode prog_5_method_13_code 47 = .ok (.ireturn, 1) := by decide +kernel
theorem d_Reader_readSemicolon_0 : decode prog_5_method_9_code 0 = .ok (.aload_n 0, 1) := by decide +kernel
theorem d_Reader_readSemicolon_1 : decode prog_5_method_9_code 1 = .ok (.invokevirtual 30, 3) := by decide +kernel
theorem d_Reader_readSemicolon_4 : decode prog_5_method_9_code 4 = .ok (.aload_n 0, 1) := by decide +kernel
theorem d_Reader_readSemicolon_5 : decode prog_5_method_9_code 5 = .ok (.getfield 33, 3) := by decide +kernel
theorem d_Reader_readSemicolon_8 : decode prog_5_method_9_code 8 = .ok (.iconst 3, 1) := by decide +kernel
theorem d_Reader_readSemicolon_9 : decode prog_5_method_9_code 9 = .ok (.if_icmp .eq 11, 3) := by decide +kernel
theorem d_Reader_readSemicolon_12 : decode prog_5_method_9_code 12 = .ok (.aload_n 0, 1) := by decide +kernel
theorem d_Reader_readSemicolon_13 : decode prog_5_method_9_code 13 = .ok (.iconst 1, 1) := by decide +kernel
theorem d_Reader_readSemicolon_14 : decode prog_5_method_9_code 14 = .ok (.invokevirtual 44, 3) := by decide +kernel
theorem d_Reader_readSemicolon_17 : decode prog_5_method_9_code 17 = .ok (.ifCond .eq 7, 3) := by decide +kernel
theorem d_Reader_readSemicolon_20 : decode prog_5_method_9_code 20 = .ok (.iconst 1, 1) := by decide +kernel
theorem d_Reader_readSemicolon_21 : decode prog_5_method_9_code 21 = .ok (.goto 4, 3) := by decide +kernel
theorem d_Reader_readSemicolon_24 : decode prog_5_method_9_code 24 = .ok (.iconst 0, 1) := by decide +kernel
theorem d_Reader_readSemicolon_25 : decode prog_5_method_9_code 25 = .ok (.ireturn, 1) := by decide +kernel
theorem d_Reader_readArgument_0 : decode prog_5_method_5_code 0 = .ok (.aload_n 0, 1) := by decide +kernel
theorem d_Reader_readArgument_1 : decode prog_5_method_5_code 1 = .ok (.iconst 0, 1) := by decide +kernel
theorem d_Reader_readArgument_2 : decode prog_5_method_5_code 2 = .ok (.putfield 63, 3) := by decide +kernel
theorem d_Reader_readArgument_5 : decode prog_5_method_5_code 5 = .ok (.iload_n 2, 1) := by decide +kernel
theorem d_Reader_readArgument_6 : decode prog_5_method_5_code 6 = .ok (.bipush 6, 2) := by decide +kernel
theorem d_Reader_readArgument_8 : decode prog_5_method_5_code 8 = .ok (.if_icmp .ge 9, 3) := by decide +kernel
theorem d_Reader_readArgument_11 : decode prog_5_method_5_code 11 = .ok (.aload_n 0, 1) := by decide +kernel
theorem d_Reader_readArgument_12 : decode prog_5_method_5_code 12 = .ok (.aload_n 1, 1) := by decide +kernel
theorem d_Reader_readArgument_13 : decode prog_5_method_5_code 13 = .ok (.invokevirtual 96, 3) := by decide +kernel
theorem d_Reader_readArgument_16 : decode prog_5_method_5_code 16 = .ok (.ireturn, 1) := by decide +kernel
theorem d_Reader_readArgument_17 : decode prog_5_method_5_code 17 = .ok (.iload_n 2, 1) := by decide +kernel
theorem d_Reader_readArgument_18 : decode prog_5_method_5_code 18 = .ok (.bipush 8, 2) := by decide +kernel
theorem d_Reader_readArgument_20 : decode prog_5_method_5_code 20 = .ok (.if_icmp .ne 13, 3) := by decide +kernel
theorem d_Reader_readArgument_23 : decode prog_5_method_5_code 23 = .ok (.aload_n 0, 1) := by decide +kernel
theorem d_Reader_readArgument_24 : decode prog_5_method_5_code 24 = .ok (.iconst 1, 1) := by decide +kernel
theorem d_Reader_readArgument_25 : decode prog_5_method_5_code 25 = .ok (.bipush 9, 2) := by decide +kernel
theorem d_Reader_readArgument_27 : decode prog_5_method_5_code 27 = .ok (.invokevirtual 84, 3) := by decide +kernel
theorem d_Reader_readArgument_30 : decode prog_5_method_5_code 30 = .ok (.ifCond .eq 7, 3) := by decide +kernel
theorem d_Reader_readArgument_33 : decode prog_5_method_5_code 33 = .ok (.iconst 1, 1) := by decide +kernel
theorem d_Reader_readArgument_34 : decode prog_5_method_5_code 34 = .ok (.goto 4, 3) := by decide +kernel
theorem d_Reader_readArgument_37 : decode prog_5_method_5_code 37 = .ok (.iconst 0, 1) := by decide +kernel
theorem d_Reader_readArgument_38 : decode prog_5_method_5_code 38 = .ok (.ireturn, 1) := by decide +kernel
theorem d_Reader_readX_0 : decode prog_5_method_6_code 0 = .ok (.aload_n 0, 1) := by decide +kernel
theorem d_Reader_readX_1 : decode prog_5_method_6_code 1 = .ok (.invokevirtual 30, 3) := by decide +kernel
theorem d_Reader_readX_4 : decode prog_5_method_6_code 4 = .ok (.aload_n 0, 1) := by decide +kernel
theorem d_Reader_readX_5 : decode prog_5_method_6_code 5 = .ok (.getfield 33, 3) := by decide +kernel
theorem d_Reader_readX_8 : decode prog_5_method_6_code 8 = .ok (.iconst 2, 1) := by decide +kernel
theorem d_Reader_readX_9 : decode prog_5_method_6_code 9 = .ok (.if_icmp .ne 35, 3) := by decide +kernel
theorem d_Reader_readX_12 : decode prog_5_method_6_code 12 = .ok (.aload_n 0, 1) := by decide +kernel
theorem d_Reader_readX_13 : decode prog_5_method_6_code 13 = .ok (.aload_n 0, 1) := by decide +kernel
theorem d_Reader_readX_14 : decode prog_5_method_6_code 14 = .ok (.invokevirtual 99, 3) := by decide +kernel
theorem d_Reader_readX_17 : decode prog_5_method_6_code 17 = .ok (.putfield 63, 3) := by decide +kernel
theorem d_Reader_readX_20 : decode prog_5_method_6_code 20 = .ok (.aload_n 0, 1) := by decide +kernel
theorem d_Reader_readX_21 : decode prog_5_method_6_code 21 = .ok (.getfield 63, 3) := by decide +kernel
theorem d_Reader_readX_24 : decode prog_5_method_6_code 24 = .ok (.sipush 9999, 3) := by decide +kernel
theorem d_Reader_readX_27 : decode prog_5_method_6_code 27 = .ok (.if_icmp .le 11, 3) := by decide +kernel
theorem d_Reader_readX_30 : decode prog_5_method_6_code 30 = .ok (.aload_n 0, 1) := by decide +kernel
theorem d_Reader_readX_31 : decode prog_5_method_6_code 31 = .ok (.iconst 2, 1) := by decide +kernel
theorem d_Reader_readX_32 : decode prog_5_method_6_code 32 = .ok (.invokevirtual 44, 3) := by decide +kernel
theorem d_Reader_readX_35 : decode prog_5_method_6_code 35 = .ok (.ifCond .eq 7, 3) := by decide +kernel
theorem d_Reader_readX_38 : decode prog_5_method_6_code 38 = .ok (.iconst 1, 1) := by decide +kernel
theorem d_Reader_readX_39 : decode prog_5_method_6_code 39 = .ok (.goto 4, 3) := by decide +kernel
theorem d_Reader_readX_42 : decode prog_5_method_6_code 42 = .ok (.iconst 0, 1) := by decide +kernel
theorem d_Reader_readX_43 : decode prog_5_method_6_code 43 = .ok (.ireturn, 1) := by decide +kernel
theorem d_Reader_readX_44 : decode prog_5_method_6_code 44 = .ok (.aload_n 0, 1) := by decide +kernel
theorem d_Reader_readX_45 : decode prog_5_method_6_code 45 = .ok (.invokevirtual 72, 3) := by decide +kernel
theorem d_Reader_readX_48 : decode prog_5_method_6_code 48 = .ok (.istore_n 2, 1) := by decide +kernel
theorem d_Reader_readX_49 : decode prog_5_method_6_code 49 = .ok (.iload_n 2, 1) := by decide +kernel
theorem d_Reader_readX_50 : decode prog_5_method_6_code 50 = .ok (.iconst (-1), 1) := by decide +kernel
theorem d_Reader_readX_51 : decode prog_5_method_6_code 51 = .ok (.if_icmp .ne 9, 3) := by decide +kernel
theorem d_Reader_readX_54 : decode prog_5_method_6_code 54 = .ok (.aload_n 0, 1) := by decide +kernel
theorem d_Reader_readX_55 : decode prog_5_method_6_code 55 = .ok (.iconst 1, 1) := by decide +kernel
theorem d_Reader_readX_56 : decode prog_5_method_6_code 56 = .ok (.invokevirtual 44, 3) := by decide +kernel
theorem d_Reader_readX_59 : decode prog_5_method_6_code 59 = .ok (.ireturn, 1) := by decide +kernel
theorem d_Reader_readX_60 : decode prog_5_method_6_code 60 = .ok (.aload_n 0, 1) := by decide +kernel
theorem d_Reader_readX_61 : decode prog_5_method_6_code 61 = .ok (.sipush 10000, 3) := by decide +kernel
theorem d_Reader_readX_64 : decode prog_5_method_6_code 64 = .ok (.iload_n 2, 1) := by decide +kernel
theorem d_Reader_readX_65 : decode prog_5_method_6_code 65 = .ok (.iadd, 1) := by decide +kernel
theorem d_Reader_readX_66 : decode prog_5_method_6_code 66 = .ok (.putfield 63, 3) := by decide +kernel
theorem d_Reader_readX_69 : decode prog_5_method_6_code 69 = .ok (.aload_n 1, 1) := by decide +kernel
theorem d_Reader_readX_70 : decode prog_5_method_6_code 70 = .ok (.iload_n 2, 1) := by decide +kernel
theorem d_Reader_readX_71 : decode prog_5_method_6_code 71 = .ok (.invokevirtual 75, 3) := by decide +kernel
theorem d_Reader_readX_74 : decode prog_5_method_6_code 74 = .ok (.ifCond .ne 11, 3) := by decide +kernel
theorem d_Reader_readX_77 : decode prog_5_method_6_code 77 = .ok (.aload_n 0, 1) := by decide +kernel
theorem d_Reader_readX_78 : decode prog_5_method_6_code 78 = .ok (.iconst 4, 1) := by decide +kernel
theorem d_Reader_readX_79 : decode prog_5_method_6_code 79 = .ok (.invokevirtual 44, 3) := by decide +kernel
theorem d_Reader_readX_82 : decode prog_5_method_6_code 82 = .ok (.ifCond .eq 7, 3) := by decide +kernel
theorem d_Reader_readX_85 : decode prog_5_method_6_code 85 = .ok (.iconst 1, 1) := by decide +kernel
theorem d_Reader_readX_86 : decode prog_5_method_6_code 86 = .ok (.goto 4, 3) := by decide +kernel
theorem d_Reader_readX_89 : decode prog_5_method_6_code 89 = .ok (.iconst 0, 1) := by decide +kernel
theorem d_Reader_readX_90 : decode prog_5_method_6_code 90 = .ok (.ireturn, 1) := by decide +kernel
theorem d_Orders_add_0 : decode prog_3_method_3_code 0 = .ok (.aload_n 0, 1) := by decide +kernel
theorem d_Orders_add_1 : decode prog_3_method_3_code 1 = .ok (.getfield 18, 3) := by decide +kernel
theorem d_Orders_add_4 : decode prog_3_method_3_code 4 = .ok (.aload_n 0, 1) := by decide +kernel
theorem d_Orders_add_5 : decode prog_3_method_3_code 5 = .ok (.getfield 9, 3) := by decide +kernel
theorem d_Orders_add_8 : decode prog_3_method_3_code 8 = .ok (.arraylength, 1) := by decide +kernel
theorem d_Orders_add_9 : decode prog_3_method_3_code 9 = .ok (.if_icmp .lt 5, 3) := by decide +kernel
theorem d_Orders_add_12 : decode prog_3_method_3_code 12 = .ok (.iconst 0, 1) := by decide +kernel
theorem d_Orders_add_13 : decode prog_3_method_3_code 13 = .ok (.ireturn, 1) := by decide +kernel
theorem d_Orders_add_14 : decode prog_3_method_3_code 14 = .ok (.aload_n 0, 1) := by decide +kernel
theorem d_Orders_add_15 : decode prog_3_method_3_code 15 = .ok (.getfield 9, 3) := by decide +kernel
theorem d_Orders_add_18 : decode prog_3_method_3_code 18 = .ok (.aload_n 0, 1) := by decide +kernel
theorem d_Orders_add_19 : decode prog_3_method_3_code 19 = .ok (.getfield 18, 3) := by decide +kernel
theorem d_Orders_add_22 : decode prog_3_method_3_code 22 = .ok (.iload_n 1, 1) := by decide +kernel
theorem d_Orders_add_23 : decode prog_3_method_3_code 23 = .ok (.iastore, 1) := by decide +kernel
theorem d_Orders_add_24 : decode prog_3_method_3_code 24 = .ok (.aload_n 0, 1) := by decide +kernel
theorem d_Orders_add_25 : decode prog_3_method_3_code 25 = .ok (.getfield 15, 3) := by decide +kernel
theorem d_Orders_add_28 : decode prog_3_method_3_code 28 = .ok (.aload_n 0, 1) := by decide +kernel
theorem d_Orders_add_29 : decode prog_3_method_3_code 29 = .ok (.getfield 18, 3) := by decide +kernel
theorem d_Orders_add_32 : decode prog_3_method_3_code 32 = .ok (.iload_n 2, 1) := by decide +kernel
theorem d_Orders_add_33 : decode prog_3_method_3_code 33 = .ok (.iastore, 1) := by decide +kernel
theorem d_Orders_add_34 : decode prog_3_method_3_code 34 = .ok (.aload_n 0, 1) := by decide +kernel
theorem d_Orders_add_35 : decode prog_3_method_3_code 35 = .ok (.dup, 1) := by decide +kernel
theorem d_Orders_add_36 : decode prog_3_method_3_code 36 = .ok (.getfield 18, 3) := by decide +kernel
theorem d_Orders_add_39 : decode prog_3_method_3_code 39 = .ok (.iconst 1, 1) := by decide +kernel
theorem d_Orders_add_40 : decode prog_3_method_3_code 40 = .ok (.iadd, 1) := by decide +kernel
theorem d_Orders_add_41 : decode prog_3_method_3_code 41 = .ok (.putfield 18, 3) := by decide +kernel
theorem d_Orders_add_44 : decode prog_3_method_3_code 44 = .ok (.iconst 1, 1) := by decide +kernel
theorem d_Orders_add_45 : decode prog_3_method_3_code 45 = .ok (.ireturn, 1) := by decide +kernel
theorem d_A_fault_0 : decode prog_1_method_6_code 0 = .ok (.iload_n 1, 1) := by decide +kernel
theorem d_A_fault_1 : decode prog_1_method_6_code 1 = .ok (.ifCond .ne 11, 3) := by decide +kernel
theorem d_A_fault_4 : decode prog_1_method_6_code 4 = .ok (.aload_n 0, 1) := by decide +kernel
theorem d_A_fault_5 : decode prog_1_method_6_code 5 = .ok (.getfield 21, 3) := by decide +kernel
theorem d_A_fault_8 : decode prog_1_method_6_code 8 = .ok (.getfield 109, 3) := by decide +kernel
theorem d_A_fault_11 : decode prog_1_method_6_code 11 = .ok (.ireturn, 1) := by decide +kernel
theorem d_A_fault_12 : decode prog_1_method_6_code 12 = .ok (.iload_n 1, 1) := by decide +kernel
theorem d_A_fault_13 : decode prog_1_method_6_code 13 = .ok (.iconst 1, 1) := by decide +kernel
theorem d_A_fault_14 : decode prog_1_method_6_code 14 = .ok (.if_icmp .ne 13, 3) := by decide +kernel
theorem d_A_fault_17 : decode prog_1_method_6_code 17 = .ok (.aload_n 0, 1) := by decide +kernel
theorem d_A_fault_18 : decode prog_1_method_6_code 18 = .ok (.getfield 21, 3) := by decide +kernel
theorem d_A_fault_21 : decode prog_1_method_6_code 21 = .ok (.getfield 112, 3) := by decide +kernel
theorem d_A_fault_24 : decode prog_1_method_6_code 24 = .ok (.goto 4, 3) := by decide +kernel
theorem d_A_fault_27 : decode prog_1_method_6_code 27 = .ok (.iconst (-1), 1) := by decide +kernel
theorem d_A_fault_28 : decode prog_1_method_6_code 28 = .ok (.ireturn, 1) := by decide +kernel
theorem d_A_order_0 : decode prog_1_method_7_code 0 = .ok (.aload_n 0, 1) := by decide +kernel
theorem d_A_order_1 : decode prog_1_method_7_code 1 = .ok (.iload_n 1, 1) := by decide +kernel
theorem d_A_order_2 : decode prog_1_method_7_code 2 = .ok (.invokevirtual 115, 3) := by decide +kernel
theorem d_A_order_5 : decode prog_1_method_7_code 5 = .ok (.astore 4, 2) := by decide +kernel
theorem d_A_order_7 : decode prog_1_method_7_code 7 = .ok (.aload 4, 2) := by decide +kernel
theorem d_A_order_9 : decode prog_1_method_7_code 9 = .ok (.ifnonnull 5, 3) := by decide +kernel
theorem d_A_order_12 : decode prog_1_method_7_code 12 = .ok (.iconst (-1), 1) := by decide +kernel
theorem d_A_order_13 : decode prog_1_method_7_code 13 = .ok (.ireturn, 1) := by decide +kernel
theorem d_A_order_14 : decode prog_1_method_7_code 14 = .ok (.iload_n 2, 1) := by decide +kernel
theorem d_A_order_15 : decode prog_1_method_7_code 15 = .ok (.iconst (-1), 1) := by decide +kernel
theorem d_A_order_16 : decode prog_1_method_7_code 16 = .ok (.if_icmp .ne 12, 3) := by decide +kernel
theorem d_A_order_19 : decode prog_1_method_7_code 19 = .ok (.aload 4, 2) := by decide +kernel
theorem d_A_order_21 : decode prog_1_method_7_code 21 = .ok (.getfield 119, 3) := by decide +kernel
theorem d_A_order_24 : decode prog_1_method_7_code 24 = .ok (.getfield 123, 3) := by decide +kernel
theorem d_A_order_27 : decode prog_1_method_7_code 27 = .ok (.ireturn, 1) := by decide +kernel
theorem d_A_order_28 : decode prog_1_method_7_code 28 = .ok (.aload 4, 2) := by decide +kernel
theorem d_A_order_30 : decode prog_1_method_7_code 30 = .ok (.getfield 119, 3) := by decide +kernel
theorem d_A_order_33 : decode prog_1_method_7_code 33 = .ok (.iload_n 2, 1) := by decide +kernel
theorem d_A_order_34 : decode prog_1_method_7_code 34 = .ok (.invokevirtual 128, 3) := by decide +kernel
theorem d_A_order_37 : decode prog_1_method_7_code 37 = .ok (.ifCond .ne 5, 3) := by decide +kernel
theorem d_A_order_40 : decode prog_1_method_7_code 40 = .ok (.iconst (-1), 1) := by decide +kernel
theorem d_A_order_41 : decode prog_1_method_7_code 41 = .ok (.ireturn, 1) := by decide +kernel
theorem d_A_order_42 : decode prog_1_method_7_code 42 = .ok (.iload_n 3, 1) := by decide +kernel
theorem d_A_order_43 : decode prog_1_method_7_code 43 = .ok (.ifCond .eq 16, 3) := by decide +kernel
theorem d_A_order_46 : decode prog_1_method_7_code 46 = .ok (.aload 4, 2) := by decide +kernel
theorem d_A_order_48 : decode prog_1_method_7_code 48 = .ok (.getfield 119, 3) := by decide +kernel
theorem d_A_order_51 : decode prog_1_method_7_code 51 = .ok (.getfield 131, 3) := by decide +kernel
theorem d_A_order_54 : decode prog_1_method_7_code 54 = .ok (.iload_n 2, 1) := by decide +kernel
theorem d_A_order_55 : decode prog_1_method_7_code 55 = .ok (.iaload, 1) := by decide +kernel
theorem d_A_order_56 : decode prog_1_method_7_code 56 = .ok (.goto 13, 3) := by decide +kernel
theorem d_A_order_59 : decode prog_1_method_7_code 59 = .ok (.aload 4, 2) := by decide +kernel
theorem d_A_order_61 : decode prog_1_method_7_code 61 = .ok (.getfield 119, 3) := by decide +kernel
theorem d_A_order_64 : decode prog_1_method_7_code 64 = .ok (.getfield 134, 3) := by decide +kernel
theorem d_A_order_67 : decode prog_1_method_7_code 67 = .ok (.iload_n 2, 1) := by decide +kernel
theorem d_A_order_68 : decode prog_1_method_7_code 68 = .ok (.iaload, 1) := by decide +kernel
theorem d_A_order_69 : decode prog_1_method_7_code 69 = .ok (.ireturn, 1) := by decide +kernel
theorem d_A_find_0 : decode prog_1_method_34_code 0 = .ok (.iload_n 1, 1) := by decide +kernel
theorem d_A_find_1 : decode prog_1_method_34_code 1 = .ok (.ifCond .lt 28, 3) := by decide +kernel
theorem d_A_find_4 : decode prog_1_method_34_code 4 = .ok (.iload_n 1, 1) := by decide +kernel
theorem d_A_find_5 : decode prog_1_method_34_code 5 = .ok (.aload_n 0, 1) := by decide +kernel
theorem d_A_find_6 : decode prog_1_method_34_code 6 = .ok (.getfield 35, 3) := by decide +kernel
theorem d_A_find_9 : decode prog_1_method_34_code 9 = .ok (.getfield 103, 3) := by decide +kernel
theorem d_A_find_12 : decode prog_1_method_34_code 12 = .ok (.if_icmp .ge 17, 3) := by decide +kernel
theorem d_A_find_15 : decode prog_1_method_34_code 15 = .ok (.iload_n 1, 1) := by decide +kernel
theorem d_A_find_16 : decode prog_1_method_34_code 16 = .ok (.iconst 4, 1) := by decide +kernel
theorem d_A_find_17 : decode prog_1_method_34_code 17 = .ok (.if_icmp .ge 12, 3) := by decide +kernel
theorem d_A_find_20 : decode prog_1_method_34_code 20 = .ok (.aload_n 0, 1) := by decide +kernel
theorem d_A_find_21 : decode prog_1_method_34_code 21 = .ok (.getfield 27, 3) := by decide +kernel
theorem d_A_find_24 : decode prog_1_method_34_code 24 = .ok (.iload_n 1, 1) := by decide +kernel
theorem d_A_find_25 : decode prog_1_method_34_code 25 = .ok (.aaload, 1) := by decide +kernel
theorem d_A_find_26 : decode prog_1_method_34_code 26 = .ok (.goto 4, 3) := by decide +kernel
theorem d_A_find_29 : decode prog_1_method_34_code 29 = .ok (.aconst_null, 1) := by decide +kernel
theorem d_A_find_30 : decode prog_1_method_34_code 30 = .ok (.areturn, 1) := by decide +kernel
theorem d_Orders_has_0 : decode prog_3_method_2_code 0 = .ok (.iload_n 1, 1) := by decide +kernel
theorem d_Orders_has_1 : decode prog_3_method_2_code 1 = .ok (.ifCond .lt 15, 3) := by decide +kernel
theorem d_Orders_has_4 : decode prog_3_method_2_code 4 = .ok (.iload_n 1, 1) := by decide +kernel
theorem d_Orders_has_5 : decode prog_3_method_2_code 5 = .ok (.aload_n 0, 1) := by decide +kernel
theorem d_Orders_has_6 : decode prog_3_method_2_code 6 = .ok (.getfield 18, 3) := by decide +kernel
theorem d_Orders_has_9 : decode prog_3_method_2_code 9 = .ok (.if_icmp .ge 7, 3) := by decide +kernel
theorem d_Orders_has_12 : decode prog_3_method_2_code 12 = .ok (.iconst 1, 1) := by decide +kernel
theorem d_Orders_has_13 : decode prog_3_method_2_code 13 = .ok (.goto 4, 3) := by decide +kernel
theorem d_Orders_has_16 : decode prog_3_method_2_code 16 = .ok (.iconst 0, 1) := by decide +kernel
theorem d_Orders_has_17 : decode prog_3_method_2_code 17 = .ok (.ireturn, 1) := by decide +kernel
theorem d_A_span_0 : decode prog_1_method_8_code 0 = .ok (.aload_n 0, 1) := by decide +kernel
theorem d_A_span_1 : decode prog_1_method_8_code 1 = .ok (.iload_n 1, 1) := by decide +kernel
theorem d_A_span_2 : decode prog_1_method_8_code 2 = .ok (.invokevirtual 115, 3) := by decide +kernel
theorem d_A_span_5 : decode prog_1_method_8_code 5 = .ok (.astore 4, 2) := by decide +kernel
theorem d_A_span_7 : decode prog_1_method_8_code 7 = .ok (.aload 4, 2) := by decide +kernel
theorem d_A_span_9 : decode prog_1_method_8_code 9 = .ok (.ifnull 10, 3) := by decide +kernel
theorem d_A_span_12 : decode prog_1_method_8_code 12 = .ok (.iload_n 2, 1) := by decide +kernel
theorem d_A_span_13 : decode prog_1_method_8_code 13 = .ok (.invokestatic 137, 3) := by decide +kernel
theorem d_A_span_16 : decode prog_1_method_8_code 16 = .ok (.ifCond .ne 5, 3) := by decide +kernel
theorem d_A_span_19 : decode prog_1_method_8_code 19 = .ok (.iconst (-1), 1) := by decide +kernel
theorem d_A_span_20 : decode prog_1_method_8_code 20 = .ok (.ireturn, 1) := by decide +kernel
theorem d_A_span_21 : decode prog_1_method_8_code 21 = .ok (.iload_n 3, 1) := by decide +kernel
theorem d_A_span_22 : decode prog_1_method_8_code 22 = .ok (.ifCond .eq 13, 3) := by decide +kernel
theorem d_A_span_25 : decode prog_1_method_8_code 25 = .ok (.aload 4, 2) := by decide +kernel
theorem d_A_span_27 : decode prog_1_method_8_code 27 = .ok (.getfield 140, 3) := by decide +kernel
theorem d_A_span_30 : decode prog_1_method_8_code 30 = .ok (.iload_n 2, 1) := by decide +kernel
theorem d_A_span_31 : decode prog_1_method_8_code 31 = .ok (.iaload, 1) := by decide +kernel
theorem d_A_span_32 : decode prog_1_method_8_code 32 = .ok (.goto 10, 3) := by decide +kernel
theorem d_A_span_35 : decode prog_1_method_8_code 35 = .ok (.aload 4, 2) := by decide +kernel
theorem d_A_span_37 : decode prog_1_method_8_code 37 = .ok (.getfield 143, 3) := by decide +kernel
theorem d_A_span_40 : decode prog_1_method_8_code 40 = .ok (.iload_n 2, 1) := by decide +kernel
theorem d_A_span_41 : decode prog_1_method_8_code 41 = .ok (.iaload, 1) := by decide +kernel
theorem d_A_span_42 : decode prog_1_method_8_code 42 = .ok (.ireturn, 1) := by decide +kernel
theorem d_A_comes_0 : decode prog_1_method_9_code 0 = .ok (.aload_n 0, 1) := by decide +kernel
theorem d_A_comes_1 : decode prog_1_method_9_code 1 = .ok (.iload_n 1, 1) := by decide +kernel
theorem d_A_comes_2 : decode prog_1_method_9_code 2 = .ok (.invokevirtual 115, 3) := by decide +kernel
theorem d_A_comes_5 : decode prog_1_method_9_code 5 = .ok (.astore 4, 2) := by decide +kernel
theorem d_A_comes_7 : decode prog_1_method_9_code 7 = .ok (.aload 4, 2) := by decide +kernel
theorem d_A_comes_9 : decode prog_1_method_9_code 9 = .ok (.ifnull 20, 3) := by decide +kernel
theorem d_A_comes_12 : decode prog_1_method_9_code 12 = .ok (.iload_n 2, 1) := by decide +kernel
theorem d_A_comes_13 : decode prog_1_method_9_code 13 = .ok (.iconst (-1), 1) := by decide +kernel
theorem d_A_comes_14 : decode prog_1_method_9_code 14 = .ok (.if_icmp .eq 19, 3) := by decide +kernel
theorem d_A_comes_17 : decode prog_1_method_9_code 17 = .ok (.aload 4, 2) := by decide +kernel
theorem d_A_comes_19 : decode prog_1_method_9_code 19 = .ok (.getfield 119, 3) := by decide +kernel
theorem d_A_comes_22 : decode prog_1_method_9_code 22 = .ok (.iload_n 2, 1) := by decide +kernel
theorem d_A_comes_23 : decode prog_1_method_9_code 23 = .ok (.invokevirtual 128, 3) := by decide +kernel
theorem d_A_comes_26 : decode prog_1_method_9_code 26 = .ok (.ifCond .ne 7, 3) := by decide +kernel
theorem d_A_comes_29 : decode prog_1_method_9_code 29 = .ok (.ldc2_w 146, 3) := by decide +kernel
theorem d_A_comes_32 : decode prog_1_method_9_code 32 = .ok (.lreturn, 1) := by decide +kernel
theorem d_A_comes_33 : decode prog_1_method_9_code 33 = .ok (.iload_n 2, 1) := by decide +kernel
theorem d_A_comes_34 : decode prog_1_method_9_code 34 = .ok (.iconst 1, 1) := by decide +kernel
theorem d_A_comes_35 : decode prog_1_method_9_code 35 = .ok (.iadd, 1) := by decide +kernel
theorem d_A_comes_36 : decode prog_1_method_9_code 36 = .ok (.istore 5, 2) := by decide +kernel
theorem d_A_comes_38 : decode prog_1_method_9_code 38 = .ok (.aload 4, 2) := by decide +kernel
theorem d_A_comes_40 : decode prog_1_method_9_code 40 = .ok (.iload 5, 2) := by decide +kernel
theorem d_A_comes_42 : decode prog_1_method_9_code 42 = .ok (.aload_n 0, 1) := by decide +kernel
theorem d_A_comes_43 : decode prog_1_method_9_code 43 = .ok (.getfield 35, 3) := by decide +kernel
theorem d_A_comes_46 : decode prog_1_method_9_code 46 = .ok (.getfield 88, 3) := by decide +kernel
theorem d_A_comes_49 : decode prog_1_method_9_code 49 = .ok (.aload_n 0, 1) := by decide +kernel
theorem d_A_comes_50 : decode prog_1_method_9_code 50 = .ok (.getfield 45, 3) := by decide +kernel
theorem d_A_comes_53 : decode prog_1_method_9_code 53 = .ok (.invokevirtual 148, 3) := by decide +kernel
theorem d_A_comes_56 : decode prog_1_method_9_code 56 = .ok (.iload 5, 2) := by decide +kernel
theorem d_A_comes_58 : decode prog_1_method_9_code 58 = .ok (.if_icmp .ne 14, 3) := by decide +kernel
theorem d_A_comes_61 : decode prog_1_method_9_code 61 = .ok (.aload_n 0, 1) := by decide +kernel
theorem d_A_comes_62 : decode prog_1_method_9_code 62 = .ok (.getfield 45, 3) := by decide +kernel
theorem d_A_comes_65 : decode prog_1_method_9_code 65 = .ok (.iload_n 3, 1) := by decide +kernel
theorem d_A_comes_66 : decode prog_1_method_9_code 66 = .ok (.invokevirtual 152, 3) := by decide +kernel
theorem d_A_comes_69 : decode prog_1_method_9_code 69 = .ok (.goto 6, 3) := by decide +kernel
theorem d_A_comes_72 : decode prog_1_method_9_code 72 = .ok (.ldc2_w 146, 3) := by decide +kernel
theorem d_A_comes_75 : decode prog_1_method_9_code 75 = .ok (.lreturn, 1) := by decide +kernel
theorem d_Table_run_0 : decode prog_8_method_5_code 0 = .ok (.iload_n 1, 1) := by decide +kernel
theorem d_Table_run_1 : decode prog_8_method_5_code 1 = .ok (.aload_n 0, 1) := by decide +kernel
theorem d_Table_run_2 : decode prog_8_method_5_code 2 = .ok (.getfield 14, 3) := by decide +kernel
theorem d_Table_run_5 : decode prog_8_method_5_code 5 = .ok (.getfield 27, 3) := by decide +kernel
theorem d_Table_run_8 : decode prog_8_method_5_code 8 = .ok (.invokestatic 50, 3) := by decide +kernel
theorem d_Table_run_11 : decode prog_8_method_5_code 11 = .ok (.istore 4, 2) := by decide +kernel
theorem d_Table_run_13 : decode prog_8_method_5_code 13 = .ok (.aload_n 0, 1) := by decide +kernel
theorem d_Table_run_14 : decode prog_8_method_5_code 14 = .ok (.aload_n 3, 1) := by decide +kernel
theorem d_Table_run_15 : decode prog_8_method_5_code 15 = .ok (.aload_n 2, 1) := by decide +kernel
theorem d_Table_run_16 : decode prog_8_method_5_code 16 = .ok (.invokevirtual 56, 3) := by decide +kernel
theorem d_Table_run_19 : decode prog_8_method_5_code 19 = .ok (.iconst 0, 1) := by decide +kernel
theorem d_Table_run_20 : decode prog_8_method_5_code 20 = .ok (.istore 5, 2) := by decide +kernel
theorem d_Table_run_22 : decode prog_8_method_5_code 22 = .ok (.iload 5, 2) := by decide +kernel
theorem d_Table_run_24 : decode prog_8_method_5_code 24 = .ok (.iload 4, 2) := by decide +kernel
theorem d_Table_run_26 : decode prog_8_method_5_code 26 = .ok (.if_icmp .ge 39, 3) := by decide +kernel
theorem d_Table_run_29 : decode prog_8_method_5_code 29 = .ok (.aload_n 3, 1) := by decide +kernel
theorem d_Table_run_30 : decode prog_8_method_5_code 30 = .ok (.aload_n 0, 1) := by decide +kernel
theorem d_Table_run_31 : decode prog_8_method_5_code 31 = .ok (.getfield 14, 3) := by decide +kernel
theorem d_Table_run_34 : decode prog_8_method_5_code 34 = .ok (.getfield 60, 3) := by decide +kernel
theorem d_Table_run_37 : decode prog_8_method_5_code 37 = .ok (.iload 5, 2) := by decide +kernel
theorem d_Table_run_39 : decode prog_8_method_5_code 39 = .ok (.iaload, 1) := by decide +kernel
theorem d_Table_run_40 : decode prog_8_method_5_code 40 = .ok (.aload_n 0, 1) := by decide +kernel
theorem d_Table_run_41 : decode prog_8_method_5_code 41 = .ok (.getfield 14, 3) := by decide +kernel
theorem d_Table_run_44 : decode prog_8_method_5_code 44 = .ok (.iload 5, 2) := by decide +kernel
theorem d_Table_run_46 : decode prog_8_method_5_code 46 = .ok (.aload_n 2, 1) := by decide +kernel
theorem d_Table_run_47 : decode prog_8_method_5_code 47 = .ok (.invokevirtual 63, 3) := by decide +kernel
theorem d_Table_run_50 : decode prog_8_method_5_code 50 = .ok (.invokevirtual 67, 3) := by decide +kernel
theorem d_Table_run_53 : decode prog_8_method_5_code 53 = .ok (.ifCond .ne 6, 3) := by decide +kernel
theorem d_Table_run_56 : decode prog_8_method_5_code 56 = .ok (.iload 5, 2) := by decide +kernel
theorem d_Table_run_58 : decode prog_8_method_5_code 58 = .ok (.ireturn, 1) := by decide +kernel
theorem d_Table_run_59 : decode prog_8_method_5_code 59 = .ok (.iinc 5 1, 3) := by decide +kernel
theorem d_Table_run_62 : decode prog_8_method_5_code 62 = .ok (.goto (-40), 3) := by decide +kernel
theorem d_Table_run_65 : decode prog_8_method_5_code 65 = .ok (.iload 4, 2) := by decide +kernel
theorem d_Table_run_67 : decode prog_8_method_5_code 67 = .ok (.ireturn, 1) := by decide +kernel
theorem d_Table_begin_0 : decode prog_8_method_4_code 0 = .ok (.aload_n 1, 1) := by decide +kernel
theorem d_Table_begin_1 : decode prog_8_method_4_code 1 = .ok (.aload_n 0, 1) := by decide +kernel
theorem d_Table_begin_2 : decode prog_8_method_4_code 2 = .ok (.iconst 0, 1) := by decide +kernel
theorem d_Table_begin_3 : decode prog_8_method_4_code 3 = .ok (.invokevirtual 41, 3) := by decide +kernel
theorem d_Table_begin_6 : decode prog_8_method_4_code 6 = .ok (.ifCond .eq 10, 3) := by decide +kernel
theorem d_Table_begin_9 : decode prog_8_method_4_code 9 = .ok (.aload_n 2, 1) := by decide +kernel
theorem d_Table_begin_10 : decode prog_8_method_4_code 10 = .ok (.iconst 0, 1) := by decide +kernel
theorem d_Table_begin_11 : decode prog_8_method_4_code 11 = .ok (.iaload, 1) := by decide +kernel
theorem d_Table_begin_12 : decode prog_8_method_4_code 12 = .ok (.i2l, 1) := by decide +kernel
theorem d_Table_begin_13 : decode prog_8_method_4_code 13 = .ok (.goto 4, 3) := by decide +kernel
theorem d_Table_begin_16 : decode prog_8_method_4_code 16 = .ok (.lconst 0, 1) := by decide +kernel
theorem d_Table_begin_17 : decode prog_8_method_4_code 17 = .ok (.invokevirtual 44, 3) := by decide +kernel
theorem d_Table_begin_20 : decode prog_8_method_4_code 20 = .ok (.return_, 1) := by decide +kernel
theorem d_Value_setWhole_0 : decode prog_11_method_2_code 0 = .ok (.aload_n 0, 1) := by decide +kernel
theorem d_Value_setWhole_1 : decode prog_11_method_2_code 1 = .ok (.lload_n 1, 1) := by decide +kernel
theorem d_Value_setWhole_2 : decode prog_11_method_2_code 2 = .ok (.putfield 15, 3) := by decide +kernel
theorem d_Value_setWhole_5 : decode prog_11_method_2_code 5 = .ok (.aload_n 0, 1) := by decide +kernel
theorem d_Value_setWhole_6 : decode prog_11_method_2_code 6 = .ok (.lconst 1, 1) := by decide +kernel
theorem d_Value_setWhole_7 : decode prog_11_method_2_code 7 = .ok (.putfield 9, 3) := by decide +kernel
theorem d_Value_setWhole_10 : decode prog_11_method_2_code 10 = .ok (.return_, 1) := by decide +kernel
theorem d_Orders_amount_0 : decode prog_3_method_4_code 0 = .ok (.aload_n 0, 1) := by decide +kernel
theorem d_Orders_amount_1 : decode prog_3_method_4_code 1 = .ok (.getfield 15, 3) := by decide +kernel
theorem d_Orders_amount_4 : decode prog_3_method_4_code 4 = .ok (.iload_n 1, 1) := by decide +kernel
theorem d_Orders_amount_5 : decode prog_3_method_4_code 5 = .ok (.iaload, 1) := by decide +kernel
theorem d_Orders_amount_6 : decode prog_3_method_4_code 6 = .ok (.sipush 10000, 3) := by decide +kernel
theorem d_Orders_amount_9 : decode prog_3_method_4_code 9 = .ok (.isub, 1) := by decide +kernel
theorem d_Orders_amount_10 : decode prog_3_method_4_code 10 = .ok (.istore_n 3, 1) := by decide +kernel
theorem d_Orders_amount_11 : decode prog_3_method_4_code 11 = .ok (.iload_n 3, 1) := by decide +kernel
theorem d_Orders_amount_12 : decode prog_3_method_4_code 12 = .ok (.invokestatic 22, 3) := by decide +kernel
theorem d_Orders_amount_15 : decode prog_3_method_4_code 15 = .ok (.ifCond .eq 9, 3) := by decide +kernel
theorem d_Orders_amount_18 : decode prog_3_method_4_code 18 = .ok (.aload_n 2, 1) := by decide +kernel
theorem d_Orders_amount_19 : decode prog_3_method_4_code 19 = .ok (.iload_n 3, 1) := by decide +kernel
theorem d_Orders_amount_20 : decode prog_3_method_4_code 20 = .ok (.iaload, 1) := by decide +kernel
theorem d_Orders_amount_21 : decode prog_3_method_4_code 21 = .ok (.goto 9, 3) := by decide +kernel
theorem d_Orders_amount_24 : decode prog_3_method_4_code 24 = .ok (.aload_n 0, 1) := by decide +kernel
theorem d_Orders_amount_25 : decode prog_3_method_4_code 25 = .ok (.getfield 15, 3) := by decide +kernel
theorem d_Orders_amount_28 : decode prog_3_method_4_code 28 = .ok (.iload_n 1, 1) := by decide +kernel
theorem d_Orders_amount_29 : decode prog_3_method_4_code 29 = .ok (.iaload, 1) := by decide +kernel
theorem d_Orders_amount_30 : decode prog_3_method_4_code 30 = .ok (.ireturn, 1) := by decide +kernel
theorem d_Value_obey_0 : decode prog_11_method_7_code 0 = .ok (.aload_n 0, 1) := by decide +kernel
theorem d_Value_obey_1 : decode prog_11_method_7_code 1 = .ok (.getfield 9, 3) := by decide +kernel
theorem d_Value_obey_4 : decode prog_11_method_7_code 4 = .ok (.lconst 1, 1) := by decide +kernel
theorem d_Value_obey_5 : decode prog_11_method_7_code 5 = .ok (.lcmp, 1) := by decide +kernel
theorem d_Value_obey_6 : decode prog_11_method_7_code 6 = .ok (.ifCond .ne 16, 3) := by decide +kernel
theorem d_Value_obey_9 : decode prog_11_method_7_code 9 = .ok (.aload_n 0, 1) := by decide +kernel
theorem d_Value_obey_10 : decode prog_11_method_7_code 10 = .ok (.getfield 15, 3) := by decide +kernel
theorem d_Value_obey_13 : decode prog_11_method_7_code 13 = .ok (.lconst 0, 1) := by decide +kernel
theorem d_Value_obey_14 : decode prog_11_method_7_code 14 = .ok (.lcmp, 1) := by decide +kernel
theorem d_Value_obey_15 : decode prog_11_method_7_code 15 = .ok (.ifCond .lt 7, 3) := by decide +kernel
theorem d_Value_obey_18 : decode prog_11_method_7_code 18 = .ok (.iconst 1, 1) := by decide +kernel
theorem d_Value_obey_19 : decode prog_11_method_7_code 19 = .ok (.goto 4, 3) := by decide +kernel
theorem d_Value_obey_22 : decode prog_11_method_7_code 22 = .ok (.iconst 0, 1) := by decide +kernel
theorem d_Value_obey_23 : decode prog_11_method_7_code 23 = .ok (.istore_n 3, 1) := by decide +kernel
theorem d_Value_obey_24 : decode prog_11_method_7_code 24 = .ok (.iload_n 1, 1) := by decide +kernel
theorem d_Value_obey_25 : decode prog_11_method_7_code 25 = .ok (.tableswitch 290 0 8 #[51, 72, 93, 109, 137, 166, 208, 230, 252], 51) := by decide +kernel
theorem d_Value_obey_76 : decode prog_11_method_7_code 76 = .ok (.aload_n 0, 1) := by decide +kernel
theorem d_Value_obey_77 : decode prog_11_method_7_code 77 = .ok (.aload_n 0, 1) := by decide +kernel
theorem d_Value_obey_78 : decode prog_11_method_7_code 78 = .ok (.getfield 15, 3) := by decide +kernel
theorem d_Value_obey_81 : decode prog_11_method_7_code 81 = .ok (.iload_n 2, 1) := by decide +kernel
theorem d_Value_obey_82 : decode prog_11_method_7_code 82 = .ok (.i2l, 1) := by decide +kernel
theorem d_Value_obey_83 : decode prog_11_method_7_code 83 = .ok (.aload_n 0, 1) := by decide +kernel
theorem d_Value_obey_84 : decode prog_11_method_7_code 84 = .ok (.getfield 9, 3) := by decide +kernel
theorem d_Value_obey_87 : decode prog_11_method_7_code 87 = .ok (.lmul, 1) := by decide +kernel
theorem d_Value_obey_88 : decode prog_11_method_7_code 88 = .ok (.ladd, 1) := by decide +kernel
theorem d_Value_obey_89 : decode prog_11_method_7_code 89 = .ok (.aload_n 0, 1) := by decide +kernel
theorem d_Value_obey_90 : decode prog_11_method_7_code 90 = .ok (.getfield 9, 3) := by decide +kernel
theorem d_Value_obey_93 : decode prog_11_method_7_code 93 = .ok (.invokevirtual 28, 3) := by decide +kernel
theorem d_Value_obey_96 : decode prog_11_method_7_code 96 = .ok (.ireturn, 1) := by decide +kernel
theorem d_Value_obey_97 : decode prog_11_method_7_code 97 = .ok (.aload_n 0, 1) := by decide +kernel
theorem d_Value_obey_98 : decode prog_11_method_7_code 98 = .ok (.aload_n 0, 1) := by decide +kernel
theorem d_Value_obey_99 : decode prog_11_method_7_code 99 = .ok (.getfield 15, 3) := by decide +kernel
theorem d_Value_obey_102 : decode prog_11_method_7_code 102 = .ok (.iload_n 2, 1) := by decide +kernel
theorem d_Value_obey_103 : decode prog_11_method_7_code 103 = .ok (.i2l, 1) := by decide +kernel
theorem d_Value_obey_104 : decode prog_11_method_7_code 104 = .ok (.aload_n 0, 1) := by decide +kernel
theorem d_Value_obey_105 : decode prog_11_method_7_code 105 = .ok (.getfield 9, 3) := by decide +kernel
theorem d_Value_obey_108 : decode prog_11_method_7_code 108 = .ok (.lmul, 1) := by decide +kernel
theorem d_Value_obey_109 : decode prog_11_method_7_code 109 = .ok (.lsub, 1) := by decide +kernel
theorem d_Value_obey_110 : decode prog_11_method_7_code 110 = .ok (.aload_n 0, 1) := by decide +kernel
theorem d_Value_obey_111 : decode prog_11_method_7_code 111 = .ok (.getfield 9, 3) := by decide +kernel
theorem d_Value_obey_114 : decode prog_11_method_7_code 114 = .ok (.invokevirtual 28, 3) := by decide +kernel
theorem d_Value_obey_117 : decode prog_11_method_7_code 117 = .ok (.ireturn, 1) := by decide +kernel
theorem d_Value_obey_118 : decode prog_11_method_7_code 118 = .ok (.aload_n 0, 1) := by decide +kernel
theorem d_Value_obey_119 : decode prog_11_method_7_code 119 = .ok (.aload_n 0, 1) := by decide +kernel
theorem d_Value_obey_120 : decode prog_11_method_7_code 120 = .ok (.getfield 15, 3) := by decide +kernel
theorem d_Value_obey_123 : decode prog_11_method_7_code 123 = .ok (.iload_n 2, 1) := by decide +kernel
theorem d_Value_obey_124 : decode prog_11_method_7_code 124 = .ok (.i2l, 1) := by decide +kernel
theorem d_Value_obey_125 : decode prog_11_method_7_code 125 = .ok (.lmul, 1) := by decide +kernel
theorem d_Value_obey_126 : decode prog_11_method_7_code 126 = .ok (.aload_n 0, 1) := by decide +kernel
theorem d_Value_obey_127 : decode prog_11_method_7_code 127 = .ok (.getfield 9, 3) := by decide +kernel
theorem d_Value_obey_130 : decode prog_11_method_7_code 130 = .ok (.invokevirtual 28, 3) := by decide +kernel
theorem d_Value_obey_133 : decode prog_11_method_7_code 133 = .ok (.ireturn, 1) := by decide +kernel
theorem d_Value_obey_134 : decode prog_11_method_7_code 134 = .ok (.iload_n 2, 1) := by decide +kernel
theorem d_Value_obey_135 : decode prog_11_method_7_code 135 = .ok (.ifCond .le 25, 3) := by decide +kernel
theorem d_Value_obey_138 : decode prog_11_method_7_code 138 = .ok (.aload_n 0, 1) := by decide +kernel
theorem d_Value_obey_139 : decode prog_11_method_7_code 139 = .ok (.aload_n 0, 1) := by decide +kernel
theorem d_Value_obey_140 : decode prog_11_method_7_code 140 = .ok (.getfield 15, 3) := by decide +kernel
theorem d_Value_obey_143 : decode prog_11_method_7_code 143 = .ok (.aload_n 0, 1) := by decide +kernel
theorem d_Value_obey_144 : decode prog_11_method_7_code 144 = .ok (.getfield 9, 3) := by decide +kernel
theorem d_Value_obey_147 : decode prog_11_method_7_code 147 = .ok (.iload_n 2, 1) := by decide +kernel
theorem d_Value_obey_148 : decode prog_11_method_7_code 148 = .ok (.i2l, 1) := by decide +kernel
theorem d_Value_obey_149 : decode prog_11_method_7_code 149 = .ok (.lmul, 1) := by decide +kernel
theorem d_Value_obey_150 : decode prog_11_method_7_code 150 = .ok (.invokevirtual 28, 3) := by decide +kernel
theorem d_Value_obey_153 : decode prog_11_method_7_code 153 = .ok (.ifCond .eq 7, 3) := by decide +kernel
theorem d_Value_obey_156 : decode prog_11_method_7_code 156 = .ok (.iconst 1, 1) := by decide +kernel
theorem d_Value_obey_157 : decode prog_11_method_7_code 157 = .ok (.goto 4, 3) := by decide +kernel
theorem d_Value_obey_160 : decode prog_11_method_7_code 160 = .ok (.iconst 0, 1) := by decide +kernel
theorem d_Value_obey_161 : decode prog_11_method_7_code 161 = .ok (.ireturn, 1) := by decide +kernel
theorem d_Value_obey_162 : decode prog_11_method_7_code 162 = .ok (.iload_n 3, 1) := by decide +kernel
theorem d_Value_obey_163 : decode prog_11_method_7_code 163 = .ok (.ifCond .eq 26, 3) := by decide +kernel
theorem d_Value_obey_166 : decode prog_11_method_7_code 166 = .ok (.iload_n 2, 1) := by decide +kernel
theorem d_Value_obey_167 : decode prog_11_method_7_code 167 = .ok (.ifCond .le 22, 3) := by decide +kernel
theorem d_Value_obey_170 : decode prog_11_method_7_code 170 = .ok (.aload_n 0, 1) := by decide +kernel
theorem d_Value_obey_171 : decode prog_11_method_7_code 171 = .ok (.aload_n 0, 1) := by decide +kernel
theorem d_Value_obey_172 : decode prog_11_method_7_code 172 = .ok (.getfield 15, 3) := by decide +kernel
theorem d_Value_obey_175 : decode prog_11_method_7_code 175 = .ok (.iload_n 2, 1) := by decide +kernel
theorem d_Value_obey_176 : decode prog_11_method_7_code 176 = .ok (.i2l, 1) := by decide +kernel
theorem d_Value_obey_177 : decode prog_11_method_7_code 177 = .ok (.lrem, 1) := by decide +kernel
theorem d_Value_obey_178 : decode prog_11_method_7_code 178 = .ok (.lconst 1, 1) := by decide +kernel
theorem d_Value_obey_179 : decode prog_11_method_7_code 179 = .ok (.invokevirtual 28, 3) := by decide +kernel
theorem d_Value_obey_182 : decode prog_11_method_7_code 182 = .ok (.ifCond .eq 7, 3) := by decide +kernel
theorem d_Value_obey_185 : decode prog_11_method_7_code 185 = .ok (.iconst 1, 1) := by decide +kernel
theorem d_Value_obey_186 : decode prog_11_method_7_code 186 = .ok (.goto 4, 3) := by decide +kernel
theorem d_Value_obey_189 : decode prog_11_method_7_code 189 = .ok (.iconst 0, 1) := by decide +kernel
theorem d_Value_obey_190 : decode prog_11_method_7_code 190 = .ok (.ireturn, 1) := by decide +kernel
theorem d_Value_obey_191 : decode prog_11_method_7_code 191 = .ok (.iload_n 3, 1) := by decide +kernel
theorem d_Value_obey_192 : decode prog_11_method_7_code 192 = .ok (.ifCond .eq 39, 3) := by decide +kernel
theorem d_Value_obey_195 : decode prog_11_method_7_code 195 = .ok (.iload_n 2, 1) := by decide +kernel
theorem d_Value_obey_196 : decode prog_11_method_7_code 196 = .ok (.invokestatic 32, 3) := by decide +kernel
theorem d_Value_obey_199 : decode prog_11_method_7_code 199 = .ok (.ifCond .eq 32, 3) := by decide +kernel
theorem d_Value_obey_202 : decode prog_11_method_7_code 202 = .ok (.aload_n 0, 1) := by decide +kernel
theorem d_Value_obey_203 : decode prog_11_method_7_code 203 = .ok (.aload_n 0, 1) := by decide +kernel
theorem d_Value_obey_204 : decode prog_11_method_7_code 204 = .ok (.getfield 15, 3) := by decide +kernel
theorem d_Value_obey_207 : decode prog_11_method_7_code 207 = .ok (.getstatic 36, 3) := by decide +kernel
theorem d_Value_obey_210 : decode prog_11_method_7_code 210 = .ok (.iload_n 2, 1) := by decide +kernel
theorem d_Value_obey_211 : decode prog_11_method_7_code 211 = .ok (.i2l, 1) := by decide +kernel
theorem d_Value_obey_212 : decode prog_11_method_7_code 212 = .ok (.invokestatic 40, 3) := by decide +kernel
theorem d_Value_obey_215 : decode prog_11_method_7_code 215 = .ok (.laload, 1) := by decide +kernel
theorem d_Value_obey_216 : decode prog_11_method_7_code 216 = .ok (.lmul, 1) := by decide +kernel
theorem d_Value_obey_217 : decode prog_11_method_7_code 217 = .ok (.iload_n 2, 1) := by decide +kernel
theorem d_Value_obey_218 : decode prog_11_method_7_code 218 = .ok (.i2l, 1) := by decide +kernel
theorem d_Value_obey_219 : decode prog_11_method_7_code 219 = .ok (.ladd, 1) := by decide +kernel
theorem d_Value_obey_220 : decode prog_11_method_7_code 220 = .ok (.lconst 1, 1) := by decide +kernel
theorem d_Value_obey_221 : decode prog_11_method_7_code 221 = .ok (.invokevirtual 28, 3) := by decide +kernel
theorem d_Value_obey_224 : decode prog_11_method_7_code 224 = .ok (.ifCond .eq 7, 3) := by decide +kernel
theorem d_Value_obey_227 : decode prog_11_method_7_code 227 = .ok (.iconst 1, 1) := by decide +kernel
theorem d_Value_obey_228 : decode prog_11_method_7_code 228 = .ok (.goto 4, 3) := by decide +kernel
theorem d_Value_obey_231 : decode prog_11_method_7_code 231 = .ok (.iconst 0, 1) := by decide +kernel
theorem d_Value_obey_232 : decode prog_11_method_7_code 232 = .ok (.ireturn, 1) := by decide +kernel
theorem d_Value_obey_233 : decode prog_11_method_7_code 233 = .ok (.iload_n 3, 1) := by decide +kernel
theorem d_Value_obey_234 : decode prog_11_method_7_code 234 = .ok (.ifCond .eq 19, 3) := by decide +kernel
theorem d_Value_obey_237 : decode prog_11_method_7_code 237 = .ok (.aload_n 0, 1) := by decide +kernel
theorem d_Value_obey_238 : decode prog_11_method_7_code 238 = .ok (.aload_n 0, 1) := by decide +kernel
theorem d_Value_obey_239 : decode prog_11_method_7_code 239 = .ok (.invokevirtual 44, 3) := by decide +kernel
theorem d_Value_obey_242 : decode prog_11_method_7_code 242 = .ok (.lconst 1, 1) := by decide +kernel
theorem d_Value_obey_243 : decode prog_11_method_7_code 243 = .ok (.invokevirtual 28, 3) := by decide +kernel
theorem d_Value_obey_246 : decode prog_11_method_7_code 246 = .ok (.ifCond .eq 7, 3) := by decide +kernel
theorem d_Value_obey_249 : decode prog_11_method_7_code 249 = .ok (.iconst 1, 1) := by decide +kernel
theorem d_Value_obey_250 : decode prog_11_method_7_code 250 = .ok (.goto 4, 3) := by decide +kernel
theorem d_Value_obey_253 : decode prog_11_method_7_code 253 = .ok (.iconst 0, 1) := by decide +kernel
theorem d_Value_obey_254 : decode prog_11_method_7_code 254 = .ok (.ireturn, 1) := by decide +kernel
theorem d_Value_obey_255 : decode prog_11_method_7_code 255 = .ok (.iload_n 3, 1) := by decide +kernel
theorem d_Value_obey_256 : decode prog_11_method_7_code 256 = .ok (.ifCond .eq 19, 3) := by decide +kernel
theorem d_Value_obey_259 : decode prog_11_method_7_code 259 = .ok (.aload_n 0, 1) := by decide +kernel
theorem d_Value_obey_260 : decode prog_11_method_7_code 260 = .ok (.aload_n 0, 1) := by decide +kernel
theorem d_Value_obey_261 : decode prog_11_method_7_code 261 = .ok (.invokevirtual 48, 3) := by decide +kernel
theorem d_Value_obey_264 : decode prog_11_method_7_code 264 = .ok (.lconst 1, 1) := by decide +kernel
theorem d_Value_obey_265 : decode prog_11_method_7_code 265 = .ok (.invokevirtual 28, 3) := by decide +kernel
theorem d_Value_obey_268 : decode prog_11_method_7_code 268 = .ok (.ifCond .eq 7, 3) := by decide +kernel
theorem d_Value_obey_271 : decode prog_11_method_7_code 271 = .ok (.iconst 1, 1) := by decide +kernel
theorem d_Value_obey_272 : decode prog_11_method_7_code 272 = .ok (.goto 4, 3) := by decide +kernel
theorem d_Value_obey_275 : decode prog_11_method_7_code 275 = .ok (.iconst 0, 1) := by decide +kernel
theorem d_Value_obey_276 : decode prog_11_method_7_code 276 = .ok (.ireturn, 1) := by decide +kernel
theorem d_Value_obey_277 : decode prog_11_method_7_code 277 = .ok (.iload_n 3, 1) := by decide +kernel
theorem d_Value_obey_278 : decode prog_11_method_7_code 278 = .ok (.ifCond .eq 35, 3) := by decide +kernel
theorem d_Value_obey_281 : decode prog_11_method_7_code 281 = .ok (.iload_n 2, 1) := by decide +kernel
theorem d_Value_obey_282 : decode prog_11_method_7_code 282 = .ok (.ifCond .le 31, 3) := by decide +kernel
theorem d_Value_obey_285 : decode prog_11_method_7_code 285 = .ok (.iload_n 2, 1) := by decide +kernel
theorem d_Value_obey_286 : decode prog_11_method_7_code 286 = .ok (.aload_n 0, 1) := by decide +kernel
theorem d_Value_obey_287 : decode prog_11_method_7_code 287 = .ok (.getfield 15, 3) := by decide +kernel
theorem d_Value_obey_290 : decode prog_11_method_7_code 290 = .ok (.invokestatic 40, 3) := by decide +kernel
theorem d_Value_obey_293 : decode prog_11_method_7_code 293 = .ok (.if_icmp .gt 20, 3) := by decide +kernel
theorem d_Value_obey_296 : decode prog_11_method_7_code 296 = .ok (.aload_n 0, 1) := by decide +kernel
theorem d_Value_obey_297 : decode prog_11_method_7_code 297 = .ok (.aload_n 0, 1) := by decide +kernel
theorem d_Value_obey_298 : decode prog_11_method_7_code 298 = .ok (.iload_n 2, 1) := by decide +kernel
theorem d_Value_obey_299 : decode prog_11_method_7_code 299 = .ok (.invokevirtual 51, 3) := by decide +kernel
theorem d_Value_obey_302 : decode prog_11_method_7_code 302 = .ok (.lconst 1, 1) := by decide +kernel
theorem d_Value_obey_303 : decode prog_11_method_7_code 303 = .ok (.invokevirtual 28, 3) := by decide +kernel
theorem d_Value_obey_306 : decode prog_11_method_7_code 306 = .ok (.ifCond .eq 7, 3) := by decide +kernel
theorem d_Value_obey_309 : decode prog_11_method_7_code 309 = .ok (.iconst 1, 1) := by decide +kernel
theorem d_Value_obey_310 : decode prog_11_method_7_code 310 = .ok (.goto 4, 3) := by decide +kernel
theorem d_Value_obey_313 : decode prog_11_method_7_code 313 = .ok (.iconst 0, 1) := by decide +kernel
theorem d_Value_obey_314 : decode prog_11_method_7_code 314 = .ok (.ireturn, 1) := by decide +kernel
theorem d_Value_obey_315 : decode prog_11_method_7_code 315 = .ok (.iload_n 1, 1) := by decide +kernel
theorem d_Value_obey_316 : decode prog_11_method_7_code 316 = .ok (.bipush 9, 2) := by decide +kernel
theorem d_Value_obey_318 : decode prog_11_method_7_code 318 = .ok (.if_icmp .ne 7, 3) := by decide +kernel
theorem d_Value_obey_321 : decode prog_11_method_7_code 321 = .ok (.iconst 1, 1) := by decide +kernel
theorem d_Value_obey_322 : decode prog_11_method_7_code 322 = .ok (.goto 4, 3) := by decide +kernel
theorem d_Value_obey_325 : decode prog_11_method_7_code 325 = .ok (.iconst 0, 1) := by decide +kernel
theorem d_Value_obey_326 : decode prog_11_method_7_code 326 = .ok (.ireturn, 1) := by decide +kernel
theorem d_Value_put_0 : decode prog_11_method_6_code 0 = .ok (.lload_n 1, 1) := by decide +kernel
theorem d_Value_put_1 : decode prog_11_method_6_code 1 = .ok (.lstore 5, 2) := by decide +kernel
theorem d_Value_put_3 : decode prog_11_method_6_code 3 = .ok (.lload_n 3, 1) := by decide +kernel
theorem d_Value_put_4 : decode prog_11_method_6_code 4 = .ok (.lstore 7, 2) := by decide +kernel
theorem d_Value_put_6 : decode prog_11_method_6_code 6 = .ok (.lload 7, 2) := by decide +kernel
theorem d_Value_put_8 : decode prog_11_method_6_code 8 = .ok (.lconst 1, 1) := by decide +kernel
theorem d_Value_put_9 : decode prog_11_method_6_code 9 = .ok (.lcmp, 1) := by decide +kernel
theorem d_Value_put_10 : decode prog_11_method_6_code 10 = .ok (.ifCond .ne 7, 3) := by decide +kernel
theorem d_Value_put_13 : decode prog_11_method_6_code 13 = .ok (.lconst 1, 1) := by decide +kernel
theorem d_Value_put_14 : decode prog_11_method_6_code 14 = .ok (.goto 10, 3) := by decide +kernel
theorem d_Value_put_17 : decode prog_11_method_6_code 17 = .ok (.lload 5, 2) := by decide +kernel
theorem d_Value_put_19 : decode prog_11_method_6_code 19 = .ok (.lload 7, 2) := by decide +kernel
theorem d_Value_put_21 : decode prog_11_method_6_code 21 = .ok (.invokestatic 18, 3) := by decide +kernel
theorem d_Value_put_24 : decode prog_11_method_6_code 24 = .ok (.lstore 9, 2) := by decide +kernel
theorem d_Value_put_26 : decode prog_11_method_6_code 26 = .ok (.lload 9, 2) := by decide +kernel
theorem d_Value_put_28 : decode prog_11_method_6_code 28 = .ok (.lconst 1, 1) := by decide +kernel
theorem d_Value_put_29 : decode prog_11_method_6_code 29 = .ok (.lcmp, 1) := by decide +kernel
theorem d_Value_put_30 : decode prog_11_method_6_code 30 = .ok (.ifCond .le 17, 3) := by decide +kernel
theorem d_Value_put_33 : decode prog_11_method_6_code 33 = .ok (.lload 5, 2) := by decide +kernel
theorem d_Value_put_35 : decode prog_11_method_6_code 35 = .ok (.lload 9, 2) := by decide +kernel
theorem d_Value_put_37 : decode prog_11_method_6_code 37 = .ok (.ldiv, 1) := by decide +kernel
theorem d_Value_put_38 : decode prog_11_method_6_code 38 = .ok (.lstore 5, 2) := by decide +kernel
theorem d_Value_put_40 : decode prog_11_method_6_code 40 = .ok (.lload 7, 2) := by decide +kernel
theorem d_Value_put_42 : decode prog_11_method_6_code 42 = .ok (.lload 9, 2) := by decide +kernel
theorem d_Value_put_44 : decode prog_11_method_6_code 44 = .ok (.ldiv, 1) := by decide +kernel
theorem d_Value_put_45 : decode prog_11_method_6_code 45 = .ok (.lstore 7, 2) := by decide +kernel
theorem d_Value_put_47 : decode prog_11_method_6_code 47 = .ok (.lload 5, 2) := by decide +kernel
theorem d_Value_put_49 : decode prog_11_method_6_code 49 = .ok (.ldc2_w 22, 3) := by decide +kernel
theorem d_Value_put_52 : decode prog_11_method_6_code 52 = .ok (.lcmp, 1) := by decide +kernel
theorem d_Value_put_53 : decode prog_11_method_6_code 53 = .ok (.ifCond .gt 21, 3) := by decide +kernel
theorem d_Value_put_56 : decode prog_11_method_6_code 56 = .ok (.lload 5, 2) := by decide +kernel
theorem d_Value_put_58 : decode prog_11_method_6_code 58 = .ok (.ldc2_w 24, 3) := by decide +kernel
theorem d_Value_put_61 : decode prog_11_method_6_code 61 = .ok (.lcmp, 1) := by decide +kernel
theorem d_Value_put_62 : decode prog_11_method_6_code 62 = .ok (.ifCond .lt 12, 3) := by decide +kernel
theorem d_Value_put_65 : decode prog_11_method_6_code 65 = .ok (.lload 7, 2) := by decide +kernel
theorem d_Value_put_67 : decode prog_11_method_6_code 67 = .ok (.ldc2_w 26, 3) := by decide +kernel
theorem d_Value_put_70 : decode prog_11_method_6_code 70 = .ok (.lcmp, 1) := by decide +kernel
theorem d_Value_put_71 : decode prog_11_method_6_code 71 = .ok (.ifCond .le 5, 3) := by decide +kernel
theorem d_Value_put_74 : decode prog_11_method_6_code 74 = .ok (.iconst 0, 1) := by decide +kernel
theorem d_Value_put_75 : decode prog_11_method_6_code 75 = .ok (.ireturn, 1) := by decide +kernel
theorem d_Value_put_76 : decode prog_11_method_6_code 76 = .ok (.aload_n 0, 1) := by decide +kernel
theorem d_Value_put_77 : decode prog_11_method_6_code 77 = .ok (.lload 5, 2) := by decide +kernel
theorem d_Value_put_79 : decode prog_11_method_6_code 79 = .ok (.putfield 15, 3) := by decide +kernel
theorem d_Value_put_82 : decode prog_11_method_6_code 82 = .ok (.aload_n 0, 1) := by decide +kernel
theorem d_Value_put_83 : decode prog_11_method_6_code 83 = .ok (.lload 7, 2) := by decide +kernel
theorem d_Value_put_85 : decode prog_11_method_6_code 85 = .ok (.putfield 9, 3) := by decide +kernel
theorem d_Value_put_88 : decode prog_11_method_6_code 88 = .ok (.iconst 1, 1) := by decide +kernel
theorem d_Value_put_89 : decode prog_11_method_6_code 89 = .ok (.ireturn, 1) := by decide +kernel
theorem d_A_commonMeasure_0 : decode prog_1_method_43_code 0 = .ok (.lload_n 0, 1) := by decide +kernel
theorem d_A_commonMeasure_1 : decode prog_1_method_43_code 1 = .ok (.invokestatic 334, 3) := by decide +kernel
theorem d_A_commonMeasure_4 : decode prog_1_method_43_code 4 = .ok (.lstore 4, 2) := by decide +kernel
theorem d_A_commonMeasure_6 : decode prog_1_method_43_code 6 = .ok (.lload_n 2, 1) := by decide +kernel
theorem d_A_commonMeasure_7 : decode prog_1_method_43_code 7 = .ok (.invokestatic 334, 3) := by decide +kernel
theorem d_A_commonMeasure_10 : decode prog_1_method_43_code 10 = .ok (.lstore 6, 2) := by decide +kernel
theorem d_A_commonMeasure_12 : decode prog_1_method_43_code 12 = .ok (.iconst 0, 1) := by decide +kernel
theorem d_A_commonMeasure_13 : decode prog_1_method_43_code 13 = .ok (.istore 8, 2) := by decide +kernel
theorem d_A_commonMeasure_15 : decode prog_1_method_43_code 15 = .ok (.iload 8, 2) := by decide +kernel
theorem d_A_commonMeasure_17 : decode prog_1_method_43_code 17 = .ok (.bipush 100, 2) := by decide +kernel
theorem d_A_commonMeasure_19 : decode prog_1_method_43_code 19 = .ok (.if_icmp .ge 31, 3) := by decide +kernel
theorem d_A_commonMeasure_22 : decode prog_1_method_43_code 22 = .ok (.lload 6, 2) := by decide +kernel
theorem d_A_commonMeasure_24 : decode prog_1_method_43_code 24 = .ok (.lconst 0, 1) := by decide +kernel
theorem d_A_commonMeasure_25 : decode prog_1_method_43_code 25 = .ok (.lcmp, 1) := by decide +kernel
theorem d_A_commonMeasure_26 : decode prog_1_method_43_code 26 = .ok (.ifCond .eq 24, 3) := by decide +kernel
theorem d_A_commonMeasure_29 : decode prog_1_method_43_code 29 = .ok (.lload 4, 2) := by decide +kernel
theorem d_A_commonMeasure_31 : decode prog_1_method_43_code 31 = .ok (.lload 6, 2) := by decide +kernel
theorem d_A_commonMeasure_33 : decode prog_1_method_43_code 33 = .ok (.lrem, 1) := by decide +kernel
theorem d_A_commonMeasure_34 : decode prog_1_method_43_code 34 = .ok (.lstore 9, 2) := by decide +kernel
theorem d_A_commonMeasure_36 : decode prog_1_method_43_code 36 = .ok (.lload 6, 2) := by decide +kernel
theorem d_A_commonMeasure_38 : decode prog_1_method_43_code 38 = .ok (.lstore 4, 2) := by decide +kernel
theorem d_A_commonMeasure_40 : decode prog_1_method_43_code 40 = .ok (.lload 9, 2) := by decide +kernel
theorem d_A_commonMeasure_42 : decode prog_1_method_43_code 42 = .ok (.lstore 6, 2) := by decide +kernel
theorem d_A_commonMeasure_44 : decode prog_1_method_43_code 44 = .ok (.iinc 8 1, 3) := by decide +kernel
theorem d_A_commonMeasure_47 : decode prog_1_method_43_code 47 = .ok (.goto (-32), 3) := by decide +kernel
theorem d_A_commonMeasure_50 : decode prog_1_method_43_code 50 = .ok (.lload 4, 2) := by decide +kernel
theorem d_A_commonMeasure_52 : decode prog_1_method_43_code 52 = .ok (.lreturn, 1) := by decide +kernel
theorem d_A_figuresOf_0 : decode prog_1_method_44_code 0 = .ok (.iconst 1, 1) := by decide +kernel
theorem d_A_figuresOf_1 : decode prog_1_method_44_code 1 = .ok (.istore_n 2, 1) := by decide +kernel
theorem d_A_figuresOf_2 : decode prog_1_method_44_code 2 = .ok (.iload_n 2, 1) := by decide +kernel
theorem d_A_figuresOf_3 : decode prog_1_method_44_code 3 = .ok (.getstatic 338, 3) := by decide +kernel
theorem d_A_figuresOf_6 : decode prog_1_method_44_code 6 = .ok (.arraylength, 1) := by decide +kernel
theorem d_A_figuresOf_7 : decode prog_1_method_44_code 7 = .ok (.if_icmp .ge 21, 3) := by decide +kernel
theorem d_A_figuresOf_10 : decode prog_1_method_44_code 10 = .ok (.lload_n 0, 1) := by decide +kernel
theorem d_A_figuresOf_11 : decode prog_1_method_44_code 11 = .ok (.getstatic 338, 3) := by decide +kernel
theorem d_A_figuresOf_14 : decode prog_1_method_44_code 14 = .ok (.iload_n 2, 1) := by decide +kernel
theorem d_A_figuresOf_15 : decode prog_1_method_44_code 15 = .ok (.laload, 1) := by decide +kernel
theorem d_A_figuresOf_16 : decode prog_1_method_44_code 16 = .ok (.lcmp, 1) := by decide +kernel
theorem d_A_figuresOf_17 : decode prog_1_method_44_code 17 = .ok (.ifCond .ge 5, 3) := by decide +kernel
theorem d_A_figuresOf_20 : decode prog_1_method_44_code 20 = .ok (.iload_n 2, 1) := by decide +kernel
theorem d_A_figuresOf_21 : decode prog_1_method_44_code 21 = .ok (.ireturn, 1) := by decide +kernel
theorem d_A_figuresOf_22 : decode prog_1_method_44_code 22 = .ok (.iinc 2 1, 3) := by decide +kernel
theorem d_A_figuresOf_25 : decode prog_1_method_44_code 25 = .ok (.goto (-23), 3) := by decide +kernel
theorem d_A_figuresOf_28 : decode prog_1_method_44_code 28 = .ok (.getstatic 338, 3) := by decide +kernel
theorem d_A_figuresOf_31 : decode prog_1_method_44_code 31 = .ok (.arraylength, 1) := by decide +kernel
theorem d_A_figuresOf_32 : decode prog_1_method_44_code 32 = .ok (.ireturn, 1) := by decide +kernel
theorem d_Value_turned_0 : decode prog_11_method_8_code 0 = .ok (.aload_n 0, 1) := by decide +kernel
theorem d_Value_turned_1 : decode prog_11_method_8_code 1 = .ok (.getfield 15, 3) := by decide +kernel
theorem d_Value_turned_4 : decode prog_11_method_8_code 4 = .ok (.lstore_n 1, 1) := by decide +kernel
theorem d_Value_turned_5 : decode prog_11_method_8_code 5 = .ok (.lconst 0, 1) := by decide +kernel
theorem d_Value_turned_6 : decode prog_11_method_8_code 6 = .ok (.lstore_n 3, 1) := by decide +kernel
theorem d_Value_turned_7 : decode prog_11_method_8_code 7 = .ok (.aload_n 0, 1) := by decide +kernel
theorem d_Value_turned_8 : decode prog_11_method_8_code 8 = .ok (.getfield 15, 3) := by decide +kernel
theorem d_Value_turned_11 : decode prog_11_method_8_code 11 = .ok (.invokestatic 40, 3) := by decide +kernel
theorem d_Value_turned_14 : decode prog_11_method_8_code 14 = .ok (.istore 5, 2) := by decide +kernel
theorem d_Value_turned_16 : decode prog_11_method_8_code 16 = .ok (.iload 5, 2) := by decide +kernel
theorem d_Value_turned_18 : decode prog_11_method_8_code 18 = .ok (.ifCond .le 27, 3) := by decide +kernel
theorem d_Value_turned_21 : decode prog_11_method_8_code 21 = .ok (.lload_n 3, 1) := by decide +kernel
theorem d_Value_turned_22 : decode prog_11_method_8_code 22 = .ok (.ldc2_w 55, 3) := by decide +kernel
theorem d_Value_turned_25 : decode prog_11_method_8_code 25 = .ok (.lmul, 1) := by decide +kernel
theorem d_Value_turned_26 : decode prog_11_method_8_code 26 = .ok (.lload_n 1, 1) := by decide +kernel
theorem d_Value_turned_27 : decode prog_11_method_8_code 27 = .ok (.ldc2_w 55, 3) := by decide +kernel
theorem d_Value_turned_30 : decode prog_11_method_8_code 30 = .ok (.lrem, 1) := by decide +kernel
theorem d_Value_turned_31 : decode prog_11_method_8_code 31 = .ok (.ladd, 1) := by decide +kernel
theorem d_Value_turned_32 : decode prog_11_method_8_code 32 = .ok (.lstore_n 3, 1) := by decide +kernel
theorem d_Value_turned_33 : decode prog_11_method_8_code 33 = .ok (.lload_n 1, 1) := by decide +kernel
theorem d_Value_turned_34 : decode prog_11_method_8_code 34 = .ok (.ldc2_w 55, 3) := by decide +kernel
theorem d_Value_turned_37 : decode prog_11_method_8_code 37 = .ok (.ldiv, 1) := by decide +kernel
theorem d_Value_turned_38 : decode prog_11_method_8_code 38 = .ok (.lstore_n 1, 1) := by decide +kernel
theorem d_Value_turned_39 : decode prog_11_method_8_code 39 = .ok (.iinc 5 (-1), 3) := by decide +kernel
theorem d_Value_turned_42 : decode prog_11_method_8_code 42 = .ok (.goto (-26), 3) := by decide +kernel
theorem d_Value_turned_45 : decode prog_11_method_8_code 45 = .ok (.lload_n 3, 1) := by decide +kernel
theorem d_Value_turned_46 : decode prog_11_method_8_code 46 = .ok (.lreturn, 1) := by decide +kernel
theorem d_Value_across_0 : decode prog_11_method_9_code 0 = .ok (.aload_n 0, 1) := by decide +kernel
theorem d_Value_across_1 : decode prog_11_method_9_code 1 = .ok (.getfield 15, 3) := by decide +kernel
theorem d_Value_across_4 : decode prog_11_method_9_code 4 = .ok (.lstore_n 1, 1) := by decide +kernel
theorem d_Value_across_5 : decode prog_11_method_9_code 5 = .ok (.lconst 0, 1) := by decide +kernel
theorem d_Value_across_6 : decode prog_11_method_9_code 6 = .ok (.lstore_n 3, 1) := by decide +kernel
theorem d_Value_across_7 : decode prog_11_method_9_code 7 = .ok (.aload_n 0, 1) := by decide +kernel
theorem d_Value_across_8 : decode prog_11_method_9_code 8 = .ok (.getfield 15, 3) := by decide +kernel
theorem d_Value_across_11 : decode prog_11_method_9_code 11 = .ok (.invokestatic 40, 3) := by decide +kernel
theorem d_Value_across_14 : decode prog_11_method_9_code 14 = .ok (.istore 5, 2) := by decide +kernel
theorem d_Value_across_16 : decode prog_11_method_9_code 16 = .ok (.iload 5, 2) := by decide +kernel
theorem d_Value_across_18 : decode prog_11_method_9_code 18 = .ok (.ifCond .le 23, 3) := by decide +kernel
theorem d_Value_across_21 : decode prog_11_method_9_code 21 = .ok (.lload_n 3, 1) := by decide +kernel
theorem d_Value_across_22 : decode prog_11_method_9_code 22 = .ok (.lload_n 1, 1) := by decide +kernel
theorem d_Value_across_23 : decode prog_11_method_9_code 23 = .ok (.ldc2_w 55, 3) := by decide +kernel
theorem d_Value_across_26 : decode prog_11_method_9_code 26 = .ok (.lrem, 1) := by decide +kernel
theorem d_Value_across_27 : decode prog_11_method_9_code 27 = .ok (.ladd, 1) := by decide +kernel
theorem d_Value_across_28 : decode prog_11_method_9_code 28 = .ok (.lstore_n 3, 1) := by decide +kernel
theorem d_Value_across_29 : decode prog_11_method_9_code 29 = .ok (.lload_n 1, 1) := by decide +kernel
theorem d_Value_across_30 : decode prog_11_method_9_code 30 = .ok (.ldc2_w 55, 3) := by decide +kernel
theorem d_Value_across_33 : decode prog_11_method_9_code 33 = .ok (.ldiv, 1) := by decide +kernel
theorem d_Value_across_34 : decode prog_11_method_9_code 34 = .ok (.lstore_n 1, 1) := by decide +kernel
theorem d_Value_across_35 : decode prog_11_method_9_code 35 = .ok (.iinc 5 (-1), 3) := by decide +kernel
theorem d_Value_across_38 : decode prog_11_method_9_code 38 = .ok (.goto (-22), 3) := by decide +kernel
theorem d_Value_across_41 : decode prog_11_method_9_code 41 = .ok (.lload_n 3, 1) := by decide +kernel
theorem d_Value_across_42 : decode prog_11_method_9_code 42 = .ok (.lreturn, 1) := by decide +kernel
theorem d_Value_without_0 : decode prog_11_method_10_code 0 = .ok (.aload_n 0, 1) := by decide +kernel
theorem d_Value_without_1 : decode prog_11_method_10_code 1 = .ok (.getfield 15, 3) := by decide +kernel
theorem d_Value_without_4 : decode prog_11_method_10_code 4 = .ok (.invokestatic 40, 3) := by decide +kernel
theorem d_Value_without_7 : decode prog_11_method_10_code 7 = .ok (.iload_n 1, 1) := by decide +kernel
theorem d_Value_without_8 : decode prog_11_method_10_code 8 = .ok (.isub, 1) := by decide +kernel
theorem d_Value_without_9 : decode prog_11_method_10_code 9 = .ok (.istore_n 2, 1) := by decide +kernel
theorem d_Value_without_10 : decode prog_11_method_10_code 10 = .ok (.iload_n 2, 1) := by decide +kernel
theorem d_Value_without_11 : decode prog_11_method_10_code 11 = .ok (.ifCond .lt 11, 3) := by decide +kernel
theorem d_Value_without_14 : decode prog_11_method_10_code 14 = .ok (.iload_n 2, 1) := by decide +kernel
theorem d_Value_without_15 : decode prog_11_method_10_code 15 = .ok (.getstatic 36, 3) := by decide +kernel
theorem d_Value_without_18 : decode prog_11_method_10_code 18 = .ok (.arraylength, 1) := by decide +kernel
theorem d_Value_without_19 : decode prog_11_method_10_code 19 = .ok (.if_icmp .lt 8, 3) := by decide +kernel
theorem d_Value_without_22 : decode prog_11_method_10_code 22 = .ok (.aload_n 0, 1) := by decide +kernel
theorem d_Value_without_23 : decode prog_11_method_10_code 23 = .ok (.getfield 15, 3) := by decide +kernel
theorem d_Value_without_26 : decode prog_11_method_10_code 26 = .ok (.lreturn, 1) := by decide +kernel
theorem d_Value_without_27 : decode prog_11_method_10_code 27 = .ok (.getstatic 36, 3) := by decide +kernel
theorem d_Value_without_30 : decode prog_11_method_10_code 30 = .ok (.iload_n 2, 1) := by decide +kernel
theorem d_Value_without_31 : decode prog_11_method_10_code 31 = .ok (.laload, 1) := by decide +kernel
theorem d_Value_without_32 : decode prog_11_method_10_code 32 = .ok (.lstore_n 3, 1) := by decide +kernel
theorem d_Value_without_33 : decode prog_11_method_10_code 33 = .ok (.lload_n 3, 1) := by decide +kernel
theorem d_Value_without_34 : decode prog_11_method_10_code 34 = .ok (.lconst 0, 1) := by decide +kernel
theorem d_Value_without_35 : decode prog_11_method_10_code 35 = .ok (.lcmp, 1) := by decide +kernel
