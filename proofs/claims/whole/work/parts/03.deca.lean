theorem dX0_init_0 : decode cX0_init 0 = .ok (.aload_n 0, 1) := by decide +kernel
theorem dX0_init_1 : decode cX0_init 1 = .ok (.invokespecial 1, 3) := by decide +kernel
theorem dX0_init_4 : decode cX0_init 4 = .ok (.aload_n 0, 1) := by decide +kernel
theorem dX0_init_5 : decode cX0_init 5 = .ok (.new 7, 3) := by decide +kernel
theorem dX0_init_8 : decode cX0_init 8 = .ok (.dup, 1) := by decide +kernel
theorem dX0_init_9 : decode cX0_init 9 = .ok (.invokespecial 9, 3) := by decide +kernel
theorem dX0_init_12 : decode cX0_init 12 = .ok (.putfield 10, 3) := by decide +kernel
theorem dX0_init_15 : decode cX0_init 15 = .ok (.aload_n 0, 1) := by decide +kernel
theorem dX0_init_16 : decode cX0_init 16 = .ok (.iconst 1, 1) := by decide +kernel
theorem dX0_init_17 : decode cX0_init 17 = .ok (.putfield 16, 3) := by decide +kernel
theorem dX0_init_20 : decode cX0_init 20 = .ok (.aload_n 0, 1) := by decide +kernel
theorem dX0_init_21 : decode cX0_init 21 = .ok (.iconst 1, 1) := by decide +kernel
theorem dX0_init_22 : decode cX0_init 22 = .ok (.putfield 20, 3) := by decide +kernel
theorem dX0_init_25 : decode cX0_init 25 = .ok (.aload_n 0, 1) := by decide +kernel
theorem dX0_init_26 : decode cX0_init 26 = .ok (.aload_n 1, 1) := by decide +kernel
theorem dX0_init_27 : decode cX0_init 27 = .ok (.putfield 23, 3) := by decide +kernel
theorem dX0_init_30 : decode cX0_init 30 = .ok (.return_, 1) := by decide +kernel
theorem dX0_charge_0 : decode cX0_charge 0 = .ok (.aload_n 0, 1) := by decide +kernel
theorem dX0_charge_1 : decode cX0_charge 1 = .ok (.iload_n 1, 1) := by decide +kernel
theorem dX0_charge_2 : decode cX0_charge 2 = .ok (.putfield 16, 3) := by decide +kernel
theorem dX0_charge_5 : decode cX0_charge 5 = .ok (.aload_n 0, 1) := by decide +kernel
theorem dX0_charge_6 : decode cX0_charge 6 = .ok (.iload_n 2, 1) := by decide +kernel
theorem dX0_charge_7 : decode cX0_charge 7 = .ok (.putfield 20, 3) := by decide +kernel
theorem dX0_charge_10 : decode cX0_charge 10 = .ok (.return_, 1) := by decide +kernel
theorem dX0_forget_0 : decode cX0_forget 0 = .ok (.aload_n 0, 1) := by decide +kernel
theorem dX0_forget_1 : decode cX0_forget 1 = .ok (.getfield 10, 3) := by decide +kernel
theorem dX0_forget_4 : decode cX0_forget 4 = .ok (.invokevirtual 27, 3) := by decide +kernel
theorem dX0_forget_7 : decode cX0_forget 7 = .ok (.aload_n 0, 1) := by decide +kernel
theorem dX0_forget_8 : decode cX0_forget 8 = .ok (.iconst 0, 1) := by decide +kernel
theorem dX0_forget_9 : decode cX0_forget 9 = .ok (.putfield 30, 3) := by decide +kernel
theorem dX0_forget_12 : decode cX0_forget 12 = .ok (.return_, 1) := by decide +kernel
theorem dX0_ask_0 : decode cX0_ask 0 = .ok (.aload_n 0, 1) := by decide +kernel
theorem dX0_ask_1 : decode cX0_ask 1 = .ok (.getfield 10, 3) := by decide +kernel
theorem dX0_ask_4 : decode cX0_ask 4 = .ok (.invokevirtual 33, 3) := by decide +kernel
theorem dX0_ask_7 : decode cX0_ask 7 = .ok (.aload_n 0, 1) := by decide +kernel
theorem dX0_ask_8 : decode cX0_ask 8 = .ok (.getfield 10, 3) := by decide +kernel
theorem dX0_ask_11 : decode cX0_ask 11 = .ok (.lload_n 1, 1) := by decide +kernel
theorem dX0_ask_12 : decode cX0_ask 12 = .ok (.invokevirtual 36, 3) := by decide +kernel
theorem dX0_ask_15 : decode cX0_ask 15 = .ok (.ifCond .eq 26, 3) := by decide +kernel
theorem dX0_ask_18 : decode cX0_ask 18 = .ok (.aload_n 0, 1) := by decide +kernel
theorem dX0_ask_19 : decode cX0_ask 19 = .ok (.dup, 1) := by decide +kernel
theorem dX0_ask_20 : decode cX0_ask 20 = .ok (.getfield 30, 3) := by decide +kernel
theorem dX0_ask_23 : decode cX0_ask 23 = .ok (.aload_n 0, 1) := by decide +kernel
theorem dX0_ask_24 : decode cX0_ask 24 = .ok (.getfield 16, 3) := by decide +kernel
theorem dX0_ask_27 : decode cX0_ask 27 = .ok (.aload_n 0, 1) := by decide +kernel
theorem dX0_ask_28 : decode cX0_ask 28 = .ok (.getfield 20, 3) := by decide +kernel
theorem dX0_ask_31 : decode cX0_ask 31 = .ok (.lload_n 1, 1) := by decide +kernel
theorem dX0_ask_32 : decode cX0_ask 32 = .ok (.invokestatic 40, 3) := by decide +kernel
theorem dX0_ask_35 : decode cX0_ask 35 = .ok (.imul, 1) := by decide +kernel
theorem dX0_ask_36 : decode cX0_ask 36 = .ok (.iadd, 1) := by decide +kernel
theorem dX0_ask_37 : decode cX0_ask 37 = .ok (.iadd, 1) := by decide +kernel
theorem dX0_ask_38 : decode cX0_ask 38 = .ok (.putfield 30, 3) := by decide +kernel
theorem dX0_ask_41 : decode cX0_ask 41 = .ok (.aload_n 0, 1) := by decide +kernel
theorem dX0_ask_42 : decode cX0_ask 42 = .ok (.getfield 23, 3) := by decide +kernel
theorem dX0_ask_45 : decode cX0_ask 45 = .ok (.aload_n 0, 1) := by decide +kernel
theorem dX0_ask_46 : decode cX0_ask 46 = .ok (.getfield 23, 3) := by decide +kernel
theorem dX0_ask_49 : decode cX0_ask 49 = .ok (.iconst 0, 1) := by decide +kernel
theorem dX0_ask_50 : decode cX0_ask 50 = .ok (.lload_n 1, 1) := by decide +kernel
theorem dX0_ask_51 : decode cX0_ask 51 = .ok (.invokevirtual 46, 3) := by decide +kernel
theorem dX0_ask_54 : decode cX0_ask 54 = .ok (.invokevirtual 52, 3) := by decide +kernel
theorem dX0_ask_57 : decode cX0_ask 57 = .ok (.ireturn, 1) := by decide +kernel
theorem dX1_measure_0 : decode cX1_measure 0 = .ok (.lload_n 0, 1) := by decide +kernel
theorem dX1_measure_1 : decode cX1_measure 1 = .ok (.lstore_n 3, 1) := by decide +kernel
theorem dX1_measure_2 : decode cX1_measure 2 = .ok (.iconst 0, 1) := by decide +kernel
theorem dX1_measure_3 : decode cX1_measure 3 = .ok (.istore 5, 2) := by decide +kernel
theorem dX1_measure_5 : decode cX1_measure 5 = .ok (.iload 5, 2) := by decide +kernel
theorem dX1_measure_7 : decode cX1_measure 7 = .ok (.bipush 30, 2) := by decide +kernel
theorem dX1_measure_9 : decode cX1_measure 9 = .ok (.if_icmp .gt 41, 3) := by decide +kernel
theorem dX1_measure_12 : decode cX1_measure 12 = .ok (.lload_n 3, 1) := by decide +kernel
theorem dX1_measure_13 : decode cX1_measure 13 = .ok (.lconst 1, 1) := by decide +kernel
theorem dX1_measure_14 : decode cX1_measure 14 = .ok (.lcmp, 1) := by decide +kernel
theorem dX1_measure_15 : decode cX1_measure 15 = .ok (.ifCond .ne 6, 3) := by decide +kernel
theorem dX1_measure_18 : decode cX1_measure 18 = .ok (.iload 5, 2) := by decide +kernel
theorem dX1_measure_20 : decode cX1_measure 20 = .ok (.ireturn, 1) := by decide +kernel
theorem dX1_measure_21 : decode cX1_measure 21 = .ok (.lload_n 3, 1) := by decide +kernel
theorem dX1_measure_22 : decode cX1_measure 22 = .ok (.lconst 1, 1) := by decide +kernel
theorem dX1_measure_23 : decode cX1_measure 23 = .ok (.lcmp, 1) := by decide +kernel
theorem dX1_measure_24 : decode cX1_measure 24 = .ok (.ifCond .lt 14, 3) := by decide +kernel
theorem dX1_measure_27 : decode cX1_measure 27 = .ok (.lload_n 3, 1) := by decide +kernel
theorem dX1_measure_28 : decode cX1_measure 28 = .ok (.ldc2_w 9, 3) := by decide +kernel
theorem dX1_measure_31 : decode cX1_measure 31 = .ok (.land, 1) := by decide +kernel
theorem dX1_measure_32 : decode cX1_measure 32 = .ok (.iload_n 2, 1) := by decide +kernel
theorem dX1_measure_33 : decode cX1_measure 33 = .ok (.i2l, 1) := by decide +kernel
theorem dX1_measure_34 : decode cX1_measure 34 = .ok (.lcmp, 1) := by decide +kernel
theorem dX1_measure_35 : decode cX1_measure 35 = .ok (.ifCond .lt 5, 3) := by decide +kernel
theorem dX1_measure_38 : decode cX1_measure 38 = .ok (.iconst (-1), 1) := by decide +kernel
theorem dX1_measure_39 : decode cX1_measure 39 = .ok (.ireturn, 1) := by decide +kernel
theorem dX1_measure_40 : decode cX1_measure 40 = .ok (.lload_n 3, 1) := by decide +kernel
theorem dX1_measure_41 : decode cX1_measure 41 = .ok (.iconst 2, 1) := by decide +kernel
theorem dX1_measure_42 : decode cX1_measure 42 = .ok (.lshr, 1) := by decide +kernel
theorem dX1_measure_43 : decode cX1_measure 43 = .ok (.lstore_n 3, 1) := by decide +kernel
theorem dX1_measure_44 : decode cX1_measure 44 = .ok (.iinc 5 1, 3) := by decide +kernel
theorem dX1_measure_47 : decode cX1_measure 47 = .ok (.goto (-42), 3) := by decide +kernel
theorem dX1_measure_50 : decode cX1_measure 50 = .ok (.iconst (-1), 1) := by decide +kernel
theorem dX1_measure_51 : decode cX1_measure 51 = .ok (.ireturn, 1) := by decide +kernel
theorem dX1_length_0 : decode cX1_length 0 = .ok (.lload_n 0, 1) := by decide +kernel
theorem dX1_length_1 : decode cX1_length 1 = .ok (.lstore_n 2, 1) := by decide +kernel
theorem dX1_length_2 : decode cX1_length 2 = .ok (.iconst 0, 1) := by decide +kernel
theorem dX1_length_3 : decode cX1_length 3 = .ok (.istore 4, 2) := by decide +kernel
theorem dX1_length_5 : decode cX1_length 5 = .ok (.iload 4, 2) := by decide +kernel
theorem dX1_length_7 : decode cX1_length 7 = .ok (.bipush 30, 2) := by decide +kernel
theorem dX1_length_9 : decode cX1_length 9 = .ok (.if_icmp .ge 22, 3) := by decide +kernel
theorem dX1_length_12 : decode cX1_length 12 = .ok (.lload_n 2, 1) := by decide +kernel
theorem dX1_length_13 : decode cX1_length 13 = .ok (.lconst 1, 1) := by decide +kernel
theorem dX1_length_14 : decode cX1_length 14 = .ok (.lcmp, 1) := by decide +kernel
theorem dX1_length_15 : decode cX1_length 15 = .ok (.ifCond .gt 6, 3) := by decide +kernel
theorem dX1_length_18 : decode cX1_length 18 = .ok (.iload 4, 2) := by decide +kernel
theorem dX1_length_20 : decode cX1_length 20 = .ok (.ireturn, 1) := by decide +kernel
theorem dX1_length_21 : decode cX1_length 21 = .ok (.lload_n 2, 1) := by decide +kernel
theorem dX1_length_22 : decode cX1_length 22 = .ok (.iconst 2, 1) := by decide +kernel
theorem dX1_length_23 : decode cX1_length 23 = .ok (.lshr, 1) := by decide +kernel
theorem dX1_length_24 : decode cX1_length 24 = .ok (.lstore_n 2, 1) := by decide +kernel
theorem dX1_length_25 : decode cX1_length 25 = .ok (.iinc 4 1, 3) := by decide +kernel
theorem dX1_length_28 : decode cX1_length 28 = .ok (.goto (-23), 3) := by decide +kernel
theorem dX1_length_31 : decode cX1_length 31 = .ok (.bipush 30, 2) := by decide +kernel
theorem dX1_length_33 : decode cX1_length 33 = .ok (.ireturn, 1) := by decide +kernel
theorem dX1_at_0 : decode cX1_at 0 = .ok (.lload_n 0, 1) := by decide +kernel
theorem dX1_at_1 : decode cX1_at 1 = .ok (.invokestatic 11, 3) := by decide +kernel
theorem dX1_at_4 : decode cX1_at 4 = .ok (.iconst 1, 1) := by decide +kernel
theorem dX1_at_5 : decode cX1_at 5 = .ok (.isub, 1) := by decide +kernel
theorem dX1_at_6 : decode cX1_at 6 = .ok (.iload_n 2, 1) := by decide +kernel
theorem dX1_at_7 : decode cX1_at 7 = .ok (.isub, 1) := by decide +kernel
theorem dX1_at_8 : decode cX1_at 8 = .ok (.istore_n 3, 1) := by decide +kernel
theorem dX1_at_9 : decode cX1_at 9 = .ok (.iload_n 2, 1) := by decide +kernel
theorem dX1_at_10 : decode cX1_at 10 = .ok (.ifCond .lt 7, 3) := by decide +kernel
theorem dX1_at_13 : decode cX1_at 13 = .ok (.iload_n 3, 1) := by decide +kernel
theorem dX1_at_14 : decode cX1_at 14 = .ok (.ifCond .ge 7, 3) := by decide +kernel
theorem dX1_at_17 : decode cX1_at 17 = .ok (.iconst (-1), 1) := by decide +kernel
theorem dX1_at_18 : decode cX1_at 18 = .ok (.goto 11, 3) := by decide +kernel
theorem dX1_at_21 : decode cX1_at 21 = .ok (.lload_n 0, 1) := by decide +kernel
theorem dX1_at_22 : decode cX1_at 22 = .ok (.iconst 2, 1) := by decide +kernel
theorem dX1_at_23 : decode cX1_at 23 = .ok (.iload_n 3, 1) := by decide +kernel
theorem dX1_at_24 : decode cX1_at 24 = .ok (.imul, 1) := by decide +kernel
theorem dX1_at_25 : decode cX1_at 25 = .ok (.lshr, 1) := by decide +kernel
theorem dX1_at_26 : decode cX1_at 26 = .ok (.l2i, 1) := by decide +kernel
theorem dX1_at_27 : decode cX1_at 27 = .ok (.iconst 3, 1) := by decide +kernel
theorem dX1_at_28 : decode cX1_at 28 = .ok (.iand, 1) := by decide +kernel
theorem dX1_at_29 : decode cX1_at 29 = .ok (.ireturn, 1) := by decide +kernel
theorem dX1_then_0 : decode cX1_then 0 = .ok (.ldc2_w 17, 3) := by decide +kernel
theorem dX1_then_3 : decode cX1_then 3 = .ok (.lload_n 0, 1) := by decide +kernel
theorem dX1_then_4 : decode cX1_then 4 = .ok (.lmul, 1) := by decide +kernel
theorem dX1_then_5 : decode cX1_then 5 = .ok (.iload_n 2, 1) := by decide +kernel
theorem dX1_then_6 : decode cX1_then 6 = .ok (.i2l, 1) := by decide +kernel
theorem dX1_then_7 : decode cX1_then 7 = .ok (.ladd, 1) := by decide +kernel
theorem dX1_then_8 : decode cX1_then 8 = .ok (.lreturn, 1) := by decide +kernel
theorem dX1_join_0 : decode cX1_join 0 = .ok (.lload_n 2, 1) := by decide +kernel
theorem dX1_join_1 : decode cX1_join 1 = .ok (.invokestatic 11, 3) := by decide +kernel
theorem dX1_join_4 : decode cX1_join 4 = .ok (.istore 4, 2) := by decide +kernel
theorem dX1_join_6 : decode cX1_join 6 = .ok (.lload_n 0, 1) := by decide +kernel
theorem dX1_join_7 : decode cX1_join 7 = .ok (.invokestatic 11, 3) := by decide +kernel
theorem dX1_join_10 : decode cX1_join 10 = .ok (.iload 4, 2) := by decide +kernel
theorem dX1_join_12 : decode cX1_join 12 = .ok (.iadd, 1) := by decide +kernel
theorem dX1_join_13 : decode cX1_join 13 = .ok (.bipush 30, 2) := by decide +kernel
theorem dX1_join_15 : decode cX1_join 15 = .ok (.if_icmp .le 7, 3) := by decide +kernel
theorem dX1_join_18 : decode cX1_join 18 = .ok (.ldc2_w 19, 3) := by decide +kernel
theorem dX1_join_21 : decode cX1_join 21 = .ok (.lreturn, 1) := by decide +kernel
theorem dX1_join_22 : decode cX1_join 22 = .ok (.lconst 1, 1) := by decide +kernel
theorem dX1_join_23 : decode cX1_join 23 = .ok (.iconst 2, 1) := by decide +kernel
theorem dX1_join_24 : decode cX1_join 24 = .ok (.iload 4, 2) := by decide +kernel
theorem dX1_join_26 : decode cX1_join 26 = .ok (.imul, 1) := by decide +kernel
theorem dX1_join_27 : decode cX1_join 27 = .ok (.lshl, 1) := by decide +kernel
theorem dX1_join_28 : decode cX1_join 28 = .ok (.lstore 5, 2) := by decide +kernel
theorem dX1_join_30 : decode cX1_join 30 = .ok (.lload_n 0, 1) := by decide +kernel
theorem dX1_join_31 : decode cX1_join 31 = .ok (.lload 5, 2) := by decide +kernel
theorem dX1_join_33 : decode cX1_join 33 = .ok (.lmul, 1) := by decide +kernel
theorem dX1_join_34 : decode cX1_join 34 = .ok (.lload_n 2, 1) := by decide +kernel
theorem dX1_join_35 : decode cX1_join 35 = .ok (.lload 5, 2) := by decide +kernel
theorem dX1_join_37 : decode cX1_join 37 = .ok (.lsub, 1) := by decide +kernel
theorem dX1_join_38 : decode cX1_join 38 = .ok (.ladd, 1) := by decide +kernel
theorem dX1_join_39 : decode cX1_join 39 = .ok (.lreturn, 1) := by decide +kernel
theorem dX1_first_0 : decode cX1_first 0 = .ok (.lload_n 0, 1) := by decide +kernel
theorem dX1_first_1 : decode cX1_first 1 = .ok (.invokestatic 11, 3) := by decide +kernel
theorem dX1_first_4 : decode cX1_first 4 = .ok (.iload_n 2, 1) := by decide +kernel
theorem dX1_first_5 : decode cX1_first 5 = .ok (.isub, 1) := by decide +kernel
theorem dX1_first_6 : decode cX1_first 6 = .ok (.istore_n 3, 1) := by decide +kernel
theorem dX1_first_7 : decode cX1_first 7 = .ok (.iload_n 2, 1) := by decide +kernel
theorem dX1_first_8 : decode cX1_first 8 = .ok (.ifCond .lt 7, 3) := by decide +kernel
theorem dX1_first_11 : decode cX1_first 11 = .ok (.iload_n 3, 1) := by decide +kernel
theorem dX1_first_12 : decode cX1_first 12 = .ok (.ifCond .ge 9, 3) := by decide +kernel
theorem dX1_first_15 : decode cX1_first 15 = .ok (.ldc2_w 19, 3) := by decide +kernel
theorem dX1_first_18 : decode cX1_first 18 = .ok (.goto 8, 3) := by decide +kernel
theorem dX1_first_21 : decode cX1_first 21 = .ok (.lload_n 0, 1) := by decide +kernel
theorem dX1_first_22 : decode cX1_first 22 = .ok (.iconst 2, 1) := by decide +kernel
theorem dX1_first_23 : decode cX1_first 23 = .ok (.iload_n 3, 1) := by decide +kernel
theorem dX1_first_24 : decode cX1_first 24 = .ok (.imul, 1) := by decide +kernel
theorem dX1_first_25 : decode cX1_first 25 = .ok (.lshr, 1) := by decide +kernel
theorem dX1_first_26 : decode cX1_first 26 = .ok (.lreturn, 1) := by decide +kernel
theorem dX1_behind_0 : decode cX1_behind 0 = .ok (.lload_n 0, 1) := by decide +kernel
theorem dX1_behind_1 : decode cX1_behind 1 = .ok (.invokestatic 11, 3) := by decide +kernel
theorem dX1_behind_4 : decode cX1_behind 4 = .ok (.iload_n 2, 1) := by decide +kernel
theorem dX1_behind_5 : decode cX1_behind 5 = .ok (.isub, 1) := by decide +kernel
theorem dX1_behind_6 : decode cX1_behind 6 = .ok (.istore_n 3, 1) := by decide +kernel
theorem dX1_behind_7 : decode cX1_behind 7 = .ok (.iload_n 2, 1) := by decide +kernel
theorem dX1_behind_8 : decode cX1_behind 8 = .ok (.ifCond .lt 7, 3) := by decide +kernel
theorem dX1_behind_11 : decode cX1_behind 11 = .ok (.iload_n 3, 1) := by decide +kernel
theorem dX1_behind_12 : decode cX1_behind 12 = .ok (.ifCond .ge 7, 3) := by decide +kernel
theorem dX1_behind_15 : decode cX1_behind 15 = .ok (.ldc2_w 19, 3) := by decide +kernel
theorem dX1_behind_18 : decode cX1_behind 18 = .ok (.lreturn, 1) := by decide +kernel
theorem dX1_behind_19 : decode cX1_behind 19 = .ok (.lconst 1, 1) := by decide +kernel
theorem dX1_behind_20 : decode cX1_behind 20 = .ok (.iconst 2, 1) := by decide +kernel
theorem dX1_behind_21 : decode cX1_behind 21 = .ok (.iload_n 3, 1) := by decide +kernel
theorem dX1_behind_22 : decode cX1_behind 22 = .ok (.imul, 1) := by decide +kernel
theorem dX1_behind_23 : decode cX1_behind 23 = .ok (.lshl, 1) := by decide +kernel
theorem dX1_behind_24 : decode cX1_behind 24 = .ok (.lstore 4, 2) := by decide +kernel
theorem dX1_behind_26 : decode cX1_behind 26 = .ok (.lload 4, 2) := by decide +kernel
theorem dX1_behind_28 : decode cX1_behind 28 = .ok (.lload_n 0, 1) := by decide +kernel
theorem dX1_behind_29 : decode cX1_behind 29 = .ok (.lload 4, 2) := by decide +kernel
theorem dX1_behind_31 : decode cX1_behind 31 = .ok (.lconst 1, 1) := by decide +kernel
theorem dX1_behind_32 : decode cX1_behind 32 = .ok (.lsub, 1) := by decide +kernel
theorem dX1_behind_33 : decode cX1_behind 33 = .ok (.land, 1) := by decide +kernel
theorem dX1_behind_34 : decode cX1_behind 34 = .ok (.ladd, 1) := by decide +kernel
theorem dX1_behind_35 : decode cX1_behind 35 = .ok (.lreturn, 1) := by decide +kernel
theorem dX1_countUpTo_0 : decode cX1_countUpTo 0 = .ok (.iconst 0, 1) := by decide +kernel
theorem dX1_countUpTo_1 : decode cX1_countUpTo 1 = .ok (.istore_n 2, 1) := by decide +kernel
theorem dX1_countUpTo_2 : decode cX1_countUpTo 2 = .ok (.iconst 1, 1) := by decide +kernel
theorem dX1_countUpTo_3 : decode cX1_countUpTo 3 = .ok (.istore_n 3, 1) := by decide +kernel
theorem dX1_countUpTo_4 : decode cX1_countUpTo 4 = .ok (.iconst 0, 1) := by decide +kernel
theorem dX1_countUpTo_5 : decode cX1_countUpTo 5 = .ok (.istore 4, 2) := by decide +kernel
theorem dX1_countUpTo_7 : decode cX1_countUpTo 7 = .ok (.iload 4, 2) := by decide +kernel
theorem dX1_countUpTo_9 : decode cX1_countUpTo 9 = .ok (.iload_n 0, 1) := by decide +kernel
theorem dX1_countUpTo_10 : decode cX1_countUpTo 10 = .ok (.if_icmp .gt 17, 3) := by decide +kernel
theorem dX1_countUpTo_13 : decode cX1_countUpTo 13 = .ok (.iload_n 2, 1) := by decide +kernel
theorem dX1_countUpTo_14 : decode cX1_countUpTo 14 = .ok (.iload_n 3, 1) := by decide +kernel
theorem dX1_countUpTo_15 : decode cX1_countUpTo 15 = .ok (.iadd, 1) := by decide +kernel
theorem dX1_countUpTo_16 : decode cX1_countUpTo 16 = .ok (.istore_n 2, 1) := by decide +kernel
theorem dX1_countUpTo_17 : decode cX1_countUpTo 17 = .ok (.iload_n 3, 1) := by decide +kernel
theorem dX1_countUpTo_18 : decode cX1_countUpTo 18 = .ok (.iload_n 1, 1) := by decide +kernel
theorem dX1_countUpTo_19 : decode cX1_countUpTo 19 = .ok (.imul, 1) := by decide +kernel
theorem dX1_countUpTo_20 : decode cX1_countUpTo 20 = .ok (.istore_n 3, 1) := by decide +kernel
theorem dX1_countUpTo_21 : decode cX1_countUpTo 21 = .ok (.iinc 4 1, 3) := by decide +kernel
theorem dX1_countUpTo_24 : decode cX1_countUpTo 24 = .ok (.goto (-17), 3) := by decide +kernel
theorem dX1_countUpTo_27 : decode cX1_countUpTo 27 = .ok (.iload_n 2, 1) := by decide +kernel
theorem dX1_countUpTo_28 : decode cX1_countUpTo 28 = .ok (.ireturn, 1) := by decide +kernel
theorem dX1_kth_0 : decode cX1_kth 0 = .ok (.iload_n 0, 1) := by decide +kernel
theorem dX1_kth_1 : decode cX1_kth 1 = .ok (.i2l, 1) := by decide +kernel
theorem dX1_kth_2 : decode cX1_kth 2 = .ok (.lstore_n 2, 1) := by decide +kernel
theorem dX1_kth_3 : decode cX1_kth 3 = .ok (.lconst 1, 1) := by decide +kernel
theorem dX1_kth_4 : decode cX1_kth 4 = .ok (.lstore 4, 2) := by decide +kernel
theorem dX1_kth_6 : decode cX1_kth 6 = .ok (.iconst 0, 1) := by decide +kernel
theorem dX1_kth_7 : decode cX1_kth 7 = .ok (.istore 6, 2) := by decide +kernel
theorem dX1_kth_9 : decode cX1_kth 9 = .ok (.iload 6, 2) := by decide +kernel
theorem dX1_kth_11 : decode cX1_kth 11 = .ok (.bipush 30, 2) := by decide +kernel
theorem dX1_kth_13 : decode cX1_kth 13 = .ok (.if_icmp .gt 36, 3) := by decide +kernel
theorem dX1_kth_16 : decode cX1_kth 16 = .ok (.lload_n 2, 1) := by decide +kernel
theorem dX1_kth_17 : decode cX1_kth 17 = .ok (.lload 4, 2) := by decide +kernel
theorem dX1_kth_19 : decode cX1_kth 19 = .ok (.lcmp, 1) := by decide +kernel
theorem dX1_kth_20 : decode cX1_kth 20 = .ok (.ifCond .ge 11, 3) := by decide +kernel
theorem dX1_kth_23 : decode cX1_kth 23 = .ok (.lload_n 2, 1) := by decide +kernel
theorem dX1_kth_24 : decode cX1_kth 24 = .ok (.iload 6, 2) := by decide +kernel
theorem dX1_kth_26 : decode cX1_kth 26 = .ok (.iload_n 1, 1) := by decide +kernel
theorem dX1_kth_27 : decode cX1_kth 27 = .ok (.invokestatic 21, 3) := by decide +kernel
theorem dX1_kth_30 : decode cX1_kth 30 = .ok (.lreturn, 1) := by decide +kernel
theorem dX1_kth_31 : decode cX1_kth 31 = .ok (.lload_n 2, 1) := by decide +kernel
theorem dX1_kth_32 : decode cX1_kth 32 = .ok (.lload 4, 2) := by decide +kernel
theorem dX1_kth_34 : decode cX1_kth 34 = .ok (.lsub, 1) := by decide +kernel
theorem dX1_kth_35 : decode cX1_kth 35 = .ok (.lstore_n 2, 1) := by decide +kernel
theorem dX1_kth_36 : decode cX1_kth 36 = .ok (.lload 4, 2) := by decide +kernel
theorem dX1_kth_38 : decode cX1_kth 38 = .ok (.iload_n 1, 1) := by decide +kernel
theorem dX1_kth_39 : decode cX1_kth 39 = .ok (.i2l, 1) := by decide +kernel
theorem dX1_kth_40 : decode cX1_kth 40 = .ok (.lmul, 1) := by decide +kernel
theorem dX1_kth_41 : decode cX1_kth 41 = .ok (.lstore 4, 2) := by decide +kernel
theorem dX1_kth_43 : decode cX1_kth 43 = .ok (.iinc 6 1, 3) := by decide +kernel
theorem dX1_kth_46 : decode cX1_kth 46 = .ok (.goto (-37), 3) := by decide +kernel
theorem dX1_kth_49 : decode cX1_kth 49 = .ok (.ldc2_w 19, 3) := by decide +kernel
theorem dX1_kth_52 : decode cX1_kth 52 = .ok (.lreturn, 1) := by decide +kernel
theorem dX1_numbered_0 : decode cX1_numbered 0 = .ok (.iload_n 3, 1) := by decide +kernel
theorem dX1_numbered_1 : decode cX1_numbered 1 = .ok (.iconst 1, 1) := by decide +kernel
theorem dX1_numbered_2 : decode cX1_numbered 2 = .ok (.if_icmp .ge 7, 3) := by decide +kernel
theorem dX1_numbered_5 : decode cX1_numbered 5 = .ok (.ldc2_w 19, 3) := by decide +kernel
theorem dX1_numbered_8 : decode cX1_numbered 8 = .ok (.lreturn, 1) := by decide +kernel
theorem dX1_numbered_9 : decode cX1_numbered 9 = .ok (.lload_n 0, 1) := by decide +kernel
theorem dX1_numbered_10 : decode cX1_numbered 10 = .ok (.lstore 4, 2) := by decide +kernel
theorem dX1_numbered_12 : decode cX1_numbered 12 = .ok (.lconst 1, 1) := by decide +kernel
theorem dX1_numbered_13 : decode cX1_numbered 13 = .ok (.iconst 2, 1) := by decide +kernel
theorem dX1_numbered_14 : decode cX1_numbered 14 = .ok (.iload_n 2, 1) := by decide +kernel
theorem dX1_numbered_15 : decode cX1_numbered 15 = .ok (.imul, 1) := by decide +kernel
theorem dX1_numbered_16 : decode cX1_numbered 16 = .ok (.lshl, 1) := by decide +kernel
theorem dX1_numbered_17 : decode cX1_numbered 17 = .ok (.lstore 6, 2) := by decide +kernel
theorem dX1_numbered_19 : decode cX1_numbered 19 = .ok (.iconst 0, 1) := by decide +kernel
theorem dX1_numbered_20 : decode cX1_numbered 20 = .ok (.istore 8, 2) := by decide +kernel
theorem dX1_numbered_22 : decode cX1_numbered 22 = .ok (.iload 8, 2) := by decide +kernel
theorem dX1_numbered_24 : decode cX1_numbered 24 = .ok (.iload_n 2, 1) := by decide +kernel
theorem dX1_numbered_25 : decode cX1_numbered 25 = .ok (.if_icmp .ge 31, 3) := by decide +kernel
theorem dX1_numbered_28 : decode cX1_numbered 28 = .ok (.lload 6, 2) := by decide +kernel
theorem dX1_numbered_30 : decode cX1_numbered 30 = .ok (.lload 4, 2) := by decide +kernel
theorem dX1_numbered_32 : decode cX1_numbered 32 = .ok (.iload_n 3, 1) := by decide +kernel
theorem dX1_numbered_33 : decode cX1_numbered 33 = .ok (.i2l, 1) := by decide +kernel
theorem dX1_numbered_34 : decode cX1_numbered 34 = .ok (.lrem, 1) := by decide +kernel
theorem dX1_numbered_35 : decode cX1_numbered 35 = .ok (.iconst 2, 1) := by decide +kernel
theorem dX1_numbered_36 : decode cX1_numbered 36 = .ok (.iload 8, 2) := by decide +kernel
theorem dX1_numbered_38 : decode cX1_numbered 38 = .ok (.imul, 1) := by decide +kernel
theorem dX1_numbered_39 : decode cX1_numbered 39 = .ok (.lshl, 1) := by decide +kernel
theorem dX1_numbered_40 : decode cX1_numbered 40 = .ok (.ladd, 1) := by decide +kernel
theorem dX1_numbered_41 : decode cX1_numbered 41 = .ok (.lstore 6, 2) := by decide +kernel
theorem dX1_numbered_43 : decode cX1_numbered 43 = .ok (.lload 4, 2) := by decide +kernel
theorem dX1_numbered_45 : decode cX1_numbered 45 = .ok (.iload_n 3, 1) := by decide +kernel
theorem dX1_numbered_46 : decode cX1_numbered 46 = .ok (.i2l, 1) := by decide +kernel
theorem dX1_numbered_47 : decode cX1_numbered 47 = .ok (.ldiv, 1) := by decide +kernel
theorem dX1_numbered_48 : decode cX1_numbered 48 = .ok (.lstore 4, 2) := by decide +kernel
theorem dX1_numbered_50 : decode cX1_numbered 50 = .ok (.iinc 8 1, 3) := by decide +kernel
theorem dX1_numbered_53 : decode cX1_numbered 53 = .ok (.goto (-31), 3) := by decide +kernel
theorem dX1_numbered_56 : decode cX1_numbered 56 = .ok (.lload 6, 2) := by decide +kernel
theorem dX1_numbered_58 : decode cX1_numbered 58 = .ok (.lreturn, 1) := by decide +kernel
theorem dX2_init_0 : decode cX2_init 0 = .ok (.aload_n 0, 1) := by decide +kernel
theorem dX2_init_1 : decode cX2_init 1 = .ok (.invokespecial 3, 3) := by decide +kernel
theorem dX2_init_4 : decode cX2_init 4 = .ok (.aload_n 0, 1) := by decide +kernel
theorem dX2_init_5 : decode cX2_init 5 = .ok (.iconst 1, 1) := by decide +kernel
theorem dX2_init_6 : decode cX2_init 6 = .ok (.putfield 9, 3) := by decide +kernel
theorem dX2_init_9 : decode cX2_init 9 = .ok (.aload_n 0, 1) := by decide +kernel
theorem dX2_init_10 : decode cX2_init 10 = .ok (.iconst 1, 1) := by decide +kernel
theorem dX2_init_11 : decode cX2_init 11 = .ok (.putfield 15, 3) := by decide +kernel
theorem dX2_init_14 : decode cX2_init 14 = .ok (.aload_n 0, 1) := by decide +kernel
theorem dX2_init_15 : decode cX2_init 15 = .ok (.bipush 8, 2) := by decide +kernel
theorem dX2_init_17 : decode cX2_init 17 = .ok (.newarray .int, 2) := by decide +kernel
theorem dX2_init_19 : decode cX2_init 19 = .ok (.putfield 18, 3) := by decide +kernel
theorem dX2_init_22 : decode cX2_init 22 = .ok (.aload_n 0, 1) := by decide +kernel
theorem dX2_init_23 : decode cX2_init 23 = .ok (.bipush 24, 2) := by decide +kernel
theorem dX2_init_25 : decode cX2_init 25 = .ok (.newarray .int, 2) := by decide +kernel
theorem dX2_init_27 : decode cX2_init 27 = .ok (.putfield 22, 3) := by decide +kernel
theorem dX2_init_30 : decode cX2_init 30 = .ok (.aload_n 0, 1) := by decide +kernel
theorem dX2_init_31 : decode cX2_init 31 = .ok (.bipush 8, 2) := by decide +kernel
theorem dX2_init_33 : decode cX2_init 33 = .ok (.newarray .int, 2) := by decide +kernel
theorem dX2_init_35 : decode cX2_init 35 = .ok (.putfield 25, 3) := by decide +kernel
theorem dX2_init_38 : decode cX2_init 38 = .ok (.return_, 1) := by decide +kernel
theorem dX2_shape_0 : decode cX2_shape 0 = .ok (.aload_n 0, 1) := by decide +kernel
theorem dX2_shape_1 : decode cX2_shape 1 = .ok (.iload_n 1, 1) := by decide +kernel
theorem dX2_shape_2 : decode cX2_shape 2 = .ok (.putfield 9, 3) := by decide +kernel
theorem dX2_shape_5 : decode cX2_shape 5 = .ok (.aload_n 0, 1) := by decide +kernel
theorem dX2_shape_6 : decode cX2_shape 6 = .ok (.iload_n 2, 1) := by decide +kernel
theorem dX2_shape_7 : decode cX2_shape 7 = .ok (.putfield 15, 3) := by decide +kernel
theorem dX2_shape_10 : decode cX2_shape 10 = .ok (.return_, 1) := by decide +kernel
theorem dX2_setOutput_0 : decode cX2_setOutput 0 = .ok (.iload_n 1, 1) := by decide +kernel
theorem dX2_setOutput_1 : decode cX2_setOutput 1 = .ok (.ifCond .lt 19, 3) := by decide +kernel
theorem dX2_setOutput_4 : decode cX2_setOutput 4 = .ok (.iload_n 1, 1) := by decide +kernel
theorem dX2_setOutput_5 : decode cX2_setOutput 5 = .ok (.aload_n 0, 1) := by decide +kernel
theorem dX2_setOutput_6 : decode cX2_setOutput 6 = .ok (.getfield 18, 3) := by decide +kernel
theorem dX2_setOutput_9 : decode cX2_setOutput 9 = .ok (.arraylength, 1) := by decide +kernel
theorem dX2_setOutput_10 : decode cX2_setOutput 10 = .ok (.if_icmp .ge 10, 3) := by decide +kernel
theorem dX2_setOutput_13 : decode cX2_setOutput 13 = .ok (.aload_n 0, 1) := by decide +kernel
theorem dX2_setOutput_14 : decode cX2_setOutput 14 = .ok (.getfield 18, 3) := by decide +kernel
theorem dX2_setOutput_17 : decode cX2_setOutput 17 = .ok (.iload_n 1, 1) := by decide +kernel
theorem dX2_setOutput_18 : decode cX2_setOutput 18 = .ok (.iload_n 2, 1) := by decide +kernel
theorem dX2_setOutput_19 : decode cX2_setOutput 19 = .ok (.iastore, 1) := by decide +kernel
theorem dX2_setOutput_20 : decode cX2_setOutput 20 = .ok (.return_, 1) := by decide +kernel
theorem dX2_setNext_0 : decode cX2_setNext 0 = .ok (.iload_n 1, 1) := by decide +kernel
theorem dX2_setNext_1 : decode cX2_setNext 1 = .ok (.iconst 3, 1) := by decide +kernel
theorem dX2_setNext_2 : decode cX2_setNext 2 = .ok (.imul, 1) := by decide +kernel
theorem dX2_setNext_3 : decode cX2_setNext 3 = .ok (.iload_n 2, 1) := by decide +kernel
theorem dX2_setNext_4 : decode cX2_setNext 4 = .ok (.iadd, 1) := by decide +kernel
theorem dX2_setNext_5 : decode cX2_setNext 5 = .ok (.istore 4, 2) := by decide +kernel
theorem dX2_setNext_7 : decode cX2_setNext 7 = .ok (.iload_n 2, 1) := by decide +kernel
theorem dX2_setNext_8 : decode cX2_setNext 8 = .ok (.ifCond .lt 31, 3) := by decide +kernel
theorem dX2_setNext_11 : decode cX2_setNext 11 = .ok (.iload_n 2, 1) := by decide +kernel
theorem dX2_setNext_12 : decode cX2_setNext 12 = .ok (.iconst 3, 1) := by decide +kernel
theorem dX2_setNext_13 : decode cX2_setNext 13 = .ok (.if_icmp .ge 26, 3) := by decide +kernel
theorem dX2_setNext_16 : decode cX2_setNext 16 = .ok (.iload 4, 2) := by decide +kernel
theorem dX2_setNext_18 : decode cX2_setNext 18 = .ok (.ifCond .lt 21, 3) := by decide +kernel
theorem dX2_setNext_21 : decode cX2_setNext 21 = .ok (.iload 4, 2) := by decide +kernel
theorem dX2_setNext_23 : decode cX2_setNext 23 = .ok (.aload_n 0, 1) := by decide +kernel
theorem dX2_setNext_24 : decode cX2_setNext 24 = .ok (.getfield 22, 3) := by decide +kernel
theorem dX2_setNext_27 : decode cX2_setNext 27 = .ok (.arraylength, 1) := by decide +kernel
theorem dX2_setNext_28 : decode cX2_setNext 28 = .ok (.if_icmp .ge 11, 3) := by decide +kernel
theorem dX2_setNext_31 : decode cX2_setNext 31 = .ok (.aload_n 0, 1) := by decide +kernel
theorem dX2_setNext_32 : decode cX2_setNext 32 = .ok (.getfield 22, 3) := by decide +kernel
theorem dX2_setNext_35 : decode cX2_setNext 35 = .ok (.iload 4, 2) := by decide +kernel
theorem dX2_setNext_37 : decode cX2_setNext 37 = .ok (.iload_n 3, 1) := by decide +kernel
theorem dX2_setNext_38 : decode cX2_setNext 38 = .ok (.iastore, 1) := by decide +kernel
theorem dX2_setNext_39 : decode cX2_setNext 39 = .ok (.return_, 1) := by decide +kernel
theorem dX2_outputOf_0 : decode cX2_outputOf 0 = .ok (.iload_n 1, 1) := by decide +kernel
theorem dX2_outputOf_1 : decode cX2_outputOf 1 = .ok (.ifCond .lt 20, 3) := by decide +kernel
theorem dX2_outputOf_4 : decode cX2_outputOf 4 = .ok (.iload_n 1, 1) := by decide +kernel
theorem dX2_outputOf_5 : decode cX2_outputOf 5 = .ok (.aload_n 0, 1) := by decide +kernel
theorem dX2_outputOf_6 : decode cX2_outputOf 6 = .ok (.getfield 9, 3) := by decide +kernel
theorem dX2_outputOf_9 : decode cX2_outputOf 9 = .ok (.if_icmp .ge 12, 3) := by decide +kernel
theorem dX2_outputOf_12 : decode cX2_outputOf 12 = .ok (.iload_n 1, 1) := by decide +kernel
theorem dX2_outputOf_13 : decode cX2_outputOf 13 = .ok (.aload_n 0, 1) := by decide +kernel
theorem dX2_outputOf_14 : decode cX2_outputOf 14 = .ok (.getfield 18, 3) := by decide +kernel
theorem dX2_outputOf_17 : decode cX2_outputOf 17 = .ok (.arraylength, 1) := by decide +kernel
theorem dX2_outputOf_18 : decode cX2_outputOf 18 = .ok (.if_icmp .lt 7, 3) := by decide +kernel
theorem dX2_outputOf_21 : decode cX2_outputOf 21 = .ok (.iconst (-1), 1) := by decide +kernel
theorem dX2_outputOf_22 : decode cX2_outputOf 22 = .ok (.goto 9, 3) := by decide +kernel
theorem dX2_outputOf_25 : decode cX2_outputOf 25 = .ok (.aload_n 0, 1) := by decide +kernel
theorem dX2_outputOf_26 : decode cX2_outputOf 26 = .ok (.getfield 18, 3) := by decide +kernel
theorem dX2_outputOf_29 : decode cX2_outputOf 29 = .ok (.iload_n 1, 1) := by decide +kernel
theorem dX2_outputOf_30 : decode cX2_outputOf 30 = .ok (.iaload, 1) := by decide +kernel
theorem dX2_outputOf_31 : decode cX2_outputOf 31 = .ok (.ireturn, 1) := by decide +kernel
theorem dX2_nextOf_0 : decode cX2_nextOf 0 = .ok (.iload_n 1, 1) := by decide +kernel
theorem dX2_nextOf_1 : decode cX2_nextOf 1 = .ok (.ifCond .lt 23, 3) := by decide +kernel
theorem dX2_nextOf_4 : decode cX2_nextOf 4 = .ok (.iload_n 1, 1) := by decide +kernel
theorem dX2_nextOf_5 : decode cX2_nextOf 5 = .ok (.aload_n 0, 1) := by decide +kernel
theorem dX2_nextOf_6 : decode cX2_nextOf 6 = .ok (.getfield 9, 3) := by decide +kernel
theorem dX2_nextOf_9 : decode cX2_nextOf 9 = .ok (.if_icmp .ge 15, 3) := by decide +kernel
theorem dX2_nextOf_12 : decode cX2_nextOf 12 = .ok (.iload_n 2, 1) := by decide +kernel
theorem dX2_nextOf_13 : decode cX2_nextOf 13 = .ok (.ifCond .lt 11, 3) := by decide +kernel
theorem dX2_nextOf_16 : decode cX2_nextOf 16 = .ok (.iload_n 2, 1) := by decide +kernel
theorem dX2_nextOf_17 : decode cX2_nextOf 17 = .ok (.aload_n 0, 1) := by decide +kernel
theorem dX2_nextOf_18 : decode cX2_nextOf 18 = .ok (.getfield 15, 3) := by decide +kernel
theorem dX2_nextOf_21 : decode cX2_nextOf 21 = .ok (.if_icmp .lt 5, 3) := by decide +kernel
theorem dX2_nextOf_24 : decode cX2_nextOf 24 = .ok (.iconst (-1), 1) := by decide +kernel
theorem dX2_nextOf_25 : decode cX2_nextOf 25 = .ok (.ireturn, 1) := by decide +kernel
theorem dX2_nextOf_26 : decode cX2_nextOf 26 = .ok (.iload_n 1, 1) := by decide +kernel
theorem dX2_nextOf_27 : decode cX2_nextOf 27 = .ok (.iconst 3, 1) := by decide +kernel
theorem dX2_nextOf_28 : decode cX2_nextOf 28 = .ok (.imul, 1) := by decide +kernel
theorem dX2_nextOf_29 : decode cX2_nextOf 29 = .ok (.iload_n 2, 1) := by decide +kernel
theorem dX2_nextOf_30 : decode cX2_nextOf 30 = .ok (.iadd, 1) := by decide +kernel
theorem dX2_nextOf_31 : decode cX2_nextOf 31 = .ok (.istore_n 3, 1) := by decide +kernel
theorem dX2_nextOf_32 : decode cX2_nextOf 32 = .ok (.iload_n 3, 1) := by decide +kernel
theorem dX2_nextOf_33 : decode cX2_nextOf 33 = .ok (.aload_n 0, 1) := by decide +kernel
theorem dX2_nextOf_34 : decode cX2_nextOf 34 = .ok (.getfield 22, 3) := by decide +kernel
theorem dX2_nextOf_37 : decode cX2_nextOf 37 = .ok (.arraylength, 1) := by decide +kernel
theorem dX2_nextOf_38 : decode cX2_nextOf 38 = .ok (.if_icmp .ge 12, 3) := by decide +kernel
theorem dX2_nextOf_41 : decode cX2_nextOf 41 = .ok (.aload_n 0, 1) := by decide +kernel
theorem dX2_nextOf_42 : decode cX2_nextOf 42 = .ok (.getfield 22, 3) := by decide +kernel
theorem dX2_nextOf_45 : decode cX2_nextOf 45 = .ok (.iload_n 3, 1) := by decide +kernel
theorem dX2_nextOf_46 : decode cX2_nextOf 46 = .ok (.iaload, 1) := by decide +kernel
theorem dX2_nextOf_47 : decode cX2_nextOf 47 = .ok (.goto 4, 3) := by decide +kernel
theorem dX2_nextOf_50 : decode cX2_nextOf 50 = .ok (.iconst (-1), 1) := by decide +kernel
theorem dX2_nextOf_51 : decode cX2_nextOf 51 = .ok (.ireturn, 1) := by decide +kernel
theorem dX2_look_0 : decode cX2_look 0 = .ok (.iload_n 2, 1) := by decide +kernel
theorem dX2_look_1 : decode cX2_look 1 = .ok (.ifCond .ne 11, 3) := by decide +kernel
theorem dX2_look_4 : decode cX2_look 4 = .ok (.aload_n 0, 1) := by decide +kernel
theorem dX2_look_5 : decode cX2_look 5 = .ok (.iload_n 1, 1) := by decide +kernel
theorem dX2_look_6 : decode cX2_look 6 = .ok (.invokevirtual 28, 3) := by decide +kernel
theorem dX2_look_9 : decode cX2_look 9 = .ok (.goto 11, 3) := by decide +kernel
theorem dX2_look_12 : decode cX2_look 12 = .ok (.aload_n 0, 1) := by decide +kernel
theorem dX2_look_13 : decode cX2_look 13 = .ok (.iload_n 1, 1) := by decide +kernel
theorem dX2_look_14 : decode cX2_look 14 = .ok (.iload_n 2, 1) := by decide +kernel
theorem dX2_look_15 : decode cX2_look 15 = .ok (.iconst 1, 1) := by decide +kernel
theorem dX2_look_16 : decode cX2_look 16 = .ok (.isub, 1) := by decide +kernel
theorem dX2_look_17 : decode cX2_look 17 = .ok (.invokevirtual 32, 3) := by decide +kernel
theorem dX2_look_20 : decode cX2_look 20 = .ok (.ireturn, 1) := by decide +kernel
theorem dX2_endFrom_0 : decode cX2_endFrom 0 = .ok (.iload_n 1, 1) := by decide +kernel
theorem dX2_endFrom_1 : decode cX2_endFrom 1 = .ok (.istore 4, 2) := by decide +kernel
theorem dX2_endFrom_3 : decode cX2_endFrom 3 = .ok (.iconst 2, 1) := by decide +kernel
theorem dX2_endFrom_4 : decode cX2_endFrom 4 = .ok (.lload_n 2, 1) := by decide +kernel
theorem dX2_endFrom_5 : decode cX2_endFrom 5 = .ok (.invokestatic 36, 3) := by decide +kernel
theorem dX2_endFrom_8 : decode cX2_endFrom 8 = .ok (.imul, 1) := by decide +kernel
theorem dX2_endFrom_9 : decode cX2_endFrom 9 = .ok (.iconst 2, 1) := by decide +kernel
theorem dX2_endFrom_10 : decode cX2_endFrom 10 = .ok (.isub, 1) := by decide +kernel
theorem dX2_endFrom_11 : decode cX2_endFrom 11 = .ok (.istore 5, 2) := by decide +kernel
theorem dX2_endFrom_13 : decode cX2_endFrom 13 = .ok (.iload 5, 2) := by decide +kernel
theorem dX2_endFrom_15 : decode cX2_endFrom 15 = .ok (.ifCond .lt 24, 3) := by decide +kernel
theorem dX2_endFrom_18 : decode cX2_endFrom 18 = .ok (.aload_n 0, 1) := by decide +kernel
theorem dX2_endFrom_19 : decode cX2_endFrom 19 = .ok (.iload 4, 2) := by decide +kernel
theorem dX2_endFrom_21 : decode cX2_endFrom 21 = .ok (.lload_n 2, 1) := by decide +kernel
theorem dX2_endFrom_22 : decode cX2_endFrom 22 = .ok (.iload 5, 2) := by decide +kernel
theorem dX2_endFrom_24 : decode cX2_endFrom 24 = .ok (.lshr, 1) := by decide +kernel
theorem dX2_endFrom_25 : decode cX2_endFrom 25 = .ok (.l2i, 1) := by decide +kernel
theorem dX2_endFrom_26 : decode cX2_endFrom 26 = .ok (.iconst 3, 1) := by decide +kernel
theorem dX2_endFrom_27 : decode cX2_endFrom 27 = .ok (.iand, 1) := by decide +kernel
theorem dX2_endFrom_28 : decode cX2_endFrom 28 = .ok (.invokevirtual 32, 3) := by decide +kernel
theorem dX2_endFrom_31 : decode cX2_endFrom 31 = .ok (.istore 4, 2) := by decide +kernel
theorem dX2_endFrom_33 : decode cX2_endFrom 33 = .ok (.iinc 5 (-2), 3) := by decide +kernel
theorem dX2_endFrom_36 : decode cX2_endFrom 36 = .ok (.goto (-23), 3) := by decide +kernel
theorem dX2_endFrom_39 : decode cX2_endFrom 39 = .ok (.iload 4, 2) := by decide +kernel
theorem dX2_endFrom_41 : decode cX2_endFrom 41 = .ok (.ireturn, 1) := by decide +kernel
theorem dX2_answer_0 : decode cX2_answer 0 = .ok (.aload_n 0, 1) := by decide +kernel
theorem dX2_answer_1 : decode cX2_answer 1 = .ok (.aload_n 0, 1) := by decide +kernel
theorem dX2_answer_2 : decode cX2_answer 2 = .ok (.iconst 0, 1) := by decide +kernel
theorem dX2_answer_3 : decode cX2_answer 3 = .ok (.lload_n 1, 1) := by decide +kernel
theorem dX2_answer_4 : decode cX2_answer 4 = .ok (.invokevirtual 42, 3) := by decide +kernel
theorem dX2_answer_7 : decode cX2_answer 7 = .ok (.invokevirtual 28, 3) := by decide +kernel
theorem dX2_answer_10 : decode cX2_answer 10 = .ok (.ireturn, 1) := by decide +kernel
theorem dX2_isClosed_0 : decode cX2_isClosed 0 = .ok (.iconst 0, 1) := by decide +kernel
theorem dX2_isClosed_1 : decode cX2_isClosed 1 = .ok (.istore_n 1, 1) := by decide +kernel
theorem dX2_isClosed_2 : decode cX2_isClosed 2 = .ok (.iload_n 1, 1) := by decide +kernel
theorem dX2_isClosed_3 : decode cX2_isClosed 3 = .ok (.aload_n 0, 1) := by decide +kernel
theorem dX2_isClosed_4 : decode cX2_isClosed 4 = .ok (.getfield 9, 3) := by decide +kernel
theorem dX2_isClosed_7 : decode cX2_isClosed 7 = .ok (.if_icmp .ge 40, 3) := by decide +kernel
theorem dX2_isClosed_10 : decode cX2_isClosed 10 = .ok (.iconst 0, 1) := by decide +kernel
theorem dX2_isClosed_11 : decode cX2_isClosed 11 = .ok (.istore_n 2, 1) := by decide +kernel
theorem dX2_isClosed_12 : decode cX2_isClosed 12 = .ok (.iload_n 2, 1) := by decide +kernel
theorem dX2_isClosed_13 : decode cX2_isClosed 13 = .ok (.aload_n 0, 1) := by decide +kernel
theorem dX2_isClosed_14 : decode cX2_isClosed 14 = .ok (.getfield 15, 3) := by decide +kernel
theorem dX2_isClosed_17 : decode cX2_isClosed 17 = .ok (.if_icmp .ge 24, 3) := by decide +kernel
theorem dX2_isClosed_20 : decode cX2_isClosed 20 = .ok (.aload_n 0, 1) := by decide +kernel
theorem dX2_isClosed_21 : decode cX2_isClosed 21 = .ok (.iload_n 1, 1) := by decide +kernel
theorem dX2_isClosed_22 : decode cX2_isClosed 22 = .ok (.iload_n 2, 1) := by decide +kernel
theorem dX2_isClosed_23 : decode cX2_isClosed 23 = .ok (.invokevirtual 32, 3) := by decide +kernel
theorem dX2_isClosed_26 : decode cX2_isClosed 26 = .ok (.aload_n 0, 1) := by decide +kernel
theorem dX2_isClosed_27 : decode cX2_isClosed 27 = .ok (.getfield 9, 3) := by decide +kernel
theorem dX2_isClosed_30 : decode cX2_isClosed 30 = .ok (.if_icmp .lt 5, 3) := by decide +kernel
theorem dX2_isClosed_33 : decode cX2_isClosed 33 = .ok (.iconst 0, 1) := by decide +kernel
theorem dX2_isClosed_34 : decode cX2_isClosed 34 = .ok (.ireturn, 1) := by decide +kernel
theorem dX2_isClosed_35 : decode cX2_isClosed 35 = .ok (.iinc 2 1, 3) := by decide +kernel
theorem dX2_isClosed_38 : decode cX2_isClosed 38 = .ok (.goto (-26), 3) := by decide +kernel
theorem dX2_isClosed_41 : decode cX2_isClosed 41 = .ok (.iinc 1 1, 3) := by decide +kernel
theorem dX2_isClosed_44 : decode cX2_isClosed 44 = .ok (.goto (-42), 3) := by decide +kernel
theorem dX2_isClosed_47 : decode cX2_isClosed 47 = .ok (.iconst 1, 1) := by decide +kernel
theorem dX2_isClosed_48 : decode cX2_isClosed 48 = .ok (.ireturn, 1) := by decide +kernel
theorem dX2_become_0 : decode cX2_become 0 = .ok (.aload_n 0, 1) := by decide +kernel
theorem dX2_become_1 : decode cX2_become 1 = .ok (.aload_n 1, 1) := by decide +kernel
theorem dX2_become_2 : decode cX2_become 2 = .ok (.getfield 9, 3) := by decide +kernel
theorem dX2_become_5 : decode cX2_become 5 = .ok (.aload_n 1, 1) := by decide +kernel
theorem dX2_become_6 : decode cX2_become 6 = .ok (.getfield 15, 3) := by decide +kernel
theorem dX2_become_9 : decode cX2_become 9 = .ok (.invokevirtual 46, 3) := by decide +kernel
theorem dX2_become_12 : decode cX2_become 12 = .ok (.iconst 0, 1) := by decide +kernel
theorem dX2_become_13 : decode cX2_become 13 = .ok (.istore_n 2, 1) := by decide +kernel
theorem dX2_become_14 : decode cX2_become 14 = .ok (.iload_n 2, 1) := by decide +kernel
theorem dX2_become_15 : decode cX2_become 15 = .ok (.aload_n 0, 1) := by decide +kernel
theorem dX2_become_16 : decode cX2_become 16 = .ok (.getfield 9, 3) := by decide +kernel
theorem dX2_become_19 : decode cX2_become 19 = .ok (.if_icmp .ge 47, 3) := by decide +kernel
theorem dX2_become_22 : decode cX2_become 22 = .ok (.aload_n 0, 1) := by decide +kernel
theorem dX2_become_23 : decode cX2_become 23 = .ok (.iload_n 2, 1) := by decide +kernel
theorem dX2_become_24 : decode cX2_become 24 = .ok (.aload_n 1, 1) := by decide +kernel
theorem dX2_become_25 : decode cX2_become 25 = .ok (.iload_n 2, 1) := by decide +kernel
theorem dX2_become_26 : decode cX2_become 26 = .ok (.invokevirtual 28, 3) := by decide +kernel
theorem dX2_become_29 : decode cX2_become 29 = .ok (.invokevirtual 50, 3) := by decide +kernel
theorem dX2_become_32 : decode cX2_become 32 = .ok (.iconst 0, 1) := by decide +kernel
theorem dX2_become_33 : decode cX2_become 33 = .ok (.istore_n 3, 1) := by decide +kernel
theorem dX2_become_34 : decode cX2_become 34 = .ok (.iload_n 3, 1) := by decide +kernel
theorem dX2_become_35 : decode cX2_become 35 = .ok (.aload_n 0, 1) := by decide +kernel
theorem dX2_become_36 : decode cX2_become 36 = .ok (.getfield 15, 3) := by decide +kernel
theorem dX2_become_39 : decode cX2_become 39 = .ok (.if_icmp .ge 21, 3) := by decide +kernel
theorem dX2_become_42 : decode cX2_become 42 = .ok (.aload_n 0, 1) := by decide +kernel
theorem dX2_become_43 : decode cX2_become 43 = .ok (.iload_n 2, 1) := by decide +kernel
theorem dX2_become_44 : decode cX2_become 44 = .ok (.iload_n 3, 1) := by decide +kernel
theorem dX2_become_45 : decode cX2_become 45 = .ok (.aload_n 1, 1) := by decide +kernel
theorem dX2_become_46 : decode cX2_become 46 = .ok (.iload_n 2, 1) := by decide +kernel
theorem dX2_become_47 : decode cX2_become 47 = .ok (.iload_n 3, 1) := by decide +kernel
theorem dX2_become_48 : decode cX2_become 48 = .ok (.invokevirtual 32, 3) := by decide +kernel
theorem dX2_become_51 : decode cX2_become 51 = .ok (.invokevirtual 53, 3) := by decide +kernel
theorem dX2_become_54 : decode cX2_become 54 = .ok (.iinc 3 1, 3) := by decide +kernel
theorem dX2_become_57 : decode cX2_become 57 = .ok (.goto (-23), 3) := by decide +kernel
theorem dX2_become_60 : decode cX2_become 60 = .ok (.iinc 2 1, 3) := by decide +kernel
theorem dX2_become_63 : decode cX2_become 63 = .ok (.goto (-49), 3) := by decide +kernel
theorem dX2_become_66 : decode cX2_become 66 = .ok (.return_, 1) := by decide +kernel
theorem dX2_draw_0 : decode cX2_draw 0 = .ok (.aload_n 0, 1) := by decide +kernel
theorem dX2_draw_1 : decode cX2_draw 1 = .ok (.iload_n 2, 1) := by decide +kernel
theorem dX2_draw_2 : decode cX2_draw 2 = .ok (.iload_n 3, 1) := by decide +kernel
theorem dX2_draw_3 : decode cX2_draw 3 = .ok (.invokevirtual 46, 3) := by decide +kernel
theorem dX2_draw_6 : decode cX2_draw 6 = .ok (.iload_n 1, 1) := by decide +kernel
theorem dX2_draw_7 : decode cX2_draw 7 = .ok (.istore 5, 2) := by decide +kernel
theorem dX2_draw_9 : decode cX2_draw 9 = .ok (.iconst 0, 1) := by decide +kernel
theorem dX2_draw_10 : decode cX2_draw 10 = .ok (.istore 6, 2) := by decide +kernel
theorem dX2_draw_12 : decode cX2_draw 12 = .ok (.iload 6, 2) := by decide +kernel
theorem dX2_draw_14 : decode cX2_draw 14 = .ok (.iload_n 2, 1) := by decide +kernel
theorem dX2_draw_15 : decode cX2_draw 15 = .ok (.if_icmp .ge 65, 3) := by decide +kernel
theorem dX2_draw_18 : decode cX2_draw 18 = .ok (.iload 5, 2) := by decide +kernel
theorem dX2_draw_20 : decode cX2_draw 20 = .ok (.invokestatic 57, 3) := by decide +kernel
theorem dX2_draw_23 : decode cX2_draw 23 = .ok (.istore 5, 2) := by decide +kernel
theorem dX2_draw_25 : decode cX2_draw 25 = .ok (.aload_n 0, 1) := by decide +kernel
theorem dX2_draw_26 : decode cX2_draw 26 = .ok (.iload 6, 2) := by decide +kernel
theorem dX2_draw_28 : decode cX2_draw 28 = .ok (.iload 5, 2) := by decide +kernel
theorem dX2_draw_30 : decode cX2_draw 30 = .ok (.iload 4, 2) := by decide +kernel
theorem dX2_draw_32 : decode cX2_draw 32 = .ok (.invokestatic 60, 3) := by decide +kernel
theorem dX2_draw_35 : decode cX2_draw 35 = .ok (.invokevirtual 50, 3) := by decide +kernel
theorem dX2_draw_38 : decode cX2_draw 38 = .ok (.iconst 0, 1) := by decide +kernel
theorem dX2_draw_39 : decode cX2_draw 39 = .ok (.istore 7, 2) := by decide +kernel
theorem dX2_draw_41 : decode cX2_draw 41 = .ok (.iload 7, 2) := by decide +kernel
theorem dX2_draw_43 : decode cX2_draw 43 = .ok (.iload_n 3, 1) := by decide +kernel
theorem dX2_draw_44 : decode cX2_draw 44 = .ok (.if_icmp .ge 30, 3) := by decide +kernel
theorem dX2_draw_47 : decode cX2_draw 47 = .ok (.iload 5, 2) := by decide +kernel
theorem dX2_draw_49 : decode cX2_draw 49 = .ok (.invokestatic 57, 3) := by decide +kernel
theorem dX2_draw_52 : decode cX2_draw 52 = .ok (.istore 5, 2) := by decide +kernel
theorem dX2_draw_54 : decode cX2_draw 54 = .ok (.aload_n 0, 1) := by decide +kernel
theorem dX2_draw_55 : decode cX2_draw 55 = .ok (.iload 6, 2) := by decide +kernel
theorem dX2_draw_57 : decode cX2_draw 57 = .ok (.iload 7, 2) := by decide +kernel
theorem dX2_draw_59 : decode cX2_draw 59 = .ok (.iload 5, 2) := by decide +kernel
theorem dX2_draw_61 : decode cX2_draw 61 = .ok (.iload_n 2, 1) := by decide +kernel
theorem dX2_draw_62 : decode cX2_draw 62 = .ok (.invokestatic 60, 3) := by decide +kernel
theorem dX2_draw_65 : decode cX2_draw 65 = .ok (.invokevirtual 53, 3) := by decide +kernel
theorem dX2_draw_68 : decode cX2_draw 68 = .ok (.iinc 7 1, 3) := by decide +kernel
theorem dX2_draw_71 : decode cX2_draw 71 = .ok (.goto (-30), 3) := by decide +kernel
theorem dX2_draw_74 : decode cX2_draw 74 = .ok (.iinc 6 1, 3) := by decide +kernel
theorem dX2_draw_77 : decode cX2_draw 77 = .ok (.goto (-65), 3) := by decide +kernel
theorem dX2_draw_80 : decode cX2_draw 80 = .ok (.return_, 1) := by decide +kernel
theorem dX2_stir_0 : decode cX2_stir 0 = .ok (.iload_n 0, 1) := by decide +kernel
theorem dX2_stir_1 : decode cX2_stir 1 = .ok (.ldc 63, 2) := by decide +kernel
theorem dX2_stir_3 : decode cX2_stir 3 = .ok (.imul, 1) := by decide +kernel
theorem dX2_stir_4 : decode cX2_stir 4 = .ok (.sipush 12345, 3) := by decide +kernel
theorem dX2_stir_7 : decode cX2_stir 7 = .ok (.iadd, 1) := by decide +kernel
theorem dX2_stir_8 : decode cX2_stir 8 = .ok (.ireturn, 1) := by decide +kernel
theorem dX2_drawn_0 : decode cX2_drawn 0 = .ok (.iload_n 1, 1) := by decide +kernel
theorem dX2_drawn_1 : decode cX2_drawn 1 = .ok (.iconst 1, 1) := by decide +kernel
theorem dX2_drawn_2 : decode cX2_drawn 2 = .ok (.if_icmp .ge 7, 3) := by decide +kernel
theorem dX2_drawn_5 : decode cX2_drawn 5 = .ok (.iconst 0, 1) := by decide +kernel
theorem dX2_drawn_6 : decode cX2_drawn 6 = .ok (.goto 9, 3) := by decide +kernel
theorem dX2_drawn_9 : decode cX2_drawn 9 = .ok (.iload_n 0, 1) := by decide +kernel
theorem dX2_drawn_10 : decode cX2_drawn 10 = .ok (.bipush 16, 2) := by decide +kernel
theorem dX2_drawn_12 : decode cX2_drawn 12 = .ok (.iushr, 1) := by decide +kernel
theorem dX2_drawn_13 : decode cX2_drawn 13 = .ok (.iload_n 1, 1) := by decide +kernel
theorem dX2_drawn_14 : decode cX2_drawn 14 = .ok (.irem, 1) := by decide +kernel
theorem dX2_drawn_15 : decode cX2_drawn 15 = .ok (.ireturn, 1) := by decide +kernel
theorem dX2_part_0 : decode cX2_part 0 = .ok (.iconst 0, 1) := by decide +kernel
theorem dX2_part_1 : decode cX2_part 1 = .ok (.istore_n 3, 1) := by decide +kernel
theorem dX2_part_2 : decode cX2_part 2 = .ok (.iload_n 3, 1) := by decide +kernel
theorem dX2_part_3 : decode cX2_part 3 = .ok (.iload_n 1, 1) := by decide +kernel
theorem dX2_part_4 : decode cX2_part 4 = .ok (.if_icmp .gt 99, 3) := by decide +kernel
theorem dX2_part_7 : decode cX2_part 7 = .ok (.iconst 0, 1) := by decide +kernel
theorem dX2_part_8 : decode cX2_part 8 = .ok (.istore 4, 2) := by decide +kernel
theorem dX2_part_10 : decode cX2_part 10 = .ok (.iload 4, 2) := by decide +kernel
theorem dX2_part_12 : decode cX2_part 12 = .ok (.aload_n 0, 1) := by decide +kernel
theorem dX2_part_13 : decode cX2_part 13 = .ok (.getfield 9, 3) := by decide +kernel
theorem dX2_part_16 : decode cX2_part 16 = .ok (.if_icmp .ge 35, 3) := by decide +kernel
theorem dX2_part_19 : decode cX2_part 19 = .ok (.iload 4, 2) := by decide +kernel
theorem dX2_part_21 : decode cX2_part 21 = .ok (.aload_n 2, 1) := by decide +kernel
theorem dX2_part_22 : decode cX2_part 22 = .ok (.arraylength, 1) := by decide +kernel
theorem dX2_part_23 : decode cX2_part 23 = .ok (.if_icmp .ge 28, 3) := by decide +kernel
theorem dX2_part_26 : decode cX2_part 26 = .ok (.aload_n 2, 1) := by decide +kernel
theorem dX2_part_27 : decode cX2_part 27 = .ok (.iload 4, 2) := by decide +kernel
theorem dX2_part_29 : decode cX2_part 29 = .ok (.aload_n 0, 1) := by decide +kernel
theorem dX2_part_30 : decode cX2_part 30 = .ok (.iload 4, 2) := by decide +kernel
theorem dX2_part_32 : decode cX2_part 32 = .ok (.iload_n 3, 1) := by decide +kernel
theorem dX2_part_33 : decode cX2_part 33 = .ok (.ifCond .le 7, 3) := by decide +kernel
theorem dX2_part_36 : decode cX2_part 36 = .ok (.iconst 1, 1) := by decide +kernel
theorem dX2_part_37 : decode cX2_part 37 = .ok (.goto 4, 3) := by decide +kernel
theorem dX2_part_40 : decode cX2_part 40 = .ok (.iconst 0, 1) := by decide +kernel
theorem dX2_part_41 : decode cX2_part 41 = .ok (.invokevirtual 64, 3) := by decide +kernel
theorem dX2_part_44 : decode cX2_part 44 = .ok (.iastore, 1) := by decide +kernel
theorem dX2_part_45 : decode cX2_part 45 = .ok (.iinc 4 1, 3) := by decide +kernel
theorem dX2_part_48 : decode cX2_part 48 = .ok (.goto (-38), 3) := by decide +kernel
theorem dX2_part_51 : decode cX2_part 51 = .ok (.iconst 0, 1) := by decide +kernel
theorem dX2_part_52 : decode cX2_part 52 = .ok (.istore 4, 2) := by decide +kernel
theorem dX2_part_54 : decode cX2_part 54 = .ok (.iload 4, 2) := by decide +kernel
theorem dX2_part_56 : decode cX2_part 56 = .ok (.aload_n 0, 1) := by decide +kernel
theorem dX2_part_57 : decode cX2_part 57 = .ok (.getfield 9, 3) := by decide +kernel
theorem dX2_part_60 : decode cX2_part 60 = .ok (.if_icmp .ge 37, 3) := by decide +kernel
theorem dX2_part_63 : decode cX2_part 63 = .ok (.iload 4, 2) := by decide +kernel
theorem dX2_part_65 : decode cX2_part 65 = .ok (.aload_n 2, 1) := by decide +kernel
theorem dX2_part_66 : decode cX2_part 66 = .ok (.arraylength, 1) := by decide +kernel
theorem dX2_part_67 : decode cX2_part 67 = .ok (.if_icmp .ge 30, 3) := by decide +kernel
theorem dX2_part_70 : decode cX2_part 70 = .ok (.iload 4, 2) := by decide +kernel
theorem dX2_part_72 : decode cX2_part 72 = .ok (.aload_n 0, 1) := by decide +kernel
theorem dX2_part_73 : decode cX2_part 73 = .ok (.getfield 25, 3) := by decide +kernel
theorem dX2_part_76 : decode cX2_part 76 = .ok (.arraylength, 1) := by decide +kernel
theorem dX2_part_77 : decode cX2_part 77 = .ok (.if_icmp .ge 20, 3) := by decide +kernel
theorem dX2_part_80 : decode cX2_part 80 = .ok (.aload_n 0, 1) := by decide +kernel
theorem dX2_part_81 : decode cX2_part 81 = .ok (.getfield 25, 3) := by decide +kernel
theorem dX2_part_84 : decode cX2_part 84 = .ok (.iload 4, 2) := by decide +kernel
theorem dX2_part_86 : decode cX2_part 86 = .ok (.aload_n 2, 1) := by decide +kernel
theorem dX2_part_87 : decode cX2_part 87 = .ok (.iload 4, 2) := by decide +kernel
theorem dX2_part_89 : decode cX2_part 89 = .ok (.iaload, 1) := by decide +kernel
theorem dX2_part_90 : decode cX2_part 90 = .ok (.iastore, 1) := by decide +kernel
theorem dX2_part_91 : decode cX2_part 91 = .ok (.iinc 4 1, 3) := by decide +kernel
theorem dX2_part_94 : decode cX2_part 94 = .ok (.goto (-40), 3) := by decide +kernel
theorem dX2_part_97 : decode cX2_part 97 = .ok (.iinc 3 1, 3) := by decide +kernel
theorem dX2_part_100 : decode cX2_part 100 = .ok (.goto (-98), 3) := by decide +kernel
theorem dX2_part_103 : decode cX2_part 103 = .ok (.iconst 0, 1) := by decide +kernel
theorem dX2_part_104 : decode cX2_part 104 = .ok (.istore_n 3, 1) := by decide +kernel
theorem dX2_part_105 : decode cX2_part 105 = .ok (.iconst 0, 1) := by decide +kernel
theorem dX2_part_106 : decode cX2_part 106 = .ok (.istore 4, 2) := by decide +kernel
theorem dX2_part_108 : decode cX2_part 108 = .ok (.iload 4, 2) := by decide +kernel
theorem dX2_part_110 : decode cX2_part 110 = .ok (.aload_n 0, 1) := by decide +kernel
theorem dX2_part_111 : decode cX2_part 111 = .ok (.getfield 9, 3) := by decide +kernel
theorem dX2_part_114 : decode cX2_part 114 = .ok (.if_icmp .ge 28, 3) := by decide +kernel
theorem dX2_part_117 : decode cX2_part 117 = .ok (.iload 4, 2) := by decide +kernel
theorem dX2_part_119 : decode cX2_part 119 = .ok (.aload_n 2, 1) := by decide +kernel
theorem dX2_part_120 : decode cX2_part 120 = .ok (.arraylength, 1) := by decide +kernel
theorem dX2_part_121 : decode cX2_part 121 = .ok (.if_icmp .ge 21, 3) := by decide +kernel
theorem dX2_part_124 : decode cX2_part 124 = .ok (.aload_n 2, 1) := by decide +kernel
theorem dX2_part_125 : decode cX2_part 125 = .ok (.iload 4, 2) := by decide +kernel
theorem dX2_part_127 : decode cX2_part 127 = .ok (.iaload, 1) := by decide +kernel
theorem dX2_part_128 : decode cX2_part 128 = .ok (.iload 4, 2) := by decide +kernel
theorem dX2_part_130 : decode cX2_part 130 = .ok (.if_icmp .ne 6, 3) := by decide +kernel
theorem dX2_part_133 : decode cX2_part 133 = .ok (.iinc 3 1, 3) := by decide +kernel
theorem dX2_part_136 : decode cX2_part 136 = .ok (.iinc 4 1, 3) := by decide +kernel
theorem dX2_part_139 : decode cX2_part 139 = .ok (.goto (-31), 3) := by decide +kernel
theorem dX2_part_142 : decode cX2_part 142 = .ok (.iload_n 3, 1) := by decide +kernel
theorem dX2_part_143 : decode cX2_part 143 = .ok (.ireturn, 1) := by decide +kernel
theorem dX2_leastAlike_0 : decode cX2_leastAlike 0 = .ok (.iconst 0, 1) := by decide +kernel
theorem dX2_leastAlike_1 : decode cX2_leastAlike 1 = .ok (.istore_n 3, 1) := by decide +kernel
theorem dX2_leastAlike_2 : decode cX2_leastAlike 2 = .ok (.iload_n 3, 1) := by decide +kernel
theorem dX2_leastAlike_3 : decode cX2_leastAlike 3 = .ok (.iload_n 1, 1) := by decide +kernel
theorem dX2_leastAlike_4 : decode cX2_leastAlike 4 = .ok (.if_icmp .ge 37, 3) := by decide +kernel
theorem dX2_leastAlike_7 : decode cX2_leastAlike 7 = .ok (.aload_n 0, 1) := by decide +kernel
theorem dX2_leastAlike_8 : decode cX2_leastAlike 8 = .ok (.iload_n 3, 1) := by decide +kernel
theorem dX2_leastAlike_9 : decode cX2_leastAlike 9 = .ok (.invokevirtual 28, 3) := by decide +kernel
theorem dX2_leastAlike_12 : decode cX2_leastAlike 12 = .ok (.aload_n 0, 1) := by decide +kernel
theorem dX2_leastAlike_13 : decode cX2_leastAlike 13 = .ok (.iload_n 1, 1) := by decide +kernel
theorem dX2_leastAlike_14 : decode cX2_leastAlike 14 = .ok (.invokevirtual 28, 3) := by decide +kernel
theorem dX2_leastAlike_17 : decode cX2_leastAlike 17 = .ok (.if_icmp .ne 18, 3) := by decide +kernel
theorem dX2_leastAlike_20 : decode cX2_leastAlike 20 = .ok (.iload_n 2, 1) := by decide +kernel
theorem dX2_leastAlike_21 : decode cX2_leastAlike 21 = .ok (.ifCond .eq 12, 3) := by decide +kernel
theorem dX2_leastAlike_24 : decode cX2_leastAlike 24 = .ok (.aload_n 0, 1) := by decide +kernel
theorem dX2_leastAlike_25 : decode cX2_leastAlike 25 = .ok (.iload_n 3, 1) := by decide +kernel
theorem dX2_leastAlike_26 : decode cX2_leastAlike 26 = .ok (.iload_n 1, 1) := by decide +kernel
theorem dX2_leastAlike_27 : decode cX2_leastAlike 27 = .ok (.invokevirtual 68, 3) := by decide +kernel
theorem dX2_leastAlike_30 : decode cX2_leastAlike 30 = .ok (.ifCond .eq 5, 3) := by decide +kernel
theorem dX2_leastAlike_33 : decode cX2_leastAlike 33 = .ok (.iload_n 3, 1) := by decide +kernel
theorem dX2_leastAlike_34 : decode cX2_leastAlike 34 = .ok (.ireturn, 1) := by decide +kernel
theorem dX2_leastAlike_35 : decode cX2_leastAlike 35 = .ok (.iinc 3 1, 3) := by decide +kernel
theorem dX2_leastAlike_38 : decode cX2_leastAlike 38 = .ok (.goto (-36), 3) := by decide +kernel
theorem dX2_leastAlike_41 : decode cX2_leastAlike 41 = .ok (.iload_n 1, 1) := by decide +kernel
theorem dX2_leastAlike_42 : decode cX2_leastAlike 42 = .ok (.ireturn, 1) := by decide +kernel
theorem dX2_nextsAlike_0 : decode cX2_nextsAlike 0 = .ok (.iconst 0, 1) := by decide +kernel
theorem dX2_nextsAlike_1 : decode cX2_nextsAlike 1 = .ok (.istore_n 3, 1) := by decide +kernel
theorem dX2_nextsAlike_2 : decode cX2_nextsAlike 2 = .ok (.iload_n 3, 1) := by decide +kernel
theorem dX2_nextsAlike_3 : decode cX2_nextsAlike 3 = .ok (.aload_n 0, 1) := by decide +kernel
theorem dX2_nextsAlike_4 : decode cX2_nextsAlike 4 = .ok (.getfield 15, 3) := by decide +kernel
theorem dX2_nextsAlike_7 : decode cX2_nextsAlike 7 = .ok (.if_icmp .ge 34, 3) := by decide +kernel
theorem dX2_nextsAlike_10 : decode cX2_nextsAlike 10 = .ok (.aload_n 0, 1) := by decide +kernel
theorem dX2_nextsAlike_11 : decode cX2_nextsAlike 11 = .ok (.aload_n 0, 1) := by decide +kernel
theorem dX2_nextsAlike_12 : decode cX2_nextsAlike 12 = .ok (.iload_n 1, 1) := by decide +kernel
theorem dX2_nextsAlike_13 : decode cX2_nextsAlike 13 = .ok (.iload_n 3, 1) := by decide +kernel
theorem dX2_nextsAlike_14 : decode cX2_nextsAlike 14 = .ok (.invokevirtual 32, 3) := by decide +kernel
theorem dX2_nextsAlike_17 : decode cX2_nextsAlike 17 = .ok (.invokevirtual 72, 3) := by decide +kernel
theorem dX2_nextsAlike_20 : decode cX2_nextsAlike 20 = .ok (.aload_n 0, 1) := by decide +kernel
theorem dX2_nextsAlike_21 : decode cX2_nextsAlike 21 = .ok (.aload_n 0, 1) := by decide +kernel
theorem dX2_nextsAlike_22 : decode cX2_nextsAlike 22 = .ok (.iload_n 2, 1) := by decide +kernel
theorem dX2_nextsAlike_23 : decode cX2_nextsAlike 23 = .ok (.iload_n 3, 1) := by decide +kernel
theorem dX2_nextsAlike_24 : decode cX2_nextsAlike 24 = .ok (.invokevirtual 32, 3) := by decide +kernel
theorem dX2_nextsAlike_27 : decode cX2_nextsAlike 27 = .ok (.invokevirtual 72, 3) := by decide +kernel
theorem dX2_nextsAlike_30 : decode cX2_nextsAlike 30 = .ok (.if_icmp .eq 5, 3) := by decide +kernel
theorem dX2_nextsAlike_33 : decode cX2_nextsAlike 33 = .ok (.iconst 0, 1) := by decide +kernel
theorem dX2_nextsAlike_34 : decode cX2_nextsAlike 34 = .ok (.ireturn, 1) := by decide +kernel
theorem dX2_nextsAlike_35 : decode cX2_nextsAlike 35 = .ok (.iinc 3 1, 3) := by decide +kernel
theorem dX2_nextsAlike_38 : decode cX2_nextsAlike 38 = .ok (.goto (-36), 3) := by decide +kernel
theorem dX2_nextsAlike_41 : decode cX2_nextsAlike 41 = .ok (.iconst 1, 1) := by decide +kernel
theorem dX2_nextsAlike_42 : decode cX2_nextsAlike 42 = .ok (.ireturn, 1) := by decide +kernel
theorem dX2_groupBefore_0 : decode cX2_groupBefore 0 = .ok (.iload_n 1, 1) := by decide +kernel
theorem dX2_groupBefore_1 : decode cX2_groupBefore 1 = .ok (.ifCond .lt 12, 3) := by decide +kernel
theorem dX2_groupBefore_4 : decode cX2_groupBefore 4 = .ok (.iload_n 1, 1) := by decide +kernel
theorem dX2_groupBefore_5 : decode cX2_groupBefore 5 = .ok (.aload_n 0, 1) := by decide +kernel
theorem dX2_groupBefore_6 : decode cX2_groupBefore 6 = .ok (.getfield 25, 3) := by decide +kernel
theorem dX2_groupBefore_9 : decode cX2_groupBefore 9 = .ok (.arraylength, 1) := by decide +kernel
theorem dX2_groupBefore_10 : decode cX2_groupBefore 10 = .ok (.if_icmp .lt 7, 3) := by decide +kernel
theorem dX2_groupBefore_13 : decode cX2_groupBefore 13 = .ok (.iconst (-1), 1) := by decide +kernel
theorem dX2_groupBefore_14 : decode cX2_groupBefore 14 = .ok (.goto 9, 3) := by decide +kernel
theorem dX2_groupBefore_17 : decode cX2_groupBefore 17 = .ok (.aload_n 0, 1) := by decide +kernel
theorem dX2_groupBefore_18 : decode cX2_groupBefore 18 = .ok (.getfield 25, 3) := by decide +kernel
theorem dX2_groupBefore_21 : decode cX2_groupBefore 21 = .ok (.iload_n 1, 1) := by decide +kernel
theorem dX2_groupBefore_22 : decode cX2_groupBefore 22 = .ok (.iaload, 1) := by decide +kernel
theorem dX2_groupBefore_23 : decode cX2_groupBefore 23 = .ok (.ireturn, 1) := by decide +kernel
theorem dX3_init_0 : decode cX3_init 0 = .ok (.aload_n 0, 1) := by decide +kernel
theorem dX3_init_1 : decode cX3_init 1 = .ok (.invokespecial 3, 3) := by decide +kernel
theorem dX3_init_4 : decode cX3_init 4 = .ok (.aload_n 0, 1) := by decide +kernel
theorem dX3_init_5 : decode cX3_init 5 = .ok (.new 9, 3) := by decide +kernel
theorem dX3_init_8 : decode cX3_init 8 = .ok (.dup, 1) := by decide +kernel
theorem dX3_init_9 : decode cX3_init 9 = .ok (.sipush 128, 3) := by decide +kernel
theorem dX3_init_12 : decode cX3_init 12 = .ok (.invokespecial 11, 3) := by decide +kernel
theorem dX3_init_15 : decode cX3_init 15 = .ok (.putfield 14, 3) := by decide +kernel
theorem dX3_init_18 : decode cX3_init 18 = .ok (.aload_n 0, 1) := by decide +kernel
theorem dX3_init_19 : decode cX3_init 19 = .ok (.new 9, 3) := by decide +kernel
theorem dX3_init_22 : decode cX3_init 22 = .ok (.dup, 1) := by decide +kernel
theorem dX3_init_23 : decode cX3_init 23 = .ok (.sipush 128, 3) := by decide +kernel
theorem dX3_init_26 : decode cX3_init 26 = .ok (.invokespecial 11, 3) := by decide +kernel
theorem dX3_init_29 : decode cX3_init 29 = .ok (.putfield 20, 3) := by decide +kernel
theorem dX3_init_32 : decode cX3_init 32 = .ok (.aload_n 0, 1) := by decide +kernel
theorem dX3_init_33 : decode cX3_init 33 = .ok (.new 9, 3) := by decide +kernel
theorem dX3_init_36 : decode cX3_init 36 = .ok (.dup, 1) := by decide +kernel
theorem dX3_init_37 : decode cX3_init 37 = .ok (.bipush 8, 2) := by decide +kernel
theorem dX3_init_39 : decode cX3_init 39 = .ok (.invokespecial 11, 3) := by decide +kernel
theorem dX3_init_42 : decode cX3_init 42 = .ok (.putfield 23, 3) := by decide +kernel
theorem dX3_init_45 : decode cX3_init 45 = .ok (.aload_n 0, 1) := by decide +kernel
theorem dX3_init_46 : decode cX3_init 46 = .ok (.new 26, 3) := by decide +kernel
theorem dX3_init_49 : decode cX3_init 49 = .ok (.dup, 1) := by decide +kernel
theorem dX3_init_50 : decode cX3_init 50 = .ok (.invokespecial 28, 3) := by decide +kernel
theorem dX3_init_53 : decode cX3_init 53 = .ok (.putfield 29, 3) := by decide +kernel
theorem dX3_init_56 : decode cX3_init 56 = .ok (.aload_n 0, 1) := by decide +kernel
theorem dX3_init_57 : decode cX3_init 57 = .ok (.aload_n 1, 1) := by decide +kernel
theorem dX3_init_58 : decode cX3_init 58 = .ok (.putfield 33, 3) := by decide +kernel
theorem dX3_init_61 : decode cX3_init 61 = .ok (.return_, 1) := by decide +kernel
theorem dX3_renew_0 : decode cX3_renew 0 = .ok (.aload_n 0, 1) := by decide +kernel
theorem dX3_renew_1 : decode cX3_renew 1 = .ok (.iload_n 1, 1) := by decide +kernel
theorem dX3_renew_2 : decode cX3_renew 2 = .ok (.putfield 37, 3) := by decide +kernel
theorem dX3_renew_5 : decode cX3_renew 5 = .ok (.aload_n 0, 1) := by decide +kernel
theorem dX3_renew_6 : decode cX3_renew 6 = .ok (.iconst 0, 1) := by decide +kernel
theorem dX3_renew_7 : decode cX3_renew 7 = .ok (.putfield 41, 3) := by decide +kernel
theorem dX3_renew_10 : decode cX3_renew 10 = .ok (.aload_n 0, 1) := by decide +kernel
theorem dX3_renew_11 : decode cX3_renew 11 = .ok (.getfield 14, 3) := by decide +kernel
theorem dX3_renew_14 : decode cX3_renew 14 = .ok (.invokevirtual 44, 3) := by decide +kernel
theorem dX3_renew_17 : decode cX3_renew 17 = .ok (.aload_n 0, 1) := by decide +kernel
theorem dX3_renew_18 : decode cX3_renew 18 = .ok (.getfield 14, 3) := by decide +kernel
theorem dX3_renew_21 : decode cX3_renew 21 = .ok (.lconst 1, 1) := by decide +kernel
theorem dX3_renew_22 : decode cX3_renew 22 = .ok (.invokevirtual 47, 3) := by decide +kernel
theorem dX3_renew_25 : decode cX3_renew 25 = .ok (.aload_n 0, 1) := by decide +kernel
theorem dX3_renew_26 : decode cX3_renew 26 = .ok (.getfield 20, 3) := by decide +kernel
theorem dX3_renew_29 : decode cX3_renew 29 = .ok (.invokevirtual 44, 3) := by decide +kernel
theorem dX3_renew_32 : decode cX3_renew 32 = .ok (.aload_n 0, 1) := by decide +kernel
theorem dX3_renew_33 : decode cX3_renew 33 = .ok (.getfield 20, 3) := by decide +kernel
theorem dX3_renew_36 : decode cX3_renew 36 = .ok (.lconst 1, 1) := by decide +kernel
theorem dX3_renew_37 : decode cX3_renew 37 = .ok (.invokevirtual 47, 3) := by decide +kernel
theorem dX3_renew_40 : decode cX3_renew 40 = .ok (.aload_n 0, 1) := by decide +kernel
theorem dX3_renew_41 : decode cX3_renew 41 = .ok (.invokevirtual 51, 3) := by decide +kernel
theorem dX3_renew_44 : decode cX3_renew 44 = .ok (.aload_n 0, 1) := by decide +kernel
theorem dX3_renew_45 : decode cX3_renew 45 = .ok (.invokevirtual 54, 3) := by decide +kernel
theorem dX3_renew_48 : decode cX3_renew 48 = .ok (.return_, 1) := by decide +kernel
theorem dX3_hasGuess_0 : decode cX3_hasGuess 0 = .ok (.aload_n 0, 1) := by decide +kernel
theorem dX3_hasGuess_1 : decode cX3_hasGuess 1 = .ok (.getfield 29, 3) := by decide +kernel
theorem dX3_hasGuess_4 : decode cX3_hasGuess 4 = .ok (.getfield 57, 3) := by decide +kernel
theorem dX3_hasGuess_7 : decode cX3_hasGuess 7 = .ok (.ifCond .le 7, 3) := by decide +kernel
theorem dX3_hasGuess_10 : decode cX3_hasGuess 10 = .ok (.iconst 1, 1) := by decide +kernel
theorem dX3_hasGuess_11 : decode cX3_hasGuess 11 = .ok (.goto 4, 3) := by decide +kernel
theorem dX3_hasGuess_14 : decode cX3_hasGuess 14 = .ok (.iconst 0, 1) := by decide +kernel
theorem dX3_hasGuess_15 : decode cX3_hasGuess 15 = .ok (.ireturn, 1) := by decide +kernel
theorem dX3_dropGuess_0 : decode cX3_dropGuess 0 = .ok (.aload_n 0, 1) := by decide +kernel
theorem dX3_dropGuess_1 : decode cX3_dropGuess 1 = .ok (.getfield 29, 3) := by decide +kernel
theorem dX3_dropGuess_4 : decode cX3_dropGuess 4 = .ok (.iconst 0, 1) := by decide +kernel
theorem dX3_dropGuess_5 : decode cX3_dropGuess 5 = .ok (.iconst 0, 1) := by decide +kernel
theorem dX3_dropGuess_6 : decode cX3_dropGuess 6 = .ok (.invokevirtual 60, 3) := by decide +kernel
theorem dX3_dropGuess_9 : decode cX3_dropGuess 9 = .ok (.aload_n 0, 1) := by decide +kernel
theorem dX3_dropGuess_10 : decode cX3_dropGuess 10 = .ok (.getfield 23, 3) := by decide +kernel
theorem dX3_dropGuess_13 : decode cX3_dropGuess 13 = .ok (.invokevirtual 44, 3) := by decide +kernel
theorem dX3_dropGuess_16 : decode cX3_dropGuess 16 = .ok (.return_, 1) := by decide +kernel
theorem dX3_settle_0 : decode cX3_settle 0 = .ok (.aload_n 0, 1) := by decide +kernel
theorem dX3_settle_1 : decode cX3_settle 1 = .ok (.getfield 29, 3) := by decide +kernel
theorem dX3_settle_4 : decode cX3_settle 4 = .ok (.aload_n 0, 1) := by decide +kernel
theorem dX3_settle_5 : decode cX3_settle 5 = .ok (.getfield 23, 3) := by decide +kernel
theorem dX3_settle_8 : decode cX3_settle 8 = .ok (.getfield 64, 3) := by decide +kernel
theorem dX3_settle_11 : decode cX3_settle 11 = .ok (.aload_n 0, 1) := by decide +kernel
theorem dX3_settle_12 : decode cX3_settle 12 = .ok (.getfield 33, 3) := by decide +kernel
theorem dX3_settle_15 : decode cX3_settle 15 = .ok (.getfield 67, 3) := by decide +kernel
theorem dX3_settle_18 : decode cX3_settle 18 = .ok (.getfield 72, 3) := by decide +kernel
theorem dX3_settle_21 : decode cX3_settle 21 = .ok (.invokevirtual 60, 3) := by decide +kernel
theorem dX3_settle_24 : decode cX3_settle 24 = .ok (.iconst 0, 1) := by decide +kernel
theorem dX3_settle_25 : decode cX3_settle 25 = .ok (.istore_n 1, 1) := by decide +kernel
theorem dX3_settle_26 : decode cX3_settle 26 = .ok (.iload_n 1, 1) := by decide +kernel
theorem dX3_settle_27 : decode cX3_settle 27 = .ok (.aload_n 0, 1) := by decide +kernel
theorem dX3_settle_28 : decode cX3_settle 28 = .ok (.getfield 23, 3) := by decide +kernel
theorem dX3_settle_31 : decode cX3_settle 31 = .ok (.getfield 64, 3) := by decide +kernel
theorem dX3_settle_34 : decode cX3_settle 34 = .ok (.if_icmp .ge 32, 3) := by decide +kernel
theorem dX3_settle_37 : decode cX3_settle 37 = .ok (.aload_n 0, 1) := by decide +kernel
theorem dX3_settle_38 : decode cX3_settle 38 = .ok (.getfield 29, 3) := by decide +kernel
theorem dX3_settle_41 : decode cX3_settle 41 = .ok (.iload_n 1, 1) := by decide +kernel
theorem dX3_settle_42 : decode cX3_settle 42 = .ok (.aload_n 0, 1) := by decide +kernel
theorem dX3_settle_43 : decode cX3_settle 43 = .ok (.getfield 33, 3) := by decide +kernel
theorem dX3_settle_46 : decode cX3_settle 46 = .ok (.aload_n 0, 1) := by decide +kernel
theorem dX3_settle_47 : decode cX3_settle 47 = .ok (.getfield 23, 3) := by decide +kernel
theorem dX3_settle_50 : decode cX3_settle 50 = .ok (.iload_n 1, 1) := by decide +kernel
theorem dX3_settle_51 : decode cX3_settle 51 = .ok (.invokevirtual 75, 3) := by decide +kernel
theorem dX3_settle_54 : decode cX3_settle 54 = .ok (.invokevirtual 79, 3) := by decide +kernel
theorem dX3_settle_57 : decode cX3_settle 57 = .ok (.invokevirtual 83, 3) := by decide +kernel
theorem dX3_settle_60 : decode cX3_settle 60 = .ok (.iinc 1 1, 3) := by decide +kernel
theorem dX3_settle_63 : decode cX3_settle 63 = .ok (.goto (-37), 3) := by decide +kernel
theorem dX3_settle_66 : decode cX3_settle 66 = .ok (.return_, 1) := by decide +kernel
theorem dX3_accessBy_0 : decode cX3_accessBy 0 = .ok (.aload_n 0, 1) := by decide +kernel
theorem dX3_accessBy_1 : decode cX3_accessBy 1 = .ok (.getfield 23, 3) := by decide +kernel
theorem dX3_accessBy_4 : decode cX3_accessBy 4 = .ok (.aload_n 0, 1) := by decide +kernel
theorem dX3_accessBy_5 : decode cX3_accessBy 5 = .ok (.getfield 29, 3) := by decide +kernel
theorem dX3_accessBy_8 : decode cX3_accessBy 8 = .ok (.iconst 0, 1) := by decide +kernel
theorem dX3_accessBy_9 : decode cX3_accessBy 9 = .ok (.lload_n 1, 1) := by decide +kernel
theorem dX3_accessBy_10 : decode cX3_accessBy 10 = .ok (.invokevirtual 86, 3) := by decide +kernel
theorem dX3_accessBy_13 : decode cX3_accessBy 13 = .ok (.invokevirtual 75, 3) := by decide +kernel
theorem dX3_accessBy_16 : decode cX3_accessBy 16 = .ok (.lreturn, 1) := by decide +kernel
theorem dX3_partingAt_0 : decode cX3_partingAt 0 = .ok (.iconst 0, 1) := by decide +kernel
theorem dX3_partingAt_1 : decode cX3_partingAt 1 = .ok (.istore 4, 2) := by decide +kernel
theorem dX3_partingAt_3 : decode cX3_partingAt 3 = .ok (.lload_n 1, 1) := by decide +kernel
theorem dX3_partingAt_4 : decode cX3_partingAt 4 = .ok (.invokestatic 90, 3) := by decide +kernel
theorem dX3_partingAt_7 : decode cX3_partingAt 7 = .ok (.istore 5, 2) := by decide +kernel
theorem dX3_partingAt_9 : decode cX3_partingAt 9 = .ok (.iconst 0, 1) := by decide +kernel
theorem dX3_partingAt_10 : decode cX3_partingAt 10 = .ok (.istore 6, 2) := by decide +kernel
theorem dX3_partingAt_12 : decode cX3_partingAt 12 = .ok (.iload 6, 2) := by decide +kernel
theorem dX3_partingAt_14 : decode cX3_partingAt 14 = .ok (.bipush 30, 2) := by decide +kernel
theorem dX3_partingAt_16 : decode cX3_partingAt 16 = .ok (.if_icmp .ge 72, 3) := by decide +kernel
theorem dX3_partingAt_19 : decode cX3_partingAt 19 = .ok (.iload 5, 2) := by decide +kernel
theorem dX3_partingAt_21 : decode cX3_partingAt 21 = .ok (.iload 4, 2) := by decide +kernel
theorem dX3_partingAt_23 : decode cX3_partingAt 23 = .ok (.iconst 1, 1) := by decide +kernel
theorem dX3_partingAt_24 : decode cX3_partingAt 24 = .ok (.iadd, 1) := by decide +kernel
theorem dX3_partingAt_25 : decode cX3_partingAt 25 = .ok (.if_icmp .le 63, 3) := by decide +kernel
theorem dX3_partingAt_28 : decode cX3_partingAt 28 = .ok (.iload 4, 2) := by decide +kernel
theorem dX3_partingAt_30 : decode cX3_partingAt 30 = .ok (.iload 5, 2) := by decide +kernel
theorem dX3_partingAt_32 : decode cX3_partingAt 32 = .ok (.iadd, 1) := by decide +kernel
theorem dX3_partingAt_33 : decode cX3_partingAt 33 = .ok (.iconst 2, 1) := by decide +kernel
theorem dX3_partingAt_34 : decode cX3_partingAt 34 = .ok (.idiv, 1) := by decide +kernel
theorem dX3_partingAt_35 : decode cX3_partingAt 35 = .ok (.istore 7, 2) := by decide +kernel
theorem dX3_partingAt_37 : decode cX3_partingAt 37 = .ok (.aload_n 0, 1) := by decide +kernel
theorem dX3_partingAt_38 : decode cX3_partingAt 38 = .ok (.lload_n 1, 1) := by decide +kernel
theorem dX3_partingAt_39 : decode cX3_partingAt 39 = .ok (.iload 7, 2) := by decide +kernel
theorem dX3_partingAt_41 : decode cX3_partingAt 41 = .ok (.invokestatic 95, 3) := by decide +kernel
theorem dX3_partingAt_44 : decode cX3_partingAt 44 = .ok (.invokevirtual 99, 3) := by decide +kernel
theorem dX3_partingAt_47 : decode cX3_partingAt 47 = .ok (.lstore 8, 2) := by decide +kernel
theorem dX3_partingAt_49 : decode cX3_partingAt 49 = .ok (.aload_n 0, 1) := by decide +kernel
theorem dX3_partingAt_50 : decode cX3_partingAt 50 = .ok (.getfield 33, 3) := by decide +kernel
theorem dX3_partingAt_53 : decode cX3_partingAt 53 = .ok (.lload 8, 2) := by decide +kernel
theorem dX3_partingAt_55 : decode cX3_partingAt 55 = .ok (.lload_n 1, 1) := by decide +kernel
theorem dX3_partingAt_56 : decode cX3_partingAt 56 = .ok (.iload 7, 2) := by decide +kernel
theorem dX3_partingAt_58 : decode cX3_partingAt 58 = .ok (.invokestatic 103, 3) := by decide +kernel
theorem dX3_partingAt_61 : decode cX3_partingAt 61 = .ok (.invokestatic 106, 3) := by decide +kernel
theorem dX3_partingAt_64 : decode cX3_partingAt 64 = .ok (.invokevirtual 79, 3) := by decide +kernel
theorem dX3_partingAt_67 : decode cX3_partingAt 67 = .ok (.iload_n 3, 1) := by decide +kernel
theorem dX3_partingAt_68 : decode cX3_partingAt 68 = .ok (.if_icmp .ne 10, 3) := by decide +kernel
theorem dX3_partingAt_71 : decode cX3_partingAt 71 = .ok (.iload 7, 2) := by decide +kernel
theorem dX3_partingAt_73 : decode cX3_partingAt 73 = .ok (.istore 4, 2) := by decide +kernel
theorem dX3_partingAt_75 : decode cX3_partingAt 75 = .ok (.goto 7, 3) := by decide +kernel
theorem dX3_partingAt_78 : decode cX3_partingAt 78 = .ok (.iload 7, 2) := by decide +kernel
theorem dX3_partingAt_80 : decode cX3_partingAt 80 = .ok (.istore 5, 2) := by decide +kernel
theorem dX3_partingAt_82 : decode cX3_partingAt 82 = .ok (.iinc 6 1, 3) := by decide +kernel
theorem dX3_partingAt_85 : decode cX3_partingAt 85 = .ok (.goto (-73), 3) := by decide +kernel
theorem dX3_partingAt_88 : decode cX3_partingAt 88 = .ok (.iload 5, 2) := by decide +kernel
theorem dX3_partingAt_90 : decode cX3_partingAt 90 = .ok (.ireturn, 1) := by decide +kernel
theorem dX4_init_0 : decode cX4_init 0 = .ok (.aload_n 0, 1) := by decide +kernel
theorem dX4_init_1 : decode cX4_init 1 = .ok (.invokespecial 3, 3) := by decide +kernel
theorem dX4_init_4 : decode cX4_init 4 = .ok (.aload_n 0, 1) := by decide +kernel
theorem dX4_init_5 : decode cX4_init 5 = .ok (.aload_n 2, 1) := by decide +kernel
theorem dX4_init_6 : decode cX4_init 6 = .ok (.putfield 9, 3) := by decide +kernel
theorem dX4_init_9 : decode cX4_init 9 = .ok (.aload_n 0, 1) := by decide +kernel
theorem dX4_init_10 : decode cX4_init 10 = .ok (.new 15, 3) := by decide +kernel
theorem dX4_init_13 : decode cX4_init 13 = .ok (.dup, 1) := by decide +kernel
theorem dX4_init_14 : decode cX4_init 14 = .ok (.aload_n 1, 1) := by decide +kernel
theorem dX4_init_15 : decode cX4_init 15 = .ok (.invokespecial 17, 3) := by decide +kernel
theorem dX4_init_18 : decode cX4_init 18 = .ok (.putfield 20, 3) := by decide +kernel
theorem dX4_init_21 : decode cX4_init 21 = .ok (.aload_n 0, 1) := by decide +kernel
theorem dX4_init_22 : decode cX4_init 22 = .ok (.new 24, 3) := by decide +kernel
theorem dX4_init_25 : decode cX4_init 25 = .ok (.dup, 1) := by decide +kernel
theorem dX4_init_26 : decode cX4_init 26 = .ok (.aload_n 0, 1) := by decide +kernel
theorem dX4_init_27 : decode cX4_init 27 = .ok (.getfield 20, 3) := by decide +kernel
theorem dX4_init_30 : decode cX4_init 30 = .ok (.invokespecial 26, 3) := by decide +kernel
theorem dX4_init_33 : decode cX4_init 33 = .ok (.putfield 29, 3) := by decide +kernel
theorem dX4_init_36 : decode cX4_init 36 = .ok (.aload_n 0, 1) := by decide +kernel
theorem dX4_init_37 : decode cX4_init 37 = .ok (.new 33, 3) := by decide +kernel
theorem dX4_init_40 : decode cX4_init 40 = .ok (.dup, 1) := by decide +kernel
theorem dX4_init_41 : decode cX4_init 41 = .ok (.aload_n 0, 1) := by decide +kernel
theorem dX4_init_42 : decode cX4_init 42 = .ok (.getfield 20, 3) := by decide +kernel
theorem dX4_init_45 : decode cX4_init 45 = .ok (.invokespecial 35, 3) := by decide +kernel
theorem dX4_init_48 : decode cX4_init 48 = .ok (.putfield 36, 3) := by decide +kernel
theorem dX4_init_51 : decode cX4_init 51 = .ok (.aload_n 0, 1) := by decide +kernel
theorem dX4_init_52 : decode cX4_init 52 = .ok (.aload_n 0, 1) := by decide +kernel
theorem dX4_init_53 : decode cX4_init 53 = .ok (.getfield 29, 3) := by decide +kernel
theorem dX4_init_56 : decode cX4_init 56 = .ok (.putfield 40, 3) := by decide +kernel
theorem dX4_init_59 : decode cX4_init 59 = .ok (.return_, 1) := by decide +kernel
theorem dX4_renew_0 : decode cX4_renew 0 = .ok (.aload_n 0, 1) := by decide +kernel
theorem dX4_renew_1 : decode cX4_renew 1 = .ok (.iload_n 1, 1) := by decide +kernel
theorem dX4_renew_2 : decode cX4_renew 2 = .ok (.putfield 44, 3) := by decide +kernel
theorem dX4_renew_5 : decode cX4_renew 5 = .ok (.aload_n 0, 1) := by decide +kernel
theorem dX4_renew_6 : decode cX4_renew 6 = .ok (.aload_n 0, 1) := by decide +kernel
theorem dX4_renew_7 : decode cX4_renew 7 = .ok (.getfield 44, 3) := by decide +kernel
theorem dX4_renew_10 : decode cX4_renew 10 = .ok (.iconst 3, 1) := by decide +kernel
theorem dX4_renew_11 : decode cX4_renew 11 = .ok (.if_icmp .ne 10, 3) := by decide +kernel
theorem dX4_renew_14 : decode cX4_renew 14 = .ok (.aload_n 0, 1) := by decide +kernel
theorem dX4_renew_15 : decode cX4_renew 15 = .ok (.getfield 36, 3) := by decide +kernel
theorem dX4_renew_18 : decode cX4_renew 18 = .ok (.goto 7, 3) := by decide +kernel
theorem dX4_renew_21 : decode cX4_renew 21 = .ok (.aload_n 0, 1) := by decide +kernel
theorem dX4_renew_22 : decode cX4_renew 22 = .ok (.getfield 29, 3) := by decide +kernel
theorem dX4_renew_25 : decode cX4_renew 25 = .ok (.putfield 40, 3) := by decide +kernel
theorem dX4_renew_28 : decode cX4_renew 28 = .ok (.aload_n 0, 1) := by decide +kernel
theorem dX4_renew_29 : decode cX4_renew 29 = .ok (.getfield 20, 3) := by decide +kernel
theorem dX4_renew_32 : decode cX4_renew 32 = .ok (.invokevirtual 48, 3) := by decide +kernel
theorem dX4_renew_35 : decode cX4_renew 35 = .ok (.aload_n 0, 1) := by decide +kernel
theorem dX4_renew_36 : decode cX4_renew 36 = .ok (.getfield 40, 3) := by decide +kernel
theorem dX4_renew_39 : decode cX4_renew 39 = .ok (.aload_n 0, 1) := by decide +kernel
theorem dX4_renew_40 : decode cX4_renew 40 = .ok (.getfield 44, 3) := by decide +kernel
theorem dX4_renew_43 : decode cX4_renew 43 = .ok (.invokevirtual 51, 3) := by decide +kernel
theorem dX4_renew_46 : decode cX4_renew 46 = .ok (.return_, 1) := by decide +kernel
theorem dX4_learn_0 : decode cX4_learn 0 = .ok (.aload_n 0, 1) := by decide +kernel
theorem dX4_learn_1 : decode cX4_learn 1 = .ok (.iconst 0, 1) := by decide +kernel
theorem dX4_learn_2 : decode cX4_learn 2 = .ok (.putfield 57, 3) := by decide +kernel
theorem dX4_learn_5 : decode cX4_learn 5 = .ok (.iconst 0, 1) := by decide +kernel
theorem dX4_learn_6 : decode cX4_learn 6 = .ok (.istore_n 1, 1) := by decide +kernel
theorem dX4_learn_7 : decode cX4_learn 7 = .ok (.iload_n 1, 1) := by decide +kernel
theorem dX4_learn_8 : decode cX4_learn 8 = .ok (.sipush 10000, 3) := by decide +kernel
theorem dX4_learn_11 : decode cX4_learn 11 = .ok (.if_icmp .ge 80, 3) := by decide +kernel
theorem dX4_learn_14 : decode cX4_learn 14 = .ok (.aload_n 0, 1) := by decide +kernel
theorem dX4_learn_15 : decode cX4_learn 15 = .ok (.getfield 40, 3) := by decide +kernel
theorem dX4_learn_18 : decode cX4_learn 18 = .ok (.invokevirtual 60, 3) := by decide +kernel
theorem dX4_learn_21 : decode cX4_learn 21 = .ok (.ifCond .eq 46, 3) := by decide +kernel
theorem dX4_learn_24 : decode cX4_learn 24 = .ok (.aload_n 0, 1) := by decide +kernel
theorem dX4_learn_25 : decode cX4_learn 25 = .ok (.getfield 9, 3) := by decide +kernel
theorem dX4_learn_28 : decode cX4_learn 28 = .ok (.aload_n 0, 1) := by decide +kernel
theorem dX4_learn_29 : decode cX4_learn 29 = .ok (.getfield 40, 3) := by decide +kernel
theorem dX4_learn_32 : decode cX4_learn 32 = .ok (.getfield 64, 3) := by decide +kernel
theorem dX4_learn_35 : decode cX4_learn 35 = .ok (.iconst 0, 1) := by decide +kernel
theorem dX4_learn_36 : decode cX4_learn 36 = .ok (.aload_n 0, 1) := by decide +kernel
theorem dX4_learn_37 : decode cX4_learn 37 = .ok (.getfield 20, 3) := by decide +kernel
theorem dX4_learn_40 : decode cX4_learn 40 = .ok (.getfield 68, 3) := by decide +kernel
theorem dX4_learn_43 : decode cX4_learn 43 = .ok (.iconst 0, 1) := by decide +kernel
theorem dX4_learn_44 : decode cX4_learn 44 = .ok (.invokevirtual 71, 3) := by decide +kernel
theorem dX4_learn_47 : decode cX4_learn 47 = .ok (.lstore_n 2, 1) := by decide +kernel
theorem dX4_learn_48 : decode cX4_learn 48 = .ok (.lload_n 2, 1) := by decide +kernel
theorem dX4_learn_49 : decode cX4_learn 49 = .ok (.lconst 0, 1) := by decide +kernel
theorem dX4_learn_50 : decode cX4_learn 50 = .ok (.lcmp, 1) := by decide +kernel
theorem dX4_learn_51 : decode cX4_learn 51 = .ok (.ifCond .ne 4, 3) := by decide +kernel
theorem dX4_learn_54 : decode cX4_learn 54 = .ok (.return_, 1) := by decide +kernel
theorem dX4_learn_55 : decode cX4_learn 55 = .ok (.aload_n 0, 1) := by decide +kernel
theorem dX4_learn_56 : decode cX4_learn 56 = .ok (.getfield 40, 3) := by decide +kernel
theorem dX4_learn_59 : decode cX4_learn 59 = .ok (.lload_n 2, 1) := by decide +kernel
theorem dX4_learn_60 : decode cX4_learn 60 = .ok (.invokevirtual 77, 3) := by decide +kernel
theorem dX4_learn_63 : decode cX4_learn 63 = .ok (.pop, 1) := by decide +kernel
theorem dX4_learn_64 : decode cX4_learn 64 = .ok (.goto 21, 3) := by decide +kernel
theorem dX4_learn_67 : decode cX4_learn 67 = .ok (.aload_n 0, 1) := by decide +kernel
theorem dX4_learn_68 : decode cX4_learn 68 = .ok (.getfield 40, 3) := by decide +kernel
theorem dX4_learn_71 : decode cX4_learn 71 = .ok (.invokevirtual 81, 3) := by decide +kernel
theorem dX4_learn_74 : decode cX4_learn 74 = .ok (.pop, 1) := by decide +kernel
theorem dX4_learn_75 : decode cX4_learn 75 = .ok (.aload_n 0, 1) := by decide +kernel
theorem dX4_learn_76 : decode cX4_learn 76 = .ok (.dup, 1) := by decide +kernel
theorem dX4_learn_77 : decode cX4_learn 77 = .ok (.getfield 57, 3) := by decide +kernel
theorem dX4_learn_80 : decode cX4_learn 80 = .ok (.iconst 1, 1) := by decide +kernel
theorem dX4_learn_81 : decode cX4_learn 81 = .ok (.iadd, 1) := by decide +kernel
theorem dX4_learn_82 : decode cX4_learn 82 = .ok (.putfield 57, 3) := by decide +kernel
theorem dX4_learn_85 : decode cX4_learn 85 = .ok (.iinc 1 1, 3) := by decide +kernel
theorem dX4_learn_88 : decode cX4_learn 88 = .ok (.goto (-81), 3) := by decide +kernel
theorem dX4_learn_91 : decode cX4_learn 91 = .ok (.return_, 1) := by decide +kernel
theorem dX5_init_0 : decode cX5_init 0 = .ok (.aload_n 0, 1) := by decide +kernel
theorem dX5_init_1 : decode cX5_init 1 = .ok (.invokespecial 3, 3) := by decide +kernel
theorem dX5_init_4 : decode cX5_init 4 = .ok (.aload_n 0, 1) := by decide +kernel
theorem dX5_init_5 : decode cX5_init 5 = .ok (.bipush 64, 2) := by decide +kernel
theorem dX5_init_7 : decode cX5_init 7 = .ok (.newarray .long, 2) := by decide +kernel
theorem dX5_init_9 : decode cX5_init 9 = .ok (.putfield 11, 3) := by decide +kernel
theorem dX5_init_12 : decode cX5_init 12 = .ok (.aload_n 0, 1) := by decide +kernel
theorem dX5_init_13 : decode cX5_init 13 = .ok (.bipush 64, 2) := by decide +kernel
theorem dX5_init_15 : decode cX5_init 15 = .ok (.newarray .int, 2) := by decide +kernel
theorem dX5_init_17 : decode cX5_init 17 = .ok (.putfield 15, 3) := by decide +kernel
theorem dX5_init_20 : decode cX5_init 20 = .ok (.aload_n 0, 1) := by decide +kernel
theorem dX5_init_21 : decode cX5_init 21 = .ok (.bipush 64, 2) := by decide +kernel
theorem dX5_init_23 : decode cX5_init 23 = .ok (.newarray .int, 2) := by decide +kernel
theorem dX5_init_25 : decode cX5_init 25 = .ok (.putfield 19, 3) := by decide +kernel
theorem dX5_init_28 : decode cX5_init 28 = .ok (.aload_n 0, 1) := by decide +kernel
theorem dX5_init_29 : decode cX5_init 29 = .ok (.bipush 64, 2) := by decide +kernel
theorem dX5_init_31 : decode cX5_init 31 = .ok (.newarray .int, 2) := by decide +kernel
theorem dX5_init_33 : decode cX5_init 33 = .ok (.putfield 22, 3) := by decide +kernel
theorem dX5_init_36 : decode cX5_init 36 = .ok (.return_, 1) := by decide +kernel
theorem dX5_firstUnlike_0 : decode cX5_firstUnlike 0 = .ok (.aload_n 0, 1) := by decide +kernel
theorem dX5_firstUnlike_1 : decode cX5_firstUnlike 1 = .ok (.getfield 11, 3) := by decide +kernel
theorem dX5_firstUnlike_4 : decode cX5_firstUnlike 4 = .ok (.lconst 0, 1) := by decide +kernel
theorem dX5_firstUnlike_5 : decode cX5_firstUnlike 5 = .ok (.invokestatic 25, 3) := by decide +kernel
theorem dX5_firstUnlike_8 : decode cX5_firstUnlike 8 = .ok (.aload_n 0, 1) := by decide +kernel
theorem dX5_firstUnlike_9 : decode cX5_firstUnlike 9 = .ok (.iconst 0, 1) := by decide +kernel
theorem dX5_firstUnlike_10 : decode cX5_firstUnlike 10 = .ok (.putfield 31, 3) := by decide +kernel
theorem dX5_firstUnlike_13 : decode cX5_firstUnlike 13 = .ok (.aload_n 0, 1) := by decide +kernel
theorem dX5_firstUnlike_14 : decode cX5_firstUnlike 14 = .ok (.iload_n 2, 1) := by decide +kernel
theorem dX5_firstUnlike_15 : decode cX5_firstUnlike 15 = .ok (.iload 4, 2) := by decide +kernel
theorem dX5_firstUnlike_17 : decode cX5_firstUnlike 17 = .ok (.lconst 1, 1) := by decide +kernel
theorem dX5_firstUnlike_18 : decode cX5_firstUnlike 18 = .ok (.invokevirtual 35, 3) := by decide +kernel
theorem dX5_firstUnlike_21 : decode cX5_firstUnlike 21 = .ok (.iconst 0, 1) := by decide +kernel
theorem dX5_firstUnlike_22 : decode cX5_firstUnlike 22 = .ok (.istore 5, 2) := by decide +kernel
theorem dX5_firstUnlike_24 : decode cX5_firstUnlike 24 = .ok (.iload 5, 2) := by decide +kernel
theorem dX5_firstUnlike_26 : decode cX5_firstUnlike 26 = .ok (.aload_n 0, 1) := by decide +kernel
theorem dX5_firstUnlike_27 : decode cX5_firstUnlike 27 = .ok (.getfield 31, 3) := by decide +kernel
theorem dX5_firstUnlike_30 : decode cX5_firstUnlike 30 = .ok (.if_icmp .ge 124, 3) := by decide +kernel
theorem dX5_firstUnlike_33 : decode cX5_firstUnlike 33 = .ok (.iload 5, 2) := by decide +kernel
theorem dX5_firstUnlike_35 : decode cX5_firstUnlike 35 = .ok (.aload_n 0, 1) := by decide +kernel
theorem dX5_firstUnlike_36 : decode cX5_firstUnlike 36 = .ok (.getfield 15, 3) := by decide +kernel
theorem dX5_firstUnlike_39 : decode cX5_firstUnlike 39 = .ok (.arraylength, 1) := by decide +kernel
theorem dX5_firstUnlike_40 : decode cX5_firstUnlike 40 = .ok (.if_icmp .ge 114, 3) := by decide +kernel
theorem dX5_firstUnlike_43 : decode cX5_firstUnlike 43 = .ok (.aload_n 0, 1) := by decide +kernel
theorem dX5_firstUnlike_44 : decode cX5_firstUnlike 44 = .ok (.getfield 15, 3) := by decide +kernel
theorem dX5_firstUnlike_47 : decode cX5_firstUnlike 47 = .ok (.iload 5, 2) := by decide +kernel
theorem dX5_firstUnlike_49 : decode cX5_firstUnlike 49 = .ok (.iaload, 1) := by decide +kernel
theorem dX5_firstUnlike_50 : decode cX5_firstUnlike 50 = .ok (.istore 6, 2) := by decide +kernel
theorem dX5_firstUnlike_52 : decode cX5_firstUnlike 52 = .ok (.iload 6, 2) := by decide +kernel
theorem dX5_firstUnlike_54 : decode cX5_firstUnlike 54 = .ok (.bipush 8, 2) := by decide +kernel
theorem dX5_firstUnlike_56 : decode cX5_firstUnlike 56 = .ok (.idiv, 1) := by decide +kernel
theorem dX5_firstUnlike_57 : decode cX5_firstUnlike 57 = .ok (.istore 7, 2) := by decide +kernel
theorem dX5_firstUnlike_59 : decode cX5_firstUnlike 59 = .ok (.iload 6, 2) := by decide +kernel
theorem dX5_firstUnlike_61 : decode cX5_firstUnlike 61 = .ok (.bipush 8, 2) := by decide +kernel
theorem dX5_firstUnlike_63 : decode cX5_firstUnlike 63 = .ok (.irem, 1) := by decide +kernel
theorem dX5_firstUnlike_64 : decode cX5_firstUnlike 64 = .ok (.istore 8, 2) := by decide +kernel
theorem dX5_firstUnlike_66 : decode cX5_firstUnlike 66 = .ok (.aload_n 0, 1) := by decide +kernel
theorem dX5_firstUnlike_67 : decode cX5_firstUnlike 67 = .ok (.iload 7, 2) := by decide +kernel
theorem dX5_firstUnlike_69 : decode cX5_firstUnlike 69 = .ok (.iload 8, 2) := by decide +kernel
theorem dX5_firstUnlike_71 : decode cX5_firstUnlike 71 = .ok (.invokevirtual 39, 3) := by decide +kernel
theorem dX5_firstUnlike_74 : decode cX5_firstUnlike 74 = .ok (.lstore 9, 2) := by decide +kernel
theorem dX5_firstUnlike_76 : decode cX5_firstUnlike 76 = .ok (.aload_n 1, 1) := by decide +kernel
theorem dX5_firstUnlike_77 : decode cX5_firstUnlike 77 = .ok (.iload 7, 2) := by decide +kernel
theorem dX5_firstUnlike_79 : decode cX5_firstUnlike 79 = .ok (.invokevirtual 43, 3) := by decide +kernel
theorem dX5_firstUnlike_82 : decode cX5_firstUnlike 82 = .ok (.aload_n 3, 1) := by decide +kernel
theorem dX5_firstUnlike_83 : decode cX5_firstUnlike 83 = .ok (.iload 8, 2) := by decide +kernel
theorem dX5_firstUnlike_85 : decode cX5_firstUnlike 85 = .ok (.invokevirtual 43, 3) := by decide +kernel
theorem dX5_firstUnlike_88 : decode cX5_firstUnlike 88 = .ok (.if_icmp .eq 6, 3) := by decide +kernel
theorem dX5_firstUnlike_91 : decode cX5_firstUnlike 91 = .ok (.lload 9, 2) := by decide +kernel
theorem dX5_firstUnlike_93 : decode cX5_firstUnlike 93 = .ok (.lreturn, 1) := by decide +kernel
theorem dX5_firstUnlike_94 : decode cX5_firstUnlike 94 = .ok (.iconst 0, 1) := by decide +kernel
theorem dX5_firstUnlike_95 : decode cX5_firstUnlike 95 = .ok (.istore 11, 2) := by decide +kernel
theorem dX5_firstUnlike_97 : decode cX5_firstUnlike 97 = .ok (.iload 11, 2) := by decide +kernel
theorem dX5_firstUnlike_99 : decode cX5_firstUnlike 99 = .ok (.aload_n 1, 1) := by decide +kernel
theorem dX5_firstUnlike_100 : decode cX5_firstUnlike 100 = .ok (.getfield 49, 3) := by decide +kernel
theorem dX5_firstUnlike_103 : decode cX5_firstUnlike 103 = .ok (.if_icmp .ge 45, 3) := by decide +kernel
theorem dX5_firstUnlike_106 : decode cX5_firstUnlike 106 = .ok (.lload 9, 2) := by decide +kernel
theorem dX5_firstUnlike_108 : decode cX5_firstUnlike 108 = .ok (.ldc2_w 52, 3) := by decide +kernel
theorem dX5_firstUnlike_111 : decode cX5_firstUnlike 111 = .ok (.lcmp, 1) := by decide +kernel
theorem dX5_firstUnlike_112 : decode cX5_firstUnlike 112 = .ok (.ifCond .ge 36, 3) := by decide +kernel
theorem dX5_firstUnlike_115 : decode cX5_firstUnlike 115 = .ok (.aload_n 0, 1) := by decide +kernel
theorem dX5_firstUnlike_116 : decode cX5_firstUnlike 116 = .ok (.aload_n 1, 1) := by decide +kernel
theorem dX5_firstUnlike_117 : decode cX5_firstUnlike 117 = .ok (.iload 7, 2) := by decide +kernel
theorem dX5_firstUnlike_119 : decode cX5_firstUnlike 119 = .ok (.iload 11, 2) := by decide +kernel
theorem dX5_firstUnlike_121 : decode cX5_firstUnlike 121 = .ok (.invokevirtual 54, 3) := by decide +kernel
theorem dX5_firstUnlike_124 : decode cX5_firstUnlike 124 = .ok (.aload_n 3, 1) := by decide +kernel
theorem dX5_firstUnlike_125 : decode cX5_firstUnlike 125 = .ok (.iload 8, 2) := by decide +kernel
theorem dX5_firstUnlike_127 : decode cX5_firstUnlike 127 = .ok (.iload 11, 2) := by decide +kernel
theorem dX5_firstUnlike_129 : decode cX5_firstUnlike 129 = .ok (.invokevirtual 54, 3) := by decide +kernel
theorem dX5_firstUnlike_132 : decode cX5_firstUnlike 132 = .ok (.lload 9, 2) := by decide +kernel
theorem dX5_firstUnlike_134 : decode cX5_firstUnlike 134 = .ok (.iload 11, 2) := by decide +kernel
theorem dX5_firstUnlike_136 : decode cX5_firstUnlike 136 = .ok (.invokestatic 58, 3) := by decide +kernel
theorem dX5_firstUnlike_139 : decode cX5_firstUnlike 139 = .ok (.invokevirtual 35, 3) := by decide +kernel
theorem dX5_firstUnlike_142 : decode cX5_firstUnlike 142 = .ok (.iinc 11 1, 3) := by decide +kernel
theorem dX5_firstUnlike_145 : decode cX5_firstUnlike 145 = .ok (.goto (-48), 3) := by decide +kernel
theorem dX5_firstUnlike_148 : decode cX5_firstUnlike 148 = .ok (.iinc 5 1, 3) := by decide +kernel
theorem dX5_firstUnlike_151 : decode cX5_firstUnlike 151 = .ok (.goto (-127), 3) := by decide +kernel
theorem dX5_firstUnlike_154 : decode cX5_firstUnlike 154 = .ok (.lconst 0, 1) := by decide +kernel
theorem dX5_firstUnlike_155 : decode cX5_firstUnlike 155 = .ok (.lreturn, 1) := by decide +kernel
theorem dX5_walk_0 : decode cX5_walk 0 = .ok (.aload_n 0, 1) := by decide +kernel
theorem dX5_walk_1 : decode cX5_walk 1 = .ok (.aload_n 1, 1) := by decide +kernel
theorem dX5_walk_2 : decode cX5_walk 2 = .ok (.iconst 0, 1) := by decide +kernel
theorem dX5_walk_3 : decode cX5_walk 3 = .ok (.aload_n 1, 1) := by decide +kernel
theorem dX5_walk_4 : decode cX5_walk 4 = .ok (.iconst 0, 1) := by decide +kernel
theorem dX5_walk_5 : decode cX5_walk 5 = .ok (.invokevirtual 64, 3) := by decide +kernel
theorem dX5_walk_8 : decode cX5_walk 8 = .ok (.pop2, 1) := by decide +kernel
theorem dX5_walk_9 : decode cX5_walk 9 = .ok (.return_, 1) := by decide +kernel
theorem dX5_firstTo_0 : decode cX5_firstTo 0 = .ok (.iload_n 1, 1) := by decide +kernel
theorem dX5_firstTo_1 : decode cX5_firstTo 1 = .ok (.iload_n 2, 1) := by decide +kernel
theorem dX5_firstTo_2 : decode cX5_firstTo 2 = .ok (.invokestatic 68, 3) := by decide +kernel
theorem dX5_firstTo_5 : decode cX5_firstTo 5 = .ok (.istore_n 3, 1) := by decide +kernel
theorem dX5_firstTo_6 : decode cX5_firstTo 6 = .ok (.iload_n 3, 1) := by decide +kernel
theorem dX5_firstTo_7 : decode cX5_firstTo 7 = .ok (.ifCond .lt 12, 3) := by decide +kernel
theorem dX5_firstTo_10 : decode cX5_firstTo 10 = .ok (.iload_n 3, 1) := by decide +kernel
theorem dX5_firstTo_11 : decode cX5_firstTo 11 = .ok (.aload_n 0, 1) := by decide +kernel
theorem dX5_firstTo_12 : decode cX5_firstTo 12 = .ok (.getfield 11, 3) := by decide +kernel
theorem dX5_firstTo_15 : decode cX5_firstTo 15 = .ok (.arraylength, 1) := by decide +kernel
theorem dX5_firstTo_16 : decode cX5_firstTo 16 = .ok (.if_icmp .lt 7, 3) := by decide +kernel
theorem dX5_firstTo_19 : decode cX5_firstTo 19 = .ok (.lconst 0, 1) := by decide +kernel
theorem dX5_firstTo_20 : decode cX5_firstTo 20 = .ok (.goto 9, 3) := by decide +kernel
theorem dX5_firstTo_23 : decode cX5_firstTo 23 = .ok (.aload_n 0, 1) := by decide +kernel
theorem dX5_firstTo_24 : decode cX5_firstTo 24 = .ok (.getfield 11, 3) := by decide +kernel
theorem dX5_firstTo_27 : decode cX5_firstTo 27 = .ok (.iload_n 3, 1) := by decide +kernel
theorem dX5_firstTo_28 : decode cX5_firstTo 28 = .ok (.laload, 1) := by decide +kernel
theorem dX5_firstTo_29 : decode cX5_firstTo 29 = .ok (.lreturn, 1) := by decide +kernel
theorem dX5_comeTo_0 : decode cX5_comeTo 0 = .ok (.iload_n 1, 1) := by decide +kernel
theorem dX5_comeTo_1 : decode cX5_comeTo 1 = .ok (.iload_n 2, 1) := by decide +kernel
theorem dX5_comeTo_2 : decode cX5_comeTo 2 = .ok (.invokestatic 68, 3) := by decide +kernel
theorem dX5_comeTo_5 : decode cX5_comeTo 5 = .ok (.istore 5, 2) := by decide +kernel
theorem dX5_comeTo_7 : decode cX5_comeTo 7 = .ok (.iload 5, 2) := by decide +kernel
theorem dX5_comeTo_9 : decode cX5_comeTo 9 = .ok (.ifCond .lt 25, 3) := by decide +kernel
theorem dX5_comeTo_12 : decode cX5_comeTo 12 = .ok (.iload 5, 2) := by decide +kernel
theorem dX5_comeTo_14 : decode cX5_comeTo 14 = .ok (.aload_n 0, 1) := by decide +kernel
theorem dX5_comeTo_15 : decode cX5_comeTo 15 = .ok (.getfield 11, 3) := by decide +kernel
theorem dX5_comeTo_18 : decode cX5_comeTo 18 = .ok (.arraylength, 1) := by decide +kernel
theorem dX5_comeTo_19 : decode cX5_comeTo 19 = .ok (.if_icmp .ge 15, 3) := by decide +kernel
theorem dX5_comeTo_22 : decode cX5_comeTo 22 = .ok (.aload_n 0, 1) := by decide +kernel
theorem dX5_comeTo_23 : decode cX5_comeTo 23 = .ok (.getfield 11, 3) := by decide +kernel
theorem dX5_comeTo_26 : decode cX5_comeTo 26 = .ok (.iload 5, 2) := by decide +kernel
theorem dX5_comeTo_28 : decode cX5_comeTo 28 = .ok (.laload, 1) := by decide +kernel
theorem dX5_comeTo_29 : decode cX5_comeTo 29 = .ok (.lconst 0, 1) := by decide +kernel
theorem dX5_comeTo_30 : decode cX5_comeTo 30 = .ok (.lcmp, 1) := by decide +kernel
theorem dX5_comeTo_31 : decode cX5_comeTo 31 = .ok (.ifCond .eq 4, 3) := by decide +kernel
theorem dX5_comeTo_34 : decode cX5_comeTo 34 = .ok (.return_, 1) := by decide +kernel
theorem dX5_comeTo_35 : decode cX5_comeTo 35 = .ok (.aload_n 0, 1) := by decide +kernel
theorem dX5_comeTo_36 : decode cX5_comeTo 36 = .ok (.getfield 11, 3) := by decide +kernel
theorem dX5_comeTo_39 : decode cX5_comeTo 39 = .ok (.iload 5, 2) := by decide +kernel
theorem dX5_comeTo_41 : decode cX5_comeTo 41 = .ok (.lload_n 3, 1) := by decide +kernel
theorem dX5_comeTo_42 : decode cX5_comeTo 42 = .ok (.lastore, 1) := by decide +kernel
theorem dX5_comeTo_43 : decode cX5_comeTo 43 = .ok (.aload_n 0, 1) := by decide +kernel
theorem dX5_comeTo_44 : decode cX5_comeTo 44 = .ok (.getfield 31, 3) := by decide +kernel
theorem dX5_comeTo_47 : decode cX5_comeTo 47 = .ok (.aload_n 0, 1) := by decide +kernel
theorem dX5_comeTo_48 : decode cX5_comeTo 48 = .ok (.getfield 15, 3) := by decide +kernel
theorem dX5_comeTo_51 : decode cX5_comeTo 51 = .ok (.arraylength, 1) := by decide +kernel
theorem dX5_comeTo_52 : decode cX5_comeTo 52 = .ok (.if_icmp .ge 21, 3) := by decide +kernel
theorem dX5_comeTo_55 : decode cX5_comeTo 55 = .ok (.aload_n 0, 1) := by decide +kernel
theorem dX5_comeTo_56 : decode cX5_comeTo 56 = .ok (.getfield 15, 3) := by decide +kernel
theorem dX5_comeTo_59 : decode cX5_comeTo 59 = .ok (.aload_n 0, 1) := by decide +kernel
theorem dX5_comeTo_60 : decode cX5_comeTo 60 = .ok (.dup, 1) := by decide +kernel
theorem dX5_comeTo_61 : decode cX5_comeTo 61 = .ok (.getfield 31, 3) := by decide +kernel
theorem dX5_comeTo_64 : decode cX5_comeTo 64 = .ok (.dup_x1, 1) := by decide +kernel
theorem dX5_comeTo_65 : decode cX5_comeTo 65 = .ok (.iconst 1, 1) := by decide +kernel
theorem dX5_comeTo_66 : decode cX5_comeTo 66 = .ok (.iadd, 1) := by decide +kernel
theorem dX5_comeTo_67 : decode cX5_comeTo 67 = .ok (.putfield 31, 3) := by decide +kernel
theorem dX5_comeTo_70 : decode cX5_comeTo 70 = .ok (.iload 5, 2) := by decide +kernel
theorem dX5_comeTo_72 : decode cX5_comeTo 72 = .ok (.iastore, 1) := by decide +kernel
theorem dX5_comeTo_73 : decode cX5_comeTo 73 = .ok (.return_, 1) := by decide +kernel
theorem dX5_pairOf_0 : decode cX5_pairOf 0 = .ok (.iload_n 0, 1) := by decide +kernel
theorem dX5_pairOf_1 : decode cX5_pairOf 1 = .ok (.ifCond .lt 19, 3) := by decide +kernel
theorem dX5_pairOf_4 : decode cX5_pairOf 4 = .ok (.iload_n 0, 1) := by decide +kernel
theorem dX5_pairOf_5 : decode cX5_pairOf 5 = .ok (.bipush 8, 2) := by decide +kernel
theorem dX5_pairOf_7 : decode cX5_pairOf 7 = .ok (.if_icmp .ge 13, 3) := by decide +kernel
theorem dX5_pairOf_10 : decode cX5_pairOf 10 = .ok (.iload_n 1, 1) := by decide +kernel
theorem dX5_pairOf_11 : decode cX5_pairOf 11 = .ok (.ifCond .lt 9, 3) := by decide +kernel
theorem dX5_pairOf_14 : decode cX5_pairOf 14 = .ok (.iload_n 1, 1) := by decide +kernel
theorem dX5_pairOf_15 : decode cX5_pairOf 15 = .ok (.bipush 8, 2) := by decide +kernel
theorem dX5_pairOf_17 : decode cX5_pairOf 17 = .ok (.if_icmp .lt 5, 3) := by decide +kernel
theorem dX5_pairOf_20 : decode cX5_pairOf 20 = .ok (.iconst (-1), 1) := by decide +kernel
theorem dX5_pairOf_21 : decode cX5_pairOf 21 = .ok (.ireturn, 1) := by decide +kernel
theorem dX5_pairOf_22 : decode cX5_pairOf 22 = .ok (.iload_n 0, 1) := by decide +kernel
theorem dX5_pairOf_23 : decode cX5_pairOf 23 = .ok (.bipush 8, 2) := by decide +kernel
theorem dX5_pairOf_25 : decode cX5_pairOf 25 = .ok (.imul, 1) := by decide +kernel
theorem dX5_pairOf_26 : decode cX5_pairOf 26 = .ok (.iload_n 1, 1) := by decide +kernel
theorem dX5_pairOf_27 : decode cX5_pairOf 27 = .ok (.iadd, 1) := by decide +kernel
theorem dX5_pairOf_28 : decode cX5_pairOf 28 = .ok (.ireturn, 1) := by decide +kernel
theorem dX5_countUnlike_0 : decode cX5_countUnlike 0 = .ok (.iconst 0, 1) := by decide +kernel
theorem dX5_countUnlike_1 : decode cX5_countUnlike 1 = .ok (.istore 4, 2) := by decide +kernel
theorem dX5_countUnlike_3 : decode cX5_countUnlike 3 = .ok (.iload 4, 2) := by decide +kernel
theorem dX5_countUnlike_5 : decode cX5_countUnlike 5 = .ok (.aload_n 0, 1) := by decide +kernel
theorem dX5_countUnlike_6 : decode cX5_countUnlike 6 = .ok (.getfield 19, 3) := by decide +kernel
theorem dX5_countUnlike_9 : decode cX5_countUnlike 9 = .ok (.arraylength, 1) := by decide +kernel
theorem dX5_countUnlike_10 : decode cX5_countUnlike 10 = .ok (.if_icmp .ge 26, 3) := by decide +kernel
theorem dX5_countUnlike_13 : decode cX5_countUnlike 13 = .ok (.aload_n 0, 1) := by decide +kernel
theorem dX5_countUnlike_14 : decode cX5_countUnlike 14 = .ok (.getfield 19, 3) := by decide +kernel
theorem dX5_countUnlike_17 : decode cX5_countUnlike 17 = .ok (.iload 4, 2) := by decide +kernel
theorem dX5_countUnlike_19 : decode cX5_countUnlike 19 = .ok (.iload 4, 2) := by decide +kernel
theorem dX5_countUnlike_21 : decode cX5_countUnlike 21 = .ok (.ifCond .ne 7, 3) := by decide +kernel
theorem dX5_countUnlike_24 : decode cX5_countUnlike 24 = .ok (.iconst 1, 1) := by decide +kernel
theorem dX5_countUnlike_25 : decode cX5_countUnlike 25 = .ok (.goto 4, 3) := by decide +kernel
theorem dX5_countUnlike_28 : decode cX5_countUnlike 28 = .ok (.iconst 0, 1) := by decide +kernel
theorem dX5_countUnlike_29 : decode cX5_countUnlike 29 = .ok (.iastore, 1) := by decide +kernel
theorem dX5_countUnlike_30 : decode cX5_countUnlike 30 = .ok (.iinc 4 1, 3) := by decide +kernel
theorem dX5_countUnlike_33 : decode cX5_countUnlike 33 = .ok (.goto (-30), 3) := by decide +kernel
theorem dX5_countUnlike_36 : decode cX5_countUnlike 36 = .ok (.iconst 0, 1) := by decide +kernel
theorem dX5_countUnlike_37 : decode cX5_countUnlike 37 = .ok (.istore 4, 2) := by decide +kernel
theorem dX5_countUnlike_39 : decode cX5_countUnlike 39 = .ok (.iconst 0, 1) := by decide +kernel
theorem dX5_countUnlike_40 : decode cX5_countUnlike 40 = .ok (.istore 5, 2) := by decide +kernel
theorem dX5_countUnlike_42 : decode cX5_countUnlike 42 = .ok (.iload 5, 2) := by decide +kernel
theorem dX5_countUnlike_44 : decode cX5_countUnlike 44 = .ok (.iload_n 3, 1) := by decide +kernel
theorem dX5_countUnlike_45 : decode cX5_countUnlike 45 = .ok (.if_icmp .gt 26, 3) := by decide +kernel
theorem dX5_countUnlike_48 : decode cX5_countUnlike 48 = .ok (.iload 4, 2) := by decide +kernel
theorem dX5_countUnlike_50 : decode cX5_countUnlike 50 = .ok (.aload_n 0, 1) := by decide +kernel
theorem dX5_countUnlike_51 : decode cX5_countUnlike 51 = .ok (.aload_n 1, 1) := by decide +kernel
theorem dX5_countUnlike_52 : decode cX5_countUnlike 52 = .ok (.aload_n 2, 1) := by decide +kernel
theorem dX5_countUnlike_53 : decode cX5_countUnlike 53 = .ok (.invokevirtual 71, 3) := by decide +kernel
theorem dX5_countUnlike_56 : decode cX5_countUnlike 56 = .ok (.iadd, 1) := by decide +kernel
theorem dX5_countUnlike_57 : decode cX5_countUnlike 57 = .ok (.istore 4, 2) := by decide +kernel
theorem dX5_countUnlike_59 : decode cX5_countUnlike 59 = .ok (.aload_n 0, 1) := by decide +kernel
theorem dX5_countUnlike_60 : decode cX5_countUnlike 60 = .ok (.aload_n 1, 1) := by decide +kernel
theorem dX5_countUnlike_61 : decode cX5_countUnlike 61 = .ok (.aload_n 2, 1) := by decide +kernel
theorem dX5_countUnlike_62 : decode cX5_countUnlike 62 = .ok (.invokevirtual 75, 3) := by decide +kernel
theorem dX5_countUnlike_65 : decode cX5_countUnlike 65 = .ok (.iinc 5 1, 3) := by decide +kernel
theorem dX5_countUnlike_68 : decode cX5_countUnlike 68 = .ok (.goto (-26), 3) := by decide +kernel
theorem dX5_countUnlike_71 : decode cX5_countUnlike 71 = .ok (.iload 4, 2) := by decide +kernel
theorem dX5_countUnlike_73 : decode cX5_countUnlike 73 = .ok (.ireturn, 1) := by decide +kernel
theorem dX5_unlikeWays_0 : decode cX5_unlikeWays 0 = .ok (.iconst 0, 1) := by decide +kernel
theorem dX5_unlikeWays_1 : decode cX5_unlikeWays 1 = .ok (.istore_n 3, 1) := by decide +kernel
theorem dX5_unlikeWays_2 : decode cX5_unlikeWays 2 = .ok (.iconst 0, 1) := by decide +kernel
theorem dX5_unlikeWays_3 : decode cX5_unlikeWays 3 = .ok (.istore 4, 2) := by decide +kernel
theorem dX5_unlikeWays_5 : decode cX5_unlikeWays 5 = .ok (.iload 4, 2) := by decide +kernel
theorem dX5_unlikeWays_7 : decode cX5_unlikeWays 7 = .ok (.aload_n 0, 1) := by decide +kernel
theorem dX5_unlikeWays_8 : decode cX5_unlikeWays 8 = .ok (.getfield 19, 3) := by decide +kernel
theorem dX5_unlikeWays_11 : decode cX5_unlikeWays 11 = .ok (.arraylength, 1) := by decide +kernel
theorem dX5_unlikeWays_12 : decode cX5_unlikeWays 12 = .ok (.if_icmp .ge 40, 3) := by decide +kernel
theorem dX5_unlikeWays_15 : decode cX5_unlikeWays 15 = .ok (.aload_n 1, 1) := by decide +kernel
theorem dX5_unlikeWays_16 : decode cX5_unlikeWays 16 = .ok (.iload 4, 2) := by decide +kernel
theorem dX5_unlikeWays_18 : decode cX5_unlikeWays 18 = .ok (.bipush 8, 2) := by decide +kernel
theorem dX5_unlikeWays_20 : decode cX5_unlikeWays 20 = .ok (.idiv, 1) := by decide +kernel
theorem dX5_unlikeWays_21 : decode cX5_unlikeWays 21 = .ok (.invokevirtual 43, 3) := by decide +kernel
theorem dX5_unlikeWays_24 : decode cX5_unlikeWays 24 = .ok (.aload_n 2, 1) := by decide +kernel
theorem dX5_unlikeWays_25 : decode cX5_unlikeWays 25 = .ok (.iload 4, 2) := by decide +kernel
theorem dX5_unlikeWays_27 : decode cX5_unlikeWays 27 = .ok (.bipush 8, 2) := by decide +kernel
theorem dX5_unlikeWays_29 : decode cX5_unlikeWays 29 = .ok (.irem, 1) := by decide +kernel
theorem dX5_unlikeWays_30 : decode cX5_unlikeWays 30 = .ok (.invokevirtual 43, 3) := by decide +kernel
theorem dX5_unlikeWays_33 : decode cX5_unlikeWays 33 = .ok (.if_icmp .eq 13, 3) := by decide +kernel
theorem dX5_unlikeWays_36 : decode cX5_unlikeWays 36 = .ok (.iload_n 3, 1) := by decide +kernel
theorem dX5_unlikeWays_37 : decode cX5_unlikeWays 37 = .ok (.aload_n 0, 1) := by decide +kernel
theorem dX5_unlikeWays_38 : decode cX5_unlikeWays 38 = .ok (.getfield 19, 3) := by decide +kernel
theorem dX5_unlikeWays_41 : decode cX5_unlikeWays 41 = .ok (.iload 4, 2) := by decide +kernel
theorem dX5_unlikeWays_43 : decode cX5_unlikeWays 43 = .ok (.iaload, 1) := by decide +kernel
theorem dX5_unlikeWays_44 : decode cX5_unlikeWays 44 = .ok (.iadd, 1) := by decide +kernel
theorem dX5_unlikeWays_45 : decode cX5_unlikeWays 45 = .ok (.istore_n 3, 1) := by decide +kernel
theorem dX5_unlikeWays_46 : decode cX5_unlikeWays 46 = .ok (.iinc 4 1, 3) := by decide +kernel
theorem dX5_unlikeWays_49 : decode cX5_unlikeWays 49 = .ok (.goto (-44), 3) := by decide +kernel
theorem dX5_unlikeWays_52 : decode cX5_unlikeWays 52 = .ok (.iload_n 3, 1) := by decide +kernel
theorem dX5_unlikeWays_53 : decode cX5_unlikeWays 53 = .ok (.ireturn, 1) := by decide +kernel
theorem dX5_goOn_0 : decode cX5_goOn 0 = .ok (.aload_n 0, 1) := by decide +kernel
theorem dX5_goOn_1 : decode cX5_goOn 1 = .ok (.getfield 22, 3) := by decide +kernel
theorem dX5_goOn_4 : decode cX5_goOn 4 = .ok (.iconst 0, 1) := by decide +kernel
theorem dX5_goOn_5 : decode cX5_goOn 5 = .ok (.invokestatic 79, 3) := by decide +kernel
theorem dX5_goOn_8 : decode cX5_goOn 8 = .ok (.iconst 0, 1) := by decide +kernel
theorem dX5_goOn_9 : decode cX5_goOn 9 = .ok (.istore_n 3, 1) := by decide +kernel
theorem dX5_goOn_10 : decode cX5_goOn 10 = .ok (.iload_n 3, 1) := by decide +kernel
theorem dX5_goOn_11 : decode cX5_goOn 11 = .ok (.aload_n 0, 1) := by decide +kernel
theorem dX5_goOn_12 : decode cX5_goOn 12 = .ok (.getfield 19, 3) := by decide +kernel
theorem dX5_goOn_15 : decode cX5_goOn 15 = .ok (.arraylength, 1) := by decide +kernel
theorem dX5_goOn_16 : decode cX5_goOn 16 = .ok (.if_icmp .ge 92, 3) := by decide +kernel
theorem dX5_goOn_19 : decode cX5_goOn 19 = .ok (.iconst 0, 1) := by decide +kernel
theorem dX5_goOn_20 : decode cX5_goOn 20 = .ok (.istore 4, 2) := by decide +kernel
theorem dX5_goOn_22 : decode cX5_goOn 22 = .ok (.iload 4, 2) := by decide +kernel
theorem dX5_goOn_24 : decode cX5_goOn 24 = .ok (.aload_n 1, 1) := by decide +kernel
theorem dX5_goOn_25 : decode cX5_goOn 25 = .ok (.getfield 49, 3) := by decide +kernel
theorem dX5_goOn_28 : decode cX5_goOn 28 = .ok (.if_icmp .ge 74, 3) := by decide +kernel
theorem dX5_goOn_31 : decode cX5_goOn 31 = .ok (.aload_n 0, 1) := by decide +kernel
theorem dX5_goOn_32 : decode cX5_goOn 32 = .ok (.getfield 19, 3) := by decide +kernel
theorem dX5_goOn_35 : decode cX5_goOn 35 = .ok (.iload_n 3, 1) := by decide +kernel
theorem dX5_goOn_36 : decode cX5_goOn 36 = .ok (.iaload, 1) := by decide +kernel
theorem dX5_goOn_37 : decode cX5_goOn 37 = .ok (.ifCond .le 65, 3) := by decide +kernel
theorem dX5_goOn_40 : decode cX5_goOn 40 = .ok (.aload_n 1, 1) := by decide +kernel
theorem dX5_goOn_41 : decode cX5_goOn 41 = .ok (.iload_n 3, 1) := by decide +kernel
theorem dX5_goOn_42 : decode cX5_goOn 42 = .ok (.bipush 8, 2) := by decide +kernel
theorem dX5_goOn_44 : decode cX5_goOn 44 = .ok (.idiv, 1) := by decide +kernel
theorem dX5_goOn_45 : decode cX5_goOn 45 = .ok (.iload 4, 2) := by decide +kernel
theorem dX5_goOn_47 : decode cX5_goOn 47 = .ok (.invokevirtual 54, 3) := by decide +kernel
theorem dX5_goOn_50 : decode cX5_goOn 50 = .ok (.aload_n 2, 1) := by decide +kernel
theorem dX5_goOn_51 : decode cX5_goOn 51 = .ok (.iload_n 3, 1) := by decide +kernel
theorem dX5_goOn_52 : decode cX5_goOn 52 = .ok (.bipush 8, 2) := by decide +kernel
theorem dX5_goOn_54 : decode cX5_goOn 54 = .ok (.irem, 1) := by decide +kernel
theorem dX5_goOn_55 : decode cX5_goOn 55 = .ok (.iload 4, 2) := by decide +kernel
theorem dX5_goOn_57 : decode cX5_goOn 57 = .ok (.invokevirtual 54, 3) := by decide +kernel
theorem dX5_goOn_60 : decode cX5_goOn 60 = .ok (.invokestatic 68, 3) := by decide +kernel
theorem dX5_goOn_63 : decode cX5_goOn 63 = .ok (.istore 5, 2) := by decide +kernel
theorem dX5_goOn_65 : decode cX5_goOn 65 = .ok (.iload 5, 2) := by decide +kernel
theorem dX5_goOn_67 : decode cX5_goOn 67 = .ok (.ifCond .lt 29, 3) := by decide +kernel
theorem dX5_goOn_70 : decode cX5_goOn 70 = .ok (.iload 5, 2) := by decide +kernel
theorem dX5_goOn_72 : decode cX5_goOn 72 = .ok (.aload_n 0, 1) := by decide +kernel
theorem dX5_goOn_73 : decode cX5_goOn 73 = .ok (.getfield 22, 3) := by decide +kernel
theorem dX5_goOn_76 : decode cX5_goOn 76 = .ok (.arraylength, 1) := by decide +kernel
theorem dX5_goOn_77 : decode cX5_goOn 77 = .ok (.if_icmp .ge 19, 3) := by decide +kernel
theorem dX5_goOn_80 : decode cX5_goOn 80 = .ok (.aload_n 0, 1) := by decide +kernel
theorem dX5_goOn_81 : decode cX5_goOn 81 = .ok (.getfield 22, 3) := by decide +kernel
theorem dX5_goOn_84 : decode cX5_goOn 84 = .ok (.iload 5, 2) := by decide +kernel
theorem dX5_goOn_86 : decode cX5_goOn 86 = .ok (.dup2, 1) := by decide +kernel
theorem dX5_goOn_87 : decode cX5_goOn 87 = .ok (.iaload, 1) := by decide +kernel
theorem dX5_goOn_88 : decode cX5_goOn 88 = .ok (.aload_n 0, 1) := by decide +kernel
theorem dX5_goOn_89 : decode cX5_goOn 89 = .ok (.getfield 19, 3) := by decide +kernel
theorem dX5_goOn_92 : decode cX5_goOn 92 = .ok (.iload_n 3, 1) := by decide +kernel
theorem dX5_goOn_93 : decode cX5_goOn 93 = .ok (.iaload, 1) := by decide +kernel
theorem dX5_goOn_94 : decode cX5_goOn 94 = .ok (.iadd, 1) := by decide +kernel
theorem dX5_goOn_95 : decode cX5_goOn 95 = .ok (.iastore, 1) := by decide +kernel
theorem dX5_goOn_96 : decode cX5_goOn 96 = .ok (.iinc 4 1, 3) := by decide +kernel
theorem dX5_goOn_99 : decode cX5_goOn 99 = .ok (.goto (-77), 3) := by decide +kernel
theorem dX5_goOn_102 : decode cX5_goOn 102 = .ok (.iinc 3 1, 3) := by decide +kernel
theorem dX5_goOn_105 : decode cX5_goOn 105 = .ok (.goto (-95), 3) := by decide +kernel
theorem dX5_goOn_108 : decode cX5_goOn 108 = .ok (.aload_n 0, 1) := by decide +kernel
theorem dX5_goOn_109 : decode cX5_goOn 109 = .ok (.getfield 19, 3) := by decide +kernel
theorem dX5_goOn_112 : decode cX5_goOn 112 = .ok (.astore_n 3, 1) := by decide +kernel
theorem dX5_goOn_113 : decode cX5_goOn 113 = .ok (.aload_n 0, 1) := by decide +kernel
theorem dX5_goOn_114 : decode cX5_goOn 114 = .ok (.aload_n 0, 1) := by decide +kernel
theorem dX5_goOn_115 : decode cX5_goOn 115 = .ok (.getfield 22, 3) := by decide +kernel
theorem dX5_goOn_118 : decode cX5_goOn 118 = .ok (.putfield 19, 3) := by decide +kernel
theorem dX5_goOn_121 : decode cX5_goOn 121 = .ok (.aload_n 0, 1) := by decide +kernel
theorem dX5_goOn_122 : decode cX5_goOn 122 = .ok (.aload_n 3, 1) := by decide +kernel
theorem dX5_goOn_123 : decode cX5_goOn 123 = .ok (.putfield 22, 3) := by decide +kernel
theorem dX5_goOn_126 : decode cX5_goOn 126 = .ok (.return_, 1) := by decide +kernel
theorem dX6_init_0 : decode cX6_init 0 = .ok (.aload_n 0, 1) := by decide +kernel
theorem dX6_init_1 : decode cX6_init 1 = .ok (.aload_n 1, 1) := by decide +kernel
theorem dX6_init_2 : decode cX6_init 2 = .ok (.invokespecial 3, 3) := by decide +kernel
theorem dX6_init_5 : decode cX6_init 5 = .ok (.aload_n 0, 1) := by decide +kernel
theorem dX6_init_6 : decode cX6_init 6 = .ok (.bipush 8, 2) := by decide +kernel
theorem dX6_init_8 : decode cX6_init 8 = .ok (.newarray .int, 2) := by decide +kernel
theorem dX6_init_10 : decode cX6_init 10 = .ok (.putfield 9, 3) := by decide +kernel
theorem dX6_init_13 : decode cX6_init 13 = .ok (.aload_n 0, 1) := by decide +kernel
theorem dX6_init_14 : decode cX6_init 14 = .ok (.bipush 8, 2) := by decide +kernel
theorem dX6_init_16 : decode cX6_init 16 = .ok (.newarray .int, 2) := by decide +kernel
theorem dX6_init_18 : decode cX6_init 18 = .ok (.putfield 15, 3) := by decide +kernel
theorem dX6_init_21 : decode cX6_init 21 = .ok (.aload_n 0, 1) := by decide +kernel
theorem dX6_init_22 : decode cX6_init 22 = .ok (.bipush 8, 2) := by decide +kernel
theorem dX6_init_24 : decode cX6_init 24 = .ok (.newarray .int, 2) := by decide +kernel
theorem dX6_init_26 : decode cX6_init 26 = .ok (.putfield 18, 3) := by decide +kernel
theorem dX6_init_29 : decode cX6_init 29 = .ok (.aload_n 0, 1) := by decide +kernel
theorem dX6_init_30 : decode cX6_init 30 = .ok (.bipush 8, 2) := by decide +kernel
theorem dX6_init_32 : decode cX6_init 32 = .ok (.newarray .int, 2) := by decide +kernel
theorem dX6_init_34 : decode cX6_init 34 = .ok (.putfield 21, 3) := by decide +kernel
theorem dX6_init_37 : decode cX6_init 37 = .ok (.aload_n 0, 1) := by decide +kernel
theorem dX6_init_38 : decode cX6_init 38 = .ok (.sipush 128, 3) := by decide +kernel
theorem dX6_init_41 : decode cX6_init 41 = .ok (.newarray .int, 2) := by decide +kernel
theorem dX6_init_43 : decode cX6_init 43 = .ok (.putfield 24, 3) := by decide +kernel
theorem dX6_init_46 : decode cX6_init 46 = .ok (.return_, 1) := by decide +kernel
theorem dX6_begin_0 : decode cX6_begin 0 = .ok (.aload_n 0, 1) := by decide +kernel
theorem dX6_begin_1 : decode cX6_begin 1 = .ok (.iconst 0, 1) := by decide +kernel
theorem dX6_begin_2 : decode cX6_begin 2 = .ok (.putfield 27, 3) := by decide +kernel
theorem dX6_begin_5 : decode cX6_begin 5 = .ok (.aload_n 0, 1) := by decide +kernel
theorem dX6_begin_6 : decode cX6_begin 6 = .ok (.iconst 0, 1) := by decide +kernel
theorem dX6_begin_7 : decode cX6_begin 7 = .ok (.putfield 31, 3) := by decide +kernel
theorem dX6_begin_10 : decode cX6_begin 10 = .ok (.return_, 1) := by decide +kernel
theorem dX6_advance_0 : decode cX6_advance 0 = .ok (.aload_n 0, 1) := by decide +kernel
theorem dX6_advance_1 : decode cX6_advance 1 = .ok (.invokevirtual 34, 3) := by decide +kernel
theorem dX6_advance_4 : decode cX6_advance 4 = .ok (.aload_n 0, 1) := by decide +kernel
theorem dX6_advance_5 : decode cX6_advance 5 = .ok (.invokevirtual 38, 3) := by decide +kernel
theorem dX6_advance_8 : decode cX6_advance 8 = .ok (.aload_n 0, 1) := by decide +kernel
theorem dX6_advance_9 : decode cX6_advance 9 = .ok (.invokevirtual 41, 3) := by decide +kernel
theorem dX6_advance_12 : decode cX6_advance 12 = .ok (.ifCond .eq 5, 3) := by decide +kernel
theorem dX6_advance_15 : decode cX6_advance 15 = .ok (.iconst 1, 1) := by decide +kernel
theorem dX6_advance_16 : decode cX6_advance 16 = .ok (.ireturn, 1) := by decide +kernel
theorem dX6_advance_17 : decode cX6_advance 17 = .ok (.aload_n 0, 1) := by decide +kernel
theorem dX6_advance_18 : decode cX6_advance 18 = .ok (.getfield 45, 3) := by decide +kernel
theorem dX6_advance_21 : decode cX6_advance 21 = .ok (.ifCond .ne 12, 3) := by decide +kernel
theorem dX6_advance_24 : decode cX6_advance 24 = .ok (.aload_n 0, 1) := by decide +kernel
theorem dX6_advance_25 : decode cX6_advance 25 = .ok (.invokevirtual 48, 3) := by decide +kernel
theorem dX6_advance_28 : decode cX6_advance 28 = .ok (.ifCond .eq 5, 3) := by decide +kernel
theorem dX6_advance_31 : decode cX6_advance 31 = .ok (.iconst 2, 1) := by decide +kernel
theorem dX6_advance_32 : decode cX6_advance 32 = .ok (.ireturn, 1) := by decide +kernel
theorem dX6_advance_33 : decode cX6_advance 33 = .ok (.aload_n 0, 1) := by decide +kernel
theorem dX6_advance_34 : decode cX6_advance 34 = .ok (.invokevirtual 51, 3) := by decide +kernel
theorem dX6_advance_37 : decode cX6_advance 37 = .ok (.aload_n 0, 1) := by decide +kernel
theorem dX6_advance_38 : decode cX6_advance 38 = .ok (.invokevirtual 54, 3) := by decide +kernel
theorem dX6_advance_41 : decode cX6_advance 41 = .ok (.iconst 0, 1) := by decide +kernel
theorem dX6_advance_42 : decode cX6_advance 42 = .ok (.ireturn, 1) := by decide +kernel
theorem dX6_lesson_0 : decode cX6_lesson 0 = .ok (.aload_n 0, 1) := by decide +kernel
theorem dX6_lesson_1 : decode cX6_lesson 1 = .ok (.getfield 57, 3) := by decide +kernel
theorem dX6_lesson_4 : decode cX6_lesson 4 = .ok (.getfield 61, 3) := by decide +kernel
theorem dX6_lesson_7 : decode cX6_lesson 7 = .ok (.aload_n 0, 1) := by decide +kernel
theorem dX6_lesson_8 : decode cX6_lesson 8 = .ok (.getfield 66, 3) := by decide +kernel
theorem dX6_lesson_11 : decode cX6_lesson 11 = .ok (.getfield 61, 3) := by decide +kernel
theorem dX6_lesson_14 : decode cX6_lesson 14 = .ok (.iadd, 1) := by decide +kernel
theorem dX6_lesson_15 : decode cX6_lesson 15 = .ok (.istore_n 3, 1) := by decide +kernel
theorem dX6_lesson_16 : decode cX6_lesson 16 = .ok (.aload_n 0, 1) := by decide +kernel
theorem dX6_lesson_17 : decode cX6_lesson 17 = .ok (.getfield 69, 3) := by decide +kernel
theorem dX6_lesson_20 : decode cX6_lesson 20 = .ok (.lload_n 1, 1) := by decide +kernel
theorem dX6_lesson_21 : decode cX6_lesson 21 = .ok (.invokevirtual 73, 3) := by decide +kernel
theorem dX6_lesson_24 : decode cX6_lesson 24 = .ok (.istore 4, 2) := by decide +kernel
theorem dX6_lesson_26 : decode cX6_lesson 26 = .ok (.aload_n 0, 1) := by decide +kernel
theorem dX6_lesson_27 : decode cX6_lesson 27 = .ok (.dup, 1) := by decide +kernel
theorem dX6_lesson_28 : decode cX6_lesson 28 = .ok (.getfield 79, 3) := by decide +kernel
theorem dX6_lesson_31 : decode cX6_lesson 31 = .ok (.iconst 1, 1) := by decide +kernel
theorem dX6_lesson_32 : decode cX6_lesson 32 = .ok (.iadd, 1) := by decide +kernel
theorem dX6_lesson_33 : decode cX6_lesson 33 = .ok (.putfield 79, 3) := by decide +kernel
theorem dX6_lesson_36 : decode cX6_lesson 36 = .ok (.aload_n 0, 1) := by decide +kernel
theorem dX6_lesson_37 : decode cX6_lesson 37 = .ok (.getfield 45, 3) := by decide +kernel
theorem dX6_lesson_40 : decode cX6_lesson 40 = .ok (.ifCond .ne 11, 3) := by decide +kernel
theorem dX6_lesson_43 : decode cX6_lesson 43 = .ok (.aload_n 0, 1) := by decide +kernel
theorem dX6_lesson_44 : decode cX6_lesson 44 = .ok (.lload_n 1, 1) := by decide +kernel
theorem dX6_lesson_45 : decode cX6_lesson 45 = .ok (.invokevirtual 82, 3) := by decide +kernel
theorem dX6_lesson_48 : decode cX6_lesson 48 = .ok (.goto 37, 3) := by decide +kernel
theorem dX6_lesson_51 : decode cX6_lesson 51 = .ok (.aload_n 0, 1) := by decide +kernel
theorem dX6_lesson_52 : decode cX6_lesson 52 = .ok (.getfield 45, 3) := by decide +kernel
theorem dX6_lesson_55 : decode cX6_lesson 55 = .ok (.iconst 1, 1) := by decide +kernel
theorem dX6_lesson_56 : decode cX6_lesson 56 = .ok (.if_icmp .ne 11, 3) := by decide +kernel
theorem dX6_lesson_59 : decode cX6_lesson 59 = .ok (.aload_n 0, 1) := by decide +kernel
theorem dX6_lesson_60 : decode cX6_lesson 60 = .ok (.lload_n 1, 1) := by decide +kernel
theorem dX6_lesson_61 : decode cX6_lesson 61 = .ok (.invokevirtual 86, 3) := by decide +kernel
theorem dX6_lesson_64 : decode cX6_lesson 64 = .ok (.goto 21, 3) := by decide +kernel
theorem dX6_lesson_67 : decode cX6_lesson 67 = .ok (.aload_n 0, 1) := by decide +kernel
theorem dX6_lesson_68 : decode cX6_lesson 68 = .ok (.getfield 66, 3) := by decide +kernel
theorem dX6_lesson_71 : decode cX6_lesson 71 = .ok (.lload_n 1, 1) := by decide +kernel
theorem dX6_lesson_72 : decode cX6_lesson 72 = .ok (.aload_n 0, 1) := by decide +kernel
theorem dX6_lesson_73 : decode cX6_lesson 73 = .ok (.lload_n 1, 1) := by decide +kernel
theorem dX6_lesson_74 : decode cX6_lesson 74 = .ok (.iload 4, 2) := by decide +kernel
theorem dX6_lesson_76 : decode cX6_lesson 76 = .ok (.invokevirtual 89, 3) := by decide +kernel
theorem dX6_lesson_79 : decode cX6_lesson 79 = .ok (.invokestatic 93, 3) := by decide +kernel
theorem dX6_lesson_82 : decode cX6_lesson 82 = .ok (.invokevirtual 99, 3) := by decide +kernel
theorem dX6_lesson_85 : decode cX6_lesson 85 = .ok (.aload_n 0, 1) := by decide +kernel
theorem dX6_lesson_86 : decode cX6_lesson 86 = .ok (.invokevirtual 102, 3) := by decide +kernel
theorem dX6_lesson_89 : decode cX6_lesson 89 = .ok (.aload_n 0, 1) := by decide +kernel
theorem dX6_lesson_90 : decode cX6_lesson 90 = .ok (.getfield 57, 3) := by decide +kernel
theorem dX6_lesson_93 : decode cX6_lesson 93 = .ok (.getfield 61, 3) := by decide +kernel
theorem dX6_lesson_96 : decode cX6_lesson 96 = .ok (.aload_n 0, 1) := by decide +kernel
theorem dX6_lesson_97 : decode cX6_lesson 97 = .ok (.getfield 66, 3) := by decide +kernel
theorem dX6_lesson_100 : decode cX6_lesson 100 = .ok (.getfield 61, 3) := by decide +kernel
theorem dX6_lesson_103 : decode cX6_lesson 103 = .ok (.iadd, 1) := by decide +kernel
theorem dX6_lesson_104 : decode cX6_lesson 104 = .ok (.iload_n 3, 1) := by decide +kernel
theorem dX6_lesson_105 : decode cX6_lesson 105 = .ok (.isub, 1) := by decide +kernel
theorem dX6_lesson_106 : decode cX6_lesson 106 = .ok (.ireturn, 1) := by decide +kernel
theorem dX6_noteBeginnings_0 : decode cX6_noteBeginnings 0 = .ok (.lload_n 1, 1) := by decide +kernel
theorem dX6_noteBeginnings_1 : decode cX6_noteBeginnings 1 = .ok (.invokestatic 105, 3) := by decide +kernel
theorem dX6_noteBeginnings_4 : decode cX6_noteBeginnings 4 = .ok (.istore_n 3, 1) := by decide +kernel
theorem dX6_noteBeginnings_5 : decode cX6_noteBeginnings 5 = .ok (.iconst 0, 1) := by decide +kernel
theorem dX6_noteBeginnings_6 : decode cX6_noteBeginnings 6 = .ok (.istore 4, 2) := by decide +kernel
theorem dX6_noteBeginnings_8 : decode cX6_noteBeginnings 8 = .ok (.iload 4, 2) := by decide +kernel
theorem dX6_noteBeginnings_10 : decode cX6_noteBeginnings 10 = .ok (.iload_n 3, 1) := by decide +kernel
theorem dX6_noteBeginnings_11 : decode cX6_noteBeginnings 11 = .ok (.if_icmp .gt 38, 3) := by decide +kernel
theorem dX6_noteBeginnings_14 : decode cX6_noteBeginnings 14 = .ok (.lload_n 1, 1) := by decide +kernel
theorem dX6_noteBeginnings_15 : decode cX6_noteBeginnings 15 = .ok (.iload 4, 2) := by decide +kernel
theorem dX6_noteBeginnings_17 : decode cX6_noteBeginnings 17 = .ok (.invokestatic 108, 3) := by decide +kernel
theorem dX6_noteBeginnings_20 : decode cX6_noteBeginnings 20 = .ok (.lstore 5, 2) := by decide +kernel
theorem dX6_noteBeginnings_22 : decode cX6_noteBeginnings 22 = .ok (.aload_n 0, 1) := by decide +kernel
theorem dX6_noteBeginnings_23 : decode cX6_noteBeginnings 23 = .ok (.getfield 57, 3) := by decide +kernel
theorem dX6_noteBeginnings_26 : decode cX6_noteBeginnings 26 = .ok (.lload 5, 2) := by decide +kernel
theorem dX6_noteBeginnings_28 : decode cX6_noteBeginnings 28 = .ok (.invokevirtual 111, 3) := by decide +kernel
theorem dX6_noteBeginnings_31 : decode cX6_noteBeginnings 31 = .ok (.ifCond .ne 12, 3) := by decide +kernel
theorem dX6_noteBeginnings_34 : decode cX6_noteBeginnings 34 = .ok (.aload_n 0, 1) := by decide +kernel
theorem dX6_noteBeginnings_35 : decode cX6_noteBeginnings 35 = .ok (.getfield 57, 3) := by decide +kernel
theorem dX6_noteBeginnings_38 : decode cX6_noteBeginnings 38 = .ok (.lload 5, 2) := by decide +kernel
theorem dX6_noteBeginnings_40 : decode cX6_noteBeginnings 40 = .ok (.invokevirtual 99, 3) := by decide +kernel
theorem dX6_noteBeginnings_43 : decode cX6_noteBeginnings 43 = .ok (.iinc 4 1, 3) := by decide +kernel
theorem dX6_noteBeginnings_46 : decode cX6_noteBeginnings 46 = .ok (.goto (-38), 3) := by decide +kernel
theorem dX6_noteBeginnings_49 : decode cX6_noteBeginnings 49 = .ok (.return_, 1) := by decide +kernel
theorem dX6_noteEnds_0 : decode cX6_noteEnds 0 = .ok (.lload_n 1, 1) := by decide +kernel
theorem dX6_noteEnds_1 : decode cX6_noteEnds 1 = .ok (.invokestatic 105, 3) := by decide +kernel
theorem dX6_noteEnds_4 : decode cX6_noteEnds 4 = .ok (.istore_n 3, 1) := by decide +kernel
theorem dX6_noteEnds_5 : decode cX6_noteEnds 5 = .ok (.iload_n 3, 1) := by decide +kernel
theorem dX6_noteEnds_6 : decode cX6_noteEnds 6 = .ok (.ifCond .lt 37, 3) := by decide +kernel
theorem dX6_noteEnds_9 : decode cX6_noteEnds 9 = .ok (.lload_n 1, 1) := by decide +kernel
theorem dX6_noteEnds_10 : decode cX6_noteEnds 10 = .ok (.iload_n 3, 1) := by decide +kernel
theorem dX6_noteEnds_11 : decode cX6_noteEnds 11 = .ok (.invokestatic 93, 3) := by decide +kernel
theorem dX6_noteEnds_14 : decode cX6_noteEnds 14 = .ok (.lstore 4, 2) := by decide +kernel
theorem dX6_noteEnds_16 : decode cX6_noteEnds 16 = .ok (.aload_n 0, 1) := by decide +kernel
theorem dX6_noteEnds_17 : decode cX6_noteEnds 17 = .ok (.getfield 66, 3) := by decide +kernel
theorem dX6_noteEnds_20 : decode cX6_noteEnds 20 = .ok (.lload 4, 2) := by decide +kernel
theorem dX6_noteEnds_22 : decode cX6_noteEnds 22 = .ok (.invokevirtual 111, 3) := by decide +kernel
theorem dX6_noteEnds_25 : decode cX6_noteEnds 25 = .ok (.ifCond .ne 12, 3) := by decide +kernel
theorem dX6_noteEnds_28 : decode cX6_noteEnds 28 = .ok (.aload_n 0, 1) := by decide +kernel
theorem dX6_noteEnds_29 : decode cX6_noteEnds 29 = .ok (.getfield 66, 3) := by decide +kernel
theorem dX6_noteEnds_32 : decode cX6_noteEnds 32 = .ok (.lload 4, 2) := by decide +kernel
theorem dX6_noteEnds_34 : decode cX6_noteEnds 34 = .ok (.invokevirtual 99, 3) := by decide +kernel
theorem dX6_noteEnds_37 : decode cX6_noteEnds 37 = .ok (.iinc 3 (-1), 3) := by decide +kernel
theorem dX6_noteEnds_40 : decode cX6_noteEnds 40 = .ok (.goto (-35), 3) := by decide +kernel
theorem dX6_noteEnds_43 : decode cX6_noteEnds 43 = .ok (.return_, 1) := by decide +kernel
theorem dX6_askAll_0 : decode cX6_askAll 0 = .ok (.iconst 0, 1) := by decide +kernel
theorem dX6_askAll_1 : decode cX6_askAll 1 = .ok (.istore_n 1, 1) := by decide +kernel
theorem dX6_askAll_2 : decode cX6_askAll 2 = .ok (.iload_n 1, 1) := by decide +kernel
theorem dX6_askAll_3 : decode cX6_askAll 3 = .ok (.aload_n 0, 1) := by decide +kernel
theorem dX6_askAll_4 : decode cX6_askAll 4 = .ok (.getfield 57, 3) := by decide +kernel
theorem dX6_askAll_7 : decode cX6_askAll 7 = .ok (.getfield 61, 3) := by decide +kernel
theorem dX6_askAll_10 : decode cX6_askAll 10 = .ok (.if_icmp .ge 84, 3) := by decide +kernel
theorem dX6_askAll_13 : decode cX6_askAll 13 = .ok (.iconst (-1), 1) := by decide +kernel
theorem dX6_askAll_14 : decode cX6_askAll 14 = .ok (.istore_n 2, 1) := by decide +kernel
theorem dX6_askAll_15 : decode cX6_askAll 15 = .ok (.iload_n 2, 1) := by decide +kernel
theorem dX6_askAll_16 : decode cX6_askAll 16 = .ok (.aload_n 0, 1) := by decide +kernel
theorem dX6_askAll_17 : decode cX6_askAll 17 = .ok (.getfield 69, 3) := by decide +kernel
theorem dX6_askAll_20 : decode cX6_askAll 20 = .ok (.getfield 115, 3) := by decide +kernel
theorem dX6_askAll_23 : decode cX6_askAll 23 = .ok (.getfield 119, 3) := by decide +kernel
theorem dX6_askAll_26 : decode cX6_askAll 26 = .ok (.if_icmp .ge 62, 3) := by decide +kernel
theorem dX6_askAll_29 : decode cX6_askAll 29 = .ok (.aload_n 0, 1) := by decide +kernel
theorem dX6_askAll_30 : decode cX6_askAll 30 = .ok (.iload_n 1, 1) := by decide +kernel
theorem dX6_askAll_31 : decode cX6_askAll 31 = .ok (.iload_n 2, 1) := by decide +kernel
theorem dX6_askAll_32 : decode cX6_askAll 32 = .ok (.invokevirtual 124, 3) := by decide +kernel
theorem dX6_askAll_35 : decode cX6_askAll 35 = .ok (.lstore_n 3, 1) := by decide +kernel
theorem dX6_askAll_36 : decode cX6_askAll 36 = .ok (.aload_n 0, 1) := by decide +kernel
theorem dX6_askAll_37 : decode cX6_askAll 37 = .ok (.iload_n 1, 1) := by decide +kernel
theorem dX6_askAll_38 : decode cX6_askAll 38 = .ok (.invokevirtual 128, 3) := by decide +kernel
theorem dX6_askAll_41 : decode cX6_askAll 41 = .ok (.istore 5, 2) := by decide +kernel
theorem dX6_askAll_43 : decode cX6_askAll 43 = .ok (.iload 5, 2) := by decide +kernel
theorem dX6_askAll_45 : decode cX6_askAll 45 = .ok (.aload_n 0, 1) := by decide +kernel
theorem dX6_askAll_46 : decode cX6_askAll 46 = .ok (.getfield 66, 3) := by decide +kernel
theorem dX6_askAll_49 : decode cX6_askAll 49 = .ok (.getfield 61, 3) := by decide +kernel
theorem dX6_askAll_52 : decode cX6_askAll 52 = .ok (.if_icmp .ge 30, 3) := by decide +kernel
theorem dX6_askAll_55 : decode cX6_askAll 55 = .ok (.aload_n 0, 1) := by decide +kernel
theorem dX6_askAll_56 : decode cX6_askAll 56 = .ok (.getfield 69, 3) := by decide +kernel
theorem dX6_askAll_59 : decode cX6_askAll 59 = .ok (.lload_n 3, 1) := by decide +kernel
theorem dX6_askAll_60 : decode cX6_askAll 60 = .ok (.aload_n 0, 1) := by decide +kernel
theorem dX6_askAll_61 : decode cX6_askAll 61 = .ok (.getfield 66, 3) := by decide +kernel
theorem dX6_askAll_64 : decode cX6_askAll 64 = .ok (.iload 5, 2) := by decide +kernel
theorem dX6_askAll_66 : decode cX6_askAll 66 = .ok (.invokevirtual 132, 3) := by decide +kernel
theorem dX6_askAll_69 : decode cX6_askAll 69 = .ok (.invokestatic 136, 3) := by decide +kernel
theorem dX6_askAll_72 : decode cX6_askAll 72 = .ok (.invokevirtual 73, 3) := by decide +kernel
theorem dX6_askAll_75 : decode cX6_askAll 75 = .ok (.pop, 1) := by decide +kernel
theorem dX6_askAll_76 : decode cX6_askAll 76 = .ok (.iinc 5 1, 3) := by decide +kernel
theorem dX6_askAll_79 : decode cX6_askAll 79 = .ok (.goto (-36), 3) := by decide +kernel
theorem dX6_askAll_82 : decode cX6_askAll 82 = .ok (.iinc 2 1, 3) := by decide +kernel
theorem dX6_askAll_85 : decode cX6_askAll 85 = .ok (.goto (-70), 3) := by decide +kernel
theorem dX6_askAll_88 : decode cX6_askAll 88 = .ok (.iinc 1 1, 3) := by decide +kernel
theorem dX6_askAll_91 : decode cX6_askAll 91 = .ok (.goto (-89), 3) := by decide +kernel
theorem dX6_askAll_94 : decode cX6_askAll 94 = .ok (.aload_n 0, 1) := by decide +kernel
theorem dX6_askAll_95 : decode cX6_askAll 95 = .ok (.aload_n 0, 1) := by decide +kernel
theorem dX6_askAll_96 : decode cX6_askAll 96 = .ok (.getfield 57, 3) := by decide +kernel
theorem dX6_askAll_99 : decode cX6_askAll 99 = .ok (.getfield 61, 3) := by decide +kernel
theorem dX6_askAll_102 : decode cX6_askAll 102 = .ok (.putfield 27, 3) := by decide +kernel
theorem dX6_askAll_105 : decode cX6_askAll 105 = .ok (.aload_n 0, 1) := by decide +kernel
theorem dX6_askAll_106 : decode cX6_askAll 106 = .ok (.aload_n 0, 1) := by decide +kernel
theorem dX6_askAll_107 : decode cX6_askAll 107 = .ok (.getfield 66, 3) := by decide +kernel
theorem dX6_askAll_110 : decode cX6_askAll 110 = .ok (.getfield 61, 3) := by decide +kernel
theorem dX6_askAll_113 : decode cX6_askAll 113 = .ok (.putfield 31, 3) := by decide +kernel
theorem dX6_askAll_116 : decode cX6_askAll 116 = .ok (.return_, 1) := by decide +kernel
theorem dX6_isFull_0 : decode cX6_isFull 0 = .ok (.iconst 0, 1) := by decide +kernel
theorem dX6_isFull_1 : decode cX6_isFull 1 = .ok (.istore_n 1, 1) := by decide +kernel
theorem dX6_isFull_2 : decode cX6_isFull 2 = .ok (.iload_n 1, 1) := by decide +kernel
theorem dX6_isFull_3 : decode cX6_isFull 3 = .ok (.aload_n 0, 1) := by decide +kernel
theorem dX6_isFull_4 : decode cX6_isFull 4 = .ok (.getfield 57, 3) := by decide +kernel
theorem dX6_isFull_7 : decode cX6_isFull 7 = .ok (.getfield 61, 3) := by decide +kernel
theorem dX6_isFull_10 : decode cX6_isFull 10 = .ok (.if_icmp .ge 51, 3) := by decide +kernel
theorem dX6_isFull_13 : decode cX6_isFull 13 = .ok (.iconst (-1), 1) := by decide +kernel
theorem dX6_isFull_14 : decode cX6_isFull 14 = .ok (.istore_n 2, 1) := by decide +kernel
theorem dX6_isFull_15 : decode cX6_isFull 15 = .ok (.iload_n 2, 1) := by decide +kernel
theorem dX6_isFull_16 : decode cX6_isFull 16 = .ok (.aload_n 0, 1) := by decide +kernel
theorem dX6_isFull_17 : decode cX6_isFull 17 = .ok (.getfield 69, 3) := by decide +kernel
theorem dX6_isFull_20 : decode cX6_isFull 20 = .ok (.getfield 115, 3) := by decide +kernel
theorem dX6_isFull_23 : decode cX6_isFull 23 = .ok (.getfield 119, 3) := by decide +kernel
theorem dX6_isFull_26 : decode cX6_isFull 26 = .ok (.if_icmp .ge 29, 3) := by decide +kernel
theorem dX6_isFull_29 : decode cX6_isFull 29 = .ok (.aload_n 0, 1) := by decide +kernel
theorem dX6_isFull_30 : decode cX6_isFull 30 = .ok (.aload_n 0, 1) := by decide +kernel
theorem dX6_isFull_31 : decode cX6_isFull 31 = .ok (.iload_n 1, 1) := by decide +kernel
theorem dX6_isFull_32 : decode cX6_isFull 32 = .ok (.iload_n 2, 1) := by decide +kernel
theorem dX6_isFull_33 : decode cX6_isFull 33 = .ok (.invokevirtual 124, 3) := by decide +kernel
theorem dX6_isFull_36 : decode cX6_isFull 36 = .ok (.aload_n 0, 1) := by decide +kernel
theorem dX6_isFull_37 : decode cX6_isFull 37 = .ok (.iload_n 1, 1) := by decide +kernel
theorem dX6_isFull_38 : decode cX6_isFull 38 = .ok (.invokevirtual 128, 3) := by decide +kernel
theorem dX6_isFull_41 : decode cX6_isFull 41 = .ok (.invokevirtual 140, 3) := by decide +kernel
theorem dX6_isFull_44 : decode cX6_isFull 44 = .ok (.ifCond .ne 5, 3) := by decide +kernel
theorem dX6_isFull_47 : decode cX6_isFull 47 = .ok (.iconst 0, 1) := by decide +kernel
theorem dX6_isFull_48 : decode cX6_isFull 48 = .ok (.ireturn, 1) := by decide +kernel
theorem dX6_isFull_49 : decode cX6_isFull 49 = .ok (.iinc 2 1, 3) := by decide +kernel
theorem dX6_isFull_52 : decode cX6_isFull 52 = .ok (.goto (-37), 3) := by decide +kernel
theorem dX6_isFull_55 : decode cX6_isFull 55 = .ok (.iinc 1 1, 3) := by decide +kernel
theorem dX6_isFull_58 : decode cX6_isFull 58 = .ok (.goto (-56), 3) := by decide +kernel
theorem dX6_isFull_61 : decode cX6_isFull 61 = .ok (.iconst 1, 1) := by decide +kernel
theorem dX6_isFull_62 : decode cX6_isFull 62 = .ok (.ireturn, 1) := by decide +kernel
theorem dX6_isAsked_0 : decode cX6_isAsked 0 = .ok (.iload_n 3, 1) := by decide +kernel
theorem dX6_isAsked_1 : decode cX6_isAsked 1 = .ok (.istore 4, 2) := by decide +kernel
theorem dX6_isAsked_3 : decode cX6_isAsked 3 = .ok (.iload 4, 2) := by decide +kernel
theorem dX6_isAsked_5 : decode cX6_isAsked 5 = .ok (.aload_n 0, 1) := by decide +kernel
theorem dX6_isAsked_6 : decode cX6_isAsked 6 = .ok (.getfield 66, 3) := by decide +kernel
theorem dX6_isAsked_9 : decode cX6_isAsked 9 = .ok (.getfield 61, 3) := by decide +kernel
theorem dX6_isAsked_12 : decode cX6_isAsked 12 = .ok (.if_icmp .ge 37, 3) := by decide +kernel
theorem dX6_isAsked_15 : decode cX6_isAsked 15 = .ok (.aload_n 0, 1) := by decide +kernel
theorem dX6_isAsked_16 : decode cX6_isAsked 16 = .ok (.getfield 69, 3) := by decide +kernel
theorem dX6_isAsked_19 : decode cX6_isAsked 19 = .ok (.getfield 144, 3) := by decide +kernel
theorem dX6_isAsked_22 : decode cX6_isAsked 22 = .ok (.lload_n 1, 1) := by decide +kernel
theorem dX6_isAsked_23 : decode cX6_isAsked 23 = .ok (.aload_n 0, 1) := by decide +kernel
theorem dX6_isAsked_24 : decode cX6_isAsked 24 = .ok (.getfield 66, 3) := by decide +kernel
theorem dX6_isAsked_27 : decode cX6_isAsked 27 = .ok (.iload 4, 2) := by decide +kernel
theorem dX6_isAsked_29 : decode cX6_isAsked 29 = .ok (.invokevirtual 132, 3) := by decide +kernel
theorem dX6_isAsked_32 : decode cX6_isAsked 32 = .ok (.invokestatic 136, 3) := by decide +kernel
theorem dX6_isAsked_35 : decode cX6_isAsked 35 = .ok (.invokevirtual 148, 3) := by decide +kernel
theorem dX6_isAsked_38 : decode cX6_isAsked 38 = .ok (.ifCond .ne 5, 3) := by decide +kernel
theorem dX6_isAsked_41 : decode cX6_isAsked 41 = .ok (.iconst 0, 1) := by decide +kernel
theorem dX6_isAsked_42 : decode cX6_isAsked 42 = .ok (.ireturn, 1) := by decide +kernel
theorem dX6_isAsked_43 : decode cX6_isAsked 43 = .ok (.iinc 4 1, 3) := by decide +kernel
theorem dX6_isAsked_46 : decode cX6_isAsked 46 = .ok (.goto (-43), 3) := by decide +kernel
theorem dX6_isAsked_49 : decode cX6_isAsked 49 = .ok (.iconst 1, 1) := by decide +kernel
theorem dX6_isAsked_50 : decode cX6_isAsked 50 = .ok (.ireturn, 1) := by decide +kernel
theorem dX6_rowWord_0 : decode cX6_rowWord 0 = .ok (.iload_n 2, 1) := by decide +kernel
theorem dX6_rowWord_1 : decode cX6_rowWord 1 = .ok (.iconst (-1), 1) := by decide +kernel
theorem dX6_rowWord_2 : decode cX6_rowWord 2 = .ok (.if_icmp .ne 14, 3) := by decide +kernel
theorem dX6_rowWord_5 : decode cX6_rowWord 5 = .ok (.aload_n 0, 1) := by decide +kernel
theorem dX6_rowWord_6 : decode cX6_rowWord 6 = .ok (.getfield 57, 3) := by decide +kernel
theorem dX6_rowWord_9 : decode cX6_rowWord 9 = .ok (.iload_n 1, 1) := by decide +kernel
theorem dX6_rowWord_10 : decode cX6_rowWord 10 = .ok (.invokevirtual 132, 3) := by decide +kernel
theorem dX6_rowWord_13 : decode cX6_rowWord 13 = .ok (.goto 15, 3) := by decide +kernel
theorem dX6_rowWord_16 : decode cX6_rowWord 16 = .ok (.aload_n 0, 1) := by decide +kernel
theorem dX6_rowWord_17 : decode cX6_rowWord 17 = .ok (.getfield 57, 3) := by decide +kernel
theorem dX6_rowWord_20 : decode cX6_rowWord 20 = .ok (.iload_n 1, 1) := by decide +kernel
theorem dX6_rowWord_21 : decode cX6_rowWord 21 = .ok (.invokevirtual 132, 3) := by decide +kernel
theorem dX6_rowWord_24 : decode cX6_rowWord 24 = .ok (.iload_n 2, 1) := by decide +kernel
theorem dX6_rowWord_25 : decode cX6_rowWord 25 = .ok (.invokestatic 151, 3) := by decide +kernel
theorem dX6_rowWord_28 : decode cX6_rowWord 28 = .ok (.lreturn, 1) := by decide +kernel
theorem dX6_firstUnfilled_0 : decode cX6_firstUnfilled 0 = .ok (.iload_n 1, 1) := by decide +kernel
theorem dX6_firstUnfilled_1 : decode cX6_firstUnfilled 1 = .ok (.aload_n 0, 1) := by decide +kernel
theorem dX6_firstUnfilled_2 : decode cX6_firstUnfilled 2 = .ok (.getfield 27, 3) := by decide +kernel
theorem dX6_firstUnfilled_5 : decode cX6_firstUnfilled 5 = .ok (.if_icmp .ge 10, 3) := by decide +kernel
theorem dX6_firstUnfilled_8 : decode cX6_firstUnfilled 8 = .ok (.aload_n 0, 1) := by decide +kernel
theorem dX6_firstUnfilled_9 : decode cX6_firstUnfilled 9 = .ok (.getfield 31, 3) := by decide +kernel
theorem dX6_firstUnfilled_12 : decode cX6_firstUnfilled 12 = .ok (.goto 4, 3) := by decide +kernel
theorem dX6_firstUnfilled_15 : decode cX6_firstUnfilled 15 = .ok (.iconst 0, 1) := by decide +kernel
theorem dX6_firstUnfilled_16 : decode cX6_firstUnfilled 16 = .ok (.ireturn, 1) := by decide +kernel
theorem dX6_findLines_0 : decode cX6_findLines 0 = .ok (.aload_n 0, 1) := by decide +kernel
theorem dX6_findLines_1 : decode cX6_findLines 1 = .ok (.getfield 9, 3) := by decide +kernel
theorem dX6_findLines_4 : decode cX6_findLines 4 = .ok (.iconst 0, 1) := by decide +kernel
theorem dX6_findLines_5 : decode cX6_findLines 5 = .ok (.invokestatic 154, 3) := by decide +kernel
theorem dX6_findLines_8 : decode cX6_findLines 8 = .ok (.iconst 0, 1) := by decide +kernel
theorem dX6_findLines_9 : decode cX6_findLines 9 = .ok (.istore_n 1, 1) := by decide +kernel
theorem dX6_findLines_10 : decode cX6_findLines 10 = .ok (.iload_n 1, 1) := by decide +kernel
theorem dX6_findLines_11 : decode cX6_findLines 11 = .ok (.aload_n 0, 1) := by decide +kernel
theorem dX6_findLines_12 : decode cX6_findLines 12 = .ok (.getfield 66, 3) := by decide +kernel
theorem dX6_findLines_15 : decode cX6_findLines 15 = .ok (.getfield 61, 3) := by decide +kernel
theorem dX6_findLines_18 : decode cX6_findLines 18 = .ok (.if_icmp .ge 21, 3) := by decide +kernel
theorem dX6_findLines_21 : decode cX6_findLines 21 = .ok (.aload_n 0, 1) := by decide +kernel
theorem dX6_findLines_22 : decode cX6_findLines 22 = .ok (.aload_n 0, 1) := by decide +kernel
theorem dX6_findLines_23 : decode cX6_findLines 23 = .ok (.getfield 66, 3) := by decide +kernel
theorem dX6_findLines_26 : decode cX6_findLines 26 = .ok (.iload_n 1, 1) := by decide +kernel
theorem dX6_findLines_27 : decode cX6_findLines 27 = .ok (.invokevirtual 132, 3) := by decide +kernel
theorem dX6_findLines_30 : decode cX6_findLines 30 = .ok (.invokevirtual 160, 3) := by decide +kernel
theorem dX6_findLines_33 : decode cX6_findLines 33 = .ok (.iinc 1 1, 3) := by decide +kernel
theorem dX6_findLines_36 : decode cX6_findLines 36 = .ok (.goto (-26), 3) := by decide +kernel
theorem dX6_findLines_39 : decode cX6_findLines 39 = .ok (.aload_n 0, 1) := by decide +kernel
theorem dX6_findLines_40 : decode cX6_findLines 40 = .ok (.getfield 21, 3) := by decide +kernel
theorem dX6_findLines_43 : decode cX6_findLines 43 = .ok (.iconst (-1), 1) := by decide +kernel
theorem dX6_findLines_44 : decode cX6_findLines 44 = .ok (.invokestatic 154, 3) := by decide +kernel
theorem dX6_findLines_47 : decode cX6_findLines 47 = .ok (.iconst 0, 1) := by decide +kernel
theorem dX6_findLines_48 : decode cX6_findLines 48 = .ok (.istore_n 1, 1) := by decide +kernel
theorem dX6_findLines_49 : decode cX6_findLines 49 = .ok (.iload_n 1, 1) := by decide +kernel
theorem dX6_findLines_50 : decode cX6_findLines 50 = .ok (.aload_n 0, 1) := by decide +kernel
theorem dX6_findLines_51 : decode cX6_findLines 51 = .ok (.getfield 57, 3) := by decide +kernel
theorem dX6_findLines_54 : decode cX6_findLines 54 = .ok (.getfield 61, 3) := by decide +kernel
theorem dX6_findLines_57 : decode cX6_findLines 57 = .ok (.if_icmp .ge 58, 3) := by decide +kernel
theorem dX6_findLines_60 : decode cX6_findLines 60 = .ok (.iload_n 1, 1) := by decide +kernel
theorem dX6_findLines_61 : decode cX6_findLines 61 = .ok (.aload_n 0, 1) := by decide +kernel
theorem dX6_findLines_62 : decode cX6_findLines 62 = .ok (.getfield 24, 3) := by decide +kernel
theorem dX6_findLines_65 : decode cX6_findLines 65 = .ok (.arraylength, 1) := by decide +kernel
theorem dX6_findLines_66 : decode cX6_findLines 66 = .ok (.if_icmp .ge 49, 3) := by decide +kernel
theorem dX6_findLines_69 : decode cX6_findLines 69 = .ok (.aload_n 0, 1) := by decide +kernel
theorem dX6_findLines_70 : decode cX6_findLines 70 = .ok (.getfield 24, 3) := by decide +kernel
theorem dX6_findLines_73 : decode cX6_findLines 73 = .ok (.iload_n 1, 1) := by decide +kernel
theorem dX6_findLines_74 : decode cX6_findLines 74 = .ok (.aload_n 0, 1) := by decide +kernel
theorem dX6_findLines_75 : decode cX6_findLines 75 = .ok (.getfield 69, 3) := by decide +kernel
theorem dX6_findLines_78 : decode cX6_findLines 78 = .ok (.getfield 115, 3) := by decide +kernel
theorem dX6_findLines_81 : decode cX6_findLines 81 = .ok (.iconst 0, 1) := by decide +kernel
theorem dX6_findLines_82 : decode cX6_findLines 82 = .ok (.aload_n 0, 1) := by decide +kernel
theorem dX6_findLines_83 : decode cX6_findLines 83 = .ok (.getfield 57, 3) := by decide +kernel
theorem dX6_findLines_86 : decode cX6_findLines 86 = .ok (.iload_n 1, 1) := by decide +kernel
theorem dX6_findLines_87 : decode cX6_findLines 87 = .ok (.invokevirtual 132, 3) := by decide +kernel
theorem dX6_findLines_90 : decode cX6_findLines 90 = .ok (.invokevirtual 163, 3) := by decide +kernel
theorem dX6_findLines_93 : decode cX6_findLines 93 = .ok (.iastore, 1) := by decide +kernel
theorem dX6_findLines_94 : decode cX6_findLines 94 = .ok (.aload_n 0, 1) := by decide +kernel
theorem dX6_findLines_95 : decode cX6_findLines 95 = .ok (.aload_n 0, 1) := by decide +kernel
theorem dX6_findLines_96 : decode cX6_findLines 96 = .ok (.aload_n 0, 1) := by decide +kernel
theorem dX6_findLines_97 : decode cX6_findLines 97 = .ok (.getfield 24, 3) := by decide +kernel
theorem dX6_findLines_100 : decode cX6_findLines 100 = .ok (.iload_n 1, 1) := by decide +kernel
theorem dX6_findLines_101 : decode cX6_findLines 101 = .ok (.iaload, 1) := by decide +kernel
theorem dX6_findLines_102 : decode cX6_findLines 102 = .ok (.invokevirtual 167, 3) := by decide +kernel
theorem dX6_findLines_105 : decode cX6_findLines 105 = .ok (.iload_n 1, 1) := by decide +kernel
theorem dX6_findLines_106 : decode cX6_findLines 106 = .ok (.invokevirtual 170, 3) := by decide +kernel
theorem dX6_findLines_109 : decode cX6_findLines 109 = .ok (.iinc 1 1, 3) := by decide +kernel
theorem dX6_findLines_112 : decode cX6_findLines 112 = .ok (.goto (-63), 3) := by decide +kernel
theorem dX6_findLines_115 : decode cX6_findLines 115 = .ok (.return_, 1) := by decide +kernel
theorem dX6_splitLines_0 : decode cX6_splitLines 0 = .ok (.aload_n 0, 1) := by decide +kernel
theorem dX6_splitLines_1 : decode cX6_splitLines 1 = .ok (.getfield 9, 3) := by decide +kernel
theorem dX6_splitLines_4 : decode cX6_splitLines 4 = .ok (.iconst 0, 1) := by decide +kernel
theorem dX6_splitLines_5 : decode cX6_splitLines 5 = .ok (.aload_n 0, 1) := by decide +kernel
theorem dX6_splitLines_6 : decode cX6_splitLines 6 = .ok (.getfield 15, 3) := by decide +kernel
theorem dX6_splitLines_9 : decode cX6_splitLines 9 = .ok (.iconst 0, 1) := by decide +kernel
theorem dX6_splitLines_10 : decode cX6_splitLines 10 = .ok (.aload_n 0, 1) := by decide +kernel
theorem dX6_splitLines_11 : decode cX6_splitLines 11 = .ok (.getfield 9, 3) := by decide +kernel
theorem dX6_splitLines_14 : decode cX6_splitLines 14 = .ok (.arraylength, 1) := by decide +kernel
theorem dX6_splitLines_15 : decode cX6_splitLines 15 = .ok (.aload_n 0, 1) := by decide +kernel
theorem dX6_splitLines_16 : decode cX6_splitLines 16 = .ok (.getfield 15, 3) := by decide +kernel
theorem dX6_splitLines_19 : decode cX6_splitLines 19 = .ok (.arraylength, 1) := by decide +kernel
theorem dX6_splitLines_20 : decode cX6_splitLines 20 = .ok (.invokestatic 174, 3) := by decide +kernel
theorem dX6_splitLines_23 : decode cX6_splitLines 23 = .ok (.invokestatic 180, 3) := by decide +kernel
theorem dX6_splitLines_26 : decode cX6_splitLines 26 = .ok (.iconst 0, 1) := by decide +kernel
theorem dX6_splitLines_27 : decode cX6_splitLines 27 = .ok (.istore_n 3, 1) := by decide +kernel
theorem dX6_splitLines_28 : decode cX6_splitLines 28 = .ok (.iload_n 3, 1) := by decide +kernel
theorem dX6_splitLines_29 : decode cX6_splitLines 29 = .ok (.aload_n 0, 1) := by decide +kernel
theorem dX6_splitLines_30 : decode cX6_splitLines 30 = .ok (.getfield 9, 3) := by decide +kernel
theorem dX6_splitLines_33 : decode cX6_splitLines 33 = .ok (.arraylength, 1) := by decide +kernel
theorem dX6_splitLines_34 : decode cX6_splitLines 34 = .ok (.if_icmp .ge 57, 3) := by decide +kernel
theorem dX6_splitLines_37 : decode cX6_splitLines 37 = .ok (.iload_n 3, 1) := by decide +kernel
theorem dX6_splitLines_38 : decode cX6_splitLines 38 = .ok (.aload_n 0, 1) := by decide +kernel
theorem dX6_splitLines_39 : decode cX6_splitLines 39 = .ok (.getfield 18, 3) := by decide +kernel
theorem dX6_splitLines_42 : decode cX6_splitLines 42 = .ok (.arraylength, 1) := by decide +kernel
theorem dX6_splitLines_43 : decode cX6_splitLines 43 = .ok (.if_icmp .ge 48, 3) := by decide +kernel
theorem dX6_splitLines_46 : decode cX6_splitLines 46 = .ok (.aload_n 0, 1) := by decide +kernel
theorem dX6_splitLines_47 : decode cX6_splitLines 47 = .ok (.getfield 18, 3) := by decide +kernel
theorem dX6_splitLines_50 : decode cX6_splitLines 50 = .ok (.iload_n 3, 1) := by decide +kernel
theorem dX6_splitLines_51 : decode cX6_splitLines 51 = .ok (.aload_n 0, 1) := by decide +kernel
theorem dX6_splitLines_52 : decode cX6_splitLines 52 = .ok (.getfield 69, 3) := by decide +kernel
theorem dX6_splitLines_55 : decode cX6_splitLines 55 = .ok (.getfield 115, 3) := by decide +kernel
theorem dX6_splitLines_58 : decode cX6_splitLines 58 = .ok (.aload_n 0, 1) := by decide +kernel
theorem dX6_splitLines_59 : decode cX6_splitLines 59 = .ok (.getfield 69, 3) := by decide +kernel
theorem dX6_splitLines_62 : decode cX6_splitLines 62 = .ok (.getfield 115, 3) := by decide +kernel
theorem dX6_splitLines_65 : decode cX6_splitLines 65 = .ok (.iload_n 3, 1) := by decide +kernel
theorem dX6_splitLines_66 : decode cX6_splitLines 66 = .ok (.lload_n 1, 1) := by decide +kernel
theorem dX6_splitLines_67 : decode cX6_splitLines 67 = .ok (.invokevirtual 163, 3) := by decide +kernel
theorem dX6_splitLines_70 : decode cX6_splitLines 70 = .ok (.invokevirtual 186, 3) := by decide +kernel
theorem dX6_splitLines_73 : decode cX6_splitLines 73 = .ok (.iastore, 1) := by decide +kernel
theorem dX6_splitLines_74 : decode cX6_splitLines 74 = .ok (.aload_n 0, 1) := by decide +kernel
theorem dX6_splitLines_75 : decode cX6_splitLines 75 = .ok (.getfield 9, 3) := by decide +kernel
theorem dX6_splitLines_78 : decode cX6_splitLines 78 = .ok (.iload_n 3, 1) := by decide +kernel
theorem dX6_splitLines_79 : decode cX6_splitLines 79 = .ok (.aload_n 0, 1) := by decide +kernel
theorem dX6_splitLines_80 : decode cX6_splitLines 80 = .ok (.iload_n 3, 1) := by decide +kernel
theorem dX6_splitLines_81 : decode cX6_splitLines 81 = .ok (.invokevirtual 189, 3) := by decide +kernel
theorem dX6_splitLines_84 : decode cX6_splitLines 84 = .ok (.iastore, 1) := by decide +kernel
theorem dX6_splitLines_85 : decode cX6_splitLines 85 = .ok (.iinc 3 1, 3) := by decide +kernel
theorem dX6_splitLines_88 : decode cX6_splitLines 88 = .ok (.goto (-60), 3) := by decide +kernel
theorem dX6_splitLines_91 : decode cX6_splitLines 91 = .ok (.return_, 1) := by decide +kernel
theorem dX6_leastAlike_0 : decode cX6_leastAlike 0 = .ok (.iconst 0, 1) := by decide +kernel
theorem dX6_leastAlike_1 : decode cX6_leastAlike 1 = .ok (.istore_n 2, 1) := by decide +kernel
theorem dX6_leastAlike_2 : decode cX6_leastAlike 2 = .ok (.iload_n 2, 1) := by decide +kernel
theorem dX6_leastAlike_3 : decode cX6_leastAlike 3 = .ok (.iload_n 1, 1) := by decide +kernel
theorem dX6_leastAlike_4 : decode cX6_leastAlike 4 = .ok (.if_icmp .ge 59, 3) := by decide +kernel
theorem dX6_leastAlike_7 : decode cX6_leastAlike 7 = .ok (.iload_n 1, 1) := by decide +kernel
theorem dX6_leastAlike_8 : decode cX6_leastAlike 8 = .ok (.aload_n 0, 1) := by decide +kernel
theorem dX6_leastAlike_9 : decode cX6_leastAlike 9 = .ok (.getfield 15, 3) := by decide +kernel
theorem dX6_leastAlike_12 : decode cX6_leastAlike 12 = .ok (.arraylength, 1) := by decide +kernel
theorem dX6_leastAlike_13 : decode cX6_leastAlike 13 = .ok (.if_icmp .ge 50, 3) := by decide +kernel
theorem dX6_leastAlike_16 : decode cX6_leastAlike 16 = .ok (.iload_n 1, 1) := by decide +kernel
theorem dX6_leastAlike_17 : decode cX6_leastAlike 17 = .ok (.aload_n 0, 1) := by decide +kernel
theorem dX6_leastAlike_18 : decode cX6_leastAlike 18 = .ok (.getfield 18, 3) := by decide +kernel
theorem dX6_leastAlike_21 : decode cX6_leastAlike 21 = .ok (.arraylength, 1) := by decide +kernel
theorem dX6_leastAlike_22 : decode cX6_leastAlike 22 = .ok (.if_icmp .ge 41, 3) := by decide +kernel
theorem dX6_leastAlike_25 : decode cX6_leastAlike 25 = .ok (.aload_n 0, 1) := by decide +kernel
theorem dX6_leastAlike_26 : decode cX6_leastAlike 26 = .ok (.getfield 15, 3) := by decide +kernel
theorem dX6_leastAlike_29 : decode cX6_leastAlike 29 = .ok (.iload_n 2, 1) := by decide +kernel
theorem dX6_leastAlike_30 : decode cX6_leastAlike 30 = .ok (.iaload, 1) := by decide +kernel
theorem dX6_leastAlike_31 : decode cX6_leastAlike 31 = .ok (.aload_n 0, 1) := by decide +kernel
theorem dX6_leastAlike_32 : decode cX6_leastAlike 32 = .ok (.getfield 15, 3) := by decide +kernel
theorem dX6_leastAlike_35 : decode cX6_leastAlike 35 = .ok (.iload_n 1, 1) := by decide +kernel
theorem dX6_leastAlike_36 : decode cX6_leastAlike 36 = .ok (.iaload, 1) := by decide +kernel
theorem dX6_leastAlike_37 : decode cX6_leastAlike 37 = .ok (.if_icmp .ne 20, 3) := by decide +kernel
theorem dX6_leastAlike_40 : decode cX6_leastAlike 40 = .ok (.aload_n 0, 1) := by decide +kernel
theorem dX6_leastAlike_41 : decode cX6_leastAlike 41 = .ok (.getfield 18, 3) := by decide +kernel
theorem dX6_leastAlike_44 : decode cX6_leastAlike 44 = .ok (.iload_n 2, 1) := by decide +kernel
theorem dX6_leastAlike_45 : decode cX6_leastAlike 45 = .ok (.iaload, 1) := by decide +kernel
theorem dX6_leastAlike_46 : decode cX6_leastAlike 46 = .ok (.aload_n 0, 1) := by decide +kernel
theorem dX6_leastAlike_47 : decode cX6_leastAlike 47 = .ok (.getfield 18, 3) := by decide +kernel
theorem dX6_leastAlike_50 : decode cX6_leastAlike 50 = .ok (.iload_n 1, 1) := by decide +kernel
theorem dX6_leastAlike_51 : decode cX6_leastAlike 51 = .ok (.iaload, 1) := by decide +kernel
theorem dX6_leastAlike_52 : decode cX6_leastAlike 52 = .ok (.if_icmp .ne 5, 3) := by decide +kernel
theorem dX6_leastAlike_55 : decode cX6_leastAlike 55 = .ok (.iload_n 2, 1) := by decide +kernel
theorem dX6_leastAlike_56 : decode cX6_leastAlike 56 = .ok (.ireturn, 1) := by decide +kernel
theorem dX6_leastAlike_57 : decode cX6_leastAlike 57 = .ok (.iinc 2 1, 3) := by decide +kernel
theorem dX6_leastAlike_60 : decode cX6_leastAlike 60 = .ok (.goto (-58), 3) := by decide +kernel
theorem dX6_leastAlike_63 : decode cX6_leastAlike 63 = .ok (.iload_n 1, 1) := by decide +kernel
theorem dX6_leastAlike_64 : decode cX6_leastAlike 64 = .ok (.ireturn, 1) := by decide +kernel
theorem dX6_setFirstHead_0 : decode cX6_setFirstHead 0 = .ok (.iconst 0, 1) := by decide +kernel
theorem dX6_setFirstHead_1 : decode cX6_setFirstHead 1 = .ok (.istore_n 3, 1) := by decide +kernel
theorem dX6_setFirstHead_2 : decode cX6_setFirstHead 2 = .ok (.iload_n 3, 1) := by decide +kernel
theorem dX6_setFirstHead_3 : decode cX6_setFirstHead 3 = .ok (.aload_n 0, 1) := by decide +kernel
theorem dX6_setFirstHead_4 : decode cX6_setFirstHead 4 = .ok (.getfield 21, 3) := by decide +kernel
theorem dX6_setFirstHead_7 : decode cX6_setFirstHead 7 = .ok (.arraylength, 1) := by decide +kernel
theorem dX6_setFirstHead_8 : decode cX6_setFirstHead 8 = .ok (.if_icmp .ge 35, 3) := by decide +kernel
theorem dX6_setFirstHead_11 : decode cX6_setFirstHead 11 = .ok (.aload_n 0, 1) := by decide +kernel
theorem dX6_setFirstHead_12 : decode cX6_setFirstHead 12 = .ok (.iload_n 3, 1) := by decide +kernel
theorem dX6_setFirstHead_13 : decode cX6_setFirstHead 13 = .ok (.invokevirtual 167, 3) := by decide +kernel
theorem dX6_setFirstHead_16 : decode cX6_setFirstHead 16 = .ok (.iload_n 1, 1) := by decide +kernel
theorem dX6_setFirstHead_17 : decode cX6_setFirstHead 17 = .ok (.if_icmp .ne 20, 3) := by decide +kernel
theorem dX6_setFirstHead_20 : decode cX6_setFirstHead 20 = .ok (.aload_n 0, 1) := by decide +kernel
theorem dX6_setFirstHead_21 : decode cX6_setFirstHead 21 = .ok (.getfield 21, 3) := by decide +kernel
theorem dX6_setFirstHead_24 : decode cX6_setFirstHead 24 = .ok (.iload_n 3, 1) := by decide +kernel
theorem dX6_setFirstHead_25 : decode cX6_setFirstHead 25 = .ok (.iaload, 1) := by decide +kernel
theorem dX6_setFirstHead_26 : decode cX6_setFirstHead 26 = .ok (.iconst (-1), 1) := by decide +kernel
theorem dX6_setFirstHead_27 : decode cX6_setFirstHead 27 = .ok (.if_icmp .ne 10, 3) := by decide +kernel
theorem dX6_setFirstHead_30 : decode cX6_setFirstHead 30 = .ok (.aload_n 0, 1) := by decide +kernel
theorem dX6_setFirstHead_31 : decode cX6_setFirstHead 31 = .ok (.getfield 21, 3) := by decide +kernel
theorem dX6_setFirstHead_34 : decode cX6_setFirstHead 34 = .ok (.iload_n 3, 1) := by decide +kernel
theorem dX6_setFirstHead_35 : decode cX6_setFirstHead 35 = .ok (.iload_n 2, 1) := by decide +kernel
theorem dX6_setFirstHead_36 : decode cX6_setFirstHead 36 = .ok (.iastore, 1) := by decide +kernel
theorem dX6_setFirstHead_37 : decode cX6_setFirstHead 37 = .ok (.iinc 3 1, 3) := by decide +kernel
theorem dX6_setFirstHead_40 : decode cX6_setFirstHead 40 = .ok (.goto (-38), 3) := by decide +kernel
theorem dX6_setFirstHead_43 : decode cX6_setFirstHead 43 = .ok (.return_, 1) := by decide +kernel
theorem dX6_lineOf_0 : decode cX6_lineOf 0 = .ok (.iload_n 1, 1) := by decide +kernel
theorem dX6_lineOf_1 : decode cX6_lineOf 1 = .ok (.ifCond .lt 12, 3) := by decide +kernel
theorem dX6_lineOf_4 : decode cX6_lineOf 4 = .ok (.iload_n 1, 1) := by decide +kernel
theorem dX6_lineOf_5 : decode cX6_lineOf 5 = .ok (.aload_n 0, 1) := by decide +kernel
theorem dX6_lineOf_6 : decode cX6_lineOf 6 = .ok (.getfield 9, 3) := by decide +kernel
theorem dX6_lineOf_9 : decode cX6_lineOf 9 = .ok (.arraylength, 1) := by decide +kernel
theorem dX6_lineOf_10 : decode cX6_lineOf 10 = .ok (.if_icmp .lt 7, 3) := by decide +kernel
theorem dX6_lineOf_13 : decode cX6_lineOf 13 = .ok (.iconst (-1), 1) := by decide +kernel
theorem dX6_lineOf_14 : decode cX6_lineOf 14 = .ok (.goto 9, 3) := by decide +kernel
theorem dX6_lineOf_17 : decode cX6_lineOf 17 = .ok (.aload_n 0, 1) := by decide +kernel
theorem dX6_lineOf_18 : decode cX6_lineOf 18 = .ok (.getfield 9, 3) := by decide +kernel
theorem dX6_lineOf_21 : decode cX6_lineOf 21 = .ok (.iload_n 1, 1) := by decide +kernel
theorem dX6_lineOf_22 : decode cX6_lineOf 22 = .ok (.iaload, 1) := by decide +kernel
theorem dX6_lineOf_23 : decode cX6_lineOf 23 = .ok (.ireturn, 1) := by decide +kernel
theorem dX6_endOf_0 : decode cX6_endOf 0 = .ok (.iload_n 1, 1) := by decide +kernel
theorem dX6_endOf_1 : decode cX6_endOf 1 = .ok (.ifCond .lt 12, 3) := by decide +kernel
theorem dX6_endOf_4 : decode cX6_endOf 4 = .ok (.iload_n 1, 1) := by decide +kernel
theorem dX6_endOf_5 : decode cX6_endOf 5 = .ok (.aload_n 0, 1) := by decide +kernel
theorem dX6_endOf_6 : decode cX6_endOf 6 = .ok (.getfield 24, 3) := by decide +kernel
theorem dX6_endOf_9 : decode cX6_endOf 9 = .ok (.arraylength, 1) := by decide +kernel
theorem dX6_endOf_10 : decode cX6_endOf 10 = .ok (.if_icmp .lt 7, 3) := by decide +kernel
theorem dX6_endOf_13 : decode cX6_endOf 13 = .ok (.iconst (-1), 1) := by decide +kernel
theorem dX6_endOf_14 : decode cX6_endOf 14 = .ok (.goto 9, 3) := by decide +kernel
theorem dX6_endOf_17 : decode cX6_endOf 17 = .ok (.aload_n 0, 1) := by decide +kernel
theorem dX6_endOf_18 : decode cX6_endOf 18 = .ok (.getfield 24, 3) := by decide +kernel
theorem dX6_endOf_21 : decode cX6_endOf 21 = .ok (.iload_n 1, 1) := by decide +kernel
theorem dX6_endOf_22 : decode cX6_endOf 22 = .ok (.iaload, 1) := by decide +kernel
theorem dX6_endOf_23 : decode cX6_endOf 23 = .ok (.ireturn, 1) := by decide +kernel
theorem dX6_headLike_0 : decode cX6_headLike 0 = .ok (.iload_n 1, 1) := by decide +kernel
theorem dX6_headLike_1 : decode cX6_headLike 1 = .ok (.ifCond .lt 12, 3) := by decide +kernel
theorem dX6_headLike_4 : decode cX6_headLike 4 = .ok (.iload_n 1, 1) := by decide +kernel
theorem dX6_headLike_5 : decode cX6_headLike 5 = .ok (.aload_n 0, 1) := by decide +kernel
theorem dX6_headLike_6 : decode cX6_headLike 6 = .ok (.getfield 21, 3) := by decide +kernel
theorem dX6_headLike_9 : decode cX6_headLike 9 = .ok (.arraylength, 1) := by decide +kernel
theorem dX6_headLike_10 : decode cX6_headLike 10 = .ok (.if_icmp .lt 7, 3) := by decide +kernel
theorem dX6_headLike_13 : decode cX6_headLike 13 = .ok (.iconst (-1), 1) := by decide +kernel
theorem dX6_headLike_14 : decode cX6_headLike 14 = .ok (.goto 9, 3) := by decide +kernel
theorem dX6_headLike_17 : decode cX6_headLike 17 = .ok (.aload_n 0, 1) := by decide +kernel
theorem dX6_headLike_18 : decode cX6_headLike 18 = .ok (.getfield 21, 3) := by decide +kernel
theorem dX6_headLike_21 : decode cX6_headLike 21 = .ok (.iload_n 1, 1) := by decide +kernel
theorem dX6_headLike_22 : decode cX6_headLike 22 = .ok (.iaload, 1) := by decide +kernel
theorem dX6_headLike_23 : decode cX6_headLike 23 = .ok (.ireturn, 1) := by decide +kernel
theorem dX6_isFirstOfLine_0 : decode cX6_isFirstOfLine 0 = .ok (.aload_n 0, 1) := by decide +kernel
theorem dX6_isFirstOfLine_1 : decode cX6_isFirstOfLine 1 = .ok (.aload_n 0, 1) := by decide +kernel
theorem dX6_isFirstOfLine_2 : decode cX6_isFirstOfLine 2 = .ok (.iload_n 1, 1) := by decide +kernel
theorem dX6_isFirstOfLine_3 : decode cX6_isFirstOfLine 3 = .ok (.invokevirtual 192, 3) := by decide +kernel
theorem dX6_isFirstOfLine_6 : decode cX6_isFirstOfLine 6 = .ok (.invokevirtual 195, 3) := by decide +kernel
theorem dX6_isFirstOfLine_9 : decode cX6_isFirstOfLine 9 = .ok (.iload_n 1, 1) := by decide +kernel
theorem dX6_isFirstOfLine_10 : decode cX6_isFirstOfLine 10 = .ok (.if_icmp .ne 7, 3) := by decide +kernel
theorem dX6_isFirstOfLine_13 : decode cX6_isFirstOfLine 13 = .ok (.iconst 1, 1) := by decide +kernel
theorem dX6_isFirstOfLine_14 : decode cX6_isFirstOfLine 14 = .ok (.goto 4, 3) := by decide +kernel
theorem dX6_isFirstOfLine_17 : decode cX6_isFirstOfLine 17 = .ok (.iconst 0, 1) := by decide +kernel
theorem dX6_isFirstOfLine_18 : decode cX6_isFirstOfLine 18 = .ok (.ireturn, 1) := by decide +kernel
theorem dX6_headBehind_0 : decode cX6_headBehind 0 = .ok (.aload_n 0, 1) := by decide +kernel
theorem dX6_headBehind_1 : decode cX6_headBehind 1 = .ok (.aload_n 0, 1) := by decide +kernel
theorem dX6_headBehind_2 : decode cX6_headBehind 2 = .ok (.getfield 69, 3) := by decide +kernel
theorem dX6_headBehind_5 : decode cX6_headBehind 5 = .ok (.getfield 115, 3) := by decide +kernel
theorem dX6_headBehind_8 : decode cX6_headBehind 8 = .ok (.aload_n 0, 1) := by decide +kernel
theorem dX6_headBehind_9 : decode cX6_headBehind 9 = .ok (.iload_n 1, 1) := by decide +kernel
theorem dX6_headBehind_10 : decode cX6_headBehind 10 = .ok (.invokevirtual 192, 3) := by decide +kernel
theorem dX6_headBehind_13 : decode cX6_headBehind 13 = .ok (.iload_n 2, 1) := by decide +kernel
theorem dX6_headBehind_14 : decode cX6_headBehind 14 = .ok (.invokevirtual 198, 3) := by decide +kernel
theorem dX6_headBehind_17 : decode cX6_headBehind 17 = .ok (.invokevirtual 195, 3) := by decide +kernel
theorem dX6_headBehind_20 : decode cX6_headBehind 20 = .ok (.ireturn, 1) := by decide +kernel
theorem dX6_unlikeLines_0 : decode cX6_unlikeLines 0 = .ok (.iconst 0, 1) := by decide +kernel
theorem dX6_unlikeLines_1 : decode cX6_unlikeLines 1 = .ok (.istore_n 1, 1) := by decide +kernel
theorem dX6_unlikeLines_2 : decode cX6_unlikeLines 2 = .ok (.iconst 0, 1) := by decide +kernel
theorem dX6_unlikeLines_3 : decode cX6_unlikeLines 3 = .ok (.istore_n 2, 1) := by decide +kernel
theorem dX6_unlikeLines_4 : decode cX6_unlikeLines 4 = .ok (.iload_n 2, 1) := by decide +kernel
theorem dX6_unlikeLines_5 : decode cX6_unlikeLines 5 = .ok (.aload_n 0, 1) := by decide +kernel
theorem dX6_unlikeLines_6 : decode cX6_unlikeLines 6 = .ok (.getfield 57, 3) := by decide +kernel
theorem dX6_unlikeLines_9 : decode cX6_unlikeLines 9 = .ok (.getfield 61, 3) := by decide +kernel
theorem dX6_unlikeLines_12 : decode cX6_unlikeLines 12 = .ok (.if_icmp .ge 20, 3) := by decide +kernel
theorem dX6_unlikeLines_15 : decode cX6_unlikeLines 15 = .ok (.aload_n 0, 1) := by decide +kernel
theorem dX6_unlikeLines_16 : decode cX6_unlikeLines 16 = .ok (.iload_n 2, 1) := by decide +kernel
theorem dX6_unlikeLines_17 : decode cX6_unlikeLines 17 = .ok (.invokevirtual 201, 3) := by decide +kernel
theorem dX6_unlikeLines_20 : decode cX6_unlikeLines 20 = .ok (.ifCond .eq 6, 3) := by decide +kernel
theorem dX6_unlikeLines_23 : decode cX6_unlikeLines 23 = .ok (.iinc 1 1, 3) := by decide +kernel
theorem dX6_unlikeLines_26 : decode cX6_unlikeLines 26 = .ok (.iinc 2 1, 3) := by decide +kernel
theorem dX6_unlikeLines_29 : decode cX6_unlikeLines 29 = .ok (.goto (-25), 3) := by decide +kernel
theorem dX6_unlikeLines_32 : decode cX6_unlikeLines 32 = .ok (.iload_n 1, 1) := by decide +kernel
theorem dX6_unlikeLines_33 : decode cX6_unlikeLines 33 = .ok (.ireturn, 1) := by decide +kernel
theorem dX6_openWords_0 : decode cX6_openWords 0 = .ok (.iconst 0, 1) := by decide +kernel
theorem dX6_openWords_1 : decode cX6_openWords 1 = .ok (.istore_n 1, 1) := by decide +kernel
theorem dX6_openWords_2 : decode cX6_openWords 2 = .ok (.iconst 0, 1) := by decide +kernel
theorem dX6_openWords_3 : decode cX6_openWords 3 = .ok (.istore_n 2, 1) := by decide +kernel
theorem dX6_openWords_4 : decode cX6_openWords 4 = .ok (.iload_n 2, 1) := by decide +kernel
theorem dX6_openWords_5 : decode cX6_openWords 5 = .ok (.aload_n 0, 1) := by decide +kernel
theorem dX6_openWords_6 : decode cX6_openWords 6 = .ok (.getfield 57, 3) := by decide +kernel
theorem dX6_openWords_9 : decode cX6_openWords 9 = .ok (.getfield 61, 3) := by decide +kernel
theorem dX6_openWords_12 : decode cX6_openWords 12 = .ok (.if_icmp .ge 44, 3) := by decide +kernel
theorem dX6_openWords_15 : decode cX6_openWords 15 = .ok (.iconst 0, 1) := by decide +kernel
theorem dX6_openWords_16 : decode cX6_openWords 16 = .ok (.istore_n 3, 1) := by decide +kernel
theorem dX6_openWords_17 : decode cX6_openWords 17 = .ok (.iload_n 3, 1) := by decide +kernel
theorem dX6_openWords_18 : decode cX6_openWords 18 = .ok (.aload_n 0, 1) := by decide +kernel
theorem dX6_openWords_19 : decode cX6_openWords 19 = .ok (.getfield 69, 3) := by decide +kernel
theorem dX6_openWords_22 : decode cX6_openWords 22 = .ok (.getfield 115, 3) := by decide +kernel
theorem dX6_openWords_25 : decode cX6_openWords 25 = .ok (.getfield 119, 3) := by decide +kernel
theorem dX6_openWords_28 : decode cX6_openWords 28 = .ok (.if_icmp .ge 22, 3) := by decide +kernel
theorem dX6_openWords_31 : decode cX6_openWords 31 = .ok (.aload_n 0, 1) := by decide +kernel
theorem dX6_openWords_32 : decode cX6_openWords 32 = .ok (.iload_n 2, 1) := by decide +kernel
theorem dX6_openWords_33 : decode cX6_openWords 33 = .ok (.iload_n 3, 1) := by decide +kernel
theorem dX6_openWords_34 : decode cX6_openWords 34 = .ok (.invokevirtual 205, 3) := by decide +kernel
theorem dX6_openWords_37 : decode cX6_openWords 37 = .ok (.iconst (-1), 1) := by decide +kernel
theorem dX6_openWords_38 : decode cX6_openWords 38 = .ok (.if_icmp .ne 6, 3) := by decide +kernel
theorem dX6_openWords_41 : decode cX6_openWords 41 = .ok (.iinc 1 1, 3) := by decide +kernel
theorem dX6_openWords_44 : decode cX6_openWords 44 = .ok (.iinc 3 1, 3) := by decide +kernel
theorem dX6_openWords_47 : decode cX6_openWords 47 = .ok (.goto (-30), 3) := by decide +kernel
theorem dX6_openWords_50 : decode cX6_openWords 50 = .ok (.iinc 2 1, 3) := by decide +kernel
theorem dX6_openWords_53 : decode cX6_openWords 53 = .ok (.goto (-49), 3) := by decide +kernel
theorem dX6_openWords_56 : decode cX6_openWords 56 = .ok (.iload_n 1, 1) := by decide +kernel
theorem dX6_openWords_57 : decode cX6_openWords 57 = .ok (.ireturn, 1) := by decide +kernel
theorem dX6_headComes_0 : decode cX6_headComes 0 = .ok (.iconst 0, 1) := by decide +kernel
theorem dX6_headComes_1 : decode cX6_headComes 1 = .ok (.istore_n 1, 1) := by decide +kernel
theorem dX6_headComes_2 : decode cX6_headComes 2 = .ok (.iload_n 1, 1) := by decide +kernel
theorem dX6_headComes_3 : decode cX6_headComes 3 = .ok (.aload_n 0, 1) := by decide +kernel
theorem dX6_headComes_4 : decode cX6_headComes 4 = .ok (.getfield 57, 3) := by decide +kernel
theorem dX6_headComes_7 : decode cX6_headComes 7 = .ok (.getfield 61, 3) := by decide +kernel
theorem dX6_headComes_10 : decode cX6_headComes 10 = .ok (.if_icmp .ge 59, 3) := by decide +kernel
theorem dX6_headComes_13 : decode cX6_headComes 13 = .ok (.iconst 0, 1) := by decide +kernel
theorem dX6_headComes_14 : decode cX6_headComes 14 = .ok (.istore_n 2, 1) := by decide +kernel
theorem dX6_headComes_15 : decode cX6_headComes 15 = .ok (.iload_n 2, 1) := by decide +kernel
theorem dX6_headComes_16 : decode cX6_headComes 16 = .ok (.aload_n 0, 1) := by decide +kernel
theorem dX6_headComes_17 : decode cX6_headComes 17 = .ok (.getfield 69, 3) := by decide +kernel
theorem dX6_headComes_20 : decode cX6_headComes 20 = .ok (.getfield 115, 3) := by decide +kernel
theorem dX6_headComes_23 : decode cX6_headComes 23 = .ok (.getfield 119, 3) := by decide +kernel
theorem dX6_headComes_26 : decode cX6_headComes 26 = .ok (.if_icmp .ge 37, 3) := by decide +kernel
theorem dX6_headComes_29 : decode cX6_headComes 29 = .ok (.aload_n 0, 1) := by decide +kernel
theorem dX6_headComes_30 : decode cX6_headComes 30 = .ok (.iload_n 1, 1) := by decide +kernel
theorem dX6_headComes_31 : decode cX6_headComes 31 = .ok (.iload_n 2, 1) := by decide +kernel
theorem dX6_headComes_32 : decode cX6_headComes 32 = .ok (.invokevirtual 205, 3) := by decide +kernel
theorem dX6_headComes_35 : decode cX6_headComes 35 = .ok (.iconst (-1), 1) := by decide +kernel
theorem dX6_headComes_36 : decode cX6_headComes 36 = .ok (.if_icmp .eq 6, 3) := by decide +kernel
theorem dX6_headComes_39 : decode cX6_headComes 39 = .ok (.goto 18, 3) := by decide +kernel
theorem dX6_headComes_42 : decode cX6_headComes 42 = .ok (.aload_n 0, 1) := by decide +kernel
theorem dX6_headComes_43 : decode cX6_headComes 43 = .ok (.getfield 57, 3) := by decide +kernel
theorem dX6_headComes_46 : decode cX6_headComes 46 = .ok (.aload_n 0, 1) := by decide +kernel
theorem dX6_headComes_47 : decode cX6_headComes 47 = .ok (.iload_n 1, 1) := by decide +kernel
theorem dX6_headComes_48 : decode cX6_headComes 48 = .ok (.iload_n 2, 1) := by decide +kernel
theorem dX6_headComes_49 : decode cX6_headComes 49 = .ok (.invokevirtual 124, 3) := by decide +kernel
theorem dX6_headComes_52 : decode cX6_headComes 52 = .ok (.invokevirtual 99, 3) := by decide +kernel
theorem dX6_headComes_55 : decode cX6_headComes 55 = .ok (.iconst 1, 1) := by decide +kernel
theorem dX6_headComes_56 : decode cX6_headComes 56 = .ok (.ireturn, 1) := by decide +kernel
theorem dX6_headComes_57 : decode cX6_headComes 57 = .ok (.iinc 2 1, 3) := by decide +kernel
theorem dX6_headComes_60 : decode cX6_headComes 60 = .ok (.goto (-45), 3) := by decide +kernel
theorem dX6_headComes_63 : decode cX6_headComes 63 = .ok (.iinc 1 1, 3) := by decide +kernel
theorem dX6_headComes_66 : decode cX6_headComes 66 = .ok (.goto (-64), 3) := by decide +kernel
theorem dX6_headComes_69 : decode cX6_headComes 69 = .ok (.iconst 0, 1) := by decide +kernel
theorem dX6_headComes_70 : decode cX6_headComes 70 = .ok (.ireturn, 1) := by decide +kernel
theorem dX6_tailComes_0 : decode cX6_tailComes 0 = .ok (.iconst 0, 1) := by decide +kernel
theorem dX6_tailComes_1 : decode cX6_tailComes 1 = .ok (.istore_n 1, 1) := by decide +kernel
theorem dX6_tailComes_2 : decode cX6_tailComes 2 = .ok (.iload_n 1, 1) := by decide +kernel
theorem dX6_tailComes_3 : decode cX6_tailComes 3 = .ok (.aload_n 0, 1) := by decide +kernel
theorem dX6_tailComes_4 : decode cX6_tailComes 4 = .ok (.getfield 57, 3) := by decide +kernel
theorem dX6_tailComes_7 : decode cX6_tailComes 7 = .ok (.getfield 61, 3) := by decide +kernel
theorem dX6_tailComes_10 : decode cX6_tailComes 10 = .ok (.if_icmp .ge 155, 3) := by decide +kernel
theorem dX6_tailComes_13 : decode cX6_tailComes 13 = .ok (.iload_n 1, 1) := by decide +kernel
theorem dX6_tailComes_14 : decode cX6_tailComes 14 = .ok (.iconst 1, 1) := by decide +kernel
theorem dX6_tailComes_15 : decode cX6_tailComes 15 = .ok (.iadd, 1) := by decide +kernel
theorem dX6_tailComes_16 : decode cX6_tailComes 16 = .ok (.istore_n 2, 1) := by decide +kernel
theorem dX6_tailComes_17 : decode cX6_tailComes 17 = .ok (.iload_n 2, 1) := by decide +kernel
theorem dX6_tailComes_18 : decode cX6_tailComes 18 = .ok (.aload_n 0, 1) := by decide +kernel
theorem dX6_tailComes_19 : decode cX6_tailComes 19 = .ok (.getfield 57, 3) := by decide +kernel
theorem dX6_tailComes_22 : decode cX6_tailComes 22 = .ok (.getfield 61, 3) := by decide +kernel
theorem dX6_tailComes_25 : decode cX6_tailComes 25 = .ok (.if_icmp .ge 134, 3) := by decide +kernel
theorem dX6_tailComes_28 : decode cX6_tailComes 28 = .ok (.aload_n 0, 1) := by decide +kernel
theorem dX6_tailComes_29 : decode cX6_tailComes 29 = .ok (.aload_n 0, 1) := by decide +kernel
theorem dX6_tailComes_30 : decode cX6_tailComes 30 = .ok (.iload_n 1, 1) := by decide +kernel
theorem dX6_tailComes_31 : decode cX6_tailComes 31 = .ok (.invokevirtual 192, 3) := by decide +kernel
theorem dX6_tailComes_34 : decode cX6_tailComes 34 = .ok (.invokevirtual 167, 3) := by decide +kernel
theorem dX6_tailComes_37 : decode cX6_tailComes 37 = .ok (.aload_n 0, 1) := by decide +kernel
theorem dX6_tailComes_38 : decode cX6_tailComes 38 = .ok (.aload_n 0, 1) := by decide +kernel
theorem dX6_tailComes_39 : decode cX6_tailComes 39 = .ok (.iload_n 2, 1) := by decide +kernel
theorem dX6_tailComes_40 : decode cX6_tailComes 40 = .ok (.invokevirtual 192, 3) := by decide +kernel
theorem dX6_tailComes_43 : decode cX6_tailComes 43 = .ok (.invokevirtual 167, 3) := by decide +kernel
theorem dX6_tailComes_46 : decode cX6_tailComes 46 = .ok (.if_icmp .eq 6, 3) := by decide +kernel
theorem dX6_tailComes_49 : decode cX6_tailComes 49 = .ok (.goto 104, 3) := by decide +kernel
theorem dX6_tailComes_52 : decode cX6_tailComes 52 = .ok (.iconst 0, 1) := by decide +kernel
theorem dX6_tailComes_53 : decode cX6_tailComes 53 = .ok (.istore_n 3, 1) := by decide +kernel
theorem dX6_tailComes_54 : decode cX6_tailComes 54 = .ok (.iload_n 3, 1) := by decide +kernel
theorem dX6_tailComes_55 : decode cX6_tailComes 55 = .ok (.aload_n 0, 1) := by decide +kernel
theorem dX6_tailComes_56 : decode cX6_tailComes 56 = .ok (.getfield 69, 3) := by decide +kernel
theorem dX6_tailComes_59 : decode cX6_tailComes 59 = .ok (.getfield 115, 3) := by decide +kernel
theorem dX6_tailComes_62 : decode cX6_tailComes 62 = .ok (.getfield 119, 3) := by decide +kernel
theorem dX6_tailComes_65 : decode cX6_tailComes 65 = .ok (.if_icmp .ge 88, 3) := by decide +kernel
theorem dX6_tailComes_68 : decode cX6_tailComes 68 = .ok (.aload_n 0, 1) := by decide +kernel
theorem dX6_tailComes_69 : decode cX6_tailComes 69 = .ok (.getfield 69, 3) := by decide +kernel
theorem dX6_tailComes_72 : decode cX6_tailComes 72 = .ok (.getfield 115, 3) := by decide +kernel
theorem dX6_tailComes_75 : decode cX6_tailComes 75 = .ok (.aload_n 0, 1) := by decide +kernel
theorem dX6_tailComes_76 : decode cX6_tailComes 76 = .ok (.iload_n 1, 1) := by decide +kernel
theorem dX6_tailComes_77 : decode cX6_tailComes 77 = .ok (.invokevirtual 192, 3) := by decide +kernel
theorem dX6_tailComes_80 : decode cX6_tailComes 80 = .ok (.iload_n 3, 1) := by decide +kernel
theorem dX6_tailComes_81 : decode cX6_tailComes 81 = .ok (.invokevirtual 198, 3) := by decide +kernel
theorem dX6_tailComes_84 : decode cX6_tailComes 84 = .ok (.istore 4, 2) := by decide +kernel
theorem dX6_tailComes_86 : decode cX6_tailComes 86 = .ok (.aload_n 0, 1) := by decide +kernel
theorem dX6_tailComes_87 : decode cX6_tailComes 87 = .ok (.getfield 69, 3) := by decide +kernel
theorem dX6_tailComes_90 : decode cX6_tailComes 90 = .ok (.getfield 115, 3) := by decide +kernel
theorem dX6_tailComes_93 : decode cX6_tailComes 93 = .ok (.aload_n 0, 1) := by decide +kernel
theorem dX6_tailComes_94 : decode cX6_tailComes 94 = .ok (.iload_n 2, 1) := by decide +kernel
theorem dX6_tailComes_95 : decode cX6_tailComes 95 = .ok (.invokevirtual 192, 3) := by decide +kernel
theorem dX6_tailComes_98 : decode cX6_tailComes 98 = .ok (.iload_n 3, 1) := by decide +kernel
theorem dX6_tailComes_99 : decode cX6_tailComes 99 = .ok (.invokevirtual 198, 3) := by decide +kernel
theorem dX6_tailComes_102 : decode cX6_tailComes 102 = .ok (.istore 5, 2) := by decide +kernel
theorem dX6_tailComes_104 : decode cX6_tailComes 104 = .ok (.aload_n 0, 1) := by decide +kernel
theorem dX6_tailComes_105 : decode cX6_tailComes 105 = .ok (.iload 4, 2) := by decide +kernel
theorem dX6_tailComes_107 : decode cX6_tailComes 107 = .ok (.invokevirtual 167, 3) := by decide +kernel
theorem dX6_tailComes_110 : decode cX6_tailComes 110 = .ok (.aload_n 0, 1) := by decide +kernel
theorem dX6_tailComes_111 : decode cX6_tailComes 111 = .ok (.iload 5, 2) := by decide +kernel
theorem dX6_tailComes_113 : decode cX6_tailComes 113 = .ok (.invokevirtual 167, 3) := by decide +kernel
theorem dX6_tailComes_116 : decode cX6_tailComes 116 = .ok (.if_icmp .ne 6, 3) := by decide +kernel
theorem dX6_tailComes_119 : decode cX6_tailComes 119 = .ok (.goto 28, 3) := by decide +kernel
theorem dX6_tailComes_122 : decode cX6_tailComes 122 = .ok (.aload_n 0, 1) := by decide +kernel
theorem dX6_tailComes_123 : decode cX6_tailComes 123 = .ok (.getfield 66, 3) := by decide +kernel
theorem dX6_tailComes_126 : decode cX6_tailComes 126 = .ok (.lconst 1, 1) := by decide +kernel
theorem dX6_tailComes_127 : decode cX6_tailComes 127 = .ok (.iload_n 3, 1) := by decide +kernel
theorem dX6_tailComes_128 : decode cX6_tailComes 128 = .ok (.invokestatic 151, 3) := by decide +kernel
theorem dX6_tailComes_131 : decode cX6_tailComes 131 = .ok (.aload_n 0, 1) := by decide +kernel
theorem dX6_tailComes_132 : decode cX6_tailComes 132 = .ok (.iload 4, 2) := by decide +kernel
theorem dX6_tailComes_134 : decode cX6_tailComes 134 = .ok (.iload 5, 2) := by decide +kernel
theorem dX6_tailComes_136 : decode cX6_tailComes 136 = .ok (.invokevirtual 208, 3) := by decide +kernel
theorem dX6_tailComes_139 : decode cX6_tailComes 139 = .ok (.invokestatic 136, 3) := by decide +kernel
theorem dX6_tailComes_142 : decode cX6_tailComes 142 = .ok (.invokevirtual 99, 3) := by decide +kernel
theorem dX6_tailComes_145 : decode cX6_tailComes 145 = .ok (.iconst 1, 1) := by decide +kernel
theorem dX6_tailComes_146 : decode cX6_tailComes 146 = .ok (.ireturn, 1) := by decide +kernel
theorem dX6_tailComes_147 : decode cX6_tailComes 147 = .ok (.iinc 3 1, 3) := by decide +kernel
theorem dX6_tailComes_150 : decode cX6_tailComes 150 = .ok (.goto (-96), 3) := by decide +kernel
theorem dX6_tailComes_153 : decode cX6_tailComes 153 = .ok (.iinc 2 1, 3) := by decide +kernel
theorem dX6_tailComes_156 : decode cX6_tailComes 156 = .ok (.goto (-139), 3) := by decide +kernel
theorem dX6_tailComes_159 : decode cX6_tailComes 159 = .ok (.iinc 1 1, 3) := by decide +kernel
theorem dX6_tailComes_162 : decode cX6_tailComes 162 = .ok (.goto (-160), 3) := by decide +kernel
theorem dX6_tailComes_165 : decode cX6_tailComes 165 = .ok (.iconst 0, 1) := by decide +kernel
theorem dX6_tailComes_166 : decode cX6_tailComes 166 = .ok (.ireturn, 1) := by decide +kernel
theorem dX6_firstParting_0 : decode cX6_firstParting 0 = .ok (.aload_n 0, 1) := by decide +kernel
theorem dX6_firstParting_1 : decode cX6_firstParting 1 = .ok (.getfield 69, 3) := by decide +kernel
theorem dX6_firstParting_4 : decode cX6_firstParting 4 = .ok (.getfield 115, 3) := by decide +kernel
theorem dX6_firstParting_7 : decode cX6_firstParting 7 = .ok (.astore_n 3, 1) := by decide +kernel
theorem dX6_firstParting_8 : decode cX6_firstParting 8 = .ok (.iconst 0, 1) := by decide +kernel
theorem dX6_firstParting_9 : decode cX6_firstParting 9 = .ok (.istore 4, 2) := by decide +kernel
theorem dX6_firstParting_11 : decode cX6_firstParting 11 = .ok (.iload 4, 2) := by decide +kernel
theorem dX6_firstParting_13 : decode cX6_firstParting 13 = .ok (.aload_n 0, 1) := by decide +kernel
theorem dX6_firstParting_14 : decode cX6_firstParting 14 = .ok (.getfield 66, 3) := by decide +kernel
theorem dX6_firstParting_17 : decode cX6_firstParting 17 = .ok (.getfield 61, 3) := by decide +kernel
theorem dX6_firstParting_20 : decode cX6_firstParting 20 = .ok (.if_icmp .ge 48, 3) := by decide +kernel
theorem dX6_firstParting_23 : decode cX6_firstParting 23 = .ok (.aload_n 0, 1) := by decide +kernel
theorem dX6_firstParting_24 : decode cX6_firstParting 24 = .ok (.getfield 66, 3) := by decide +kernel
theorem dX6_firstParting_27 : decode cX6_firstParting 27 = .ok (.iload 4, 2) := by decide +kernel
theorem dX6_firstParting_29 : decode cX6_firstParting 29 = .ok (.invokevirtual 132, 3) := by decide +kernel
theorem dX6_firstParting_32 : decode cX6_firstParting 32 = .ok (.lstore 5, 2) := by decide +kernel
theorem dX6_firstParting_34 : decode cX6_firstParting 34 = .ok (.aload_n 3, 1) := by decide +kernel
theorem dX6_firstParting_35 : decode cX6_firstParting 35 = .ok (.aload_n 3, 1) := by decide +kernel
theorem dX6_firstParting_36 : decode cX6_firstParting 36 = .ok (.iload_n 1, 1) := by decide +kernel
theorem dX6_firstParting_37 : decode cX6_firstParting 37 = .ok (.lload 5, 2) := by decide +kernel
theorem dX6_firstParting_39 : decode cX6_firstParting 39 = .ok (.invokevirtual 163, 3) := by decide +kernel
theorem dX6_firstParting_42 : decode cX6_firstParting 42 = .ok (.invokevirtual 186, 3) := by decide +kernel
theorem dX6_firstParting_45 : decode cX6_firstParting 45 = .ok (.aload_n 3, 1) := by decide +kernel
theorem dX6_firstParting_46 : decode cX6_firstParting 46 = .ok (.aload_n 3, 1) := by decide +kernel
theorem dX6_firstParting_47 : decode cX6_firstParting 47 = .ok (.iload_n 2, 1) := by decide +kernel
theorem dX6_firstParting_48 : decode cX6_firstParting 48 = .ok (.lload 5, 2) := by decide +kernel
theorem dX6_firstParting_50 : decode cX6_firstParting 50 = .ok (.invokevirtual 163, 3) := by decide +kernel
theorem dX6_firstParting_53 : decode cX6_firstParting 53 = .ok (.invokevirtual 186, 3) := by decide +kernel
theorem dX6_firstParting_56 : decode cX6_firstParting 56 = .ok (.if_icmp .eq 6, 3) := by decide +kernel
theorem dX6_firstParting_59 : decode cX6_firstParting 59 = .ok (.lload 5, 2) := by decide +kernel
theorem dX6_firstParting_61 : decode cX6_firstParting 61 = .ok (.lreturn, 1) := by decide +kernel
theorem dX6_firstParting_62 : decode cX6_firstParting 62 = .ok (.iinc 4 1, 3) := by decide +kernel
theorem dX6_firstParting_65 : decode cX6_firstParting 65 = .ok (.goto (-54), 3) := by decide +kernel
theorem dX6_firstParting_68 : decode cX6_firstParting 68 = .ok (.lconst 1, 1) := by decide +kernel
theorem dX6_firstParting_69 : decode cX6_firstParting 69 = .ok (.lreturn, 1) := by decide +kernel
theorem dX6_joinStates_0 : decode cX6_joinStates 0 = .ok (.iconst 0, 1) := by decide +kernel
theorem dX6_joinStates_1 : decode cX6_joinStates 1 = .ok (.istore_n 1, 1) := by decide +kernel
theorem dX6_joinStates_2 : decode cX6_joinStates 2 = .ok (.iload_n 1, 1) := by decide +kernel
theorem dX6_joinStates_3 : decode cX6_joinStates 3 = .ok (.aload_n 0, 1) := by decide +kernel
theorem dX6_joinStates_4 : decode cX6_joinStates 4 = .ok (.getfield 57, 3) := by decide +kernel
theorem dX6_joinStates_7 : decode cX6_joinStates 7 = .ok (.getfield 61, 3) := by decide +kernel
theorem dX6_joinStates_10 : decode cX6_joinStates 10 = .ok (.if_icmp .ge 32, 3) := by decide +kernel
theorem dX6_joinStates_13 : decode cX6_joinStates 13 = .ok (.aload_n 0, 1) := by decide +kernel
theorem dX6_joinStates_14 : decode cX6_joinStates 14 = .ok (.iload_n 1, 1) := by decide +kernel
theorem dX6_joinStates_15 : decode cX6_joinStates 15 = .ok (.invokevirtual 201, 3) := by decide +kernel
theorem dX6_joinStates_18 : decode cX6_joinStates 18 = .ok (.ifCond .eq 18, 3) := by decide +kernel
theorem dX6_joinStates_21 : decode cX6_joinStates 21 = .ok (.aload_n 0, 1) := by decide +kernel
theorem dX6_joinStates_22 : decode cX6_joinStates 22 = .ok (.getfield 211, 3) := by decide +kernel
theorem dX6_joinStates_25 : decode cX6_joinStates 25 = .ok (.aload_n 0, 1) := by decide +kernel
theorem dX6_joinStates_26 : decode cX6_joinStates 26 = .ok (.getfield 57, 3) := by decide +kernel
theorem dX6_joinStates_29 : decode cX6_joinStates 29 = .ok (.iload_n 1, 1) := by decide +kernel
theorem dX6_joinStates_30 : decode cX6_joinStates 30 = .ok (.invokevirtual 132, 3) := by decide +kernel
theorem dX6_joinStates_33 : decode cX6_joinStates 33 = .ok (.invokevirtual 99, 3) := by decide +kernel
theorem dX6_joinStates_36 : decode cX6_joinStates 36 = .ok (.iinc 1 1, 3) := by decide +kernel
theorem dX6_joinStates_39 : decode cX6_joinStates 39 = .ok (.goto (-37), 3) := by decide +kernel
theorem dX6_joinStates_42 : decode cX6_joinStates 42 = .ok (.iconst 0, 1) := by decide +kernel
theorem dX6_joinStates_43 : decode cX6_joinStates 43 = .ok (.istore_n 1, 1) := by decide +kernel
theorem dX6_joinStates_44 : decode cX6_joinStates 44 = .ok (.iload_n 1, 1) := by decide +kernel
theorem dX6_joinStates_45 : decode cX6_joinStates 45 = .ok (.aload_n 0, 1) := by decide +kernel
theorem dX6_joinStates_46 : decode cX6_joinStates 46 = .ok (.getfield 57, 3) := by decide +kernel
theorem dX6_joinStates_49 : decode cX6_joinStates 49 = .ok (.getfield 61, 3) := by decide +kernel
theorem dX6_joinStates_52 : decode cX6_joinStates 52 = .ok (.if_icmp .ge 81, 3) := by decide +kernel
theorem dX6_joinStates_55 : decode cX6_joinStates 55 = .ok (.aload_n 0, 1) := by decide +kernel
theorem dX6_joinStates_56 : decode cX6_joinStates 56 = .ok (.getfield 211, 3) := by decide +kernel
theorem dX6_joinStates_59 : decode cX6_joinStates 59 = .ok (.aload_n 0, 1) := by decide +kernel
theorem dX6_joinStates_60 : decode cX6_joinStates 60 = .ok (.getfield 57, 3) := by decide +kernel
theorem dX6_joinStates_63 : decode cX6_joinStates 63 = .ok (.iload_n 1, 1) := by decide +kernel
theorem dX6_joinStates_64 : decode cX6_joinStates 64 = .ok (.invokevirtual 132, 3) := by decide +kernel
theorem dX6_joinStates_67 : decode cX6_joinStates 67 = .ok (.invokevirtual 214, 3) := by decide +kernel
theorem dX6_joinStates_70 : decode cX6_joinStates 70 = .ok (.istore_n 2, 1) := by decide +kernel
theorem dX6_joinStates_71 : decode cX6_joinStates 71 = .ok (.iconst 0, 1) := by decide +kernel
theorem dX6_joinStates_72 : decode cX6_joinStates 72 = .ok (.istore_n 3, 1) := by decide +kernel
theorem dX6_joinStates_73 : decode cX6_joinStates 73 = .ok (.iload_n 3, 1) := by decide +kernel
theorem dX6_joinStates_74 : decode cX6_joinStates 74 = .ok (.aload_n 0, 1) := by decide +kernel
theorem dX6_joinStates_75 : decode cX6_joinStates 75 = .ok (.getfield 69, 3) := by decide +kernel
theorem dX6_joinStates_78 : decode cX6_joinStates 78 = .ok (.getfield 115, 3) := by decide +kernel
theorem dX6_joinStates_81 : decode cX6_joinStates 81 = .ok (.getfield 119, 3) := by decide +kernel
theorem dX6_joinStates_84 : decode cX6_joinStates 84 = .ok (.if_icmp .ge 43, 3) := by decide +kernel
theorem dX6_joinStates_87 : decode cX6_joinStates 87 = .ok (.iload_n 2, 1) := by decide +kernel
theorem dX6_joinStates_88 : decode cX6_joinStates 88 = .ok (.iconst (-1), 1) := by decide +kernel
theorem dX6_joinStates_89 : decode cX6_joinStates 89 = .ok (.if_icmp .eq 38, 3) := by decide +kernel
theorem dX6_joinStates_92 : decode cX6_joinStates 92 = .ok (.aload_n 0, 1) := by decide +kernel
theorem dX6_joinStates_93 : decode cX6_joinStates 93 = .ok (.getfield 217, 3) := by decide +kernel
theorem dX6_joinStates_96 : decode cX6_joinStates 96 = .ok (.iload_n 2, 1) := by decide +kernel
theorem dX6_joinStates_97 : decode cX6_joinStates 97 = .ok (.iload_n 3, 1) := by decide +kernel
theorem dX6_joinStates_98 : decode cX6_joinStates 98 = .ok (.aload_n 0, 1) := by decide +kernel
theorem dX6_joinStates_99 : decode cX6_joinStates 99 = .ok (.getfield 211, 3) := by decide +kernel
theorem dX6_joinStates_102 : decode cX6_joinStates 102 = .ok (.aload_n 0, 1) := by decide +kernel
theorem dX6_joinStates_103 : decode cX6_joinStates 103 = .ok (.getfield 57, 3) := by decide +kernel
theorem dX6_joinStates_106 : decode cX6_joinStates 106 = .ok (.aload_n 0, 1) := by decide +kernel
theorem dX6_joinStates_107 : decode cX6_joinStates 107 = .ok (.iload_n 1, 1) := by decide +kernel
theorem dX6_joinStates_108 : decode cX6_joinStates 108 = .ok (.iload_n 3, 1) := by decide +kernel
theorem dX6_joinStates_109 : decode cX6_joinStates 109 = .ok (.invokevirtual 205, 3) := by decide +kernel
theorem dX6_joinStates_112 : decode cX6_joinStates 112 = .ok (.invokevirtual 132, 3) := by decide +kernel
theorem dX6_joinStates_115 : decode cX6_joinStates 115 = .ok (.invokevirtual 214, 3) := by decide +kernel
theorem dX6_joinStates_118 : decode cX6_joinStates 118 = .ok (.invokevirtual 220, 3) := by decide +kernel
theorem dX6_joinStates_121 : decode cX6_joinStates 121 = .ok (.iinc 3 1, 3) := by decide +kernel
theorem dX6_joinStates_124 : decode cX6_joinStates 124 = .ok (.goto (-51), 3) := by decide +kernel
theorem dX6_joinStates_127 : decode cX6_joinStates 127 = .ok (.iinc 1 1, 3) := by decide +kernel
theorem dX6_joinStates_130 : decode cX6_joinStates 130 = .ok (.goto (-86), 3) := by decide +kernel
theorem dX6_joinStates_133 : decode cX6_joinStates 133 = .ok (.return_, 1) := by decide +kernel
theorem dX7_init_0 : decode cX7_init 0 = .ok (.aload_n 0, 1) := by decide +kernel
theorem dX7_init_1 : decode cX7_init 1 = .ok (.invokespecial 3, 3) := by decide +kernel
theorem dX7_init_4 : decode cX7_init 4 = .ok (.aload_n 0, 1) := by decide +kernel
theorem dX7_init_5 : decode cX7_init 5 = .ok (.bipush 64, 2) := by decide +kernel
theorem dX7_init_7 : decode cX7_init 7 = .ok (.newarray .int, 2) := by decide +kernel
theorem dX7_init_9 : decode cX7_init 9 = .ok (.putfield 9, 3) := by decide +kernel
theorem dX7_init_12 : decode cX7_init 12 = .ok (.return_, 1) := by decide +kernel
theorem dX7_append_0 : decode cX7_append 0 = .ok (.aload_n 0, 1) := by decide +kernel
theorem dX7_append_1 : decode cX7_append 1 = .ok (.getfield 15, 3) := by decide +kernel
theorem dX7_append_4 : decode cX7_append 4 = .ok (.iconst 4, 1) := by decide +kernel
theorem dX7_append_5 : decode cX7_append 5 = .ok (.iadd, 1) := by decide +kernel
theorem dX7_append_6 : decode cX7_append 6 = .ok (.aload_n 0, 1) := by decide +kernel
theorem dX7_append_7 : decode cX7_append 7 = .ok (.getfield 9, 3) := by decide +kernel
theorem dX7_append_10 : decode cX7_append 10 = .ok (.arraylength, 1) := by decide +kernel
theorem dX7_append_11 : decode cX7_append 11 = .ok (.if_icmp .le 5, 3) := by decide +kernel
theorem dX7_append_14 : decode cX7_append 14 = .ok (.iconst (-1), 1) := by decide +kernel
theorem dX7_append_15 : decode cX7_append 15 = .ok (.ireturn, 1) := by decide +kernel
theorem dX7_append_16 : decode cX7_append 16 = .ok (.bipush 24, 2) := by decide +kernel
theorem dX7_append_18 : decode cX7_append 18 = .ok (.istore_n 2, 1) := by decide +kernel
theorem dX7_append_19 : decode cX7_append 19 = .ok (.iload_n 2, 1) := by decide +kernel
theorem dX7_append_20 : decode cX7_append 20 = .ok (.ifCond .lt 32, 3) := by decide +kernel
theorem dX7_append_23 : decode cX7_append 23 = .ok (.aload_n 0, 1) := by decide +kernel
theorem dX7_append_24 : decode cX7_append 24 = .ok (.getfield 9, 3) := by decide +kernel
theorem dX7_append_27 : decode cX7_append 27 = .ok (.aload_n 0, 1) := by decide +kernel
theorem dX7_append_28 : decode cX7_append 28 = .ok (.dup, 1) := by decide +kernel
theorem dX7_append_29 : decode cX7_append 29 = .ok (.getfield 15, 3) := by decide +kernel
theorem dX7_append_32 : decode cX7_append 32 = .ok (.dup_x1, 1) := by decide +kernel
theorem dX7_append_33 : decode cX7_append 33 = .ok (.iconst 1, 1) := by decide +kernel
theorem dX7_append_34 : decode cX7_append 34 = .ok (.iadd, 1) := by decide +kernel
theorem dX7_append_35 : decode cX7_append 35 = .ok (.putfield 15, 3) := by decide +kernel
theorem dX7_append_38 : decode cX7_append 38 = .ok (.iload_n 1, 1) := by decide +kernel
theorem dX7_append_39 : decode cX7_append 39 = .ok (.iload_n 2, 1) := by decide +kernel
theorem dX7_append_40 : decode cX7_append 40 = .ok (.iushr, 1) := by decide +kernel
theorem dX7_append_41 : decode cX7_append 41 = .ok (.sipush 255, 3) := by decide +kernel
theorem dX7_append_44 : decode cX7_append 44 = .ok (.iand, 1) := by decide +kernel
theorem dX7_append_45 : decode cX7_append 45 = .ok (.iastore, 1) := by decide +kernel
theorem dX7_append_46 : decode cX7_append 46 = .ok (.iinc 2 (-8), 3) := by decide +kernel
theorem dX7_append_49 : decode cX7_append 49 = .ok (.goto (-30), 3) := by decide +kernel
theorem dX7_append_52 : decode cX7_append 52 = .ok (.aload_n 0, 1) := by decide +kernel
theorem dX7_append_53 : decode cX7_append 53 = .ok (.getfield 15, 3) := by decide +kernel
theorem dX7_append_56 : decode cX7_append 56 = .ok (.ireturn, 1) := by decide +kernel
theorem dX7_shorten_0 : decode cX7_shorten 0 = .ok (.iload_n 1, 1) := by decide +kernel
theorem dX7_shorten_1 : decode cX7_shorten 1 = .ok (.ifCond .lt 11, 3) := by decide +kernel
theorem dX7_shorten_4 : decode cX7_shorten 4 = .ok (.iload_n 1, 1) := by decide +kernel
theorem dX7_shorten_5 : decode cX7_shorten 5 = .ok (.aload_n 0, 1) := by decide +kernel
theorem dX7_shorten_6 : decode cX7_shorten 6 = .ok (.getfield 15, 3) := by decide +kernel
theorem dX7_shorten_9 : decode cX7_shorten 9 = .ok (.if_icmp .le 5, 3) := by decide +kernel
theorem dX7_shorten_12 : decode cX7_shorten 12 = .ok (.iconst 0, 1) := by decide +kernel
theorem dX7_shorten_13 : decode cX7_shorten 13 = .ok (.ireturn, 1) := by decide +kernel
theorem dX7_shorten_14 : decode cX7_shorten 14 = .ok (.aload_n 0, 1) := by decide +kernel
theorem dX7_shorten_15 : decode cX7_shorten 15 = .ok (.iload_n 1, 1) := by decide +kernel
theorem dX7_shorten_16 : decode cX7_shorten 16 = .ok (.putfield 15, 3) := by decide +kernel
theorem dX7_shorten_19 : decode cX7_shorten 19 = .ok (.iconst 1, 1) := by decide +kernel
theorem dX7_shorten_20 : decode cX7_shorten 20 = .ok (.ireturn, 1) := by decide +kernel
theorem dX7_read_0 : decode cX7_read 0 = .ok (.aload_n 0, 1) := by decide +kernel
theorem dX7_read_1 : decode cX7_read 1 = .ok (.iconst 0, 1) := by decide +kernel
theorem dX7_read_2 : decode cX7_read 2 = .ok (.putfield 19, 3) := by decide +kernel
theorem dX7_read_5 : decode cX7_read 5 = .ok (.iconst 0, 1) := by decide +kernel
theorem dX7_read_6 : decode cX7_read 6 = .ok (.istore_n 2, 1) := by decide +kernel
theorem dX7_read_7 : decode cX7_read 7 = .ok (.iload_n 2, 1) := by decide +kernel
theorem dX7_read_8 : decode cX7_read 8 = .ok (.bipush 8, 2) := by decide +kernel
theorem dX7_read_10 : decode cX7_read 10 = .ok (.if_icmp .ge 78, 3) := by decide +kernel
theorem dX7_read_13 : decode cX7_read 13 = .ok (.aload_n 0, 1) := by decide +kernel
theorem dX7_read_14 : decode cX7_read 14 = .ok (.aload_n 1, 1) := by decide +kernel
theorem dX7_read_15 : decode cX7_read 15 = .ok (.iload_n 2, 1) := by decide +kernel
theorem dX7_read_16 : decode cX7_read 16 = .ok (.invokevirtual 22, 3) := by decide +kernel
theorem dX7_read_19 : decode cX7_read 19 = .ok (.ifCond .ne 11, 3) := by decide +kernel
theorem dX7_read_22 : decode cX7_read 22 = .ok (.bipush (-21), 2) := by decide +kernel
theorem dX7_read_24 : decode cX7_read 24 = .ok (.aload_n 0, 1) := by decide +kernel
theorem dX7_read_25 : decode cX7_read 25 = .ok (.getfield 19, 3) := by decide +kernel
theorem dX7_read_28 : decode cX7_read 28 = .ok (.isub, 1) := by decide +kernel
theorem dX7_read_29 : decode cX7_read 29 = .ok (.ireturn, 1) := by decide +kernel
theorem dX7_read_30 : decode cX7_read 30 = .ok (.aload_n 1, 1) := by decide +kernel
theorem dX7_read_31 : decode cX7_read 31 = .ok (.iload_n 2, 1) := by decide +kernel
theorem dX7_read_32 : decode cX7_read 32 = .ok (.iconst 1, 1) := by decide +kernel
theorem dX7_read_33 : decode cX7_read 33 = .ok (.iadd, 1) := by decide +kernel
theorem dX7_read_34 : decode cX7_read 34 = .ok (.aload_n 1, 1) := by decide +kernel
theorem dX7_read_35 : decode cX7_read 35 = .ok (.getfield 26, 3) := by decide +kernel
theorem dX7_read_38 : decode cX7_read 38 = .ok (.invokevirtual 31, 3) := by decide +kernel
theorem dX7_read_41 : decode cX7_read 41 = .ok (.aload_n 0, 1) := by decide +kernel
theorem dX7_read_42 : decode cX7_read 42 = .ok (.getfield 19, 3) := by decide +kernel
theorem dX7_read_45 : decode cX7_read 45 = .ok (.aload_n 0, 1) := by decide +kernel
theorem dX7_read_46 : decode cX7_read 46 = .ok (.getfield 15, 3) := by decide +kernel
theorem dX7_read_49 : decode cX7_read 49 = .ok (.if_icmp .ne 8, 3) := by decide +kernel
theorem dX7_read_52 : decode cX7_read 52 = .ok (.aload_n 1, 1) := by decide +kernel
theorem dX7_read_53 : decode cX7_read 53 = .ok (.getfield 35, 3) := by decide +kernel
theorem dX7_read_56 : decode cX7_read 56 = .ok (.ireturn, 1) := by decide +kernel
theorem dX7_read_57 : decode cX7_read 57 = .ok (.iload_n 2, 1) := by decide +kernel
theorem dX7_read_58 : decode cX7_read 58 = .ok (.iconst 1, 1) := by decide +kernel
theorem dX7_read_59 : decode cX7_read 59 = .ok (.iadd, 1) := by decide +kernel
theorem dX7_read_60 : decode cX7_read 60 = .ok (.bipush 8, 2) := by decide +kernel
theorem dX7_read_62 : decode cX7_read 62 = .ok (.if_icmp .eq 12, 3) := by decide +kernel
theorem dX7_read_65 : decode cX7_read 65 = .ok (.aload_n 0, 1) := by decide +kernel
theorem dX7_read_66 : decode cX7_read 66 = .ok (.bipush 59, 2) := by decide +kernel
theorem dX7_read_68 : decode cX7_read 68 = .ok (.invokevirtual 38, 3) := by decide +kernel
theorem dX7_read_71 : decode cX7_read 71 = .ok (.ifCond .ne 11, 3) := by decide +kernel
theorem dX7_read_74 : decode cX7_read 74 = .ok (.bipush (-21), 2) := by decide +kernel
theorem dX7_read_76 : decode cX7_read 76 = .ok (.aload_n 0, 1) := by decide +kernel
theorem dX7_read_77 : decode cX7_read 77 = .ok (.getfield 19, 3) := by decide +kernel
theorem dX7_read_80 : decode cX7_read 80 = .ok (.isub, 1) := by decide +kernel
theorem dX7_read_81 : decode cX7_read 81 = .ok (.ireturn, 1) := by decide +kernel
theorem dX7_read_82 : decode cX7_read 82 = .ok (.iinc 2 1, 3) := by decide +kernel
theorem dX7_read_85 : decode cX7_read 85 = .ok (.goto (-78), 3) := by decide +kernel
theorem dX7_read_88 : decode cX7_read 88 = .ok (.bipush (-21), 2) := by decide +kernel
theorem dX7_read_90 : decode cX7_read 90 = .ok (.aload_n 0, 1) := by decide +kernel
theorem dX7_read_91 : decode cX7_read 91 = .ok (.getfield 19, 3) := by decide +kernel
theorem dX7_read_94 : decode cX7_read 94 = .ok (.isub, 1) := by decide +kernel
theorem dX7_read_95 : decode cX7_read 95 = .ok (.ireturn, 1) := by decide +kernel
theorem dX7_readState_0 : decode cX7_readState 0 = .ok (.aload_n 0, 1) := by decide +kernel
theorem dX7_readState_1 : decode cX7_readState 1 = .ok (.iconst 4, 1) := by decide +kernel
theorem dX7_readState_2 : decode cX7_readState 2 = .ok (.invokevirtual 42, 3) := by decide +kernel
theorem dX7_readState_5 : decode cX7_readState 5 = .ok (.istore_n 3, 1) := by decide +kernel
theorem dX7_readState_6 : decode cX7_readState 6 = .ok (.iload_n 3, 1) := by decide +kernel
theorem dX7_readState_7 : decode cX7_readState 7 = .ok (.ifCond .ge 5, 3) := by decide +kernel
theorem dX7_readState_10 : decode cX7_readState 10 = .ok (.iconst 0, 1) := by decide +kernel
theorem dX7_readState_11 : decode cX7_readState 11 = .ok (.ireturn, 1) := by decide +kernel
theorem dX7_readState_12 : decode cX7_readState 12 = .ok (.aload_n 1, 1) := by decide +kernel
theorem dX7_readState_13 : decode cX7_readState 13 = .ok (.iload_n 2, 1) := by decide +kernel
theorem dX7_readState_14 : decode cX7_readState 14 = .ok (.iload_n 3, 1) := by decide +kernel
theorem dX7_readState_15 : decode cX7_readState 15 = .ok (.invokevirtual 46, 3) := by decide +kernel
theorem dX7_readState_18 : decode cX7_readState 18 = .ok (.aload_n 0, 1) := by decide +kernel
theorem dX7_readState_19 : decode cX7_readState 19 = .ok (.bipush 58, 2) := by decide +kernel
theorem dX7_readState_21 : decode cX7_readState 21 = .ok (.invokevirtual 38, 3) := by decide +kernel
theorem dX7_readState_24 : decode cX7_readState 24 = .ok (.ifCond .ne 5, 3) := by decide +kernel
theorem dX7_readState_27 : decode cX7_readState 27 = .ok (.iconst 0, 1) := by decide +kernel
theorem dX7_readState_28 : decode cX7_readState 28 = .ok (.ireturn, 1) := by decide +kernel
theorem dX7_readState_29 : decode cX7_readState 29 = .ok (.iconst 0, 1) := by decide +kernel
theorem dX7_readState_30 : decode cX7_readState 30 = .ok (.istore 4, 2) := by decide +kernel
theorem dX7_readState_32 : decode cX7_readState 32 = .ok (.iload 4, 2) := by decide +kernel
theorem dX7_readState_34 : decode cX7_readState 34 = .ok (.iconst 3, 1) := by decide +kernel
theorem dX7_readState_35 : decode cX7_readState 35 = .ok (.if_icmp .ge 111, 3) := by decide +kernel
theorem dX7_readState_38 : decode cX7_readState 38 = .ok (.aload_n 0, 1) := by decide +kernel
theorem dX7_readState_39 : decode cX7_readState 39 = .ok (.bipush 8, 2) := by decide +kernel
theorem dX7_readState_41 : decode cX7_readState 41 = .ok (.invokevirtual 42, 3) := by decide +kernel
theorem dX7_readState_44 : decode cX7_readState 44 = .ok (.istore 5, 2) := by decide +kernel
theorem dX7_readState_46 : decode cX7_readState 46 = .ok (.iload 5, 2) := by decide +kernel
theorem dX7_readState_48 : decode cX7_readState 48 = .ok (.ifCond .ge 5, 3) := by decide +kernel
theorem dX7_readState_51 : decode cX7_readState 51 = .ok (.iconst 0, 1) := by decide +kernel
theorem dX7_readState_52 : decode cX7_readState 52 = .ok (.ireturn, 1) := by decide +kernel
theorem dX7_readState_53 : decode cX7_readState 53 = .ok (.aload_n 1, 1) := by decide +kernel
theorem dX7_readState_54 : decode cX7_readState 54 = .ok (.iload_n 2, 1) := by decide +kernel
theorem dX7_readState_55 : decode cX7_readState 55 = .ok (.iload 4, 2) := by decide +kernel
theorem dX7_readState_57 : decode cX7_readState 57 = .ok (.iload 5, 2) := by decide +kernel
theorem dX7_readState_59 : decode cX7_readState 59 = .ok (.invokevirtual 49, 3) := by decide +kernel
theorem dX7_readState_62 : decode cX7_readState 62 = .ok (.iload_n 2, 1) := by decide +kernel
theorem dX7_readState_63 : decode cX7_readState 63 = .ok (.ifCond .ne 12, 3) := by decide +kernel
theorem dX7_readState_66 : decode cX7_readState 66 = .ok (.aload_n 1, 1) := by decide +kernel
theorem dX7_readState_67 : decode cX7_readState 67 = .ok (.iconst 0, 1) := by decide +kernel
theorem dX7_readState_68 : decode cX7_readState 68 = .ok (.iload 4, 2) := by decide +kernel
theorem dX7_readState_70 : decode cX7_readState 70 = .ok (.iconst 1, 1) := by decide +kernel
theorem dX7_readState_71 : decode cX7_readState 71 = .ok (.iadd, 1) := by decide +kernel
theorem dX7_readState_72 : decode cX7_readState 72 = .ok (.invokevirtual 31, 3) := by decide +kernel
theorem dX7_readState_75 : decode cX7_readState 75 = .ok (.iload_n 2, 1) := by decide +kernel
theorem dX7_readState_76 : decode cX7_readState 76 = .ok (.ifCond .ne 28, 3) := by decide +kernel
theorem dX7_readState_79 : decode cX7_readState 79 = .ok (.iload 4, 2) := by decide +kernel
theorem dX7_readState_81 : decode cX7_readState 81 = .ok (.iconst 1, 1) := by decide +kernel
theorem dX7_readState_82 : decode cX7_readState 82 = .ok (.iadd, 1) := by decide +kernel
theorem dX7_readState_83 : decode cX7_readState 83 = .ok (.iconst 3, 1) := by decide +kernel
theorem dX7_readState_84 : decode cX7_readState 84 = .ok (.if_icmp .eq 12, 3) := by decide +kernel
theorem dX7_readState_87 : decode cX7_readState 87 = .ok (.aload_n 0, 1) := by decide +kernel
theorem dX7_readState_88 : decode cX7_readState 88 = .ok (.invokevirtual 53, 3) := by decide +kernel
theorem dX7_readState_91 : decode cX7_readState 91 = .ok (.bipush 44, 2) := by decide +kernel
theorem dX7_readState_93 : decode cX7_readState 93 = .ok (.if_icmp .eq 7, 3) := by decide +kernel
theorem dX7_readState_96 : decode cX7_readState 96 = .ok (.iconst 1, 1) := by decide +kernel
theorem dX7_readState_97 : decode cX7_readState 97 = .ok (.goto 23, 3) := by decide +kernel
theorem dX7_readState_100 : decode cX7_readState 100 = .ok (.iconst 0, 1) := by decide +kernel
theorem dX7_readState_101 : decode cX7_readState 101 = .ok (.goto 19, 3) := by decide +kernel
theorem dX7_readState_104 : decode cX7_readState 104 = .ok (.iload 4, 2) := by decide +kernel
theorem dX7_readState_106 : decode cX7_readState 106 = .ok (.iconst 1, 1) := by decide +kernel
theorem dX7_readState_107 : decode cX7_readState 107 = .ok (.iadd, 1) := by decide +kernel
theorem dX7_readState_108 : decode cX7_readState 108 = .ok (.aload_n 1, 1) := by decide +kernel
theorem dX7_readState_109 : decode cX7_readState 109 = .ok (.getfield 26, 3) := by decide +kernel
theorem dX7_readState_112 : decode cX7_readState 112 = .ok (.if_icmp .ne 7, 3) := by decide +kernel
theorem dX7_readState_115 : decode cX7_readState 115 = .ok (.iconst 1, 1) := by decide +kernel
theorem dX7_readState_116 : decode cX7_readState 116 = .ok (.goto 4, 3) := by decide +kernel
theorem dX7_readState_119 : decode cX7_readState 119 = .ok (.iconst 0, 1) := by decide +kernel
theorem dX7_readState_120 : decode cX7_readState 120 = .ok (.istore 6, 2) := by decide +kernel
theorem dX7_readState_122 : decode cX7_readState 122 = .ok (.iload 6, 2) := by decide +kernel
theorem dX7_readState_124 : decode cX7_readState 124 = .ok (.ifCond .eq 5, 3) := by decide +kernel
theorem dX7_readState_127 : decode cX7_readState 127 = .ok (.iconst 1, 1) := by decide +kernel
theorem dX7_readState_128 : decode cX7_readState 128 = .ok (.ireturn, 1) := by decide +kernel
theorem dX7_readState_129 : decode cX7_readState 129 = .ok (.aload_n 0, 1) := by decide +kernel
theorem dX7_readState_130 : decode cX7_readState 130 = .ok (.bipush 44, 2) := by decide +kernel
theorem dX7_readState_132 : decode cX7_readState 132 = .ok (.invokevirtual 38, 3) := by decide +kernel
theorem dX7_readState_135 : decode cX7_readState 135 = .ok (.ifCond .ne 5, 3) := by decide +kernel
theorem dX7_readState_138 : decode cX7_readState 138 = .ok (.iconst 0, 1) := by decide +kernel
theorem dX7_readState_139 : decode cX7_readState 139 = .ok (.ireturn, 1) := by decide +kernel
theorem dX7_readState_140 : decode cX7_readState 140 = .ok (.iinc 4 1, 3) := by decide +kernel
theorem dX7_readState_143 : decode cX7_readState 143 = .ok (.goto (-111), 3) := by decide +kernel
theorem dX7_readState_146 : decode cX7_readState 146 = .ok (.iconst 0, 1) := by decide +kernel
theorem dX7_readState_147 : decode cX7_readState 147 = .ok (.ireturn, 1) := by decide +kernel
theorem dX7_signHere_0 : decode cX7_signHere 0 = .ok (.aload_n 0, 1) := by decide +kernel
theorem dX7_signHere_1 : decode cX7_signHere 1 = .ok (.getfield 19, 3) := by decide +kernel
theorem dX7_signHere_4 : decode cX7_signHere 4 = .ok (.aload_n 0, 1) := by decide +kernel
theorem dX7_signHere_5 : decode cX7_signHere 5 = .ok (.getfield 15, 3) := by decide +kernel
theorem dX7_signHere_8 : decode cX7_signHere 8 = .ok (.if_icmp .ge 27, 3) := by decide +kernel
theorem dX7_signHere_11 : decode cX7_signHere 11 = .ok (.aload_n 0, 1) := by decide +kernel
theorem dX7_signHere_12 : decode cX7_signHere 12 = .ok (.getfield 19, 3) := by decide +kernel
theorem dX7_signHere_15 : decode cX7_signHere 15 = .ok (.aload_n 0, 1) := by decide +kernel
theorem dX7_signHere_16 : decode cX7_signHere 16 = .ok (.getfield 9, 3) := by decide +kernel
theorem dX7_signHere_19 : decode cX7_signHere 19 = .ok (.arraylength, 1) := by decide +kernel
theorem dX7_signHere_20 : decode cX7_signHere 20 = .ok (.if_icmp .ge 15, 3) := by decide +kernel
theorem dX7_signHere_23 : decode cX7_signHere 23 = .ok (.aload_n 0, 1) := by decide +kernel
theorem dX7_signHere_24 : decode cX7_signHere 24 = .ok (.getfield 9, 3) := by decide +kernel
theorem dX7_signHere_27 : decode cX7_signHere 27 = .ok (.aload_n 0, 1) := by decide +kernel
theorem dX7_signHere_28 : decode cX7_signHere 28 = .ok (.getfield 19, 3) := by decide +kernel
theorem dX7_signHere_31 : decode cX7_signHere 31 = .ok (.iaload, 1) := by decide +kernel
theorem dX7_signHere_32 : decode cX7_signHere 32 = .ok (.goto 4, 3) := by decide +kernel
theorem dX7_signHere_35 : decode cX7_signHere 35 = .ok (.iconst (-1), 1) := by decide +kernel
theorem dX7_signHere_36 : decode cX7_signHere 36 = .ok (.ireturn, 1) := by decide +kernel
theorem dX7_takes_0 : decode cX7_takes 0 = .ok (.aload_n 0, 1) := by decide +kernel
theorem dX7_takes_1 : decode cX7_takes 1 = .ok (.invokevirtual 53, 3) := by decide +kernel
theorem dX7_takes_4 : decode cX7_takes 4 = .ok (.iload_n 1, 1) := by decide +kernel
theorem dX7_takes_5 : decode cX7_takes 5 = .ok (.if_icmp .eq 5, 3) := by decide +kernel
theorem dX7_takes_8 : decode cX7_takes 8 = .ok (.iconst 0, 1) := by decide +kernel
theorem dX7_takes_9 : decode cX7_takes 9 = .ok (.ireturn, 1) := by decide +kernel
theorem dX7_takes_10 : decode cX7_takes 10 = .ok (.aload_n 0, 1) := by decide +kernel
theorem dX7_takes_11 : decode cX7_takes 11 = .ok (.dup, 1) := by decide +kernel
theorem dX7_takes_12 : decode cX7_takes 12 = .ok (.getfield 19, 3) := by decide +kernel
theorem dX7_takes_15 : decode cX7_takes 15 = .ok (.iconst 1, 1) := by decide +kernel
theorem dX7_takes_16 : decode cX7_takes 16 = .ok (.iadd, 1) := by decide +kernel
theorem dX7_takes_17 : decode cX7_takes 17 = .ok (.putfield 19, 3) := by decide +kernel
theorem dX7_takes_20 : decode cX7_takes 20 = .ok (.iconst 1, 1) := by decide +kernel
theorem dX7_takes_21 : decode cX7_takes 21 = .ok (.ireturn, 1) := by decide +kernel
theorem dX7_digitBelow_0 : decode cX7_digitBelow 0 = .ok (.aload_n 0, 1) := by decide +kernel
theorem dX7_digitBelow_1 : decode cX7_digitBelow 1 = .ok (.invokevirtual 53, 3) := by decide +kernel
theorem dX7_digitBelow_4 : decode cX7_digitBelow 4 = .ok (.bipush 48, 2) := by decide +kernel
theorem dX7_digitBelow_6 : decode cX7_digitBelow 6 = .ok (.isub, 1) := by decide +kernel
theorem dX7_digitBelow_7 : decode cX7_digitBelow 7 = .ok (.istore_n 2, 1) := by decide +kernel
theorem dX7_digitBelow_8 : decode cX7_digitBelow 8 = .ok (.iload_n 2, 1) := by decide +kernel
theorem dX7_digitBelow_9 : decode cX7_digitBelow 9 = .ok (.ifCond .lt 8, 3) := by decide +kernel
theorem dX7_digitBelow_12 : decode cX7_digitBelow 12 = .ok (.iload_n 2, 1) := by decide +kernel
theorem dX7_digitBelow_13 : decode cX7_digitBelow 13 = .ok (.iload_n 1, 1) := by decide +kernel
theorem dX7_digitBelow_14 : decode cX7_digitBelow 14 = .ok (.if_icmp .lt 5, 3) := by decide +kernel
theorem dX7_digitBelow_17 : decode cX7_digitBelow 17 = .ok (.iconst (-1), 1) := by decide +kernel
theorem dX7_digitBelow_18 : decode cX7_digitBelow 18 = .ok (.ireturn, 1) := by decide +kernel
theorem dX7_digitBelow_19 : decode cX7_digitBelow 19 = .ok (.aload_n 0, 1) := by decide +kernel
theorem dX7_digitBelow_20 : decode cX7_digitBelow 20 = .ok (.dup, 1) := by decide +kernel
theorem dX7_digitBelow_21 : decode cX7_digitBelow 21 = .ok (.getfield 19, 3) := by decide +kernel
theorem dX7_digitBelow_24 : decode cX7_digitBelow 24 = .ok (.iconst 1, 1) := by decide +kernel
theorem dX7_digitBelow_25 : decode cX7_digitBelow 25 = .ok (.iadd, 1) := by decide +kernel
theorem dX7_digitBelow_26 : decode cX7_digitBelow 26 = .ok (.putfield 19, 3) := by decide +kernel
theorem dX7_digitBelow_29 : decode cX7_digitBelow 29 = .ok (.iload_n 2, 1) := by decide +kernel
theorem dX7_digitBelow_30 : decode cX7_digitBelow 30 = .ok (.ireturn, 1) := by decide +kernel
theorem dX8_init_0 : decode cX8_init 0 = .ok (.aload_n 0, 1) := by decide +kernel
theorem dX8_init_1 : decode cX8_init 1 = .ok (.aload_n 1, 1) := by decide +kernel
theorem dX8_init_2 : decode cX8_init 2 = .ok (.invokespecial 3, 3) := by decide +kernel
theorem dX8_init_5 : decode cX8_init 5 = .ok (.aload_n 0, 1) := by decide +kernel
theorem dX8_init_6 : decode cX8_init 6 = .ok (.bipush 32, 2) := by decide +kernel
theorem dX8_init_8 : decode cX8_init 8 = .ok (.newarray .int, 2) := by decide +kernel
theorem dX8_init_10 : decode cX8_init 10 = .ok (.putfield 9, 3) := by decide +kernel
theorem dX8_init_13 : decode cX8_init 13 = .ok (.return_, 1) := by decide +kernel
theorem dX8_begin_0 : decode cX8_begin 0 = .ok (.aload_n 0, 1) := by decide +kernel
theorem dX8_begin_1 : decode cX8_begin 1 = .ok (.getfield 9, 3) := by decide +kernel
theorem dX8_begin_4 : decode cX8_begin 4 = .ok (.iconst (-1), 1) := by decide +kernel
theorem dX8_begin_5 : decode cX8_begin 5 = .ok (.invokestatic 15, 3) := by decide +kernel
theorem dX8_begin_8 : decode cX8_begin 8 = .ok (.aload_n 0, 1) := by decide +kernel
theorem dX8_begin_9 : decode cX8_begin 9 = .ok (.aload_n 0, 1) := by decide +kernel
theorem dX8_begin_10 : decode cX8_begin 10 = .ok (.getfield 21, 3) := by decide +kernel
theorem dX8_begin_13 : decode cX8_begin 13 = .ok (.lconst 1, 1) := by decide +kernel
theorem dX8_begin_14 : decode cX8_begin 14 = .ok (.invokevirtual 25, 3) := by decide +kernel
theorem dX8_begin_17 : decode cX8_begin 17 = .ok (.iconst 0, 1) := by decide +kernel
theorem dX8_begin_18 : decode cX8_begin 18 = .ok (.invokevirtual 31, 3) := by decide +kernel
theorem dX8_begin_21 : decode cX8_begin 21 = .ok (.return_, 1) := by decide +kernel
theorem dX8_advance_0 : decode cX8_advance 0 = .ok (.aload_n 0, 1) := by decide +kernel
theorem dX8_advance_1 : decode cX8_advance 1 = .ok (.getfield 35, 3) := by decide +kernel
theorem dX8_advance_4 : decode cX8_advance 4 = .ok (.getfield 39, 3) := by decide +kernel
theorem dX8_advance_7 : decode cX8_advance 7 = .ok (.istore_n 1, 1) := by decide +kernel
theorem dX8_advance_8 : decode cX8_advance 8 = .ok (.iconst 0, 1) := by decide +kernel
theorem dX8_advance_9 : decode cX8_advance 9 = .ok (.istore_n 2, 1) := by decide +kernel
theorem dX8_advance_10 : decode cX8_advance 10 = .ok (.iload_n 2, 1) := by decide +kernel
theorem dX8_advance_11 : decode cX8_advance 11 = .ok (.iload_n 1, 1) := by decide +kernel
theorem dX8_advance_12 : decode cX8_advance 12 = .ok (.if_icmp .ge 82, 3) := by decide +kernel
theorem dX8_advance_15 : decode cX8_advance 15 = .ok (.iconst 0, 1) := by decide +kernel
theorem dX8_advance_16 : decode cX8_advance 16 = .ok (.istore_n 3, 1) := by decide +kernel
theorem dX8_advance_17 : decode cX8_advance 17 = .ok (.iload_n 3, 1) := by decide +kernel
theorem dX8_advance_18 : decode cX8_advance 18 = .ok (.aload_n 0, 1) := by decide +kernel
theorem dX8_advance_19 : decode cX8_advance 19 = .ok (.getfield 21, 3) := by decide +kernel
theorem dX8_advance_22 : decode cX8_advance 22 = .ok (.getfield 45, 3) := by decide +kernel
theorem dX8_advance_25 : decode cX8_advance 25 = .ok (.getfield 49, 3) := by decide +kernel
theorem dX8_advance_28 : decode cX8_advance 28 = .ok (.if_icmp .ge 60, 3) := by decide +kernel
theorem dX8_advance_31 : decode cX8_advance 31 = .ok (.aload_n 0, 1) := by decide +kernel
theorem dX8_advance_32 : decode cX8_advance 32 = .ok (.getfield 35, 3) := by decide +kernel
theorem dX8_advance_35 : decode cX8_advance 35 = .ok (.iload_n 2, 1) := by decide +kernel
theorem dX8_advance_36 : decode cX8_advance 36 = .ok (.invokevirtual 54, 3) := by decide +kernel
theorem dX8_advance_39 : decode cX8_advance 39 = .ok (.iload_n 3, 1) := by decide +kernel
theorem dX8_advance_40 : decode cX8_advance 40 = .ok (.invokestatic 58, 3) := by decide +kernel
theorem dX8_advance_43 : decode cX8_advance 43 = .ok (.lstore 4, 2) := by decide +kernel
theorem dX8_advance_45 : decode cX8_advance 45 = .ok (.aload_n 0, 1) := by decide +kernel
theorem dX8_advance_46 : decode cX8_advance 46 = .ok (.lload 4, 2) := by decide +kernel
theorem dX8_advance_48 : decode cX8_advance 48 = .ok (.invokevirtual 64, 3) := by decide +kernel
theorem dX8_advance_51 : decode cX8_advance 51 = .ok (.istore 6, 2) := by decide +kernel
theorem dX8_advance_53 : decode cX8_advance 53 = .ok (.iload 6, 2) := by decide +kernel
theorem dX8_advance_55 : decode cX8_advance 55 = .ok (.iconst (-1), 1) := by decide +kernel
theorem dX8_advance_56 : decode cX8_advance 56 = .ok (.if_icmp .ne 15, 3) := by decide +kernel
theorem dX8_advance_59 : decode cX8_advance 59 = .ok (.aload_n 0, 1) := by decide +kernel
theorem dX8_advance_60 : decode cX8_advance 60 = .ok (.aload_n 0, 1) := by decide +kernel
theorem dX8_advance_61 : decode cX8_advance 61 = .ok (.getfield 67, 3) := by decide +kernel
theorem dX8_advance_64 : decode cX8_advance 64 = .ok (.lload 4, 2) := by decide +kernel
theorem dX8_advance_66 : decode cX8_advance 66 = .ok (.invokevirtual 70, 3) := by decide +kernel
theorem dX8_advance_69 : decode cX8_advance 69 = .ok (.iconst 1, 1) := by decide +kernel
theorem dX8_advance_70 : decode cX8_advance 70 = .ok (.ireturn, 1) := by decide +kernel
theorem dX8_advance_71 : decode cX8_advance 71 = .ok (.aload_n 0, 1) := by decide +kernel
theorem dX8_advance_72 : decode cX8_advance 72 = .ok (.getfield 74, 3) := by decide +kernel
theorem dX8_advance_75 : decode cX8_advance 75 = .ok (.iload_n 2, 1) := by decide +kernel
theorem dX8_advance_76 : decode cX8_advance 76 = .ok (.iload_n 3, 1) := by decide +kernel
theorem dX8_advance_77 : decode cX8_advance 77 = .ok (.iload 6, 2) := by decide +kernel
theorem dX8_advance_79 : decode cX8_advance 79 = .ok (.invokevirtual 77, 3) := by decide +kernel
theorem dX8_advance_82 : decode cX8_advance 82 = .ok (.iinc 3 1, 3) := by decide +kernel
theorem dX8_advance_85 : decode cX8_advance 85 = .ok (.goto (-68), 3) := by decide +kernel
theorem dX8_advance_88 : decode cX8_advance 88 = .ok (.iinc 2 1, 3) := by decide +kernel
theorem dX8_advance_91 : decode cX8_advance 91 = .ok (.goto (-81), 3) := by decide +kernel
theorem dX8_advance_94 : decode cX8_advance 94 = .ok (.iconst 0, 1) := by decide +kernel
theorem dX8_advance_95 : decode cX8_advance 95 = .ok (.istore_n 2, 1) := by decide +kernel
theorem dX8_advance_96 : decode cX8_advance 96 = .ok (.iload_n 2, 1) := by decide +kernel
theorem dX8_advance_97 : decode cX8_advance 97 = .ok (.iload_n 1, 1) := by decide +kernel
theorem dX8_advance_98 : decode cX8_advance 98 = .ok (.if_icmp .ge 24, 3) := by decide +kernel
theorem dX8_advance_101 : decode cX8_advance 101 = .ok (.aload_n 0, 1) := by decide +kernel
theorem dX8_advance_102 : decode cX8_advance 102 = .ok (.getfield 81, 3) := by decide +kernel
theorem dX8_advance_105 : decode cX8_advance 105 = .ok (.aload_n 0, 1) := by decide +kernel
theorem dX8_advance_106 : decode cX8_advance 106 = .ok (.getfield 35, 3) := by decide +kernel
theorem dX8_advance_109 : decode cX8_advance 109 = .ok (.iload_n 2, 1) := by decide +kernel
theorem dX8_advance_110 : decode cX8_advance 110 = .ok (.invokevirtual 54, 3) := by decide +kernel
theorem dX8_advance_113 : decode cX8_advance 113 = .ok (.invokevirtual 84, 3) := by decide +kernel
theorem dX8_advance_116 : decode cX8_advance 116 = .ok (.iinc 2 1, 3) := by decide +kernel
theorem dX8_advance_119 : decode cX8_advance 119 = .ok (.goto (-23), 3) := by decide +kernel
theorem dX8_advance_122 : decode cX8_advance 122 = .ok (.aload_n 0, 1) := by decide +kernel
theorem dX8_advance_123 : decode cX8_advance 123 = .ok (.invokevirtual 88, 3) := by decide +kernel
theorem dX8_advance_126 : decode cX8_advance 126 = .ok (.iconst 0, 1) := by decide +kernel
theorem dX8_advance_127 : decode cX8_advance 127 = .ok (.ireturn, 1) := by decide +kernel
theorem dX8_lesson_0 : decode cX8_lesson 0 = .ok (.aload_n 0, 1) := by decide +kernel
theorem dX8_lesson_1 : decode cX8_lesson 1 = .ok (.lload_n 1, 1) := by decide +kernel
theorem dX8_lesson_2 : decode cX8_lesson 2 = .ok (.aload_n 0, 1) := by decide +kernel
theorem dX8_lesson_3 : decode cX8_lesson 3 = .ok (.getfield 21, 3) := by decide +kernel
theorem dX8_lesson_6 : decode cX8_lesson 6 = .ok (.lload_n 1, 1) := by decide +kernel
theorem dX8_lesson_7 : decode cX8_lesson 7 = .ok (.invokevirtual 25, 3) := by decide +kernel
theorem dX8_lesson_10 : decode cX8_lesson 10 = .ok (.invokevirtual 92, 3) := by decide +kernel
theorem dX8_lesson_13 : decode cX8_lesson 13 = .ok (.istore_n 3, 1) := by decide +kernel
theorem dX8_lesson_14 : decode cX8_lesson 14 = .ok (.lload_n 1, 1) := by decide +kernel
theorem dX8_lesson_15 : decode cX8_lesson 15 = .ok (.iload_n 3, 1) := by decide +kernel
theorem dX8_lesson_16 : decode cX8_lesson 16 = .ok (.invokestatic 96, 3) := by decide +kernel
theorem dX8_lesson_19 : decode cX8_lesson 19 = .ok (.lstore 4, 2) := by decide +kernel
theorem dX8_lesson_21 : decode cX8_lesson 21 = .ok (.aload_n 0, 1) := by decide +kernel
theorem dX8_lesson_22 : decode cX8_lesson 22 = .ok (.getfield 74, 3) := by decide +kernel
theorem dX8_lesson_25 : decode cX8_lesson 25 = .ok (.iconst 0, 1) := by decide +kernel
theorem dX8_lesson_26 : decode cX8_lesson 26 = .ok (.lload_n 1, 1) := by decide +kernel
theorem dX8_lesson_27 : decode cX8_lesson 27 = .ok (.iload_n 3, 1) := by decide +kernel
theorem dX8_lesson_28 : decode cX8_lesson 28 = .ok (.invokestatic 99, 3) := by decide +kernel
theorem dX8_lesson_31 : decode cX8_lesson 31 = .ok (.invokevirtual 102, 3) := by decide +kernel
theorem dX8_lesson_34 : decode cX8_lesson 34 = .ok (.istore 6, 2) := by decide +kernel
theorem dX8_lesson_36 : decode cX8_lesson 36 = .ok (.aload_n 0, 1) := by decide +kernel
theorem dX8_lesson_37 : decode cX8_lesson 37 = .ok (.lload_n 1, 1) := by decide +kernel
theorem dX8_lesson_38 : decode cX8_lesson 38 = .ok (.iload_n 3, 1) := by decide +kernel
theorem dX8_lesson_39 : decode cX8_lesson 39 = .ok (.iconst 1, 1) := by decide +kernel
theorem dX8_lesson_40 : decode cX8_lesson 40 = .ok (.isub, 1) := by decide +kernel
theorem dX8_lesson_41 : decode cX8_lesson 41 = .ok (.invokestatic 99, 3) := by decide +kernel
theorem dX8_lesson_44 : decode cX8_lesson 44 = .ok (.invokevirtual 106, 3) := by decide +kernel
theorem dX8_lesson_47 : decode cX8_lesson 47 = .ok (.lload_n 1, 1) := by decide +kernel
theorem dX8_lesson_48 : decode cX8_lesson 48 = .ok (.iload_n 3, 1) := by decide +kernel
theorem dX8_lesson_49 : decode cX8_lesson 49 = .ok (.iconst 1, 1) := by decide +kernel
theorem dX8_lesson_50 : decode cX8_lesson 50 = .ok (.isub, 1) := by decide +kernel
theorem dX8_lesson_51 : decode cX8_lesson 51 = .ok (.invokestatic 110, 3) := by decide +kernel
theorem dX8_lesson_54 : decode cX8_lesson 54 = .ok (.invokestatic 58, 3) := by decide +kernel
theorem dX8_lesson_57 : decode cX8_lesson 57 = .ok (.lstore 7, 2) := by decide +kernel
theorem dX8_lesson_59 : decode cX8_lesson 59 = .ok (.aload_n 0, 1) := by decide +kernel
theorem dX8_lesson_60 : decode cX8_lesson 60 = .ok (.dup, 1) := by decide +kernel
theorem dX8_lesson_61 : decode cX8_lesson 61 = .ok (.getfield 113, 3) := by decide +kernel
theorem dX8_lesson_64 : decode cX8_lesson 64 = .ok (.iconst 1, 1) := by decide +kernel
theorem dX8_lesson_65 : decode cX8_lesson 65 = .ok (.iadd, 1) := by decide +kernel
theorem dX8_lesson_66 : decode cX8_lesson 66 = .ok (.putfield 113, 3) := by decide +kernel
theorem dX8_lesson_69 : decode cX8_lesson 69 = .ok (.aload_n 0, 1) := by decide +kernel
theorem dX8_lesson_70 : decode cX8_lesson 70 = .ok (.invokevirtual 116, 3) := by decide +kernel
theorem dX8_lesson_73 : decode cX8_lesson 73 = .ok (.aload_n 0, 1) := by decide +kernel
theorem dX8_lesson_74 : decode cX8_lesson 74 = .ok (.iload 6, 2) := by decide +kernel
theorem dX8_lesson_76 : decode cX8_lesson 76 = .ok (.lload 4, 2) := by decide +kernel
theorem dX8_lesson_78 : decode cX8_lesson 78 = .ok (.lload 7, 2) := by decide +kernel
theorem dX8_lesson_80 : decode cX8_lesson 80 = .ok (.invokevirtual 119, 3) := by decide +kernel
theorem dX8_lesson_83 : decode cX8_lesson 83 = .ok (.iconst 2, 1) := by decide +kernel
theorem dX8_lesson_84 : decode cX8_lesson 84 = .ok (.ireturn, 1) := by decide +kernel
theorem dX8_putKnot_0 : decode cX8_putKnot 0 = .ok (.aload_n 0, 1) := by decide +kernel
theorem dX8_putKnot_1 : decode cX8_putKnot 1 = .ok (.getfield 123, 3) := by decide +kernel
theorem dX8_putKnot_4 : decode cX8_putKnot 4 = .ok (.getfield 39, 3) := by decide +kernel
theorem dX8_putKnot_7 : decode cX8_putKnot 7 = .ok (.istore 6, 2) := by decide +kernel
theorem dX8_putKnot_9 : decode cX8_putKnot 9 = .ok (.aload_n 0, 1) := by decide +kernel
theorem dX8_putKnot_10 : decode cX8_putKnot 10 = .ok (.getfield 123, 3) := by decide +kernel
theorem dX8_putKnot_13 : decode cX8_putKnot 13 = .ok (.lload_n 2, 1) := by decide +kernel
theorem dX8_putKnot_14 : decode cX8_putKnot 14 = .ok (.invokevirtual 84, 3) := by decide +kernel
theorem dX8_putKnot_17 : decode cX8_putKnot 17 = .ok (.iconst 0, 1) := by decide +kernel
theorem dX8_putKnot_18 : decode cX8_putKnot 18 = .ok (.istore 7, 2) := by decide +kernel
theorem dX8_putKnot_20 : decode cX8_putKnot 20 = .ok (.iload 7, 2) := by decide +kernel
theorem dX8_putKnot_22 : decode cX8_putKnot 22 = .ok (.aload_n 0, 1) := by decide +kernel
theorem dX8_putKnot_23 : decode cX8_putKnot 23 = .ok (.getfield 9, 3) := by decide +kernel
theorem dX8_putKnot_26 : decode cX8_putKnot 26 = .ok (.arraylength, 1) := by decide +kernel
theorem dX8_putKnot_27 : decode cX8_putKnot 27 = .ok (.if_icmp .ge 32, 3) := by decide +kernel
theorem dX8_putKnot_30 : decode cX8_putKnot 30 = .ok (.aload_n 0, 1) := by decide +kernel
theorem dX8_putKnot_31 : decode cX8_putKnot 31 = .ok (.getfield 9, 3) := by decide +kernel
theorem dX8_putKnot_34 : decode cX8_putKnot 34 = .ok (.iload 7, 2) := by decide +kernel
theorem dX8_putKnot_36 : decode cX8_putKnot 36 = .ok (.iaload, 1) := by decide +kernel
theorem dX8_putKnot_37 : decode cX8_putKnot 37 = .ok (.iload_n 1, 1) := by decide +kernel
theorem dX8_putKnot_38 : decode cX8_putKnot 38 = .ok (.if_icmp .ne 15, 3) := by decide +kernel
theorem dX8_putKnot_41 : decode cX8_putKnot 41 = .ok (.aload_n 0, 1) := by decide +kernel
theorem dX8_putKnot_42 : decode cX8_putKnot 42 = .ok (.getfield 9, 3) := by decide +kernel
theorem dX8_putKnot_45 : decode cX8_putKnot 45 = .ok (.iload 7, 2) := by decide +kernel
theorem dX8_putKnot_47 : decode cX8_putKnot 47 = .ok (.bipush 100, 2) := by decide +kernel
theorem dX8_putKnot_49 : decode cX8_putKnot 49 = .ok (.iload 6, 2) := by decide +kernel
theorem dX8_putKnot_51 : decode cX8_putKnot 51 = .ok (.iadd, 1) := by decide +kernel
theorem dX8_putKnot_52 : decode cX8_putKnot 52 = .ok (.iastore, 1) := by decide +kernel
theorem dX8_putKnot_53 : decode cX8_putKnot 53 = .ok (.iinc 7 1, 3) := by decide +kernel
theorem dX8_putKnot_56 : decode cX8_putKnot 56 = .ok (.goto (-36), 3) := by decide +kernel
theorem dX8_putKnot_59 : decode cX8_putKnot 59 = .ok (.iload 6, 2) := by decide +kernel
theorem dX8_putKnot_61 : decode cX8_putKnot 61 = .ok (.iconst 4, 1) := by decide +kernel
theorem dX8_putKnot_62 : decode cX8_putKnot 62 = .ok (.imul, 1) := by decide +kernel
theorem dX8_putKnot_63 : decode cX8_putKnot 63 = .ok (.istore 7, 2) := by decide +kernel
theorem dX8_putKnot_65 : decode cX8_putKnot 65 = .ok (.aload_n 0, 1) := by decide +kernel
theorem dX8_putKnot_66 : decode cX8_putKnot 66 = .ok (.iload 7, 2) := by decide +kernel
theorem dX8_putKnot_68 : decode cX8_putKnot 68 = .ok (.aload_n 0, 1) := by decide +kernel
theorem dX8_putKnot_69 : decode cX8_putKnot 69 = .ok (.getfield 21, 3) := by decide +kernel
theorem dX8_putKnot_72 : decode cX8_putKnot 72 = .ok (.aload_n 0, 1) := by decide +kernel
theorem dX8_putKnot_73 : decode cX8_putKnot 73 = .ok (.getfield 35, 3) := by decide +kernel
theorem dX8_putKnot_76 : decode cX8_putKnot 76 = .ok (.iload_n 1, 1) := by decide +kernel
theorem dX8_putKnot_77 : decode cX8_putKnot 77 = .ok (.invokevirtual 54, 3) := by decide +kernel
theorem dX8_putKnot_80 : decode cX8_putKnot 80 = .ok (.lload_n 2, 1) := by decide +kernel
theorem dX8_putKnot_81 : decode cX8_putKnot 81 = .ok (.invokestatic 126, 3) := by decide +kernel
theorem dX8_putKnot_84 : decode cX8_putKnot 84 = .ok (.invokevirtual 25, 3) := by decide +kernel
theorem dX8_putKnot_87 : decode cX8_putKnot 87 = .ok (.iadd, 1) := by decide +kernel
theorem dX8_putKnot_88 : decode cX8_putKnot 88 = .ok (.iload_n 1, 1) := by decide +kernel
theorem dX8_putKnot_89 : decode cX8_putKnot 89 = .ok (.invokevirtual 31, 3) := by decide +kernel
theorem dX8_putKnot_92 : decode cX8_putKnot 92 = .ok (.aload_n 0, 1) := by decide +kernel
theorem dX8_putKnot_93 : decode cX8_putKnot 93 = .ok (.iload 7, 2) := by decide +kernel
theorem dX8_putKnot_95 : decode cX8_putKnot 95 = .ok (.aload_n 0, 1) := by decide +kernel
theorem dX8_putKnot_96 : decode cX8_putKnot 96 = .ok (.getfield 21, 3) := by decide +kernel
theorem dX8_putKnot_99 : decode cX8_putKnot 99 = .ok (.lload 4, 2) := by decide +kernel
theorem dX8_putKnot_101 : decode cX8_putKnot 101 = .ok (.lload_n 2, 1) := by decide +kernel
theorem dX8_putKnot_102 : decode cX8_putKnot 102 = .ok (.invokestatic 126, 3) := by decide +kernel
theorem dX8_putKnot_105 : decode cX8_putKnot 105 = .ok (.invokevirtual 25, 3) := by decide +kernel
theorem dX8_putKnot_108 : decode cX8_putKnot 108 = .ok (.iadd, 1) := by decide +kernel
theorem dX8_putKnot_109 : decode cX8_putKnot 109 = .ok (.lload 4, 2) := by decide +kernel
theorem dX8_putKnot_111 : decode cX8_putKnot 111 = .ok (.invokevirtual 70, 3) := by decide +kernel
theorem dX8_putKnot_114 : decode cX8_putKnot 114 = .ok (.return_, 1) := by decide +kernel
theorem dX8_addLeaf_0 : decode cX8_addLeaf 0 = .ok (.aload_n 0, 1) := by decide +kernel
theorem dX8_addLeaf_1 : decode cX8_addLeaf 1 = .ok (.iload_n 1, 1) := by decide +kernel
theorem dX8_addLeaf_2 : decode cX8_addLeaf 2 = .ok (.aload_n 0, 1) := by decide +kernel
theorem dX8_addLeaf_3 : decode cX8_addLeaf 3 = .ok (.getfield 35, 3) := by decide +kernel
theorem dX8_addLeaf_6 : decode cX8_addLeaf 6 = .ok (.getfield 39, 3) := by decide +kernel
theorem dX8_addLeaf_9 : decode cX8_addLeaf 9 = .ok (.invokevirtual 31, 3) := by decide +kernel
theorem dX8_addLeaf_12 : decode cX8_addLeaf 12 = .ok (.aload_n 0, 1) := by decide +kernel
theorem dX8_addLeaf_13 : decode cX8_addLeaf 13 = .ok (.getfield 35, 3) := by decide +kernel
theorem dX8_addLeaf_16 : decode cX8_addLeaf 16 = .ok (.lload_n 2, 1) := by decide +kernel
theorem dX8_addLeaf_17 : decode cX8_addLeaf 17 = .ok (.invokevirtual 84, 3) := by decide +kernel
theorem dX8_addLeaf_20 : decode cX8_addLeaf 20 = .ok (.return_, 1) := by decide +kernel
theorem dX8_link_0 : decode cX8_link 0 = .ok (.iload_n 1, 1) := by decide +kernel
theorem dX8_link_1 : decode cX8_link 1 = .ok (.ifCond .lt 19, 3) := by decide +kernel
theorem dX8_link_4 : decode cX8_link 4 = .ok (.iload_n 1, 1) := by decide +kernel
theorem dX8_link_5 : decode cX8_link 5 = .ok (.aload_n 0, 1) := by decide +kernel
theorem dX8_link_6 : decode cX8_link 6 = .ok (.getfield 9, 3) := by decide +kernel
theorem dX8_link_9 : decode cX8_link 9 = .ok (.arraylength, 1) := by decide +kernel
theorem dX8_link_10 : decode cX8_link 10 = .ok (.if_icmp .ge 10, 3) := by decide +kernel
theorem dX8_link_13 : decode cX8_link 13 = .ok (.aload_n 0, 1) := by decide +kernel
theorem dX8_link_14 : decode cX8_link 14 = .ok (.getfield 9, 3) := by decide +kernel
theorem dX8_link_17 : decode cX8_link 17 = .ok (.iload_n 1, 1) := by decide +kernel
theorem dX8_link_18 : decode cX8_link 18 = .ok (.iload_n 2, 1) := by decide +kernel
theorem dX8_link_19 : decode cX8_link 19 = .ok (.iastore, 1) := by decide +kernel
theorem dX8_link_20 : decode cX8_link 20 = .ok (.return_, 1) := by decide +kernel
theorem dX8_linkAt_0 : decode cX8_linkAt 0 = .ok (.iload_n 1, 1) := by decide +kernel
theorem dX8_linkAt_1 : decode cX8_linkAt 1 = .ok (.ifCond .lt 12, 3) := by decide +kernel
theorem dX8_linkAt_4 : decode cX8_linkAt 4 = .ok (.iload_n 1, 1) := by decide +kernel
theorem dX8_linkAt_5 : decode cX8_linkAt 5 = .ok (.aload_n 0, 1) := by decide +kernel
theorem dX8_linkAt_6 : decode cX8_linkAt 6 = .ok (.getfield 9, 3) := by decide +kernel
theorem dX8_linkAt_9 : decode cX8_linkAt 9 = .ok (.arraylength, 1) := by decide +kernel
theorem dX8_linkAt_10 : decode cX8_linkAt 10 = .ok (.if_icmp .lt 7, 3) := by decide +kernel
theorem dX8_linkAt_13 : decode cX8_linkAt 13 = .ok (.iconst (-1), 1) := by decide +kernel
theorem dX8_linkAt_14 : decode cX8_linkAt 14 = .ok (.goto 9, 3) := by decide +kernel
theorem dX8_linkAt_17 : decode cX8_linkAt 17 = .ok (.aload_n 0, 1) := by decide +kernel
theorem dX8_linkAt_18 : decode cX8_linkAt 18 = .ok (.getfield 9, 3) := by decide +kernel
theorem dX8_linkAt_21 : decode cX8_linkAt 21 = .ok (.iload_n 1, 1) := by decide +kernel
theorem dX8_linkAt_22 : decode cX8_linkAt 22 = .ok (.iaload, 1) := by decide +kernel
theorem dX8_linkAt_23 : decode cX8_linkAt 23 = .ok (.ireturn, 1) := by decide +kernel
theorem dX8_descend_0 : decode cX8_descend 0 = .ok (.bipush 100, 2) := by decide +kernel
theorem dX8_descend_2 : decode cX8_descend 2 = .ok (.istore_n 3, 1) := by decide +kernel
theorem dX8_descend_3 : decode cX8_descend 3 = .ok (.aload_n 0, 1) := by decide +kernel
theorem dX8_descend_4 : decode cX8_descend 4 = .ok (.iconst 0, 1) := by decide +kernel
theorem dX8_descend_5 : decode cX8_descend 5 = .ok (.putfield 130, 3) := by decide +kernel
theorem dX8_descend_8 : decode cX8_descend 8 = .ok (.iload_n 3, 1) := by decide +kernel
theorem dX8_descend_9 : decode cX8_descend 9 = .ok (.bipush 100, 2) := by decide +kernel
theorem dX8_descend_11 : decode cX8_descend 11 = .ok (.if_icmp .lt 72, 3) := by decide +kernel
theorem dX8_descend_14 : decode cX8_descend 14 = .ok (.aload_n 0, 1) := by decide +kernel
theorem dX8_descend_15 : decode cX8_descend 15 = .ok (.getfield 130, 3) := by decide +kernel
theorem dX8_descend_18 : decode cX8_descend 18 = .ok (.aload_n 0, 1) := by decide +kernel
theorem dX8_descend_19 : decode cX8_descend 19 = .ok (.getfield 9, 3) := by decide +kernel
theorem dX8_descend_22 : decode cX8_descend 22 = .ok (.arraylength, 1) := by decide +kernel
theorem dX8_descend_23 : decode cX8_descend 23 = .ok (.if_icmp .ge 60, 3) := by decide +kernel
theorem dX8_descend_26 : decode cX8_descend 26 = .ok (.iload_n 3, 1) := by decide +kernel
theorem dX8_descend_27 : decode cX8_descend 27 = .ok (.bipush 100, 2) := by decide +kernel
theorem dX8_descend_29 : decode cX8_descend 29 = .ok (.isub, 1) := by decide +kernel
theorem dX8_descend_30 : decode cX8_descend 30 = .ok (.istore 4, 2) := by decide +kernel
theorem dX8_descend_32 : decode cX8_descend 32 = .ok (.aload_n 0, 1) := by decide +kernel
theorem dX8_descend_33 : decode cX8_descend 33 = .ok (.iload 4, 2) := by decide +kernel
theorem dX8_descend_35 : decode cX8_descend 35 = .ok (.iconst 4, 1) := by decide +kernel
theorem dX8_descend_36 : decode cX8_descend 36 = .ok (.imul, 1) := by decide +kernel
theorem dX8_descend_37 : decode cX8_descend 37 = .ok (.aload_n 0, 1) := by decide +kernel
theorem dX8_descend_38 : decode cX8_descend 38 = .ok (.getfield 21, 3) := by decide +kernel
theorem dX8_descend_41 : decode cX8_descend 41 = .ok (.lload_n 1, 1) := by decide +kernel
theorem dX8_descend_42 : decode cX8_descend 42 = .ok (.aload_n 0, 1) := by decide +kernel
theorem dX8_descend_43 : decode cX8_descend 43 = .ok (.getfield 123, 3) := by decide +kernel
theorem dX8_descend_46 : decode cX8_descend 46 = .ok (.iload 4, 2) := by decide +kernel
theorem dX8_descend_48 : decode cX8_descend 48 = .ok (.invokevirtual 54, 3) := by decide +kernel
theorem dX8_descend_51 : decode cX8_descend 51 = .ok (.invokestatic 126, 3) := by decide +kernel
theorem dX8_descend_54 : decode cX8_descend 54 = .ok (.invokevirtual 25, 3) := by decide +kernel
theorem dX8_descend_57 : decode cX8_descend 57 = .ok (.iadd, 1) := by decide +kernel
theorem dX8_descend_58 : decode cX8_descend 58 = .ok (.putfield 67, 3) := by decide +kernel
theorem dX8_descend_61 : decode cX8_descend 61 = .ok (.aload_n 0, 1) := by decide +kernel
theorem dX8_descend_62 : decode cX8_descend 62 = .ok (.aload_n 0, 1) := by decide +kernel
theorem dX8_descend_63 : decode cX8_descend 63 = .ok (.getfield 67, 3) := by decide +kernel
theorem dX8_descend_66 : decode cX8_descend 66 = .ok (.invokevirtual 133, 3) := by decide +kernel
theorem dX8_descend_69 : decode cX8_descend 69 = .ok (.istore_n 3, 1) := by decide +kernel
theorem dX8_descend_70 : decode cX8_descend 70 = .ok (.aload_n 0, 1) := by decide +kernel
theorem dX8_descend_71 : decode cX8_descend 71 = .ok (.dup, 1) := by decide +kernel
theorem dX8_descend_72 : decode cX8_descend 72 = .ok (.getfield 130, 3) := by decide +kernel
theorem dX8_descend_75 : decode cX8_descend 75 = .ok (.iconst 1, 1) := by decide +kernel
theorem dX8_descend_76 : decode cX8_descend 76 = .ok (.iadd, 1) := by decide +kernel
theorem dX8_descend_77 : decode cX8_descend 77 = .ok (.putfield 130, 3) := by decide +kernel
theorem dX8_descend_80 : decode cX8_descend 80 = .ok (.goto (-72), 3) := by decide +kernel
theorem dX8_descend_83 : decode cX8_descend 83 = .ok (.iload_n 3, 1) := by decide +kernel
theorem dX8_descend_84 : decode cX8_descend 84 = .ok (.ireturn, 1) := by decide +kernel
theorem dX9_init_0 : decode cX9_init 0 = .ok (.aload_n 0, 1) := by decide +kernel
theorem dX9_init_1 : decode cX9_init 1 = .ok (.invokespecial 3, 3) := by decide +kernel
theorem dX9_init_4 : decode cX9_init 4 = .ok (.aload_n 0, 1) := by decide +kernel
theorem dX9_init_5 : decode cX9_init 5 = .ok (.iload_n 1, 1) := by decide +kernel
theorem dX9_init_6 : decode cX9_init 6 = .ok (.ifCond .ge 7, 3) := by decide +kernel
theorem dX9_init_9 : decode cX9_init 9 = .ok (.iconst 0, 1) := by decide +kernel
theorem dX9_init_10 : decode cX9_init 10 = .ok (.goto 4, 3) := by decide +kernel
theorem dX9_init_13 : decode cX9_init 13 = .ok (.iload_n 1, 1) := by decide +kernel
theorem dX9_init_14 : decode cX9_init 14 = .ok (.newarray .long, 2) := by decide +kernel
theorem dX9_init_16 : decode cX9_init 16 = .ok (.putfield 9, 3) := by decide +kernel
theorem dX9_init_19 : decode cX9_init 19 = .ok (.return_, 1) := by decide +kernel
theorem dX9_clear_0 : decode cX9_clear 0 = .ok (.aload_n 0, 1) := by decide +kernel
theorem dX9_clear_1 : decode cX9_clear 1 = .ok (.iconst 0, 1) := by decide +kernel
theorem dX9_clear_2 : decode cX9_clear 2 = .ok (.putfield 15, 3) := by decide +kernel
theorem dX9_clear_5 : decode cX9_clear 5 = .ok (.return_, 1) := by decide +kernel
theorem dX9_add_0 : decode cX9_add 0 = .ok (.aload_n 0, 1) := by decide +kernel
theorem dX9_add_1 : decode cX9_add 1 = .ok (.getfield 15, 3) := by decide +kernel
theorem dX9_add_4 : decode cX9_add 4 = .ok (.aload_n 0, 1) := by decide +kernel
theorem dX9_add_5 : decode cX9_add 5 = .ok (.getfield 9, 3) := by decide +kernel
theorem dX9_add_8 : decode cX9_add 8 = .ok (.arraylength, 1) := by decide +kernel
theorem dX9_add_9 : decode cX9_add 9 = .ok (.if_icmp .ge 20, 3) := by decide +kernel
theorem dX9_add_12 : decode cX9_add 12 = .ok (.aload_n 0, 1) := by decide +kernel
theorem dX9_add_13 : decode cX9_add 13 = .ok (.getfield 9, 3) := by decide +kernel
theorem dX9_add_16 : decode cX9_add 16 = .ok (.aload_n 0, 1) := by decide +kernel
theorem dX9_add_17 : decode cX9_add 17 = .ok (.dup, 1) := by decide +kernel
theorem dX9_add_18 : decode cX9_add 18 = .ok (.getfield 15, 3) := by decide +kernel
theorem dX9_add_21 : decode cX9_add 21 = .ok (.dup_x1, 1) := by decide +kernel
theorem dX9_add_22 : decode cX9_add 22 = .ok (.iconst 1, 1) := by decide +kernel
theorem dX9_add_23 : decode cX9_add 23 = .ok (.iadd, 1) := by decide +kernel
theorem dX9_add_24 : decode cX9_add 24 = .ok (.putfield 15, 3) := by decide +kernel
theorem dX9_add_27 : decode cX9_add 27 = .ok (.lload_n 1, 1) := by decide +kernel
theorem dX9_add_28 : decode cX9_add 28 = .ok (.lastore, 1) := by decide +kernel
theorem dX9_add_29 : decode cX9_add 29 = .ok (.return_, 1) := by decide +kernel
theorem dX9_get_0 : decode cX9_get 0 = .ok (.iload_n 1, 1) := by decide +kernel
theorem dX9_get_1 : decode cX9_get 1 = .ok (.ifCond .lt 20, 3) := by decide +kernel
theorem dX9_get_4 : decode cX9_get 4 = .ok (.iload_n 1, 1) := by decide +kernel
theorem dX9_get_5 : decode cX9_get 5 = .ok (.aload_n 0, 1) := by decide +kernel
theorem dX9_get_6 : decode cX9_get 6 = .ok (.getfield 15, 3) := by decide +kernel
theorem dX9_get_9 : decode cX9_get 9 = .ok (.if_icmp .ge 12, 3) := by decide +kernel
theorem dX9_get_12 : decode cX9_get 12 = .ok (.iload_n 1, 1) := by decide +kernel
theorem dX9_get_13 : decode cX9_get 13 = .ok (.aload_n 0, 1) := by decide +kernel
theorem dX9_get_14 : decode cX9_get 14 = .ok (.getfield 9, 3) := by decide +kernel
theorem dX9_get_17 : decode cX9_get 17 = .ok (.arraylength, 1) := by decide +kernel
theorem dX9_get_18 : decode cX9_get 18 = .ok (.if_icmp .lt 9, 3) := by decide +kernel
theorem dX9_get_21 : decode cX9_get 21 = .ok (.ldc2_w 19, 3) := by decide +kernel
theorem dX9_get_24 : decode cX9_get 24 = .ok (.goto 9, 3) := by decide +kernel
theorem dX9_get_27 : decode cX9_get 27 = .ok (.aload_n 0, 1) := by decide +kernel
theorem dX9_get_28 : decode cX9_get 28 = .ok (.getfield 9, 3) := by decide +kernel
theorem dX9_get_31 : decode cX9_get 31 = .ok (.iload_n 1, 1) := by decide +kernel
theorem dX9_get_32 : decode cX9_get 32 = .ok (.laload, 1) := by decide +kernel
theorem dX9_get_33 : decode cX9_get 33 = .ok (.lreturn, 1) := by decide +kernel
theorem dX9_last_0 : decode cX9_last 0 = .ok (.aload_n 0, 1) := by decide +kernel
theorem dX9_last_1 : decode cX9_last 1 = .ok (.aload_n 0, 1) := by decide +kernel
theorem dX9_last_2 : decode cX9_last 2 = .ok (.getfield 15, 3) := by decide +kernel
theorem dX9_last_5 : decode cX9_last 5 = .ok (.iconst 1, 1) := by decide +kernel
theorem dX9_last_6 : decode cX9_last 6 = .ok (.isub, 1) := by decide +kernel
theorem dX9_last_7 : decode cX9_last 7 = .ok (.invokevirtual 21, 3) := by decide +kernel
theorem dX9_last_10 : decode cX9_last 10 = .ok (.lreturn, 1) := by decide +kernel
theorem dX9_indexOf_0 : decode cX9_indexOf 0 = .ok (.iconst 0, 1) := by decide +kernel
theorem dX9_indexOf_1 : decode cX9_indexOf 1 = .ok (.istore_n 3, 1) := by decide +kernel
theorem dX9_indexOf_2 : decode cX9_indexOf 2 = .ok (.iload_n 3, 1) := by decide +kernel
theorem dX9_indexOf_3 : decode cX9_indexOf 3 = .ok (.aload_n 0, 1) := by decide +kernel
theorem dX9_indexOf_4 : decode cX9_indexOf 4 = .ok (.getfield 15, 3) := by decide +kernel
theorem dX9_indexOf_7 : decode cX9_indexOf 7 = .ok (.if_icmp .ge 31, 3) := by decide +kernel
theorem dX9_indexOf_10 : decode cX9_indexOf 10 = .ok (.iload_n 3, 1) := by decide +kernel
theorem dX9_indexOf_11 : decode cX9_indexOf 11 = .ok (.aload_n 0, 1) := by decide +kernel
theorem dX9_indexOf_12 : decode cX9_indexOf 12 = .ok (.getfield 9, 3) := by decide +kernel
theorem dX9_indexOf_15 : decode cX9_indexOf 15 = .ok (.arraylength, 1) := by decide +kernel
theorem dX9_indexOf_16 : decode cX9_indexOf 16 = .ok (.if_icmp .ge 22, 3) := by decide +kernel
theorem dX9_indexOf_19 : decode cX9_indexOf 19 = .ok (.aload_n 0, 1) := by decide +kernel
theorem dX9_indexOf_20 : decode cX9_indexOf 20 = .ok (.getfield 9, 3) := by decide +kernel
theorem dX9_indexOf_23 : decode cX9_indexOf 23 = .ok (.iload_n 3, 1) := by decide +kernel
theorem dX9_indexOf_24 : decode cX9_indexOf 24 = .ok (.laload, 1) := by decide +kernel
theorem dX9_indexOf_25 : decode cX9_indexOf 25 = .ok (.lload_n 1, 1) := by decide +kernel
theorem dX9_indexOf_26 : decode cX9_indexOf 26 = .ok (.lcmp, 1) := by decide +kernel
theorem dX9_indexOf_27 : decode cX9_indexOf 27 = .ok (.ifCond .ne 5, 3) := by decide +kernel
theorem dX9_indexOf_30 : decode cX9_indexOf 30 = .ok (.iload_n 3, 1) := by decide +kernel
theorem dX9_indexOf_31 : decode cX9_indexOf 31 = .ok (.ireturn, 1) := by decide +kernel
theorem dX9_indexOf_32 : decode cX9_indexOf 32 = .ok (.iinc 3 1, 3) := by decide +kernel
theorem dX9_indexOf_35 : decode cX9_indexOf 35 = .ok (.goto (-33), 3) := by decide +kernel
theorem dX9_indexOf_38 : decode cX9_indexOf 38 = .ok (.iconst (-1), 1) := by decide +kernel
theorem dX9_indexOf_39 : decode cX9_indexOf 39 = .ok (.ireturn, 1) := by decide +kernel
theorem dX9_has_0 : decode cX9_has 0 = .ok (.aload_n 0, 1) := by decide +kernel
theorem dX9_has_1 : decode cX9_has 1 = .ok (.lload_n 1, 1) := by decide +kernel
theorem dX9_has_2 : decode cX9_has 2 = .ok (.invokevirtual 25, 3) := by decide +kernel
theorem dX9_has_5 : decode cX9_has 5 = .ok (.iconst (-1), 1) := by decide +kernel
theorem dX9_has_6 : decode cX9_has 6 = .ok (.if_icmp .eq 7, 3) := by decide +kernel
theorem dX9_has_9 : decode cX9_has 9 = .ok (.iconst 1, 1) := by decide +kernel
theorem dX9_has_10 : decode cX9_has 10 = .ok (.goto 4, 3) := by decide +kernel
theorem dX9_has_13 : decode cX9_has 13 = .ok (.iconst 0, 1) := by decide +kernel
theorem dX9_has_14 : decode cX9_has 14 = .ok (.ireturn, 1) := by decide +kernel
theorem dX10_init_0 : decode cX10_init 0 = .ok (.aload_n 0, 1) := by decide +kernel
theorem dX10_init_1 : decode cX10_init 1 = .ok (.invokespecial 3, 3) := by decide +kernel
theorem dX10_init_4 : decode cX10_init 4 = .ok (.aload_n 0, 1) := by decide +kernel
theorem dX10_init_5 : decode cX10_init 5 = .ok (.sipush 256, 3) := by decide +kernel
theorem dX10_init_8 : decode cX10_init 8 = .ok (.newarray .long, 2) := by decide +kernel
theorem dX10_init_10 : decode cX10_init 10 = .ok (.putfield 11, 3) := by decide +kernel
theorem dX10_init_13 : decode cX10_init 13 = .ok (.return_, 1) := by decide +kernel
theorem dX10_clear_0 : decode cX10_clear 0 = .ok (.aload_n 0, 1) := by decide +kernel
theorem dX10_clear_1 : decode cX10_clear 1 = .ok (.getfield 15, 3) := by decide +kernel
theorem dX10_clear_4 : decode cX10_clear 4 = .ok (.ifCond .le 11, 3) := by decide +kernel
theorem dX10_clear_7 : decode cX10_clear 7 = .ok (.aload_n 0, 1) := by decide +kernel
theorem dX10_clear_8 : decode cX10_clear 8 = .ok (.getfield 11, 3) := by decide +kernel
theorem dX10_clear_11 : decode cX10_clear 11 = .ok (.lconst 0, 1) := by decide +kernel
theorem dX10_clear_12 : decode cX10_clear 12 = .ok (.invokestatic 19, 3) := by decide +kernel
theorem dX10_clear_15 : decode cX10_clear 15 = .ok (.aload_n 0, 1) := by decide +kernel
theorem dX10_clear_16 : decode cX10_clear 16 = .ok (.iconst 0, 1) := by decide +kernel
theorem dX10_clear_17 : decode cX10_clear 17 = .ok (.putfield 15, 3) := by decide +kernel
theorem dX10_clear_20 : decode cX10_clear 20 = .ok (.return_, 1) := by decide +kernel
theorem dX10_places_0 : decode cX10_places 0 = .ok (.aload_n 0, 1) := by decide +kernel
theorem dX10_places_1 : decode cX10_places 1 = .ok (.getfield 11, 3) := by decide +kernel
theorem dX10_places_4 : decode cX10_places 4 = .ok (.arraylength, 1) := by decide +kernel
theorem dX10_places_5 : decode cX10_places 5 = .ok (.ireturn, 1) := by decide +kernel
theorem dX10_at_0 : decode cX10_at 0 = .ok (.iload_n 1, 1) := by decide +kernel
theorem dX10_at_1 : decode cX10_at 1 = .ok (.ifCond .lt 12, 3) := by decide +kernel
theorem dX10_at_4 : decode cX10_at 4 = .ok (.iload_n 1, 1) := by decide +kernel
theorem dX10_at_5 : decode cX10_at 5 = .ok (.aload_n 0, 1) := by decide +kernel
theorem dX10_at_6 : decode cX10_at 6 = .ok (.getfield 11, 3) := by decide +kernel
theorem dX10_at_9 : decode cX10_at 9 = .ok (.arraylength, 1) := by decide +kernel
theorem dX10_at_10 : decode cX10_at 10 = .ok (.if_icmp .lt 7, 3) := by decide +kernel
theorem dX10_at_13 : decode cX10_at 13 = .ok (.lconst 0, 1) := by decide +kernel
theorem dX10_at_14 : decode cX10_at 14 = .ok (.goto 9, 3) := by decide +kernel
theorem dX10_at_17 : decode cX10_at 17 = .ok (.aload_n 0, 1) := by decide +kernel
theorem dX10_at_18 : decode cX10_at 18 = .ok (.getfield 11, 3) := by decide +kernel
theorem dX10_at_21 : decode cX10_at 21 = .ok (.iload_n 1, 1) := by decide +kernel
theorem dX10_at_22 : decode cX10_at 22 = .ok (.laload, 1) := by decide +kernel
theorem dX10_at_23 : decode cX10_at 23 = .ok (.lreturn, 1) := by decide +kernel
theorem dX10_has_0 : decode cX10_has 0 = .ok (.lload_n 1, 1) := by decide +kernel
theorem dX10_has_1 : decode cX10_has 1 = .ok (.lconst 0, 1) := by decide +kernel
theorem dX10_has_2 : decode cX10_has 2 = .ok (.lcmp, 1) := by decide +kernel
theorem dX10_has_3 : decode cX10_has 3 = .ok (.ifCond .le 21, 3) := by decide +kernel
theorem dX10_has_6 : decode cX10_has 6 = .ok (.aload_n 0, 1) := by decide +kernel
theorem dX10_has_7 : decode cX10_has 7 = .ok (.aload_n 0, 1) := by decide +kernel
theorem dX10_has_8 : decode cX10_has 8 = .ok (.lload_n 1, 1) := by decide +kernel
theorem dX10_has_9 : decode cX10_has 9 = .ok (.invokevirtual 25, 3) := by decide +kernel
theorem dX10_has_12 : decode cX10_has 12 = .ok (.invokevirtual 29, 3) := by decide +kernel
theorem dX10_has_15 : decode cX10_has 15 = .ok (.lload_n 1, 1) := by decide +kernel
theorem dX10_has_16 : decode cX10_has 16 = .ok (.lcmp, 1) := by decide +kernel
theorem dX10_has_17 : decode cX10_has 17 = .ok (.ifCond .ne 7, 3) := by decide +kernel
theorem dX10_has_20 : decode cX10_has 20 = .ok (.iconst 1, 1) := by decide +kernel
theorem dX10_has_21 : decode cX10_has 21 = .ok (.goto 4, 3) := by decide +kernel
theorem dX10_has_24 : decode cX10_has 24 = .ok (.iconst 0, 1) := by decide +kernel
theorem dX10_has_25 : decode cX10_has 25 = .ok (.ireturn, 1) := by decide +kernel
theorem dX10_add_0 : decode cX10_add 0 = .ok (.aload_n 0, 1) := by decide +kernel
theorem dX10_add_1 : decode cX10_add 1 = .ok (.lload_n 1, 1) := by decide +kernel
theorem dX10_add_2 : decode cX10_add 2 = .ok (.invokevirtual 25, 3) := by decide +kernel
theorem dX10_add_5 : decode cX10_add 5 = .ok (.istore_n 3, 1) := by decide +kernel
theorem dX10_add_6 : decode cX10_add 6 = .ok (.lload_n 1, 1) := by decide +kernel
theorem dX10_add_7 : decode cX10_add 7 = .ok (.lconst 1, 1) := by decide +kernel
theorem dX10_add_8 : decode cX10_add 8 = .ok (.lcmp, 1) := by decide +kernel
theorem dX10_add_9 : decode cX10_add 9 = .ok (.ifCond .lt 27, 3) := by decide +kernel
theorem dX10_add_12 : decode cX10_add 12 = .ok (.iload_n 3, 1) := by decide +kernel
theorem dX10_add_13 : decode cX10_add 13 = .ok (.ifCond .lt 23, 3) := by decide +kernel
theorem dX10_add_16 : decode cX10_add 16 = .ok (.iload_n 3, 1) := by decide +kernel
theorem dX10_add_17 : decode cX10_add 17 = .ok (.aload_n 0, 1) := by decide +kernel
theorem dX10_add_18 : decode cX10_add 18 = .ok (.getfield 11, 3) := by decide +kernel
theorem dX10_add_21 : decode cX10_add 21 = .ok (.arraylength, 1) := by decide +kernel
theorem dX10_add_22 : decode cX10_add 22 = .ok (.if_icmp .ge 14, 3) := by decide +kernel
theorem dX10_add_25 : decode cX10_add 25 = .ok (.aload_n 0, 1) := by decide +kernel
theorem dX10_add_26 : decode cX10_add 26 = .ok (.getfield 11, 3) := by decide +kernel
theorem dX10_add_29 : decode cX10_add 29 = .ok (.iload_n 3, 1) := by decide +kernel
theorem dX10_add_30 : decode cX10_add 30 = .ok (.laload, 1) := by decide +kernel
theorem dX10_add_31 : decode cX10_add 31 = .ok (.lload_n 1, 1) := by decide +kernel
theorem dX10_add_32 : decode cX10_add 32 = .ok (.lcmp, 1) := by decide +kernel
theorem dX10_add_33 : decode cX10_add 33 = .ok (.ifCond .ne 5, 3) := by decide +kernel
theorem dX10_add_36 : decode cX10_add 36 = .ok (.iconst 0, 1) := by decide +kernel
theorem dX10_add_37 : decode cX10_add 37 = .ok (.ireturn, 1) := by decide +kernel
theorem dX10_add_38 : decode cX10_add 38 = .ok (.aload_n 0, 1) := by decide +kernel
theorem dX10_add_39 : decode cX10_add 39 = .ok (.getfield 11, 3) := by decide +kernel
theorem dX10_add_42 : decode cX10_add 42 = .ok (.iload_n 3, 1) := by decide +kernel
theorem dX10_add_43 : decode cX10_add 43 = .ok (.lload_n 1, 1) := by decide +kernel
theorem dX10_add_44 : decode cX10_add 44 = .ok (.lastore, 1) := by decide +kernel
theorem dX10_add_45 : decode cX10_add 45 = .ok (.aload_n 0, 1) := by decide +kernel
theorem dX10_add_46 : decode cX10_add 46 = .ok (.dup, 1) := by decide +kernel
theorem dX10_add_47 : decode cX10_add 47 = .ok (.getfield 15, 3) := by decide +kernel
theorem dX10_add_50 : decode cX10_add 50 = .ok (.iconst 1, 1) := by decide +kernel
theorem dX10_add_51 : decode cX10_add 51 = .ok (.iadd, 1) := by decide +kernel
theorem dX10_add_52 : decode cX10_add 52 = .ok (.putfield 15, 3) := by decide +kernel
theorem dX10_add_55 : decode cX10_add 55 = .ok (.iconst 1, 1) := by decide +kernel
theorem dX10_add_56 : decode cX10_add 56 = .ok (.ireturn, 1) := by decide +kernel
theorem dX10_makeRoom_0 : decode cX10_makeRoom 0 = .ok (.iconst 2, 1) := by decide +kernel
theorem dX10_makeRoom_1 : decode cX10_makeRoom 1 = .ok (.aload_n 0, 1) := by decide +kernel
theorem dX10_makeRoom_2 : decode cX10_makeRoom 2 = .ok (.getfield 15, 3) := by decide +kernel
theorem dX10_makeRoom_5 : decode cX10_makeRoom 5 = .ok (.imul, 1) := by decide +kernel
theorem dX10_makeRoom_6 : decode cX10_makeRoom 6 = .ok (.aload_n 0, 1) := by decide +kernel
theorem dX10_makeRoom_7 : decode cX10_makeRoom 7 = .ok (.getfield 11, 3) := by decide +kernel
theorem dX10_makeRoom_10 : decode cX10_makeRoom 10 = .ok (.arraylength, 1) := by decide +kernel
theorem dX10_makeRoom_11 : decode cX10_makeRoom 11 = .ok (.if_icmp .lt 14, 3) := by decide +kernel
theorem dX10_makeRoom_14 : decode cX10_makeRoom 14 = .ok (.aload_n 0, 1) := by decide +kernel
theorem dX10_makeRoom_15 : decode cX10_makeRoom 15 = .ok (.getfield 11, 3) := by decide +kernel
theorem dX10_makeRoom_18 : decode cX10_makeRoom 18 = .ok (.arraylength, 1) := by decide +kernel
theorem dX10_makeRoom_19 : decode cX10_makeRoom 19 = .ok (.sipush 16384, 3) := by decide +kernel
theorem dX10_makeRoom_22 : decode cX10_makeRoom 22 = .ok (.if_icmp .lt 4, 3) := by decide +kernel
theorem dX10_makeRoom_25 : decode cX10_makeRoom 25 = .ok (.return_, 1) := by decide +kernel
theorem dX10_makeRoom_26 : decode cX10_makeRoom 26 = .ok (.aload_n 0, 1) := by decide +kernel
theorem dX10_makeRoom_27 : decode cX10_makeRoom 27 = .ok (.getfield 11, 3) := by decide +kernel
theorem dX10_makeRoom_30 : decode cX10_makeRoom 30 = .ok (.astore_n 1, 1) := by decide +kernel
theorem dX10_makeRoom_31 : decode cX10_makeRoom 31 = .ok (.aload_n 0, 1) := by decide +kernel
theorem dX10_makeRoom_32 : decode cX10_makeRoom 32 = .ok (.iconst 2, 1) := by decide +kernel
theorem dX10_makeRoom_33 : decode cX10_makeRoom 33 = .ok (.aload_n 1, 1) := by decide +kernel
theorem dX10_makeRoom_34 : decode cX10_makeRoom 34 = .ok (.arraylength, 1) := by decide +kernel
theorem dX10_makeRoom_35 : decode cX10_makeRoom 35 = .ok (.imul, 1) := by decide +kernel
theorem dX10_makeRoom_36 : decode cX10_makeRoom 36 = .ok (.newarray .long, 2) := by decide +kernel
theorem dX10_makeRoom_38 : decode cX10_makeRoom 38 = .ok (.putfield 11, 3) := by decide +kernel
theorem dX10_makeRoom_41 : decode cX10_makeRoom 41 = .ok (.iconst 0, 1) := by decide +kernel
theorem dX10_makeRoom_42 : decode cX10_makeRoom 42 = .ok (.istore_n 2, 1) := by decide +kernel
theorem dX10_makeRoom_43 : decode cX10_makeRoom 43 = .ok (.iload_n 2, 1) := by decide +kernel
theorem dX10_makeRoom_44 : decode cX10_makeRoom 44 = .ok (.aload_n 1, 1) := by decide +kernel
theorem dX10_makeRoom_45 : decode cX10_makeRoom 45 = .ok (.arraylength, 1) := by decide +kernel
theorem dX10_makeRoom_46 : decode cX10_makeRoom 46 = .ok (.if_icmp .ge 47, 3) := by decide +kernel
theorem dX10_makeRoom_49 : decode cX10_makeRoom 49 = .ok (.aload_n 0, 1) := by decide +kernel
theorem dX10_makeRoom_50 : decode cX10_makeRoom 50 = .ok (.aload_n 1, 1) := by decide +kernel
theorem dX10_makeRoom_51 : decode cX10_makeRoom 51 = .ok (.iload_n 2, 1) := by decide +kernel
theorem dX10_makeRoom_52 : decode cX10_makeRoom 52 = .ok (.laload, 1) := by decide +kernel
theorem dX10_makeRoom_53 : decode cX10_makeRoom 53 = .ok (.invokevirtual 25, 3) := by decide +kernel
theorem dX10_makeRoom_56 : decode cX10_makeRoom 56 = .ok (.istore_n 3, 1) := by decide +kernel
theorem dX10_makeRoom_57 : decode cX10_makeRoom 57 = .ok (.aload_n 1, 1) := by decide +kernel
theorem dX10_makeRoom_58 : decode cX10_makeRoom 58 = .ok (.iload_n 2, 1) := by decide +kernel
theorem dX10_makeRoom_59 : decode cX10_makeRoom 59 = .ok (.laload, 1) := by decide +kernel
theorem dX10_makeRoom_60 : decode cX10_makeRoom 60 = .ok (.lconst 0, 1) := by decide +kernel
theorem dX10_makeRoom_61 : decode cX10_makeRoom 61 = .ok (.lcmp, 1) := by decide +kernel
theorem dX10_makeRoom_62 : decode cX10_makeRoom 62 = .ok (.ifCond .eq 25, 3) := by decide +kernel
theorem dX10_makeRoom_65 : decode cX10_makeRoom 65 = .ok (.iload_n 3, 1) := by decide +kernel
theorem dX10_makeRoom_66 : decode cX10_makeRoom 66 = .ok (.ifCond .lt 21, 3) := by decide +kernel
theorem dX10_makeRoom_69 : decode cX10_makeRoom 69 = .ok (.iload_n 3, 1) := by decide +kernel
theorem dX10_makeRoom_70 : decode cX10_makeRoom 70 = .ok (.aload_n 0, 1) := by decide +kernel
theorem dX10_makeRoom_71 : decode cX10_makeRoom 71 = .ok (.getfield 11, 3) := by decide +kernel
theorem dX10_makeRoom_74 : decode cX10_makeRoom 74 = .ok (.arraylength, 1) := by decide +kernel
theorem dX10_makeRoom_75 : decode cX10_makeRoom 75 = .ok (.if_icmp .ge 12, 3) := by decide +kernel
theorem dX10_makeRoom_78 : decode cX10_makeRoom 78 = .ok (.aload_n 0, 1) := by decide +kernel
theorem dX10_makeRoom_79 : decode cX10_makeRoom 79 = .ok (.getfield 11, 3) := by decide +kernel
theorem dX10_makeRoom_82 : decode cX10_makeRoom 82 = .ok (.iload_n 3, 1) := by decide +kernel
theorem dX10_makeRoom_83 : decode cX10_makeRoom 83 = .ok (.aload_n 1, 1) := by decide +kernel
theorem dX10_makeRoom_84 : decode cX10_makeRoom 84 = .ok (.iload_n 2, 1) := by decide +kernel
theorem dX10_makeRoom_85 : decode cX10_makeRoom 85 = .ok (.laload, 1) := by decide +kernel
theorem dX10_makeRoom_86 : decode cX10_makeRoom 86 = .ok (.lastore, 1) := by decide +kernel
theorem dX10_makeRoom_87 : decode cX10_makeRoom 87 = .ok (.iinc 2 1, 3) := by decide +kernel
theorem dX10_makeRoom_90 : decode cX10_makeRoom 90 = .ok (.goto (-47), 3) := by decide +kernel
theorem dX10_makeRoom_93 : decode cX10_makeRoom 93 = .ok (.return_, 1) := by decide +kernel
theorem dX10_placeOf_0 : decode cX10_placeOf 0 = .ok (.lload_n 1, 1) := by decide +kernel
theorem dX10_placeOf_1 : decode cX10_placeOf 1 = .ok (.ldc2_w 33, 3) := by decide +kernel
theorem dX10_placeOf_4 : decode cX10_placeOf 4 = .ok (.lmul, 1) := by decide +kernel
theorem dX10_placeOf_5 : decode cX10_placeOf 5 = .ok (.bipush 40, 2) := by decide +kernel
theorem dX10_placeOf_7 : decode cX10_placeOf 7 = .ok (.lushr, 1) := by decide +kernel
theorem dX10_placeOf_8 : decode cX10_placeOf 8 = .ok (.l2i, 1) := by decide +kernel
theorem dX10_placeOf_9 : decode cX10_placeOf 9 = .ok (.istore_n 3, 1) := by decide +kernel
theorem dX10_placeOf_10 : decode cX10_placeOf 10 = .ok (.iconst 0, 1) := by decide +kernel
theorem dX10_placeOf_11 : decode cX10_placeOf 11 = .ok (.istore 4, 2) := by decide +kernel
theorem dX10_placeOf_13 : decode cX10_placeOf 13 = .ok (.iload 4, 2) := by decide +kernel
theorem dX10_placeOf_15 : decode cX10_placeOf 15 = .ok (.aload_n 0, 1) := by decide +kernel
theorem dX10_placeOf_16 : decode cX10_placeOf 16 = .ok (.getfield 11, 3) := by decide +kernel
theorem dX10_placeOf_19 : decode cX10_placeOf 19 = .ok (.arraylength, 1) := by decide +kernel
theorem dX10_placeOf_20 : decode cX10_placeOf 20 = .ok (.if_icmp .ge 67, 3) := by decide +kernel
theorem dX10_placeOf_23 : decode cX10_placeOf 23 = .ok (.iload_n 3, 1) := by decide +kernel
theorem dX10_placeOf_24 : decode cX10_placeOf 24 = .ok (.iload 4, 2) := by decide +kernel
theorem dX10_placeOf_26 : decode cX10_placeOf 26 = .ok (.iadd, 1) := by decide +kernel
theorem dX10_placeOf_27 : decode cX10_placeOf 27 = .ok (.aload_n 0, 1) := by decide +kernel
theorem dX10_placeOf_28 : decode cX10_placeOf 28 = .ok (.getfield 11, 3) := by decide +kernel
theorem dX10_placeOf_31 : decode cX10_placeOf 31 = .ok (.arraylength, 1) := by decide +kernel
theorem dX10_placeOf_32 : decode cX10_placeOf 32 = .ok (.iconst 1, 1) := by decide +kernel
theorem dX10_placeOf_33 : decode cX10_placeOf 33 = .ok (.isub, 1) := by decide +kernel
theorem dX10_placeOf_34 : decode cX10_placeOf 34 = .ok (.iand, 1) := by decide +kernel
theorem dX10_placeOf_35 : decode cX10_placeOf 35 = .ok (.istore 5, 2) := by decide +kernel
theorem dX10_placeOf_37 : decode cX10_placeOf 37 = .ok (.iload 5, 2) := by decide +kernel
theorem dX10_placeOf_39 : decode cX10_placeOf 39 = .ok (.ifCond .lt 13, 3) := by decide +kernel
theorem dX10_placeOf_42 : decode cX10_placeOf 42 = .ok (.iload 5, 2) := by decide +kernel
theorem dX10_placeOf_44 : decode cX10_placeOf 44 = .ok (.aload_n 0, 1) := by decide +kernel
theorem dX10_placeOf_45 : decode cX10_placeOf 45 = .ok (.getfield 11, 3) := by decide +kernel
theorem dX10_placeOf_48 : decode cX10_placeOf 48 = .ok (.arraylength, 1) := by decide +kernel
theorem dX10_placeOf_49 : decode cX10_placeOf 49 = .ok (.if_icmp .lt 5, 3) := by decide +kernel
theorem dX10_placeOf_52 : decode cX10_placeOf 52 = .ok (.iconst (-1), 1) := by decide +kernel
theorem dX10_placeOf_53 : decode cX10_placeOf 53 = .ok (.ireturn, 1) := by decide +kernel
theorem dX10_placeOf_54 : decode cX10_placeOf 54 = .ok (.aload_n 0, 1) := by decide +kernel
theorem dX10_placeOf_55 : decode cX10_placeOf 55 = .ok (.getfield 11, 3) := by decide +kernel
theorem dX10_placeOf_58 : decode cX10_placeOf 58 = .ok (.iload 5, 2) := by decide +kernel
theorem dX10_placeOf_60 : decode cX10_placeOf 60 = .ok (.laload, 1) := by decide +kernel
theorem dX10_placeOf_61 : decode cX10_placeOf 61 = .ok (.lload_n 1, 1) := by decide +kernel
theorem dX10_placeOf_62 : decode cX10_placeOf 62 = .ok (.lcmp, 1) := by decide +kernel
theorem dX10_placeOf_63 : decode cX10_placeOf 63 = .ok (.ifCond .eq 15, 3) := by decide +kernel
theorem dX10_placeOf_66 : decode cX10_placeOf 66 = .ok (.aload_n 0, 1) := by decide +kernel
theorem dX10_placeOf_67 : decode cX10_placeOf 67 = .ok (.getfield 11, 3) := by decide +kernel
theorem dX10_placeOf_70 : decode cX10_placeOf 70 = .ok (.iload 5, 2) := by decide +kernel
theorem dX10_placeOf_72 : decode cX10_placeOf 72 = .ok (.laload, 1) := by decide +kernel
theorem dX10_placeOf_73 : decode cX10_placeOf 73 = .ok (.lconst 0, 1) := by decide +kernel
theorem dX10_placeOf_74 : decode cX10_placeOf 74 = .ok (.lcmp, 1) := by decide +kernel
theorem dX10_placeOf_75 : decode cX10_placeOf 75 = .ok (.ifCond .ne 6, 3) := by decide +kernel
theorem dX10_placeOf_78 : decode cX10_placeOf 78 = .ok (.iload 5, 2) := by decide +kernel
theorem dX10_placeOf_80 : decode cX10_placeOf 80 = .ok (.ireturn, 1) := by decide +kernel
theorem dX10_placeOf_81 : decode cX10_placeOf 81 = .ok (.iinc 4 1, 3) := by decide +kernel
theorem dX10_placeOf_84 : decode cX10_placeOf 84 = .ok (.goto (-71), 3) := by decide +kernel
theorem dX10_placeOf_87 : decode cX10_placeOf 87 = .ok (.iconst (-1), 1) := by decide +kernel
theorem dX10_placeOf_88 : decode cX10_placeOf 88 = .ok (.ireturn, 1) := by decide +kernel
theorem dX11_init_0 : decode cX11_init 0 = .ok (.aload_n 0, 1) := by decide +kernel
theorem dX11_init_1 : decode cX11_init 1 = .ok (.invokespecial 1, 3) := by decide +kernel
theorem dX11_init_4 : decode cX11_init 4 = .ok (.aload_n 0, 1) := by decide +kernel
theorem dX11_init_5 : decode cX11_init 5 = .ok (.new 7, 3) := by decide +kernel
theorem dX11_init_8 : decode cX11_init 8 = .ok (.dup, 1) := by decide +kernel
theorem dX11_init_9 : decode cX11_init 9 = .ok (.invokespecial 9, 3) := by decide +kernel
theorem dX11_init_12 : decode cX11_init 12 = .ok (.putfield 10, 3) := by decide +kernel
theorem dX11_init_15 : decode cX11_init 15 = .ok (.aload_n 0, 1) := by decide +kernel
theorem dX11_init_16 : decode cX11_init 16 = .ok (.new 7, 3) := by decide +kernel
theorem dX11_init_19 : decode cX11_init 19 = .ok (.dup, 1) := by decide +kernel
theorem dX11_init_20 : decode cX11_init 20 = .ok (.invokespecial 9, 3) := by decide +kernel
theorem dX11_init_23 : decode cX11_init 23 = .ok (.putfield 16, 3) := by decide +kernel
theorem dX11_init_26 : decode cX11_init 26 = .ok (.aload_n 0, 1) := by decide +kernel
theorem dX11_init_27 : decode cX11_init 27 = .ok (.new 19, 3) := by decide +kernel
theorem dX11_init_30 : decode cX11_init 30 = .ok (.dup, 1) := by decide +kernel
theorem dX11_init_31 : decode cX11_init 31 = .ok (.invokespecial 21, 3) := by decide +kernel
theorem dX11_init_34 : decode cX11_init 34 = .ok (.putfield 22, 3) := by decide +kernel
theorem dX11_init_37 : decode cX11_init 37 = .ok (.aload_n 0, 1) := by decide +kernel
theorem dX11_init_38 : decode cX11_init 38 = .ok (.new 26, 3) := by decide +kernel
theorem dX11_init_41 : decode cX11_init 41 = .ok (.dup, 1) := by decide +kernel
theorem dX11_init_42 : decode cX11_init 42 = .ok (.invokespecial 28, 3) := by decide +kernel
theorem dX11_init_45 : decode cX11_init 45 = .ok (.putfield 29, 3) := by decide +kernel
theorem dX11_init_48 : decode cX11_init 48 = .ok (.aload_n 0, 1) := by decide +kernel
theorem dX11_init_49 : decode cX11_init 49 = .ok (.new 33, 3) := by decide +kernel
theorem dX11_init_52 : decode cX11_init 52 = .ok (.dup, 1) := by decide +kernel
theorem dX11_init_53 : decode cX11_init 53 = .ok (.aload_n 0, 1) := by decide +kernel
theorem dX11_init_54 : decode cX11_init 54 = .ok (.getfield 10, 3) := by decide +kernel
theorem dX11_init_57 : decode cX11_init 57 = .ok (.aload_n 0, 1) := by decide +kernel
theorem dX11_init_58 : decode cX11_init 58 = .ok (.getfield 29, 3) := by decide +kernel
theorem dX11_init_61 : decode cX11_init 61 = .ok (.invokespecial 35, 3) := by decide +kernel
theorem dX11_init_64 : decode cX11_init 64 = .ok (.putfield 38, 3) := by decide +kernel
theorem dX11_init_67 : decode cX11_init 67 = .ok (.aload_n 0, 1) := by decide +kernel
theorem dX11_init_68 : decode cX11_init 68 = .ok (.new 33, 3) := by decide +kernel
theorem dX11_init_71 : decode cX11_init 71 = .ok (.dup, 1) := by decide +kernel
theorem dX11_init_72 : decode cX11_init 72 = .ok (.aload_n 0, 1) := by decide +kernel
theorem dX11_init_73 : decode cX11_init 73 = .ok (.getfield 10, 3) := by decide +kernel
theorem dX11_init_76 : decode cX11_init 76 = .ok (.aload_n 0, 1) := by decide +kernel
theorem dX11_init_77 : decode cX11_init 77 = .ok (.getfield 29, 3) := by decide +kernel
theorem dX11_init_80 : decode cX11_init 80 = .ok (.invokespecial 35, 3) := by decide +kernel
theorem dX11_init_83 : decode cX11_init 83 = .ok (.putfield 42, 3) := by decide +kernel
theorem dX11_init_86 : decode cX11_init 86 = .ok (.aload_n 0, 1) := by decide +kernel
theorem dX11_init_87 : decode cX11_init 87 = .ok (.new 45, 3) := by decide +kernel
theorem dX11_init_90 : decode cX11_init 90 = .ok (.dup, 1) := by decide +kernel
theorem dX11_init_91 : decode cX11_init 91 = .ok (.invokespecial 47, 3) := by decide +kernel
theorem dX11_init_94 : decode cX11_init 94 = .ok (.putfield 48, 3) := by decide +kernel
theorem dX11_init_97 : decode cX11_init 97 = .ok (.aload_n 0, 1) := by decide +kernel
theorem dX11_init_98 : decode cX11_init 98 = .ok (.new 52, 3) := by decide +kernel
theorem dX11_init_101 : decode cX11_init 101 = .ok (.dup, 1) := by decide +kernel
theorem dX11_init_102 : decode cX11_init 102 = .ok (.bipush 8, 2) := by decide +kernel
theorem dX11_init_104 : decode cX11_init 104 = .ok (.invokespecial 54, 3) := by decide +kernel
theorem dX11_init_107 : decode cX11_init 107 = .ok (.putfield 57, 3) := by decide +kernel
theorem dX11_init_110 : decode cX11_init 110 = .ok (.aload_n 0, 1) := by decide +kernel
theorem dX11_init_111 : decode cX11_init 111 = .ok (.bipush 8, 2) := by decide +kernel
theorem dX11_init_113 : decode cX11_init 113 = .ok (.newarray .int, 2) := by decide +kernel
theorem dX11_init_115 : decode cX11_init 115 = .ok (.putfield 61, 3) := by decide +kernel
theorem dX11_init_118 : decode cX11_init 118 = .ok (.aload_n 0, 1) := by decide +kernel
theorem dX11_init_119 : decode cX11_init 119 = .ok (.bipush 8, 2) := by decide +kernel
theorem dX11_init_121 : decode cX11_init 121 = .ok (.newarray .long, 2) := by decide +kernel
theorem dX11_init_123 : decode cX11_init 123 = .ok (.putfield 65, 3) := by decide +kernel
theorem dX11_init_126 : decode cX11_init 126 = .ok (.aload_n 0, 1) := by decide +kernel
theorem dX11_init_127 : decode cX11_init 127 = .ok (.getfield 38, 3) := by decide +kernel
theorem dX11_init_130 : decode cX11_init 130 = .ok (.iconst 0, 1) := by decide +kernel
theorem dX11_init_131 : decode cX11_init 131 = .ok (.invokevirtual 69, 3) := by decide +kernel
theorem dX11_init_134 : decode cX11_init 134 = .ok (.return_, 1) := by decide +kernel
theorem dX11_sign_0 : decode cX11_sign 0 = .ok (.aload_n 0, 1) := by decide +kernel
theorem dX11_sign_1 : decode cX11_sign 1 = .ok (.getfield 22, 3) := by decide +kernel
theorem dX11_sign_4 : decode cX11_sign 4 = .ok (.iload_n 1, 1) := by decide +kernel
theorem dX11_sign_5 : decode cX11_sign 5 = .ok (.invokevirtual 72, 3) := by decide +kernel
theorem dX11_sign_8 : decode cX11_sign 8 = .ok (.ireturn, 1) := by decide +kernel
theorem dX11_end_0 : decode cX11_end 0 = .ok (.aload_n 0, 1) := by decide +kernel
theorem dX11_end_1 : decode cX11_end 1 = .ok (.getfield 22, 3) := by decide +kernel
theorem dX11_end_4 : decode cX11_end 4 = .ok (.iload_n 1, 1) := by decide +kernel
theorem dX11_end_5 : decode cX11_end 5 = .ok (.invokevirtual 76, 3) := by decide +kernel
theorem dX11_end_8 : decode cX11_end 8 = .ok (.ireturn, 1) := by decide +kernel
theorem dX11_machine_0 : decode cX11_machine 0 = .ok (.aload_n 0, 1) := by decide +kernel
theorem dX11_machine_1 : decode cX11_machine 1 = .ok (.getfield 22, 3) := by decide +kernel
theorem dX11_machine_4 : decode cX11_machine 4 = .ok (.aload_n 0, 1) := by decide +kernel
theorem dX11_machine_5 : decode cX11_machine 5 = .ok (.getfield 16, 3) := by decide +kernel
theorem dX11_machine_8 : decode cX11_machine 8 = .ok (.invokevirtual 80, 3) := by decide +kernel
theorem dX11_machine_11 : decode cX11_machine 11 = .ok (.istore_n 1, 1) := by decide +kernel
theorem dX11_machine_12 : decode cX11_machine 12 = .ok (.aload_n 0, 1) := by decide +kernel
theorem dX11_machine_13 : decode cX11_machine 13 = .ok (.getfield 22, 3) := by decide +kernel
theorem dX11_machine_16 : decode cX11_machine 16 = .ok (.iconst 0, 1) := by decide +kernel
theorem dX11_machine_17 : decode cX11_machine 17 = .ok (.invokevirtual 76, 3) := by decide +kernel
theorem dX11_machine_20 : decode cX11_machine 20 = .ok (.pop, 1) := by decide +kernel
theorem dX11_machine_21 : decode cX11_machine 21 = .ok (.iload_n 1, 1) := by decide +kernel
theorem dX11_machine_22 : decode cX11_machine 22 = .ok (.ifCond .ge 5, 3) := by decide +kernel
theorem dX11_machine_25 : decode cX11_machine 25 = .ok (.iload_n 1, 1) := by decide +kernel
theorem dX11_machine_26 : decode cX11_machine 26 = .ok (.ireturn, 1) := by decide +kernel
theorem dX11_machine_27 : decode cX11_machine 27 = .ok (.aload_n 0, 1) := by decide +kernel
theorem dX11_machine_28 : decode cX11_machine 28 = .ok (.getfield 16, 3) := by decide +kernel
theorem dX11_machine_31 : decode cX11_machine 31 = .ok (.invokevirtual 84, 3) := by decide +kernel
theorem dX11_machine_34 : decode cX11_machine 34 = .ok (.ifCond .ne 6, 3) := by decide +kernel
theorem dX11_machine_37 : decode cX11_machine 37 = .ok (.bipush (-100), 2) := by decide +kernel
theorem dX11_machine_39 : decode cX11_machine 39 = .ok (.ireturn, 1) := by decide +kernel
theorem dX11_machine_40 : decode cX11_machine 40 = .ok (.aload_n 0, 1) := by decide +kernel
theorem dX11_machine_41 : decode cX11_machine 41 = .ok (.getfield 10, 3) := by decide +kernel
theorem dX11_machine_44 : decode cX11_machine 44 = .ok (.aload_n 0, 1) := by decide +kernel
theorem dX11_machine_45 : decode cX11_machine 45 = .ok (.getfield 16, 3) := by decide +kernel
theorem dX11_machine_48 : decode cX11_machine 48 = .ok (.invokevirtual 88, 3) := by decide +kernel
theorem dX11_machine_51 : decode cX11_machine 51 = .ok (.aload_n 0, 1) := by decide +kernel
theorem dX11_machine_52 : decode cX11_machine 52 = .ok (.getfield 38, 3) := by decide +kernel
theorem dX11_machine_55 : decode cX11_machine 55 = .ok (.aload_n 0, 1) := by decide +kernel
theorem dX11_machine_56 : decode cX11_machine 56 = .ok (.getfield 38, 3) := by decide +kernel
theorem dX11_machine_59 : decode cX11_machine 59 = .ok (.getfield 92, 3) := by decide +kernel
theorem dX11_machine_62 : decode cX11_machine 62 = .ok (.invokevirtual 69, 3) := by decide +kernel
theorem dX11_machine_65 : decode cX11_machine 65 = .ok (.iload_n 1, 1) := by decide +kernel
theorem dX11_machine_66 : decode cX11_machine 66 = .ok (.ireturn, 1) := by decide +kernel
theorem dX11_draws_0 : decode cX11_draws 0 = .ok (.iload_n 2, 1) := by decide +kernel
theorem dX11_draws_1 : decode cX11_draws 1 = .ok (.iconst 1, 1) := by decide +kernel
theorem dX11_draws_2 : decode cX11_draws 2 = .ok (.if_icmp .lt 19, 3) := by decide +kernel
theorem dX11_draws_5 : decode cX11_draws 5 = .ok (.iload_n 2, 1) := by decide +kernel
theorem dX11_draws_6 : decode cX11_draws 6 = .ok (.bipush 8, 2) := by decide +kernel
theorem dX11_draws_8 : decode cX11_draws 8 = .ok (.if_icmp .gt 13, 3) := by decide +kernel
theorem dX11_draws_11 : decode cX11_draws 11 = .ok (.iload_n 3, 1) := by decide +kernel
theorem dX11_draws_12 : decode cX11_draws 12 = .ok (.iconst 1, 1) := by decide +kernel
theorem dX11_draws_13 : decode cX11_draws 13 = .ok (.if_icmp .lt 8, 3) := by decide +kernel
theorem dX11_draws_16 : decode cX11_draws 16 = .ok (.iload_n 3, 1) := by decide +kernel
theorem dX11_draws_17 : decode cX11_draws 17 = .ok (.iconst 3, 1) := by decide +kernel
theorem dX11_draws_18 : decode cX11_draws 18 = .ok (.if_icmp .le 5, 3) := by decide +kernel
theorem dX11_draws_21 : decode cX11_draws 21 = .ok (.iconst (-1), 1) := by decide +kernel
theorem dX11_draws_22 : decode cX11_draws 22 = .ok (.ireturn, 1) := by decide +kernel
theorem dX11_draws_23 : decode cX11_draws 23 = .ok (.iload 4, 2) := by decide +kernel
theorem dX11_draws_25 : decode cX11_draws 25 = .ok (.iconst 1, 1) := by decide +kernel
theorem dX11_draws_26 : decode cX11_draws 26 = .ok (.if_icmp .lt 9, 3) := by decide +kernel
theorem dX11_draws_29 : decode cX11_draws 29 = .ok (.iload 4, 2) := by decide +kernel
theorem dX11_draws_31 : decode cX11_draws 31 = .ok (.iconst 4, 1) := by decide +kernel
theorem dX11_draws_32 : decode cX11_draws 32 = .ok (.if_icmp .le 5, 3) := by decide +kernel
theorem dX11_draws_35 : decode cX11_draws 35 = .ok (.iconst (-1), 1) := by decide +kernel
theorem dX11_draws_36 : decode cX11_draws 36 = .ok (.ireturn, 1) := by decide +kernel
theorem dX11_draws_37 : decode cX11_draws 37 = .ok (.aload_n 0, 1) := by decide +kernel
theorem dX11_draws_38 : decode cX11_draws 38 = .ok (.getfield 10, 3) := by decide +kernel
theorem dX11_draws_41 : decode cX11_draws 41 = .ok (.iload_n 1, 1) := by decide +kernel
theorem dX11_draws_42 : decode cX11_draws 42 = .ok (.iload_n 2, 1) := by decide +kernel
theorem dX11_draws_43 : decode cX11_draws 43 = .ok (.iload_n 3, 1) := by decide +kernel
theorem dX11_draws_44 : decode cX11_draws 44 = .ok (.iload 4, 2) := by decide +kernel
theorem dX11_draws_46 : decode cX11_draws 46 = .ok (.invokevirtual 96, 3) := by decide +kernel
theorem dX11_draws_49 : decode cX11_draws 49 = .ok (.aload_n 0, 1) := by decide +kernel
theorem dX11_draws_50 : decode cX11_draws 50 = .ok (.getfield 38, 3) := by decide +kernel
theorem dX11_draws_53 : decode cX11_draws 53 = .ok (.aload_n 0, 1) := by decide +kernel
theorem dX11_draws_54 : decode cX11_draws 54 = .ok (.getfield 38, 3) := by decide +kernel
theorem dX11_draws_57 : decode cX11_draws 57 = .ok (.getfield 92, 3) := by decide +kernel
theorem dX11_draws_60 : decode cX11_draws 60 = .ok (.invokevirtual 69, 3) := by decide +kernel
theorem dX11_draws_63 : decode cX11_draws 63 = .ok (.aload_n 0, 1) := by decide +kernel
theorem dX11_draws_64 : decode cX11_draws 64 = .ok (.invokevirtual 100, 3) := by decide +kernel
theorem dX11_draws_67 : decode cX11_draws 67 = .ok (.ireturn, 1) := by decide +kernel
theorem dX11_state_0 : decode cX11_state 0 = .ok (.aload_n 0, 1) := by decide +kernel
theorem dX11_state_1 : decode cX11_state 1 = .ok (.getfield 10, 3) := by decide +kernel
theorem dX11_state_4 : decode cX11_state 4 = .ok (.iload_n 1, 1) := by decide +kernel
theorem dX11_state_5 : decode cX11_state 5 = .ok (.iload_n 2, 1) := by decide +kernel
theorem dX11_state_6 : decode cX11_state 6 = .ok (.invokevirtual 104, 3) := by decide +kernel
theorem dX11_state_9 : decode cX11_state 9 = .ok (.ireturn, 1) := by decide +kernel
theorem dX11_run_0 : decode cX11_run 0 = .ok (.aload_n 0, 1) := by decide +kernel
theorem dX11_run_1 : decode cX11_run 1 = .ok (.lload_n 1, 1) := by decide +kernel
theorem dX11_run_2 : decode cX11_run 2 = .ok (.invokevirtual 108, 3) := by decide +kernel
theorem dX11_run_5 : decode cX11_run 5 = .ok (.ifCond .eq 7, 3) := by decide +kernel
theorem dX11_run_8 : decode cX11_run 8 = .ok (.iconst (-1), 1) := by decide +kernel
theorem dX11_run_9 : decode cX11_run 9 = .ok (.goto 12, 3) := by decide +kernel
theorem dX11_run_12 : decode cX11_run 12 = .ok (.aload_n 0, 1) := by decide +kernel
theorem dX11_run_13 : decode cX11_run 13 = .ok (.getfield 10, 3) := by decide +kernel
theorem dX11_run_16 : decode cX11_run 16 = .ok (.iconst 0, 1) := by decide +kernel
theorem dX11_run_17 : decode cX11_run 17 = .ok (.lload_n 1, 1) := by decide +kernel
theorem dX11_run_18 : decode cX11_run 18 = .ok (.invokevirtual 112, 3) := by decide +kernel
theorem dX11_run_21 : decode cX11_run 21 = .ok (.ireturn, 1) := by decide +kernel
theorem dX11_joins_0 : decode cX11_joins 0 = .ok (.aload_n 0, 1) := by decide +kernel
theorem dX11_joins_1 : decode cX11_joins 1 = .ok (.lload_n 1, 1) := by decide +kernel
theorem dX11_joins_2 : decode cX11_joins 2 = .ok (.invokevirtual 108, 3) := by decide +kernel
theorem dX11_joins_5 : decode cX11_joins 5 = .ok (.ifCond .ne 11, 3) := by decide +kernel
theorem dX11_joins_8 : decode cX11_joins 8 = .ok (.aload_n 0, 1) := by decide +kernel
theorem dX11_joins_9 : decode cX11_joins 9 = .ok (.lload_n 3, 1) := by decide +kernel
theorem dX11_joins_10 : decode cX11_joins 10 = .ok (.invokevirtual 108, 3) := by decide +kernel
theorem dX11_joins_13 : decode cX11_joins 13 = .ok (.ifCond .eq 7, 3) := by decide +kernel
theorem dX11_joins_16 : decode cX11_joins 16 = .ok (.ldc2_w 116, 3) := by decide +kernel
theorem dX11_joins_19 : decode cX11_joins 19 = .ok (.lreturn, 1) := by decide +kernel
theorem dX11_joins_20 : decode cX11_joins 20 = .ok (.lload_n 1, 1) := by decide +kernel
theorem dX11_joins_21 : decode cX11_joins 21 = .ok (.lload_n 3, 1) := by decide +kernel
theorem dX11_joins_22 : decode cX11_joins 22 = .ok (.invokestatic 118, 3) := by decide +kernel
theorem dX11_joins_25 : decode cX11_joins 25 = .ok (.lreturn, 1) := by decide +kernel
theorem dX11_letter_0 : decode cX11_letter 0 = .ok (.lload_n 1, 1) := by decide +kernel
theorem dX11_letter_1 : decode cX11_letter 1 = .ok (.aload_n 0, 1) := by decide +kernel
theorem dX11_letter_2 : decode cX11_letter 2 = .ok (.getfield 10, 3) := by decide +kernel
theorem dX11_letter_5 : decode cX11_letter 5 = .ok (.getfield 124, 3) := by decide +kernel
theorem dX11_letter_8 : decode cX11_letter 8 = .ok (.invokestatic 127, 3) := by decide +kernel
theorem dX11_letter_11 : decode cX11_letter 11 = .ok (.istore 4, 2) := by decide +kernel
theorem dX11_letter_13 : decode cX11_letter 13 = .ok (.iload 4, 2) := by decide +kernel
theorem dX11_letter_15 : decode cX11_letter 15 = .ok (.ifCond .lt 8, 3) := by decide +kernel
theorem dX11_letter_18 : decode cX11_letter 18 = .ok (.iload_n 3, 1) := by decide +kernel
theorem dX11_letter_19 : decode cX11_letter 19 = .ok (.iconst (-1), 1) := by decide +kernel
theorem dX11_letter_20 : decode cX11_letter 20 = .ok (.if_icmp .ne 6, 3) := by decide +kernel
theorem dX11_letter_23 : decode cX11_letter 23 = .ok (.iload 4, 2) := by decide +kernel
theorem dX11_letter_25 : decode cX11_letter 25 = .ok (.ireturn, 1) := by decide +kernel
theorem dX11_letter_26 : decode cX11_letter 26 = .ok (.iload_n 3, 1) := by decide +kernel
theorem dX11_letter_27 : decode cX11_letter 27 = .ok (.ifCond .lt 9, 3) := by decide +kernel
theorem dX11_letter_30 : decode cX11_letter 30 = .ok (.iload_n 3, 1) := by decide +kernel
theorem dX11_letter_31 : decode cX11_letter 31 = .ok (.iload 4, 2) := by decide +kernel
theorem dX11_letter_33 : decode cX11_letter 33 = .ok (.if_icmp .lt 7, 3) := by decide +kernel
theorem dX11_letter_36 : decode cX11_letter 36 = .ok (.iconst (-1), 1) := by decide +kernel
theorem dX11_letter_37 : decode cX11_letter 37 = .ok (.goto 8, 3) := by decide +kernel
theorem dX11_letter_40 : decode cX11_letter 40 = .ok (.lload_n 1, 1) := by decide +kernel
theorem dX11_letter_41 : decode cX11_letter 41 = .ok (.iload_n 3, 1) := by decide +kernel
theorem dX11_letter_42 : decode cX11_letter 42 = .ok (.invokestatic 131, 3) := by decide +kernel
theorem dX11_letter_45 : decode cX11_letter 45 = .ok (.ireturn, 1) := by decide +kernel
theorem dX11_cut_0 : decode cX11_cut 0 = .ok (.lload_n 1, 1) := by decide +kernel
theorem dX11_cut_1 : decode cX11_cut 1 = .ok (.aload_n 0, 1) := by decide +kernel
theorem dX11_cut_2 : decode cX11_cut 2 = .ok (.getfield 10, 3) := by decide +kernel
theorem dX11_cut_5 : decode cX11_cut 5 = .ok (.getfield 124, 3) := by decide +kernel
theorem dX11_cut_8 : decode cX11_cut 8 = .ok (.invokestatic 127, 3) := by decide +kernel
theorem dX11_cut_11 : decode cX11_cut 11 = .ok (.istore 4, 2) := by decide +kernel
theorem dX11_cut_13 : decode cX11_cut 13 = .ok (.iload 4, 2) := by decide +kernel
theorem dX11_cut_15 : decode cX11_cut 15 = .ok (.ifCond .lt 16, 3) := by decide +kernel
theorem dX11_cut_18 : decode cX11_cut 18 = .ok (.iload_n 3, 1) := by decide +kernel
theorem dX11_cut_19 : decode cX11_cut 19 = .ok (.iload 4, 2) := by decide +kernel
theorem dX11_cut_21 : decode cX11_cut 21 = .ok (.if_icmp .gt 10, 3) := by decide +kernel
theorem dX11_cut_24 : decode cX11_cut 24 = .ok (.iload_n 3, 1) := by decide +kernel
theorem dX11_cut_25 : decode cX11_cut 25 = .ok (.iload 4, 2) := by decide +kernel
theorem dX11_cut_27 : decode cX11_cut 27 = .ok (.ineg, 1) := by decide +kernel
theorem dX11_cut_28 : decode cX11_cut 28 = .ok (.if_icmp .ge 7, 3) := by decide +kernel
theorem dX11_cut_31 : decode cX11_cut 31 = .ok (.ldc2_w 116, 3) := by decide +kernel
theorem dX11_cut_34 : decode cX11_cut 34 = .ok (.lreturn, 1) := by decide +kernel
theorem dX11_cut_35 : decode cX11_cut 35 = .ok (.iload_n 3, 1) := by decide +kernel
theorem dX11_cut_36 : decode cX11_cut 36 = .ok (.ifCond .ge 12, 3) := by decide +kernel
theorem dX11_cut_39 : decode cX11_cut 39 = .ok (.lload_n 1, 1) := by decide +kernel
theorem dX11_cut_40 : decode cX11_cut 40 = .ok (.iload_n 3, 1) := by decide +kernel
theorem dX11_cut_41 : decode cX11_cut 41 = .ok (.ineg, 1) := by decide +kernel
theorem dX11_cut_42 : decode cX11_cut 42 = .ok (.invokestatic 134, 3) := by decide +kernel
theorem dX11_cut_45 : decode cX11_cut 45 = .ok (.goto 8, 3) := by decide +kernel
theorem dX11_cut_48 : decode cX11_cut 48 = .ok (.lload_n 1, 1) := by decide +kernel
theorem dX11_cut_49 : decode cX11_cut 49 = .ok (.iload_n 3, 1) := by decide +kernel
theorem dX11_cut_50 : decode cX11_cut 50 = .ok (.invokestatic 138, 3) := by decide +kernel
theorem dX11_cut_53 : decode cX11_cut 53 = .ok (.lreturn, 1) := by decide +kernel
theorem dX11_word_0 : decode cX11_word 0 = .ok (.iload_n 1, 1) := by decide +kernel
theorem dX11_word_1 : decode cX11_word 1 = .ok (.ifCond .lt 9, 3) := by decide +kernel
theorem dX11_word_4 : decode cX11_word 4 = .ok (.iload_n 1, 1) := by decide +kernel
theorem dX11_word_5 : decode cX11_word 5 = .ok (.ldc 141, 2) := by decide +kernel
theorem dX11_word_7 : decode cX11_word 7 = .ok (.if_icmp .le 9, 3) := by decide +kernel
theorem dX11_word_10 : decode cX11_word 10 = .ok (.ldc2_w 116, 3) := by decide +kernel
theorem dX11_word_13 : decode cX11_word 13 = .ok (.goto 14, 3) := by decide +kernel
theorem dX11_word_16 : decode cX11_word 16 = .ok (.iload_n 1, 1) := by decide +kernel
theorem dX11_word_17 : decode cX11_word 17 = .ok (.aload_n 0, 1) := by decide +kernel
theorem dX11_word_18 : decode cX11_word 18 = .ok (.getfield 10, 3) := by decide +kernel
theorem dX11_word_21 : decode cX11_word 21 = .ok (.getfield 124, 3) := by decide +kernel
theorem dX11_word_24 : decode cX11_word 24 = .ok (.invokestatic 142, 3) := by decide +kernel
theorem dX11_word_27 : decode cX11_word 27 = .ok (.lreturn, 1) := by decide +kernel
theorem dX11_prices_0 : decode cX11_prices 0 = .ok (.iload_n 1, 1) := by decide +kernel
theorem dX11_prices_1 : decode cX11_prices 1 = .ok (.ifCond .lt 19, 3) := by decide +kernel
theorem dX11_prices_4 : decode cX11_prices 4 = .ok (.iload_n 1, 1) := by decide +kernel
theorem dX11_prices_5 : decode cX11_prices 5 = .ok (.bipush 99, 2) := by decide +kernel
theorem dX11_prices_7 : decode cX11_prices 7 = .ok (.if_icmp .gt 13, 3) := by decide +kernel
theorem dX11_prices_10 : decode cX11_prices 10 = .ok (.iload_n 2, 1) := by decide +kernel
theorem dX11_prices_11 : decode cX11_prices 11 = .ok (.ifCond .lt 9, 3) := by decide +kernel
theorem dX11_prices_14 : decode cX11_prices 14 = .ok (.iload_n 2, 1) := by decide +kernel
theorem dX11_prices_15 : decode cX11_prices 15 = .ok (.bipush 99, 2) := by decide +kernel
theorem dX11_prices_17 : decode cX11_prices 17 = .ok (.if_icmp .le 5, 3) := by decide +kernel
theorem dX11_prices_20 : decode cX11_prices 20 = .ok (.iconst 0, 1) := by decide +kernel
theorem dX11_prices_21 : decode cX11_prices 21 = .ok (.ireturn, 1) := by decide +kernel
theorem dX11_prices_22 : decode cX11_prices 22 = .ok (.aload_n 0, 1) := by decide +kernel
theorem dX11_prices_23 : decode cX11_prices 23 = .ok (.getfield 38, 3) := by decide +kernel
theorem dX11_prices_26 : decode cX11_prices 26 = .ok (.getfield 146, 3) := by decide +kernel
theorem dX11_prices_29 : decode cX11_prices 29 = .ok (.iload_n 1, 1) := by decide +kernel
theorem dX11_prices_30 : decode cX11_prices 30 = .ok (.iload_n 2, 1) := by decide +kernel
theorem dX11_prices_31 : decode cX11_prices 31 = .ok (.invokevirtual 150, 3) := by decide +kernel
theorem dX11_prices_34 : decode cX11_prices 34 = .ok (.aload_n 0, 1) := by decide +kernel
theorem dX11_prices_35 : decode cX11_prices 35 = .ok (.getfield 42, 3) := by decide +kernel
theorem dX11_prices_38 : decode cX11_prices 38 = .ok (.getfield 146, 3) := by decide +kernel
theorem dX11_prices_41 : decode cX11_prices 41 = .ok (.iload_n 1, 1) := by decide +kernel
theorem dX11_prices_42 : decode cX11_prices 42 = .ok (.iload_n 2, 1) := by decide +kernel
theorem dX11_prices_43 : decode cX11_prices 43 = .ok (.invokevirtual 150, 3) := by decide +kernel
theorem dX11_prices_46 : decode cX11_prices 46 = .ok (.iconst 1, 1) := by decide +kernel
theorem dX11_prices_47 : decode cX11_prices 47 = .ok (.ireturn, 1) := by decide +kernel
theorem dX11_method_0 : decode cX11_method 0 = .ok (.iload_n 1, 1) := by decide +kernel
theorem dX11_method_1 : decode cX11_method 1 = .ok (.ifCond .lt 8, 3) := by decide +kernel
theorem dX11_method_4 : decode cX11_method 4 = .ok (.iload_n 1, 1) := by decide +kernel
theorem dX11_method_5 : decode cX11_method 5 = .ok (.iconst 4, 1) := by decide +kernel
theorem dX11_method_6 : decode cX11_method 6 = .ok (.if_icmp .lt 5, 3) := by decide +kernel
theorem dX11_method_9 : decode cX11_method 9 = .ok (.iconst (-1), 1) := by decide +kernel
theorem dX11_method_10 : decode cX11_method 10 = .ok (.ireturn, 1) := by decide +kernel
theorem dX11_method_11 : decode cX11_method 11 = .ok (.aload_n 0, 1) := by decide +kernel
theorem dX11_method_12 : decode cX11_method 12 = .ok (.getfield 38, 3) := by decide +kernel
theorem dX11_method_15 : decode cX11_method 15 = .ok (.getfield 92, 3) := by decide +kernel
theorem dX11_method_18 : decode cX11_method 18 = .ok (.istore_n 2, 1) := by decide +kernel
theorem dX11_method_19 : decode cX11_method 19 = .ok (.aload_n 0, 1) := by decide +kernel
theorem dX11_method_20 : decode cX11_method 20 = .ok (.getfield 38, 3) := by decide +kernel
theorem dX11_method_23 : decode cX11_method 23 = .ok (.iload_n 1, 1) := by decide +kernel
theorem dX11_method_24 : decode cX11_method 24 = .ok (.invokevirtual 69, 3) := by decide +kernel
theorem dX11_method_27 : decode cX11_method 27 = .ok (.iload_n 2, 1) := by decide +kernel
theorem dX11_method_28 : decode cX11_method 28 = .ok (.ireturn, 1) := by decide +kernel
theorem dX11_asks_0 : decode cX11_asks 0 = .ok (.aload_n 0, 1) := by decide +kernel
theorem dX11_asks_1 : decode cX11_asks 1 = .ok (.lload_n 1, 1) := by decide +kernel
theorem dX11_asks_2 : decode cX11_asks 2 = .ok (.invokevirtual 108, 3) := by decide +kernel
theorem dX11_asks_5 : decode cX11_asks 5 = .ok (.ifCond .eq 7, 3) := by decide +kernel
theorem dX11_asks_8 : decode cX11_asks 8 = .ok (.iconst (-1), 1) := by decide +kernel
theorem dX11_asks_9 : decode cX11_asks 9 = .ok (.goto 14, 3) := by decide +kernel
theorem dX11_asks_12 : decode cX11_asks 12 = .ok (.aload_n 0, 1) := by decide +kernel
theorem dX11_asks_13 : decode cX11_asks 13 = .ok (.getfield 38, 3) := by decide +kernel
theorem dX11_asks_16 : decode cX11_asks 16 = .ok (.getfield 146, 3) := by decide +kernel
theorem dX11_asks_19 : decode cX11_asks 19 = .ok (.lload_n 1, 1) := by decide +kernel
theorem dX11_asks_20 : decode cX11_asks 20 = .ok (.invokevirtual 156, 3) := by decide +kernel
theorem dX11_asks_23 : decode cX11_asks 23 = .ok (.ireturn, 1) := by decide +kernel
theorem dX11_known_0 : decode cX11_known 0 = .ok (.aload_n 0, 1) := by decide +kernel
theorem dX11_known_1 : decode cX11_known 1 = .ok (.lload_n 1, 1) := by decide +kernel
theorem dX11_known_2 : decode cX11_known 2 = .ok (.invokevirtual 108, 3) := by decide +kernel
theorem dX11_known_5 : decode cX11_known 5 = .ok (.ifCond .eq 5, 3) := by decide +kernel
theorem dX11_known_8 : decode cX11_known 8 = .ok (.iconst (-1), 1) := by decide +kernel
theorem dX11_known_9 : decode cX11_known 9 = .ok (.ireturn, 1) := by decide +kernel
theorem dX11_known_10 : decode cX11_known 10 = .ok (.aload_n 0, 1) := by decide +kernel
theorem dX11_known_11 : decode cX11_known 11 = .ok (.getfield 38, 3) := by decide +kernel
theorem dX11_known_14 : decode cX11_known 14 = .ok (.getfield 146, 3) := by decide +kernel
theorem dX11_known_17 : decode cX11_known 17 = .ok (.getfield 160, 3) := by decide +kernel
theorem dX11_known_20 : decode cX11_known 20 = .ok (.lload_n 1, 1) := by decide +kernel
theorem dX11_known_21 : decode cX11_known 21 = .ok (.invokevirtual 163, 3) := by decide +kernel
theorem dX11_known_24 : decode cX11_known 24 = .ok (.ifCond .eq 7, 3) := by decide +kernel
theorem dX11_known_27 : decode cX11_known 27 = .ok (.iconst 1, 1) := by decide +kernel
theorem dX11_known_28 : decode cX11_known 28 = .ok (.goto 4, 3) := by decide +kernel
theorem dX11_known_31 : decode cX11_known 31 = .ok (.iconst 0, 1) := by decide +kernel
theorem dX11_known_32 : decode cX11_known 32 = .ok (.ireturn, 1) := by decide +kernel
theorem dX11_step_0 : decode cX11_step 0 = .ok (.aload_n 0, 1) := by decide +kernel
theorem dX11_step_1 : decode cX11_step 1 = .ok (.getfield 38, 3) := by decide +kernel
theorem dX11_step_4 : decode cX11_step 4 = .ok (.getfield 166, 3) := by decide +kernel
theorem dX11_step_7 : decode cX11_step 7 = .ok (.astore_n 1, 1) := by decide +kernel
theorem dX11_step_8 : decode cX11_step 8 = .ok (.aload_n 1, 1) := by decide +kernel
theorem dX11_step_9 : decode cX11_step 9 = .ok (.invokevirtual 170, 3) := by decide +kernel
theorem dX11_step_12 : decode cX11_step 12 = .ok (.ifCond .eq 6, 3) := by decide +kernel
theorem dX11_step_15 : decode cX11_step 15 = .ok (.bipush (-2), 2) := by decide +kernel
theorem dX11_step_17 : decode cX11_step 17 = .ok (.ireturn, 1) := by decide +kernel
theorem dX11_step_18 : decode cX11_step 18 = .ok (.aload_n 0, 1) := by decide +kernel
theorem dX11_step_19 : decode cX11_step 19 = .ok (.getfield 38, 3) := by decide +kernel
theorem dX11_step_22 : decode cX11_step 22 = .ok (.getfield 146, 3) := by decide +kernel
theorem dX11_step_25 : decode cX11_step 25 = .ok (.getfield 160, 3) := by decide +kernel
theorem dX11_step_28 : decode cX11_step 28 = .ok (.getfield 175, 3) := by decide +kernel
theorem dX11_step_31 : decode cX11_step 31 = .ok (.istore_n 2, 1) := by decide +kernel
theorem dX11_step_32 : decode cX11_step 32 = .ok (.aload_n 1, 1) := by decide +kernel
theorem dX11_step_33 : decode cX11_step 33 = .ok (.invokevirtual 178, 3) := by decide +kernel
theorem dX11_step_36 : decode cX11_step 36 = .ok (.istore_n 3, 1) := by decide +kernel
theorem dX11_step_37 : decode cX11_step 37 = .ok (.aload_n 0, 1) := by decide +kernel
theorem dX11_step_38 : decode cX11_step 38 = .ok (.invokevirtual 181, 3) := by decide +kernel
theorem dX11_step_41 : decode cX11_step 41 = .ok (.aload_n 0, 1) := by decide +kernel
theorem dX11_step_42 : decode cX11_step 42 = .ok (.aload_n 0, 1) := by decide +kernel
theorem dX11_step_43 : decode cX11_step 43 = .ok (.getfield 38, 3) := by decide +kernel
theorem dX11_step_46 : decode cX11_step 46 = .ok (.getfield 146, 3) := by decide +kernel
theorem dX11_step_49 : decode cX11_step 49 = .ok (.getfield 160, 3) := by decide +kernel
theorem dX11_step_52 : decode cX11_step 52 = .ok (.getfield 175, 3) := by decide +kernel
theorem dX11_step_55 : decode cX11_step 55 = .ok (.iload_n 2, 1) := by decide +kernel
theorem dX11_step_56 : decode cX11_step 56 = .ok (.isub, 1) := by decide +kernel
theorem dX11_step_57 : decode cX11_step 57 = .ok (.i2l, 1) := by decide +kernel
theorem dX11_step_58 : decode cX11_step 58 = .ok (.invokevirtual 184, 3) := by decide +kernel
theorem dX11_step_61 : decode cX11_step 61 = .ok (.iload_n 3, 1) := by decide +kernel
theorem dX11_step_62 : decode cX11_step 62 = .ok (.iconst 1, 1) := by decide +kernel
theorem dX11_step_63 : decode cX11_step 63 = .ok (.if_icmp .ne 14, 3) := by decide +kernel
theorem dX11_step_66 : decode cX11_step 66 = .ok (.aload_n 0, 1) := by decide +kernel
theorem dX11_step_67 : decode cX11_step 67 = .ok (.aload_n 1, 1) := by decide +kernel
theorem dX11_step_68 : decode cX11_step 68 = .ok (.getfield 188, 3) := by decide +kernel
theorem dX11_step_71 : decode cX11_step 71 = .ok (.invokevirtual 191, 3) := by decide +kernel
theorem dX11_step_74 : decode cX11_step 74 = .ok (.invokevirtual 184, 3) := by decide +kernel
theorem dX11_step_77 : decode cX11_step 77 = .ok (.iload_n 3, 1) := by decide +kernel
theorem dX11_step_78 : decode cX11_step 78 = .ok (.iconst 2, 1) := by decide +kernel
theorem dX11_step_79 : decode cX11_step 79 = .ok (.if_icmp .ne 14, 3) := by decide +kernel
theorem dX11_step_82 : decode cX11_step 82 = .ok (.aload_n 0, 1) := by decide +kernel
theorem dX11_step_83 : decode cX11_step 83 = .ok (.aload_n 1, 1) := by decide +kernel
theorem dX11_step_84 : decode cX11_step 84 = .ok (.getfield 195, 3) := by decide +kernel
theorem dX11_step_87 : decode cX11_step 87 = .ok (.invokevirtual 191, 3) := by decide +kernel
theorem dX11_step_90 : decode cX11_step 90 = .ok (.invokevirtual 184, 3) := by decide +kernel
theorem dX11_step_93 : decode cX11_step 93 = .ok (.iload_n 3, 1) := by decide +kernel
theorem dX11_step_94 : decode cX11_step 94 = .ok (.ireturn, 1) := by decide +kernel
theorem dX11_guess_0 : decode cX11_guess 0 = .ok (.aload_n 0, 1) := by decide +kernel
theorem dX11_guess_1 : decode cX11_guess 1 = .ok (.getfield 38, 3) := by decide +kernel
theorem dX11_guess_4 : decode cX11_guess 4 = .ok (.getfield 166, 3) := by decide +kernel
theorem dX11_guess_7 : decode cX11_guess 7 = .ok (.astore_n 1, 1) := by decide +kernel
theorem dX11_guess_8 : decode cX11_guess 8 = .ok (.iconst 0, 1) := by decide +kernel
theorem dX11_guess_9 : decode cX11_guess 9 = .ok (.istore_n 2, 1) := by decide +kernel
theorem dX11_guess_10 : decode cX11_guess 10 = .ok (.aload_n 1, 1) := by decide +kernel
theorem dX11_guess_11 : decode cX11_guess 11 = .ok (.invokevirtual 170, 3) := by decide +kernel
theorem dX11_guess_14 : decode cX11_guess 14 = .ok (.ifCond .ne 21, 3) := by decide +kernel
theorem dX11_guess_17 : decode cX11_guess 17 = .ok (.iload_n 2, 1) := by decide +kernel
theorem dX11_guess_18 : decode cX11_guess 18 = .ok (.sipush 10000, 3) := by decide +kernel
theorem dX11_guess_21 : decode cX11_guess 21 = .ok (.if_icmp .ge 14, 3) := by decide +kernel
theorem dX11_guess_24 : decode cX11_guess 24 = .ok (.aload_n 1, 1) := by decide +kernel
theorem dX11_guess_25 : decode cX11_guess 25 = .ok (.invokevirtual 178, 3) := by decide +kernel
theorem dX11_guess_28 : decode cX11_guess 28 = .ok (.pop, 1) := by decide +kernel
theorem dX11_guess_29 : decode cX11_guess 29 = .ok (.iinc 2 1, 3) := by decide +kernel
theorem dX11_guess_32 : decode cX11_guess 32 = .ok (.goto (-22), 3) := by decide +kernel
theorem dX11_guess_35 : decode cX11_guess 35 = .ok (.aload_n 0, 1) := by decide +kernel
theorem dX11_guess_36 : decode cX11_guess 36 = .ok (.invokevirtual 181, 3) := by decide +kernel
theorem dX11_guess_39 : decode cX11_guess 39 = .ok (.aload_n 0, 1) := by decide +kernel
theorem dX11_guess_40 : decode cX11_guess 40 = .ok (.iload_n 2, 1) := by decide +kernel
theorem dX11_guess_41 : decode cX11_guess 41 = .ok (.i2l, 1) := by decide +kernel
theorem dX11_guess_42 : decode cX11_guess 42 = .ok (.invokevirtual 184, 3) := by decide +kernel
theorem dX11_guess_45 : decode cX11_guess 45 = .ok (.aload_n 1, 1) := by decide +kernel
theorem dX11_guess_46 : decode cX11_guess 46 = .ok (.getfield 198, 3) := by decide +kernel
theorem dX11_guess_49 : decode cX11_guess 49 = .ok (.getfield 201, 3) := by decide +kernel
theorem dX11_guess_52 : decode cX11_guess 52 = .ok (.ireturn, 1) := by decide +kernel
theorem dX11_tells_0 : decode cX11_tells 0 = .ok (.lload_n 1, 1) := by decide +kernel
theorem dX11_tells_1 : decode cX11_tells 1 = .ok (.aload_n 0, 1) := by decide +kernel
theorem dX11_tells_2 : decode cX11_tells 2 = .ok (.getfield 10, 3) := by decide +kernel
theorem dX11_tells_5 : decode cX11_tells 5 = .ok (.getfield 124, 3) := by decide +kernel
theorem dX11_tells_8 : decode cX11_tells 8 = .ok (.invokestatic 127, 3) := by decide +kernel
theorem dX11_tells_11 : decode cX11_tells 11 = .ok (.istore_n 3, 1) := by decide +kernel
theorem dX11_tells_12 : decode cX11_tells 12 = .ok (.iload_n 3, 1) := by decide +kernel
theorem dX11_tells_13 : decode cX11_tells 13 = .ok (.ifCond .lt 9, 3) := by decide +kernel
theorem dX11_tells_16 : decode cX11_tells 16 = .ok (.iload_n 3, 1) := by decide +kernel
theorem dX11_tells_17 : decode cX11_tells 17 = .ok (.bipush 14, 2) := by decide +kernel
theorem dX11_tells_19 : decode cX11_tells 19 = .ok (.if_icmp .le 5, 3) := by decide +kernel
theorem dX11_tells_22 : decode cX11_tells 22 = .ok (.iconst (-1), 1) := by decide +kernel
theorem dX11_tells_23 : decode cX11_tells 23 = .ok (.ireturn, 1) := by decide +kernel
theorem dX11_tells_24 : decode cX11_tells 24 = .ok (.aload_n 0, 1) := by decide +kernel
theorem dX11_tells_25 : decode cX11_tells 25 = .ok (.getfield 38, 3) := by decide +kernel
theorem dX11_tells_28 : decode cX11_tells 28 = .ok (.getfield 166, 3) := by decide +kernel
theorem dX11_tells_31 : decode cX11_tells 31 = .ok (.astore 4, 2) := by decide +kernel
theorem dX11_tells_33 : decode cX11_tells 33 = .ok (.aload 4, 2) := by decide +kernel
theorem dX11_tells_35 : decode cX11_tells 35 = .ok (.invokevirtual 170, 3) := by decide +kernel
theorem dX11_tells_38 : decode cX11_tells 38 = .ok (.ifCond .ne 6, 3) := by decide +kernel
theorem dX11_tells_41 : decode cX11_tells 41 = .ok (.bipush (-2), 2) := by decide +kernel
theorem dX11_tells_43 : decode cX11_tells 43 = .ok (.ireturn, 1) := by decide +kernel
theorem dX11_tells_44 : decode cX11_tells 44 = .ok (.aload 4, 2) := by decide +kernel
theorem dX11_tells_46 : decode cX11_tells 46 = .ok (.getfield 198, 3) := by decide +kernel
theorem dX11_tells_49 : decode cX11_tells 49 = .ok (.lload_n 1, 1) := by decide +kernel
theorem dX11_tells_50 : decode cX11_tells 50 = .ok (.invokevirtual 204, 3) := by decide +kernel
theorem dX11_tells_53 : decode cX11_tells 53 = .ok (.aload_n 0, 1) := by decide +kernel
theorem dX11_tells_54 : decode cX11_tells 54 = .ok (.getfield 10, 3) := by decide +kernel
theorem dX11_tells_57 : decode cX11_tells 57 = .ok (.lload_n 1, 1) := by decide +kernel
theorem dX11_tells_58 : decode cX11_tells 58 = .ok (.invokevirtual 204, 3) := by decide +kernel
theorem dX11_tells_61 : decode cX11_tells 61 = .ok (.if_icmp .ne 6, 3) := by decide +kernel
theorem dX11_tells_64 : decode cX11_tells 64 = .ok (.bipush (-3), 2) := by decide +kernel
theorem dX11_tells_66 : decode cX11_tells 66 = .ok (.ireturn, 1) := by decide +kernel
theorem dX11_tells_67 : decode cX11_tells 67 = .ok (.aload 4, 2) := by decide +kernel
theorem dX11_tells_69 : decode cX11_tells 69 = .ok (.lload_n 1, 1) := by decide +kernel
theorem dX11_tells_70 : decode cX11_tells 70 = .ok (.invokevirtual 207, 3) := by decide +kernel
theorem dX11_tells_73 : decode cX11_tells 73 = .ok (.ireturn, 1) := by decide +kernel
theorem dX11_learns_0 : decode cX11_learns 0 = .ok (.aload_n 0, 1) := by decide +kernel
theorem dX11_learns_1 : decode cX11_learns 1 = .ok (.getfield 38, 3) := by decide +kernel
theorem dX11_learns_4 : decode cX11_learns 4 = .ok (.invokevirtual 210, 3) := by decide +kernel
theorem dX11_learns_7 : decode cX11_learns 7 = .ok (.aload_n 0, 1) := by decide +kernel
theorem dX11_learns_8 : decode cX11_learns 8 = .ok (.invokevirtual 181, 3) := by decide +kernel
theorem dX11_learns_11 : decode cX11_learns 11 = .ok (.aload_n 0, 1) := by decide +kernel
theorem dX11_learns_12 : decode cX11_learns 12 = .ok (.aload_n 0, 1) := by decide +kernel
theorem dX11_learns_13 : decode cX11_learns 13 = .ok (.getfield 38, 3) := by decide +kernel
theorem dX11_learns_16 : decode cX11_learns 16 = .ok (.getfield 213, 3) := by decide +kernel
theorem dX11_learns_19 : decode cX11_learns 19 = .ok (.i2l, 1) := by decide +kernel
theorem dX11_learns_20 : decode cX11_learns 20 = .ok (.invokevirtual 184, 3) := by decide +kernel
theorem dX11_learns_23 : decode cX11_learns 23 = .ok (.aload_n 0, 1) := by decide +kernel
theorem dX11_learns_24 : decode cX11_learns 24 = .ok (.aload_n 0, 1) := by decide +kernel
theorem dX11_learns_25 : decode cX11_learns 25 = .ok (.getfield 38, 3) := by decide +kernel
theorem dX11_learns_28 : decode cX11_learns 28 = .ok (.getfield 166, 3) := by decide +kernel
theorem dX11_learns_31 : decode cX11_learns 31 = .ok (.getfield 216, 3) := by decide +kernel
theorem dX11_learns_34 : decode cX11_learns 34 = .ok (.i2l, 1) := by decide +kernel
theorem dX11_learns_35 : decode cX11_learns 35 = .ok (.invokevirtual 184, 3) := by decide +kernel
theorem dX11_learns_38 : decode cX11_learns 38 = .ok (.aload_n 0, 1) := by decide +kernel
theorem dX11_learns_39 : decode cX11_learns 39 = .ok (.getfield 38, 3) := by decide +kernel
theorem dX11_learns_42 : decode cX11_learns 42 = .ok (.getfield 166, 3) := by decide +kernel
theorem dX11_learns_45 : decode cX11_learns 45 = .ok (.getfield 198, 3) := by decide +kernel
theorem dX11_learns_48 : decode cX11_learns 48 = .ok (.getfield 201, 3) := by decide +kernel
theorem dX11_learns_51 : decode cX11_learns 51 = .ok (.ireturn, 1) := by decide +kernel
theorem dX11_head_0 : decode cX11_head 0 = .ok (.iload_n 1, 1) := by decide +kernel
theorem dX11_head_1 : decode cX11_head 1 = .ok (.iconst (-1), 1) := by decide +kernel
theorem dX11_head_2 : decode cX11_head 2 = .ok (.if_icmp .ne 20, 3) := by decide +kernel
theorem dX11_head_5 : decode cX11_head 5 = .ok (.aload_n 0, 1) := by decide +kernel
theorem dX11_head_6 : decode cX11_head 6 = .ok (.getfield 38, 3) := by decide +kernel
theorem dX11_head_9 : decode cX11_head 9 = .ok (.getfield 166, 3) := by decide +kernel
theorem dX11_head_12 : decode cX11_head 12 = .ok (.getfield 188, 3) := by decide +kernel
theorem dX11_head_15 : decode cX11_head 15 = .ok (.getfield 219, 3) := by decide +kernel
theorem dX11_head_18 : decode cX11_head 18 = .ok (.i2l, 1) := by decide +kernel
theorem dX11_head_19 : decode cX11_head 19 = .ok (.goto 17, 3) := by decide +kernel
theorem dX11_head_22 : decode cX11_head 22 = .ok (.aload_n 0, 1) := by decide +kernel
theorem dX11_head_23 : decode cX11_head 23 = .ok (.getfield 38, 3) := by decide +kernel
theorem dX11_head_26 : decode cX11_head 26 = .ok (.getfield 166, 3) := by decide +kernel
theorem dX11_head_29 : decode cX11_head 29 = .ok (.getfield 188, 3) := by decide +kernel
theorem dX11_head_32 : decode cX11_head 32 = .ok (.iload_n 1, 1) := by decide +kernel
theorem dX11_head_33 : decode cX11_head 33 = .ok (.invokevirtual 220, 3) := by decide +kernel
theorem dX11_head_36 : decode cX11_head 36 = .ok (.lreturn, 1) := by decide +kernel
theorem dX11_tail_0 : decode cX11_tail 0 = .ok (.iload_n 1, 1) := by decide +kernel
theorem dX11_tail_1 : decode cX11_tail 1 = .ok (.iconst (-1), 1) := by decide +kernel
theorem dX11_tail_2 : decode cX11_tail 2 = .ok (.if_icmp .ne 20, 3) := by decide +kernel
theorem dX11_tail_5 : decode cX11_tail 5 = .ok (.aload_n 0, 1) := by decide +kernel
theorem dX11_tail_6 : decode cX11_tail 6 = .ok (.getfield 38, 3) := by decide +kernel
theorem dX11_tail_9 : decode cX11_tail 9 = .ok (.getfield 166, 3) := by decide +kernel
theorem dX11_tail_12 : decode cX11_tail 12 = .ok (.getfield 195, 3) := by decide +kernel
theorem dX11_tail_15 : decode cX11_tail 15 = .ok (.getfield 219, 3) := by decide +kernel
theorem dX11_tail_18 : decode cX11_tail 18 = .ok (.i2l, 1) := by decide +kernel
theorem dX11_tail_19 : decode cX11_tail 19 = .ok (.goto 17, 3) := by decide +kernel
theorem dX11_tail_22 : decode cX11_tail 22 = .ok (.aload_n 0, 1) := by decide +kernel
theorem dX11_tail_23 : decode cX11_tail 23 = .ok (.getfield 38, 3) := by decide +kernel
theorem dX11_tail_26 : decode cX11_tail 26 = .ok (.getfield 166, 3) := by decide +kernel
theorem dX11_tail_29 : decode cX11_tail 29 = .ok (.getfield 195, 3) := by decide +kernel
theorem dX11_tail_32 : decode cX11_tail 32 = .ok (.iload_n 1, 1) := by decide +kernel
theorem dX11_tail_33 : decode cX11_tail 33 = .ok (.invokevirtual 220, 3) := by decide +kernel
theorem dX11_tail_36 : decode cX11_tail 36 = .ok (.lreturn, 1) := by decide +kernel
theorem dX11_cell_0 : decode cX11_cell 0 = .ok (.aload_n 0, 1) := by decide +kernel
theorem dX11_cell_1 : decode cX11_cell 1 = .ok (.getfield 38, 3) := by decide +kernel
theorem dX11_cell_4 : decode cX11_cell 4 = .ok (.getfield 166, 3) := by decide +kernel
theorem dX11_cell_7 : decode cX11_cell 7 = .ok (.getfield 188, 3) := by decide +kernel
theorem dX11_cell_10 : decode cX11_cell 10 = .ok (.iload_n 1, 1) := by decide +kernel
theorem dX11_cell_11 : decode cX11_cell 11 = .ok (.invokevirtual 220, 3) := by decide +kernel
theorem dX11_cell_14 : decode cX11_cell 14 = .ok (.lstore 4, 2) := by decide +kernel
theorem dX11_cell_16 : decode cX11_cell 16 = .ok (.aload_n 0, 1) := by decide +kernel
theorem dX11_cell_17 : decode cX11_cell 17 = .ok (.getfield 38, 3) := by decide +kernel
theorem dX11_cell_20 : decode cX11_cell 20 = .ok (.getfield 166, 3) := by decide +kernel
theorem dX11_cell_23 : decode cX11_cell 23 = .ok (.getfield 195, 3) := by decide +kernel
theorem dX11_cell_26 : decode cX11_cell 26 = .ok (.iload_n 3, 1) := by decide +kernel
theorem dX11_cell_27 : decode cX11_cell 27 = .ok (.invokevirtual 220, 3) := by decide +kernel
theorem dX11_cell_30 : decode cX11_cell 30 = .ok (.lstore 6, 2) := by decide +kernel
theorem dX11_cell_32 : decode cX11_cell 32 = .ok (.lload 4, 2) := by decide +kernel
theorem dX11_cell_34 : decode cX11_cell 34 = .ok (.ldc2_w 116, 3) := by decide +kernel
theorem dX11_cell_37 : decode cX11_cell 37 = .ok (.lcmp, 1) := by decide +kernel
theorem dX11_cell_38 : decode cX11_cell 38 = .ok (.ifCond .eq 28, 3) := by decide +kernel
theorem dX11_cell_41 : decode cX11_cell 41 = .ok (.lload 6, 2) := by decide +kernel
theorem dX11_cell_43 : decode cX11_cell 43 = .ok (.ldc2_w 116, 3) := by decide +kernel
theorem dX11_cell_46 : decode cX11_cell 46 = .ok (.lcmp, 1) := by decide +kernel
theorem dX11_cell_47 : decode cX11_cell 47 = .ok (.ifCond .eq 19, 3) := by decide +kernel
theorem dX11_cell_50 : decode cX11_cell 50 = .ok (.iload_n 2, 1) := by decide +kernel
theorem dX11_cell_51 : decode cX11_cell 51 = .ok (.iconst (-1), 1) := by decide +kernel
theorem dX11_cell_52 : decode cX11_cell 52 = .ok (.if_icmp .lt 14, 3) := by decide +kernel
theorem dX11_cell_55 : decode cX11_cell 55 = .ok (.iload_n 2, 1) := by decide +kernel
theorem dX11_cell_56 : decode cX11_cell 56 = .ok (.aload_n 0, 1) := by decide +kernel
theorem dX11_cell_57 : decode cX11_cell 57 = .ok (.getfield 10, 3) := by decide +kernel
theorem dX11_cell_60 : decode cX11_cell 60 = .ok (.getfield 124, 3) := by decide +kernel
theorem dX11_cell_63 : decode cX11_cell 63 = .ok (.if_icmp .lt 5, 3) := by decide +kernel
theorem dX11_cell_66 : decode cX11_cell 66 = .ok (.iconst (-1), 1) := by decide +kernel
theorem dX11_cell_67 : decode cX11_cell 67 = .ok (.ireturn, 1) := by decide +kernel
theorem dX11_cell_68 : decode cX11_cell 68 = .ok (.aload_n 0, 1) := by decide +kernel
theorem dX11_cell_69 : decode cX11_cell 69 = .ok (.getfield 38, 3) := by decide +kernel
theorem dX11_cell_72 : decode cX11_cell 72 = .ok (.getfield 92, 3) := by decide +kernel
theorem dX11_cell_75 : decode cX11_cell 75 = .ok (.iconst 3, 1) := by decide +kernel
theorem dX11_cell_76 : decode cX11_cell 76 = .ok (.if_icmp .ne 6, 3) := by decide +kernel
theorem dX11_cell_79 : decode cX11_cell 79 = .ok (.bipush (-2), 2) := by decide +kernel
theorem dX11_cell_81 : decode cX11_cell 81 = .ok (.ireturn, 1) := by decide +kernel
theorem dX11_cell_82 : decode cX11_cell 82 = .ok (.iload_n 2, 1) := by decide +kernel
theorem dX11_cell_83 : decode cX11_cell 83 = .ok (.iconst (-1), 1) := by decide +kernel
theorem dX11_cell_84 : decode cX11_cell 84 = .ok (.if_icmp .ne 8, 3) := by decide +kernel
theorem dX11_cell_87 : decode cX11_cell 87 = .ok (.lload 4, 2) := by decide +kernel
theorem dX11_cell_89 : decode cX11_cell 89 = .ok (.goto 9, 3) := by decide +kernel
theorem dX11_cell_92 : decode cX11_cell 92 = .ok (.lload 4, 2) := by decide +kernel
theorem dX11_cell_94 : decode cX11_cell 94 = .ok (.iload_n 2, 1) := by decide +kernel
theorem dX11_cell_95 : decode cX11_cell 95 = .ok (.invokestatic 224, 3) := by decide +kernel
theorem dX11_cell_98 : decode cX11_cell 98 = .ok (.lload 6, 2) := by decide +kernel
theorem dX11_cell_100 : decode cX11_cell 100 = .ok (.invokestatic 118, 3) := by decide +kernel
theorem dX11_cell_103 : decode cX11_cell 103 = .ok (.lstore 8, 2) := by decide +kernel
theorem dX11_cell_105 : decode cX11_cell 105 = .ok (.aload_n 0, 1) := by decide +kernel
theorem dX11_cell_106 : decode cX11_cell 106 = .ok (.getfield 38, 3) := by decide +kernel
theorem dX11_cell_109 : decode cX11_cell 109 = .ok (.getfield 146, 3) := by decide +kernel
theorem dX11_cell_112 : decode cX11_cell 112 = .ok (.getfield 160, 3) := by decide +kernel
theorem dX11_cell_115 : decode cX11_cell 115 = .ok (.lload 8, 2) := by decide +kernel
theorem dX11_cell_117 : decode cX11_cell 117 = .ok (.invokevirtual 163, 3) := by decide +kernel
theorem dX11_cell_120 : decode cX11_cell 120 = .ok (.ifCond .eq 15, 3) := by decide +kernel
theorem dX11_cell_123 : decode cX11_cell 123 = .ok (.aload_n 0, 1) := by decide +kernel
theorem dX11_cell_124 : decode cX11_cell 124 = .ok (.getfield 10, 3) := by decide +kernel
theorem dX11_cell_127 : decode cX11_cell 127 = .ok (.lload 8, 2) := by decide +kernel
theorem dX11_cell_129 : decode cX11_cell 129 = .ok (.invokevirtual 204, 3) := by decide +kernel
theorem dX11_cell_132 : decode cX11_cell 132 = .ok (.goto 5, 3) := by decide +kernel
theorem dX11_cell_135 : decode cX11_cell 135 = .ok (.bipush (-3), 2) := by decide +kernel
theorem dX11_cell_137 : decode cX11_cell 137 = .ok (.ireturn, 1) := by decide +kernel
theorem dX11_lines_0 : decode cX11_lines 0 = .ok (.aload_n 0, 1) := by decide +kernel
theorem dX11_lines_1 : decode cX11_lines 1 = .ok (.getfield 38, 3) := by decide +kernel
theorem dX11_lines_4 : decode cX11_lines 4 = .ok (.getfield 92, 3) := by decide +kernel
theorem dX11_lines_7 : decode cX11_lines 7 = .ok (.iconst 3, 1) := by decide +kernel
theorem dX11_lines_8 : decode cX11_lines 8 = .ok (.if_icmp .ne 6, 3) := by decide +kernel
theorem dX11_lines_11 : decode cX11_lines 11 = .ok (.bipush (-2), 2) := by decide +kernel
theorem dX11_lines_13 : decode cX11_lines 13 = .ok (.ireturn, 1) := by decide +kernel
theorem dX11_lines_14 : decode cX11_lines 14 = .ok (.aload_n 0, 1) := by decide +kernel
theorem dX11_lines_15 : decode cX11_lines 15 = .ok (.getfield 38, 3) := by decide +kernel
theorem dX11_lines_18 : decode cX11_lines 18 = .ok (.getfield 227, 3) := by decide +kernel
theorem dX11_lines_21 : decode cX11_lines 21 = .ok (.astore_n 1, 1) := by decide +kernel
theorem dX11_lines_22 : decode cX11_lines 22 = .ok (.aload_n 1, 1) := by decide +kernel
theorem dX11_lines_23 : decode cX11_lines 23 = .ok (.invokevirtual 231, 3) := by decide +kernel
theorem dX11_lines_26 : decode cX11_lines 26 = .ok (.ifCond .ne 6, 3) := by decide +kernel
theorem dX11_lines_29 : decode cX11_lines 29 = .ok (.bipush (-3), 2) := by decide +kernel
theorem dX11_lines_31 : decode cX11_lines 31 = .ok (.ireturn, 1) := by decide +kernel
theorem dX11_lines_32 : decode cX11_lines 32 = .ok (.aload_n 1, 1) := by decide +kernel
theorem dX11_lines_33 : decode cX11_lines 33 = .ok (.invokevirtual 236, 3) := by decide +kernel
theorem dX11_lines_36 : decode cX11_lines 36 = .ok (.aload_n 1, 1) := by decide +kernel
theorem dX11_lines_37 : decode cX11_lines 37 = .ok (.invokevirtual 239, 3) := by decide +kernel
theorem dX11_lines_40 : decode cX11_lines 40 = .ok (.istore_n 2, 1) := by decide +kernel
theorem dX11_lines_41 : decode cX11_lines 41 = .ok (.aload_n 0, 1) := by decide +kernel
theorem dX11_lines_42 : decode cX11_lines 42 = .ok (.invokevirtual 181, 3) := by decide +kernel
theorem dX11_lines_45 : decode cX11_lines 45 = .ok (.aload_n 0, 1) := by decide +kernel
theorem dX11_lines_46 : decode cX11_lines 46 = .ok (.aload_n 1, 1) := by decide +kernel
theorem dX11_lines_47 : decode cX11_lines 47 = .ok (.getfield 242, 3) := by decide +kernel
theorem dX11_lines_50 : decode cX11_lines 50 = .ok (.getfield 219, 3) := by decide +kernel
theorem dX11_lines_53 : decode cX11_lines 53 = .ok (.iload_n 2, 1) := by decide +kernel
theorem dX11_lines_54 : decode cX11_lines 54 = .ok (.isub, 1) := by decide +kernel
theorem dX11_lines_55 : decode cX11_lines 55 = .ok (.i2l, 1) := by decide +kernel
theorem dX11_lines_56 : decode cX11_lines 56 = .ok (.invokevirtual 184, 3) := by decide +kernel
theorem dX11_lines_59 : decode cX11_lines 59 = .ok (.aload_n 0, 1) := by decide +kernel
theorem dX11_lines_60 : decode cX11_lines 60 = .ok (.aload_n 1, 1) := by decide +kernel
theorem dX11_lines_61 : decode cX11_lines 61 = .ok (.invokevirtual 243, 3) := by decide +kernel
theorem dX11_lines_64 : decode cX11_lines 64 = .ok (.i2l, 1) := by decide +kernel
theorem dX11_lines_65 : decode cX11_lines 65 = .ok (.invokevirtual 184, 3) := by decide +kernel
theorem dX11_lines_68 : decode cX11_lines 68 = .ok (.iload_n 2, 1) := by decide +kernel
theorem dX11_lines_69 : decode cX11_lines 69 = .ok (.ireturn, 1) := by decide +kernel
theorem dX11_knot_0 : decode cX11_knot 0 = .ok (.iload_n 2, 1) := by decide +kernel
theorem dX11_knot_1 : decode cX11_knot 1 = .ok (.ifCond .lt 8, 3) := by decide +kernel
theorem dX11_knot_4 : decode cX11_knot 4 = .ok (.iload_n 2, 1) := by decide +kernel
theorem dX11_knot_5 : decode cX11_knot 5 = .ok (.iconst 4, 1) := by decide +kernel
theorem dX11_knot_6 : decode cX11_knot 6 = .ok (.if_icmp .lt 5, 3) := by decide +kernel
theorem dX11_knot_9 : decode cX11_knot 9 = .ok (.iconst (-1), 1) := by decide +kernel
theorem dX11_knot_10 : decode cX11_knot 10 = .ok (.ireturn, 1) := by decide +kernel
theorem dX11_knot_11 : decode cX11_knot 11 = .ok (.aload_n 0, 1) := by decide +kernel
theorem dX11_knot_12 : decode cX11_knot 12 = .ok (.getfield 38, 3) := by decide +kernel
theorem dX11_knot_15 : decode cX11_knot 15 = .ok (.getfield 92, 3) := by decide +kernel
theorem dX11_knot_18 : decode cX11_knot 18 = .ok (.iconst 3, 1) := by decide +kernel
theorem dX11_knot_19 : decode cX11_knot 19 = .ok (.if_icmp .eq 6, 3) := by decide +kernel
theorem dX11_knot_22 : decode cX11_knot 22 = .ok (.bipush (-2), 2) := by decide +kernel
theorem dX11_knot_24 : decode cX11_knot 24 = .ok (.ireturn, 1) := by decide +kernel
theorem dX11_knot_25 : decode cX11_knot 25 = .ok (.iload_n 1, 1) := by decide +kernel
theorem dX11_knot_26 : decode cX11_knot 26 = .ok (.ifCond .lt 20, 3) := by decide +kernel
theorem dX11_knot_29 : decode cX11_knot 29 = .ok (.iload_n 1, 1) := by decide +kernel
theorem dX11_knot_30 : decode cX11_knot 30 = .ok (.aload_n 0, 1) := by decide +kernel
theorem dX11_knot_31 : decode cX11_knot 31 = .ok (.getfield 38, 3) := by decide +kernel
theorem dX11_knot_34 : decode cX11_knot 34 = .ok (.getfield 166, 3) := by decide +kernel
theorem dX11_knot_37 : decode cX11_knot 37 = .ok (.getfield 195, 3) := by decide +kernel
theorem dX11_knot_40 : decode cX11_knot 40 = .ok (.getfield 219, 3) := by decide +kernel
theorem dX11_knot_43 : decode cX11_knot 43 = .ok (.if_icmp .lt 5, 3) := by decide +kernel
theorem dX11_knot_46 : decode cX11_knot 46 = .ok (.iconst (-1), 1) := by decide +kernel
theorem dX11_knot_47 : decode cX11_knot 47 = .ok (.ireturn, 1) := by decide +kernel
theorem dX11_knot_48 : decode cX11_knot 48 = .ok (.aload_n 0, 1) := by decide +kernel
theorem dX11_knot_49 : decode cX11_knot 49 = .ok (.getfield 38, 3) := by decide +kernel
theorem dX11_knot_52 : decode cX11_knot 52 = .ok (.getfield 246, 3) := by decide +kernel
theorem dX11_knot_55 : decode cX11_knot 55 = .ok (.iload_n 1, 1) := by decide +kernel
theorem dX11_knot_56 : decode cX11_knot 56 = .ok (.iconst 4, 1) := by decide +kernel
theorem dX11_knot_57 : decode cX11_knot 57 = .ok (.imul, 1) := by decide +kernel
theorem dX11_knot_58 : decode cX11_knot 58 = .ok (.iload_n 2, 1) := by decide +kernel
theorem dX11_knot_59 : decode cX11_knot 59 = .ok (.iadd, 1) := by decide +kernel
theorem dX11_knot_60 : decode cX11_knot 60 = .ok (.invokevirtual 250, 3) := by decide +kernel
theorem dX11_knot_63 : decode cX11_knot 63 = .ok (.istore_n 3, 1) := by decide +kernel
theorem dX11_knot_64 : decode cX11_knot 64 = .ok (.iload_n 3, 1) := by decide +kernel
theorem dX11_knot_65 : decode cX11_knot 65 = .ok (.iconst (-1), 1) := by decide +kernel
theorem dX11_knot_66 : decode cX11_knot 66 = .ok (.if_icmp .ne 8, 3) := by decide +kernel
theorem dX11_knot_69 : decode cX11_knot 69 = .ok (.bipush (-3), 2) := by decide +kernel
theorem dX11_knot_71 : decode cX11_knot 71 = .ok (.goto 4, 3) := by decide +kernel
theorem dX11_knot_74 : decode cX11_knot 74 = .ok (.iload_n 3, 1) := by decide +kernel
theorem dX11_knot_75 : decode cX11_knot 75 = .ok (.ireturn, 1) := by decide +kernel
theorem dX11_sift_0 : decode cX11_sift 0 = .ok (.lload_n 1, 1) := by decide +kernel
theorem dX11_sift_1 : decode cX11_sift 1 = .ok (.aload_n 0, 1) := by decide +kernel
theorem dX11_sift_2 : decode cX11_sift 2 = .ok (.getfield 10, 3) := by decide +kernel
theorem dX11_sift_5 : decode cX11_sift 5 = .ok (.getfield 124, 3) := by decide +kernel
theorem dX11_sift_8 : decode cX11_sift 8 = .ok (.invokestatic 127, 3) := by decide +kernel
theorem dX11_sift_11 : decode cX11_sift 11 = .ok (.istore_n 3, 1) := by decide +kernel
theorem dX11_sift_12 : decode cX11_sift 12 = .ok (.iload_n 3, 1) := by decide +kernel
theorem dX11_sift_13 : decode cX11_sift 13 = .ok (.ifCond .lt 9, 3) := by decide +kernel
theorem dX11_sift_16 : decode cX11_sift 16 = .ok (.iload_n 3, 1) := by decide +kernel
theorem dX11_sift_17 : decode cX11_sift 17 = .ok (.bipush 15, 2) := by decide +kernel
theorem dX11_sift_19 : decode cX11_sift 19 = .ok (.if_icmp .le 5, 3) := by decide +kernel
theorem dX11_sift_22 : decode cX11_sift 22 = .ok (.iconst (-1), 1) := by decide +kernel
theorem dX11_sift_23 : decode cX11_sift 23 = .ok (.ireturn, 1) := by decide +kernel
theorem dX11_sift_24 : decode cX11_sift 24 = .ok (.aload_n 0, 1) := by decide +kernel
theorem dX11_sift_25 : decode cX11_sift 25 = .ok (.getfield 38, 3) := by decide +kernel
theorem dX11_sift_28 : decode cX11_sift 28 = .ok (.getfield 92, 3) := by decide +kernel
theorem dX11_sift_31 : decode cX11_sift 31 = .ok (.iconst 3, 1) := by decide +kernel
theorem dX11_sift_32 : decode cX11_sift 32 = .ok (.if_icmp .eq 6, 3) := by decide +kernel
theorem dX11_sift_35 : decode cX11_sift 35 = .ok (.bipush (-2), 2) := by decide +kernel
theorem dX11_sift_37 : decode cX11_sift 37 = .ok (.ireturn, 1) := by decide +kernel
theorem dX11_sift_38 : decode cX11_sift 38 = .ok (.aload_n 0, 1) := by decide +kernel
theorem dX11_sift_39 : decode cX11_sift 39 = .ok (.getfield 38, 3) := by decide +kernel
theorem dX11_sift_42 : decode cX11_sift 42 = .ok (.getfield 246, 3) := by decide +kernel
theorem dX11_sift_45 : decode cX11_sift 45 = .ok (.lload_n 1, 1) := by decide +kernel
theorem dX11_sift_46 : decode cX11_sift 46 = .ok (.invokevirtual 255, 3) := by decide +kernel
theorem dX11_sift_49 : decode cX11_sift 49 = .ok (.istore 4, 2) := by decide +kernel
theorem dX11_sift_51 : decode cX11_sift 51 = .ok (.iload 4, 2) := by decide +kernel
theorem dX11_sift_53 : decode cX11_sift 53 = .ok (.iconst (-1), 1) := by decide +kernel
theorem dX11_sift_54 : decode cX11_sift 54 = .ok (.if_icmp .ne 6, 3) := by decide +kernel
theorem dX11_sift_57 : decode cX11_sift 57 = .ok (.bipush (-3), 2) := by decide +kernel
theorem dX11_sift_59 : decode cX11_sift 59 = .ok (.ireturn, 1) := by decide +kernel
theorem dX11_sift_60 : decode cX11_sift 60 = .ok (.aload_n 0, 1) := by decide +kernel
theorem dX11_sift_61 : decode cX11_sift 61 = .ok (.invokevirtual 181, 3) := by decide +kernel
theorem dX11_sift_64 : decode cX11_sift 64 = .ok (.aload_n 0, 1) := by decide +kernel
theorem dX11_sift_65 : decode cX11_sift 65 = .ok (.aload_n 0, 1) := by decide +kernel
theorem dX11_sift_66 : decode cX11_sift 66 = .ok (.getfield 38, 3) := by decide +kernel
theorem dX11_sift_69 : decode cX11_sift 69 = .ok (.getfield 246, 3) := by decide +kernel
theorem dX11_sift_72 : decode cX11_sift 72 = .ok (.getfield 258, 3) := by decide +kernel
theorem dX11_sift_75 : decode cX11_sift 75 = .ok (.i2l, 1) := by decide +kernel
theorem dX11_sift_76 : decode cX11_sift 76 = .ok (.invokevirtual 184, 3) := by decide +kernel
theorem dX11_sift_79 : decode cX11_sift 79 = .ok (.iload 4, 2) := by decide +kernel
theorem dX11_sift_81 : decode cX11_sift 81 = .ok (.ireturn, 1) := by decide +kernel
theorem dX11_guessed_0 : decode cX11_guessed 0 = .ok (.iload_n 2, 1) := by decide +kernel
theorem dX11_guessed_1 : decode cX11_guessed 1 = .ok (.ifCond .lt 14, 3) := by decide +kernel
theorem dX11_guessed_4 : decode cX11_guessed 4 = .ok (.iload_n 2, 1) := by decide +kernel
theorem dX11_guessed_5 : decode cX11_guessed 5 = .ok (.aload_n 0, 1) := by decide +kernel
theorem dX11_guessed_6 : decode cX11_guessed 6 = .ok (.getfield 10, 3) := by decide +kernel
theorem dX11_guessed_9 : decode cX11_guessed 9 = .ok (.getfield 124, 3) := by decide +kernel
theorem dX11_guessed_12 : decode cX11_guessed 12 = .ok (.if_icmp .le 5, 3) := by decide +kernel
theorem dX11_guessed_15 : decode cX11_guessed 15 = .ok (.iconst (-1), 1) := by decide +kernel
theorem dX11_guessed_16 : decode cX11_guessed 16 = .ok (.ireturn, 1) := by decide +kernel
theorem dX11_guessed_17 : decode cX11_guessed 17 = .ok (.aload_n 0, 1) := by decide +kernel
theorem dX11_guessed_18 : decode cX11_guessed 18 = .ok (.iload_n 1, 1) := by decide +kernel
theorem dX11_guessed_19 : decode cX11_guessed 19 = .ok (.invokevirtual 261, 3) := by decide +kernel
theorem dX11_guessed_22 : decode cX11_guessed 22 = .ok (.istore_n 3, 1) := by decide +kernel
theorem dX11_guessed_23 : decode cX11_guessed 23 = .ok (.iload_n 3, 1) := by decide +kernel
theorem dX11_guessed_24 : decode cX11_guessed 24 = .ok (.ifCond .ge 7, 3) := by decide +kernel
theorem dX11_guessed_27 : decode cX11_guessed 27 = .ok (.iload_n 3, 1) := by decide +kernel
theorem dX11_guessed_28 : decode cX11_guessed 28 = .ok (.goto 18, 3) := by decide +kernel
theorem dX11_guessed_31 : decode cX11_guessed 31 = .ok (.aload_n 0, 1) := by decide +kernel
theorem dX11_guessed_32 : decode cX11_guessed 32 = .ok (.getfield 38, 3) := by decide +kernel
theorem dX11_guessed_35 : decode cX11_guessed 35 = .ok (.getfield 166, 3) := by decide +kernel
theorem dX11_guessed_38 : decode cX11_guessed 38 = .ok (.getfield 198, 3) := by decide +kernel
theorem dX11_guessed_41 : decode cX11_guessed 41 = .ok (.iload_n 1, 1) := by decide +kernel
theorem dX11_guessed_42 : decode cX11_guessed 42 = .ok (.iload_n 2, 1) := by decide +kernel
theorem dX11_guessed_43 : decode cX11_guessed 43 = .ok (.invokevirtual 104, 3) := by decide +kernel
theorem dX11_guessed_46 : decode cX11_guessed 46 = .ok (.ireturn, 1) := by decide +kernel
theorem dX11_access_0 : decode cX11_access 0 = .ok (.aload_n 0, 1) := by decide +kernel
theorem dX11_access_1 : decode cX11_access 1 = .ok (.iload_n 1, 1) := by decide +kernel
theorem dX11_access_2 : decode cX11_access 2 = .ok (.invokevirtual 261, 3) := by decide +kernel
theorem dX11_access_5 : decode cX11_access 5 = .ok (.istore_n 2, 1) := by decide +kernel
theorem dX11_access_6 : decode cX11_access 6 = .ok (.iload_n 2, 1) := by decide +kernel
theorem dX11_access_7 : decode cX11_access 7 = .ok (.ifCond .ge 8, 3) := by decide +kernel
theorem dX11_access_10 : decode cX11_access 10 = .ok (.iload_n 2, 1) := by decide +kernel
theorem dX11_access_11 : decode cX11_access 11 = .ok (.i2l, 1) := by decide +kernel
theorem dX11_access_12 : decode cX11_access 12 = .ok (.goto 17, 3) := by decide +kernel
theorem dX11_access_15 : decode cX11_access 15 = .ok (.aload_n 0, 1) := by decide +kernel
theorem dX11_access_16 : decode cX11_access 16 = .ok (.getfield 38, 3) := by decide +kernel
theorem dX11_access_19 : decode cX11_access 19 = .ok (.getfield 166, 3) := by decide +kernel
theorem dX11_access_22 : decode cX11_access 22 = .ok (.getfield 264, 3) := by decide +kernel
theorem dX11_access_25 : decode cX11_access 25 = .ok (.iload_n 1, 1) := by decide +kernel
theorem dX11_access_26 : decode cX11_access 26 = .ok (.invokevirtual 220, 3) := by decide +kernel
theorem dX11_access_29 : decode cX11_access 29 = .ok (.lreturn, 1) := by decide +kernel
theorem dX11_reads_0 : decode cX11_reads 0 = .ok (.aload_n 0, 1) := by decide +kernel
theorem dX11_reads_1 : decode cX11_reads 1 = .ok (.lload_n 1, 1) := by decide +kernel
theorem dX11_reads_2 : decode cX11_reads 2 = .ok (.invokevirtual 108, 3) := by decide +kernel
theorem dX11_reads_5 : decode cX11_reads 5 = .ok (.ifCond .eq 5, 3) := by decide +kernel
theorem dX11_reads_8 : decode cX11_reads 8 = .ok (.iconst (-1), 1) := by decide +kernel
theorem dX11_reads_9 : decode cX11_reads 9 = .ok (.ireturn, 1) := by decide +kernel
theorem dX11_reads_10 : decode cX11_reads 10 = .ok (.aload_n 0, 1) := by decide +kernel
theorem dX11_reads_11 : decode cX11_reads 11 = .ok (.getfield 38, 3) := by decide +kernel
theorem dX11_reads_14 : decode cX11_reads 14 = .ok (.getfield 166, 3) := by decide +kernel
theorem dX11_reads_17 : decode cX11_reads 17 = .ok (.astore_n 3, 1) := by decide +kernel
theorem dX11_reads_18 : decode cX11_reads 18 = .ok (.aload_n 3, 1) := by decide +kernel
theorem dX11_reads_19 : decode cX11_reads 19 = .ok (.invokevirtual 170, 3) := by decide +kernel
theorem dX11_reads_22 : decode cX11_reads 22 = .ok (.ifCond .ne 6, 3) := by decide +kernel
theorem dX11_reads_25 : decode cX11_reads 25 = .ok (.bipush (-2), 2) := by decide +kernel
theorem dX11_reads_27 : decode cX11_reads 27 = .ok (.ireturn, 1) := by decide +kernel
theorem dX11_reads_28 : decode cX11_reads 28 = .ok (.aload_n 3, 1) := by decide +kernel
theorem dX11_reads_29 : decode cX11_reads 29 = .ok (.getfield 198, 3) := by decide +kernel
theorem dX11_reads_32 : decode cX11_reads 32 = .ok (.iconst 0, 1) := by decide +kernel
theorem dX11_reads_33 : decode cX11_reads 33 = .ok (.lload_n 1, 1) := by decide +kernel
theorem dX11_reads_34 : decode cX11_reads 34 = .ok (.invokevirtual 112, 3) := by decide +kernel
theorem dX11_reads_37 : decode cX11_reads 37 = .ok (.istore 4, 2) := by decide +kernel
theorem dX11_reads_39 : decode cX11_reads 39 = .ok (.aload_n 0, 1) := by decide +kernel
theorem dX11_reads_40 : decode cX11_reads 40 = .ok (.invokevirtual 181, 3) := by decide +kernel
theorem dX11_reads_43 : decode cX11_reads 43 = .ok (.aload_n 0, 1) := by decide +kernel
theorem dX11_reads_44 : decode cX11_reads 44 = .ok (.aload_n 3, 1) := by decide +kernel
theorem dX11_reads_45 : decode cX11_reads 45 = .ok (.getfield 198, 3) := by decide +kernel
theorem dX11_reads_48 : decode cX11_reads 48 = .ok (.iload 4, 2) := by decide +kernel
theorem dX11_reads_50 : decode cX11_reads 50 = .ok (.invokevirtual 267, 3) := by decide +kernel
theorem dX11_reads_53 : decode cX11_reads 53 = .ok (.i2l, 1) := by decide +kernel
theorem dX11_reads_54 : decode cX11_reads 54 = .ok (.invokevirtual 184, 3) := by decide +kernel
theorem dX11_reads_57 : decode cX11_reads 57 = .ok (.iload 4, 2) := by decide +kernel
theorem dX11_reads_59 : decode cX11_reads 59 = .ok (.ireturn, 1) := by decide +kernel
theorem dX11_errs_0 : decode cX11_errs 0 = .ok (.aload_n 0, 1) := by decide +kernel
theorem dX11_errs_1 : decode cX11_errs 1 = .ok (.getfield 38, 3) := by decide +kernel
theorem dX11_errs_4 : decode cX11_errs 4 = .ok (.getfield 166, 3) := by decide +kernel
theorem dX11_errs_7 : decode cX11_errs 7 = .ok (.astore_n 1, 1) := by decide +kernel
theorem dX11_errs_8 : decode cX11_errs 8 = .ok (.aload_n 1, 1) := by decide +kernel
theorem dX11_errs_9 : decode cX11_errs 9 = .ok (.invokevirtual 170, 3) := by decide +kernel
theorem dX11_errs_12 : decode cX11_errs 12 = .ok (.ifCond .eq 23, 3) := by decide +kernel
theorem dX11_errs_15 : decode cX11_errs 15 = .ok (.aload_n 0, 1) := by decide +kernel
theorem dX11_errs_16 : decode cX11_errs 16 = .ok (.getfield 29, 3) := by decide +kernel
theorem dX11_errs_19 : decode cX11_errs 19 = .ok (.aload_n 1, 1) := by decide +kernel
theorem dX11_errs_20 : decode cX11_errs 20 = .ok (.getfield 198, 3) := by decide +kernel
theorem dX11_errs_23 : decode cX11_errs 23 = .ok (.iconst 0, 1) := by decide +kernel
theorem dX11_errs_24 : decode cX11_errs 24 = .ok (.aload_n 0, 1) := by decide +kernel
theorem dX11_errs_25 : decode cX11_errs 25 = .ok (.getfield 10, 3) := by decide +kernel
theorem dX11_errs_28 : decode cX11_errs 28 = .ok (.iconst 0, 1) := by decide +kernel
theorem dX11_errs_29 : decode cX11_errs 29 = .ok (.invokevirtual 270, 3) := by decide +kernel
theorem dX11_errs_32 : decode cX11_errs 32 = .ok (.goto 6, 3) := by decide +kernel
theorem dX11_errs_35 : decode cX11_errs 35 = .ok (.ldc2_w 274, 3) := by decide +kernel
theorem dX11_errs_38 : decode cX11_errs 38 = .ok (.lreturn, 1) := by decide +kernel
theorem dX11_wrong_0 : decode cX11_wrong 0 = .ok (.iload_n 1, 1) := by decide +kernel
theorem dX11_wrong_1 : decode cX11_wrong 1 = .ok (.ifCond .lt 9, 3) := by decide +kernel
theorem dX11_wrong_4 : decode cX11_wrong 4 = .ok (.iload_n 1, 1) := by decide +kernel
theorem dX11_wrong_5 : decode cX11_wrong 5 = .ok (.bipush 8, 2) := by decide +kernel
theorem dX11_wrong_7 : decode cX11_wrong 7 = .ok (.if_icmp .le 5, 3) := by decide +kernel
theorem dX11_wrong_10 : decode cX11_wrong 10 = .ok (.iconst (-1), 1) := by decide +kernel
theorem dX11_wrong_11 : decode cX11_wrong 11 = .ok (.ireturn, 1) := by decide +kernel
theorem dX11_wrong_12 : decode cX11_wrong 12 = .ok (.aload_n 0, 1) := by decide +kernel
theorem dX11_wrong_13 : decode cX11_wrong 13 = .ok (.getfield 38, 3) := by decide +kernel
theorem dX11_wrong_16 : decode cX11_wrong 16 = .ok (.getfield 166, 3) := by decide +kernel
theorem dX11_wrong_19 : decode cX11_wrong 19 = .ok (.astore_n 2, 1) := by decide +kernel
theorem dX11_wrong_20 : decode cX11_wrong 20 = .ok (.aload_n 2, 1) := by decide +kernel
theorem dX11_wrong_21 : decode cX11_wrong 21 = .ok (.invokevirtual 170, 3) := by decide +kernel
theorem dX11_wrong_24 : decode cX11_wrong 24 = .ok (.ifCond .ne 6, 3) := by decide +kernel
theorem dX11_wrong_27 : decode cX11_wrong 27 = .ok (.bipush (-2), 2) := by decide +kernel
theorem dX11_wrong_29 : decode cX11_wrong 29 = .ok (.ireturn, 1) := by decide +kernel
theorem dX11_wrong_30 : decode cX11_wrong 30 = .ok (.aload_n 0, 1) := by decide +kernel
theorem dX11_wrong_31 : decode cX11_wrong 31 = .ok (.getfield 29, 3) := by decide +kernel
theorem dX11_wrong_34 : decode cX11_wrong 34 = .ok (.aload_n 2, 1) := by decide +kernel
theorem dX11_wrong_35 : decode cX11_wrong 35 = .ok (.getfield 198, 3) := by decide +kernel
theorem dX11_wrong_38 : decode cX11_wrong 38 = .ok (.aload_n 0, 1) := by decide +kernel
theorem dX11_wrong_39 : decode cX11_wrong 39 = .ok (.getfield 10, 3) := by decide +kernel
theorem dX11_wrong_42 : decode cX11_wrong 42 = .ok (.iload_n 1, 1) := by decide +kernel
theorem dX11_wrong_43 : decode cX11_wrong 43 = .ok (.invokevirtual 276, 3) := by decide +kernel
theorem dX11_wrong_46 : decode cX11_wrong 46 = .ok (.istore_n 3, 1) := by decide +kernel
theorem dX11_wrong_47 : decode cX11_wrong 47 = .ok (.aload_n 0, 1) := by decide +kernel
theorem dX11_wrong_48 : decode cX11_wrong 48 = .ok (.invokevirtual 181, 3) := by decide +kernel
theorem dX11_wrong_51 : decode cX11_wrong 51 = .ok (.aload_n 0, 1) := by decide +kernel
theorem dX11_wrong_52 : decode cX11_wrong 52 = .ok (.iload_n 1, 1) := by decide +kernel
theorem dX11_wrong_53 : decode cX11_wrong 53 = .ok (.aload_n 0, 1) := by decide +kernel
theorem dX11_wrong_54 : decode cX11_wrong 54 = .ok (.getfield 10, 3) := by decide +kernel
theorem dX11_wrong_57 : decode cX11_wrong 57 = .ok (.getfield 124, 3) := by decide +kernel
theorem dX11_wrong_60 : decode cX11_wrong 60 = .ok (.invokestatic 280, 3) := by decide +kernel
theorem dX11_wrong_63 : decode cX11_wrong 63 = .ok (.i2l, 1) := by decide +kernel
theorem dX11_wrong_64 : decode cX11_wrong 64 = .ok (.invokevirtual 184, 3) := by decide +kernel
theorem dX11_wrong_67 : decode cX11_wrong 67 = .ok (.iload_n 3, 1) := by decide +kernel
theorem dX11_wrong_68 : decode cX11_wrong 68 = .ok (.ireturn, 1) := by decide +kernel
theorem dX11_tests_0 : decode cX11_tests 0 = .ok (.iload_n 1, 1) := by decide +kernel
theorem dX11_tests_1 : decode cX11_tests 1 = .ok (.ifCond .lt 8, 3) := by decide +kernel
theorem dX11_tests_4 : decode cX11_tests 4 = .ok (.iload_n 1, 1) := by decide +kernel
theorem dX11_tests_5 : decode cX11_tests 5 = .ok (.iconst 2, 1) := by decide +kernel
theorem dX11_tests_6 : decode cX11_tests 6 = .ok (.if_icmp .le 5, 3) := by decide +kernel
theorem dX11_tests_9 : decode cX11_tests 9 = .ok (.iconst (-1), 1) := by decide +kernel
theorem dX11_tests_10 : decode cX11_tests 10 = .ok (.ireturn, 1) := by decide +kernel
theorem dX11_tests_11 : decode cX11_tests 11 = .ok (.aload_n 0, 1) := by decide +kernel
theorem dX11_tests_12 : decode cX11_tests 12 = .ok (.getfield 38, 3) := by decide +kernel
theorem dX11_tests_15 : decode cX11_tests 15 = .ok (.getfield 166, 3) := by decide +kernel
theorem dX11_tests_18 : decode cX11_tests 18 = .ok (.invokevirtual 170, 3) := by decide +kernel
theorem dX11_tests_21 : decode cX11_tests 21 = .ok (.ifCond .ne 6, 3) := by decide +kernel
theorem dX11_tests_24 : decode cX11_tests 24 = .ok (.bipush (-2), 2) := by decide +kernel
theorem dX11_tests_26 : decode cX11_tests 26 = .ok (.ireturn, 1) := by decide +kernel
theorem dX11_tests_27 : decode cX11_tests 27 = .ok (.aload_n 0, 1) := by decide +kernel
theorem dX11_tests_28 : decode cX11_tests 28 = .ok (.iload_n 1, 1) := by decide +kernel
theorem dX11_tests_29 : decode cX11_tests 29 = .ok (.invokevirtual 283, 3) := by decide +kernel
theorem dX11_tests_32 : decode cX11_tests 32 = .ok (.iconst 0, 1) := by decide +kernel
theorem dX11_tests_33 : decode cX11_tests 33 = .ok (.istore_n 2, 1) := by decide +kernel
theorem dX11_tests_34 : decode cX11_tests 34 = .ok (.iconst 0, 1) := by decide +kernel
theorem dX11_tests_35 : decode cX11_tests 35 = .ok (.istore_n 3, 1) := by decide +kernel
theorem dX11_tests_36 : decode cX11_tests 36 = .ok (.iconst 0, 1) := by decide +kernel
theorem dX11_tests_37 : decode cX11_tests 37 = .ok (.istore 4, 2) := by decide +kernel
theorem dX11_tests_39 : decode cX11_tests 39 = .ok (.iconst 0, 1) := by decide +kernel
theorem dX11_tests_40 : decode cX11_tests 40 = .ok (.istore 5, 2) := by decide +kernel
theorem dX11_tests_42 : decode cX11_tests 42 = .ok (.iload 5, 2) := by decide +kernel
theorem dX11_tests_44 : decode cX11_tests 44 = .ok (.aload_n 0, 1) := by decide +kernel
theorem dX11_tests_45 : decode cX11_tests 45 = .ok (.getfield 48, 3) := by decide +kernel
theorem dX11_tests_48 : decode cX11_tests 48 = .ok (.invokevirtual 286, 3) := by decide +kernel
theorem dX11_tests_51 : decode cX11_tests 51 = .ok (.if_icmp .ge 70, 3) := by decide +kernel
theorem dX11_tests_54 : decode cX11_tests 54 = .ok (.aload_n 0, 1) := by decide +kernel
theorem dX11_tests_55 : decode cX11_tests 55 = .ok (.getfield 48, 3) := by decide +kernel
theorem dX11_tests_58 : decode cX11_tests 58 = .ok (.iload 5, 2) := by decide +kernel
theorem dX11_tests_60 : decode cX11_tests 60 = .ok (.invokevirtual 289, 3) := by decide +kernel
theorem dX11_tests_63 : decode cX11_tests 63 = .ok (.lstore 6, 2) := by decide +kernel
theorem dX11_tests_65 : decode cX11_tests 65 = .ok (.lload 6, 2) := by decide +kernel
theorem dX11_tests_67 : decode cX11_tests 67 = .ok (.lconst 0, 1) := by decide +kernel
theorem dX11_tests_68 : decode cX11_tests 68 = .ok (.lcmp, 1) := by decide +kernel
theorem dX11_tests_69 : decode cX11_tests 69 = .ok (.ifCond .ne 6, 3) := by decide +kernel
theorem dX11_tests_72 : decode cX11_tests 72 = .ok (.goto 43, 3) := by decide +kernel
theorem dX11_tests_75 : decode cX11_tests 75 = .ok (.lload 6, 2) := by decide +kernel
theorem dX11_tests_77 : decode cX11_tests 77 = .ok (.invokestatic 291, 3) := by decide +kernel
theorem dX11_tests_80 : decode cX11_tests 80 = .ok (.istore 8, 2) := by decide +kernel
theorem dX11_tests_82 : decode cX11_tests 82 = .ok (.iload_n 2, 1) := by decide +kernel
theorem dX11_tests_83 : decode cX11_tests 83 = .ok (.iload 8, 2) := by decide +kernel
theorem dX11_tests_85 : decode cX11_tests 85 = .ok (.iadd, 1) := by decide +kernel
theorem dX11_tests_86 : decode cX11_tests 86 = .ok (.istore_n 2, 1) := by decide +kernel
theorem dX11_tests_87 : decode cX11_tests 87 = .ok (.iload_n 3, 1) := by decide +kernel
theorem dX11_tests_88 : decode cX11_tests 88 = .ok (.iload 8, 2) := by decide +kernel
theorem dX11_tests_90 : decode cX11_tests 90 = .ok (.invokestatic 294, 3) := by decide +kernel
theorem dX11_tests_93 : decode cX11_tests 93 = .ok (.istore_n 3, 1) := by decide +kernel
theorem dX11_tests_94 : decode cX11_tests 94 = .ok (.aload_n 0, 1) := by decide +kernel
theorem dX11_tests_95 : decode cX11_tests 95 = .ok (.getfield 38, 3) := by decide +kernel
theorem dX11_tests_98 : decode cX11_tests 98 = .ok (.getfield 146, 3) := by decide +kernel
theorem dX11_tests_101 : decode cX11_tests 101 = .ok (.getfield 160, 3) := by decide +kernel
theorem dX11_tests_104 : decode cX11_tests 104 = .ok (.lload 6, 2) := by decide +kernel
theorem dX11_tests_106 : decode cX11_tests 106 = .ok (.invokevirtual 163, 3) := by decide +kernel
theorem dX11_tests_109 : decode cX11_tests 109 = .ok (.ifCond .eq 6, 3) := by decide +kernel
theorem dX11_tests_112 : decode cX11_tests 112 = .ok (.iinc 4 1, 3) := by decide +kernel
theorem dX11_tests_115 : decode cX11_tests 115 = .ok (.iinc 5 1, 3) := by decide +kernel
theorem dX11_tests_118 : decode cX11_tests 118 = .ok (.goto (-76), 3) := by decide +kernel
theorem dX11_tests_121 : decode cX11_tests 121 = .ok (.aload_n 0, 1) := by decide +kernel
theorem dX11_tests_122 : decode cX11_tests 122 = .ok (.invokevirtual 181, 3) := by decide +kernel
theorem dX11_tests_125 : decode cX11_tests 125 = .ok (.aload_n 0, 1) := by decide +kernel
theorem dX11_tests_126 : decode cX11_tests 126 = .ok (.iload_n 2, 1) := by decide +kernel
theorem dX11_tests_127 : decode cX11_tests 127 = .ok (.i2l, 1) := by decide +kernel
theorem dX11_tests_128 : decode cX11_tests 128 = .ok (.invokevirtual 184, 3) := by decide +kernel
theorem dX11_tests_131 : decode cX11_tests 131 = .ok (.aload_n 0, 1) := by decide +kernel
theorem dX11_tests_132 : decode cX11_tests 132 = .ok (.iload_n 3, 1) := by decide +kernel
theorem dX11_tests_133 : decode cX11_tests 133 = .ok (.i2l, 1) := by decide +kernel
theorem dX11_tests_134 : decode cX11_tests 134 = .ok (.invokevirtual 184, 3) := by decide +kernel
theorem dX11_tests_137 : decode cX11_tests 137 = .ok (.aload_n 0, 1) := by decide +kernel
theorem dX11_tests_138 : decode cX11_tests 138 = .ok (.iload 4, 2) := by decide +kernel
theorem dX11_tests_140 : decode cX11_tests 140 = .ok (.i2l, 1) := by decide +kernel
theorem dX11_tests_141 : decode cX11_tests 141 = .ok (.invokevirtual 184, 3) := by decide +kernel
theorem dX11_tests_144 : decode cX11_tests 144 = .ok (.aload_n 0, 1) := by decide +kernel
theorem dX11_tests_145 : decode cX11_tests 145 = .ok (.getfield 48, 3) := by decide +kernel
theorem dX11_tests_148 : decode cX11_tests 148 = .ok (.getfield 175, 3) := by decide +kernel
theorem dX11_tests_151 : decode cX11_tests 151 = .ok (.ireturn, 1) := by decide +kernel
theorem dX11_passes_0 : decode cX11_passes 0 = .ok (.iload_n 1, 1) := by decide +kernel
theorem dX11_passes_1 : decode cX11_passes 1 = .ok (.ifCond .lt 8, 3) := by decide +kernel
theorem dX11_passes_4 : decode cX11_passes 4 = .ok (.iload_n 1, 1) := by decide +kernel
theorem dX11_passes_5 : decode cX11_passes 5 = .ok (.iconst 2, 1) := by decide +kernel
theorem dX11_passes_6 : decode cX11_passes 6 = .ok (.if_icmp .le 7, 3) := by decide +kernel
theorem dX11_passes_9 : decode cX11_passes 9 = .ok (.ldc2_w 116, 3) := by decide +kernel
theorem dX11_passes_12 : decode cX11_passes 12 = .ok (.lreturn, 1) := by decide +kernel
theorem dX11_passes_13 : decode cX11_passes 13 = .ok (.aload_n 0, 1) := by decide +kernel
theorem dX11_passes_14 : decode cX11_passes 14 = .ok (.getfield 38, 3) := by decide +kernel
theorem dX11_passes_17 : decode cX11_passes 17 = .ok (.getfield 166, 3) := by decide +kernel
theorem dX11_passes_20 : decode cX11_passes 20 = .ok (.astore_n 2, 1) := by decide +kernel
theorem dX11_passes_21 : decode cX11_passes 21 = .ok (.aload_n 2, 1) := by decide +kernel
theorem dX11_passes_22 : decode cX11_passes 22 = .ok (.invokevirtual 170, 3) := by decide +kernel
theorem dX11_passes_25 : decode cX11_passes 25 = .ok (.ifCond .ne 7, 3) := by decide +kernel
theorem dX11_passes_28 : decode cX11_passes 28 = .ok (.ldc2_w 274, 3) := by decide +kernel
theorem dX11_passes_31 : decode cX11_passes 31 = .ok (.lreturn, 1) := by decide +kernel
theorem dX11_passes_32 : decode cX11_passes 32 = .ok (.aload_n 0, 1) := by decide +kernel
theorem dX11_passes_33 : decode cX11_passes 33 = .ok (.iload_n 1, 1) := by decide +kernel
theorem dX11_passes_34 : decode cX11_passes 34 = .ok (.invokevirtual 283, 3) := by decide +kernel
theorem dX11_passes_37 : decode cX11_passes 37 = .ok (.lconst 0, 1) := by decide +kernel
theorem dX11_passes_38 : decode cX11_passes 38 = .ok (.lstore_n 3, 1) := by decide +kernel
theorem dX11_passes_39 : decode cX11_passes 39 = .ok (.iconst 0, 1) := by decide +kernel
theorem dX11_passes_40 : decode cX11_passes 40 = .ok (.istore 5, 2) := by decide +kernel
theorem dX11_passes_42 : decode cX11_passes 42 = .ok (.iload 5, 2) := by decide +kernel
theorem dX11_passes_44 : decode cX11_passes 44 = .ok (.aload_n 0, 1) := by decide +kernel
theorem dX11_passes_45 : decode cX11_passes 45 = .ok (.getfield 48, 3) := by decide +kernel
theorem dX11_passes_48 : decode cX11_passes 48 = .ok (.invokevirtual 286, 3) := by decide +kernel
theorem dX11_passes_51 : decode cX11_passes 51 = .ok (.if_icmp .ge 67, 3) := by decide +kernel
theorem dX11_passes_54 : decode cX11_passes 54 = .ok (.aload_n 0, 1) := by decide +kernel
theorem dX11_passes_55 : decode cX11_passes 55 = .ok (.getfield 48, 3) := by decide +kernel
theorem dX11_passes_58 : decode cX11_passes 58 = .ok (.iload 5, 2) := by decide +kernel
theorem dX11_passes_60 : decode cX11_passes 60 = .ok (.invokevirtual 289, 3) := by decide +kernel
theorem dX11_passes_63 : decode cX11_passes 63 = .ok (.lstore 6, 2) := by decide +kernel
theorem dX11_passes_65 : decode cX11_passes 65 = .ok (.lload 6, 2) := by decide +kernel
theorem dX11_passes_67 : decode cX11_passes 67 = .ok (.lconst 0, 1) := by decide +kernel
theorem dX11_passes_68 : decode cX11_passes 68 = .ok (.lcmp, 1) := by decide +kernel
theorem dX11_passes_69 : decode cX11_passes 69 = .ok (.ifCond .eq 43, 3) := by decide +kernel
theorem dX11_passes_72 : decode cX11_passes 72 = .ok (.lload_n 3, 1) := by decide +kernel
theorem dX11_passes_73 : decode cX11_passes 73 = .ok (.lconst 0, 1) := by decide +kernel
theorem dX11_passes_74 : decode cX11_passes 74 = .ok (.lcmp, 1) := by decide +kernel
theorem dX11_passes_75 : decode cX11_passes 75 = .ok (.ifCond .eq 13, 3) := by decide +kernel
theorem dX11_passes_78 : decode cX11_passes 78 = .ok (.lload 6, 2) := by decide +kernel
theorem dX11_passes_80 : decode cX11_passes 80 = .ok (.lload_n 3, 1) := by decide +kernel
theorem dX11_passes_81 : decode cX11_passes 81 = .ok (.lcmp, 1) := by decide +kernel
theorem dX11_passes_82 : decode cX11_passes 82 = .ok (.ifCond .le 6, 3) := by decide +kernel
theorem dX11_passes_85 : decode cX11_passes 85 = .ok (.goto 27, 3) := by decide +kernel
theorem dX11_passes_88 : decode cX11_passes 88 = .ok (.aload_n 2, 1) := by decide +kernel
theorem dX11_passes_89 : decode cX11_passes 89 = .ok (.getfield 198, 3) := by decide +kernel
theorem dX11_passes_92 : decode cX11_passes 92 = .ok (.lload 6, 2) := by decide +kernel
theorem dX11_passes_94 : decode cX11_passes 94 = .ok (.invokevirtual 204, 3) := by decide +kernel
theorem dX11_passes_97 : decode cX11_passes 97 = .ok (.aload_n 0, 1) := by decide +kernel
theorem dX11_passes_98 : decode cX11_passes 98 = .ok (.getfield 10, 3) := by decide +kernel
theorem dX11_passes_101 : decode cX11_passes 101 = .ok (.lload 6, 2) := by decide +kernel
theorem dX11_passes_103 : decode cX11_passes 103 = .ok (.invokevirtual 204, 3) := by decide +kernel
theorem dX11_passes_106 : decode cX11_passes 106 = .ok (.if_icmp .eq 6, 3) := by decide +kernel
theorem dX11_passes_109 : decode cX11_passes 109 = .ok (.lload 6, 2) := by decide +kernel
theorem dX11_passes_111 : decode cX11_passes 111 = .ok (.lstore_n 3, 1) := by decide +kernel
theorem dX11_passes_112 : decode cX11_passes 112 = .ok (.iinc 5 1, 3) := by decide +kernel
theorem dX11_passes_115 : decode cX11_passes 115 = .ok (.goto (-73), 3) := by decide +kernel
theorem dX11_passes_118 : decode cX11_passes 118 = .ok (.lload_n 3, 1) := by decide +kernel
theorem dX11_passes_119 : decode cX11_passes 119 = .ok (.lreturn, 1) := by decide +kernel
theorem dX11_parted_0 : decode cX11_parted 0 = .ok (.aload_n 0, 1) := by decide +kernel
theorem dX11_parted_1 : decode cX11_parted 1 = .ok (.iload_n 1, 1) := by decide +kernel
theorem dX11_parted_2 : decode cX11_parted 2 = .ok (.invokevirtual 261, 3) := by decide +kernel
theorem dX11_parted_5 : decode cX11_parted 5 = .ok (.istore_n 3, 1) := by decide +kernel
theorem dX11_parted_6 : decode cX11_parted 6 = .ok (.aload_n 0, 1) := by decide +kernel
theorem dX11_parted_7 : decode cX11_parted 7 = .ok (.iload_n 2, 1) := by decide +kernel
theorem dX11_parted_8 : decode cX11_parted 8 = .ok (.invokevirtual 261, 3) := by decide +kernel
theorem dX11_parted_11 : decode cX11_parted 11 = .ok (.istore 4, 2) := by decide +kernel
theorem dX11_parted_13 : decode cX11_parted 13 = .ok (.iload_n 3, 1) := by decide +kernel
theorem dX11_parted_14 : decode cX11_parted 14 = .ok (.iconst (-1), 1) := by decide +kernel
theorem dX11_parted_15 : decode cX11_parted 15 = .ok (.if_icmp .eq 9, 3) := by decide +kernel
theorem dX11_parted_18 : decode cX11_parted 18 = .ok (.iload 4, 2) := by decide +kernel
theorem dX11_parted_20 : decode cX11_parted 20 = .ok (.iconst (-1), 1) := by decide +kernel
theorem dX11_parted_21 : decode cX11_parted 21 = .ok (.if_icmp .ne 7, 3) := by decide +kernel
theorem dX11_parted_24 : decode cX11_parted 24 = .ok (.ldc2_w 116, 3) := by decide +kernel
theorem dX11_parted_27 : decode cX11_parted 27 = .ok (.lreturn, 1) := by decide +kernel
theorem dX11_parted_28 : decode cX11_parted 28 = .ok (.iload_n 3, 1) := by decide +kernel
theorem dX11_parted_29 : decode cX11_parted 29 = .ok (.ifCond .ge 6, 3) := by decide +kernel
theorem dX11_parted_32 : decode cX11_parted 32 = .ok (.iload_n 3, 1) := by decide +kernel
theorem dX11_parted_33 : decode cX11_parted 33 = .ok (.i2l, 1) := by decide +kernel
theorem dX11_parted_34 : decode cX11_parted 34 = .ok (.lreturn, 1) := by decide +kernel
theorem dX11_parted_35 : decode cX11_parted 35 = .ok (.aload_n 0, 1) := by decide +kernel
theorem dX11_parted_36 : decode cX11_parted 36 = .ok (.getfield 29, 3) := by decide +kernel
theorem dX11_parted_39 : decode cX11_parted 39 = .ok (.aload_n 0, 1) := by decide +kernel
theorem dX11_parted_40 : decode cX11_parted 40 = .ok (.getfield 38, 3) := by decide +kernel
theorem dX11_parted_43 : decode cX11_parted 43 = .ok (.getfield 166, 3) := by decide +kernel
theorem dX11_parted_46 : decode cX11_parted 46 = .ok (.getfield 198, 3) := by decide +kernel
theorem dX11_parted_49 : decode cX11_parted 49 = .ok (.iload_n 1, 1) := by decide +kernel
theorem dX11_parted_50 : decode cX11_parted 50 = .ok (.aload_n 0, 1) := by decide +kernel
theorem dX11_parted_51 : decode cX11_parted 51 = .ok (.getfield 38, 3) := by decide +kernel
theorem dX11_parted_54 : decode cX11_parted 54 = .ok (.getfield 166, 3) := by decide +kernel
theorem dX11_parted_57 : decode cX11_parted 57 = .ok (.getfield 198, 3) := by decide +kernel
theorem dX11_parted_60 : decode cX11_parted 60 = .ok (.iload_n 2, 1) := by decide +kernel
theorem dX11_parted_61 : decode cX11_parted 61 = .ok (.invokevirtual 270, 3) := by decide +kernel
theorem dX11_parted_64 : decode cX11_parted 64 = .ok (.lreturn, 1) := by decide +kernel
theorem dX11_like_0 : decode cX11_like 0 = .ok (.iload_n 1, 1) := by decide +kernel
theorem dX11_like_1 : decode cX11_like 1 = .ok (.ifCond .lt 29, 3) := by decide +kernel
theorem dX11_like_4 : decode cX11_like 4 = .ok (.iload_n 1, 1) := by decide +kernel
theorem dX11_like_5 : decode cX11_like 5 = .ok (.aload_n 0, 1) := by decide +kernel
theorem dX11_like_6 : decode cX11_like 6 = .ok (.getfield 10, 3) := by decide +kernel
theorem dX11_like_9 : decode cX11_like 9 = .ok (.getfield 201, 3) := by decide +kernel
theorem dX11_like_12 : decode cX11_like 12 = .ok (.if_icmp .ge 18, 3) := by decide +kernel
theorem dX11_like_15 : decode cX11_like 15 = .ok (.iload_n 2, 1) := by decide +kernel
theorem dX11_like_16 : decode cX11_like 16 = .ok (.ifCond .lt 14, 3) := by decide +kernel
theorem dX11_like_19 : decode cX11_like 19 = .ok (.iload_n 2, 1) := by decide +kernel
theorem dX11_like_20 : decode cX11_like 20 = .ok (.aload_n 0, 1) := by decide +kernel
theorem dX11_like_21 : decode cX11_like 21 = .ok (.getfield 10, 3) := by decide +kernel
theorem dX11_like_24 : decode cX11_like 24 = .ok (.getfield 201, 3) := by decide +kernel
theorem dX11_like_27 : decode cX11_like 27 = .ok (.if_icmp .lt 7, 3) := by decide +kernel
theorem dX11_like_30 : decode cX11_like 30 = .ok (.ldc2_w 116, 3) := by decide +kernel
theorem dX11_like_33 : decode cX11_like 33 = .ok (.lreturn, 1) := by decide +kernel
theorem dX11_like_34 : decode cX11_like 34 = .ok (.aload_n 0, 1) := by decide +kernel
theorem dX11_like_35 : decode cX11_like 35 = .ok (.getfield 29, 3) := by decide +kernel
theorem dX11_like_38 : decode cX11_like 38 = .ok (.aload_n 0, 1) := by decide +kernel
theorem dX11_like_39 : decode cX11_like 39 = .ok (.getfield 10, 3) := by decide +kernel
theorem dX11_like_42 : decode cX11_like 42 = .ok (.iload_n 1, 1) := by decide +kernel
theorem dX11_like_43 : decode cX11_like 43 = .ok (.aload_n 0, 1) := by decide +kernel
theorem dX11_like_44 : decode cX11_like 44 = .ok (.getfield 10, 3) := by decide +kernel
theorem dX11_like_47 : decode cX11_like 47 = .ok (.iload_n 2, 1) := by decide +kernel
theorem dX11_like_48 : decode cX11_like 48 = .ok (.invokevirtual 270, 3) := by decide +kernel
theorem dX11_like_51 : decode cX11_like 51 = .ok (.lreturn, 1) := by decide +kernel
theorem dX11_least_0 : decode cX11_least 0 = .ok (.aload_n 0, 1) := by decide +kernel
theorem dX11_least_1 : decode cX11_least 1 = .ok (.invokevirtual 100, 3) := by decide +kernel
theorem dX11_least_4 : decode cX11_least 4 = .ok (.istore_n 1, 1) := by decide +kernel
theorem dX11_least_5 : decode cX11_least 5 = .ok (.aload_n 0, 1) := by decide +kernel
theorem dX11_least_6 : decode cX11_least 6 = .ok (.invokevirtual 299, 3) := by decide +kernel
theorem dX11_least_9 : decode cX11_least 9 = .ok (.iload_n 1, 1) := by decide +kernel
theorem dX11_least_10 : decode cX11_least 10 = .ok (.ireturn, 1) := by decide +kernel
theorem dX11_reach_0 : decode cX11_reach 0 = .ok (.iload_n 1, 1) := by decide +kernel
theorem dX11_reach_1 : decode cX11_reach 1 = .ok (.ifCond .lt 14, 3) := by decide +kernel
theorem dX11_reach_4 : decode cX11_reach 4 = .ok (.iload_n 1, 1) := by decide +kernel
theorem dX11_reach_5 : decode cX11_reach 5 = .ok (.aload_n 0, 1) := by decide +kernel
theorem dX11_reach_6 : decode cX11_reach 6 = .ok (.getfield 10, 3) := by decide +kernel
theorem dX11_reach_9 : decode cX11_reach 9 = .ok (.getfield 201, 3) := by decide +kernel
theorem dX11_reach_12 : decode cX11_reach 12 = .ok (.if_icmp .lt 7, 3) := by decide +kernel
theorem dX11_reach_15 : decode cX11_reach 15 = .ok (.ldc2_w 116, 3) := by decide +kernel
theorem dX11_reach_18 : decode cX11_reach 18 = .ok (.lreturn, 1) := by decide +kernel
theorem dX11_reach_19 : decode cX11_reach 19 = .ok (.aload_n 0, 1) := by decide +kernel
theorem dX11_reach_20 : decode cX11_reach 20 = .ok (.getfield 29, 3) := by decide +kernel
theorem dX11_reach_23 : decode cX11_reach 23 = .ok (.aload_n 0, 1) := by decide +kernel
theorem dX11_reach_24 : decode cX11_reach 24 = .ok (.getfield 10, 3) := by decide +kernel
theorem dX11_reach_27 : decode cX11_reach 27 = .ok (.invokevirtual 302, 3) := by decide +kernel
theorem dX11_reach_30 : decode cX11_reach 30 = .ok (.aload_n 0, 1) := by decide +kernel
theorem dX11_reach_31 : decode cX11_reach 31 = .ok (.getfield 29, 3) := by decide +kernel
theorem dX11_reach_34 : decode cX11_reach 34 = .ok (.iload_n 1, 1) := by decide +kernel
theorem dX11_reach_35 : decode cX11_reach 35 = .ok (.iload_n 1, 1) := by decide +kernel
theorem dX11_reach_36 : decode cX11_reach 36 = .ok (.invokevirtual 305, 3) := by decide +kernel
theorem dX11_reach_39 : decode cX11_reach 39 = .ok (.lreturn, 1) := by decide +kernel
theorem dX11_groups_0 : decode cX11_groups 0 = .ok (.iload_n 1, 1) := by decide +kernel
theorem dX11_groups_1 : decode cX11_groups 1 = .ok (.ifCond .lt 9, 3) := by decide +kernel
theorem dX11_groups_4 : decode cX11_groups 4 = .ok (.iload_n 1, 1) := by decide +kernel
theorem dX11_groups_5 : decode cX11_groups 5 = .ok (.bipush 7, 2) := by decide +kernel
theorem dX11_groups_7 : decode cX11_groups 7 = .ok (.if_icmp .le 5, 3) := by decide +kernel
theorem dX11_groups_10 : decode cX11_groups 10 = .ok (.iconst (-1), 1) := by decide +kernel
theorem dX11_groups_11 : decode cX11_groups 11 = .ok (.ireturn, 1) := by decide +kernel
theorem dX11_groups_12 : decode cX11_groups 12 = .ok (.aload_n 0, 1) := by decide +kernel
theorem dX11_groups_13 : decode cX11_groups 13 = .ok (.getfield 10, 3) := by decide +kernel
theorem dX11_groups_16 : decode cX11_groups 16 = .ok (.iload_n 1, 1) := by decide +kernel
theorem dX11_groups_17 : decode cX11_groups 17 = .ok (.aload_n 0, 1) := by decide +kernel
theorem dX11_groups_18 : decode cX11_groups 18 = .ok (.getfield 61, 3) := by decide +kernel
theorem dX11_groups_21 : decode cX11_groups 21 = .ok (.invokevirtual 308, 3) := by decide +kernel
theorem dX11_groups_24 : decode cX11_groups 24 = .ok (.istore_n 2, 1) := by decide +kernel
theorem dX11_groups_25 : decode cX11_groups 25 = .ok (.aload_n 0, 1) := by decide +kernel
theorem dX11_groups_26 : decode cX11_groups 26 = .ok (.invokevirtual 299, 3) := by decide +kernel
theorem dX11_groups_29 : decode cX11_groups 29 = .ok (.iload_n 2, 1) := by decide +kernel
theorem dX11_groups_30 : decode cX11_groups 30 = .ok (.ireturn, 1) := by decide +kernel
theorem dX11_costs_0 : decode cX11_costs 0 = .ok (.iload_n 1, 1) := by decide +kernel
theorem dX11_costs_1 : decode cX11_costs 1 = .ok (.ifCond .lt 8, 3) := by decide +kernel
theorem dX11_costs_4 : decode cX11_costs 4 = .ok (.iload_n 1, 1) := by decide +kernel
theorem dX11_costs_5 : decode cX11_costs 5 = .ok (.iconst 4, 1) := by decide +kernel
theorem dX11_costs_6 : decode cX11_costs 6 = .ok (.if_icmp .lt 5, 3) := by decide +kernel
theorem dX11_costs_9 : decode cX11_costs 9 = .ok (.iconst (-1), 1) := by decide +kernel
theorem dX11_costs_10 : decode cX11_costs 10 = .ok (.ireturn, 1) := by decide +kernel
theorem dX11_costs_11 : decode cX11_costs 11 = .ok (.aload_n 0, 1) := by decide +kernel
theorem dX11_costs_12 : decode cX11_costs 12 = .ok (.getfield 42, 3) := by decide +kernel
theorem dX11_costs_15 : decode cX11_costs 15 = .ok (.iload_n 1, 1) := by decide +kernel
theorem dX11_costs_16 : decode cX11_costs 16 = .ok (.invokevirtual 69, 3) := by decide +kernel
theorem dX11_costs_19 : decode cX11_costs 19 = .ok (.aload_n 0, 1) := by decide +kernel
theorem dX11_costs_20 : decode cX11_costs 20 = .ok (.getfield 42, 3) := by decide +kernel
theorem dX11_costs_23 : decode cX11_costs 23 = .ok (.invokevirtual 210, 3) := by decide +kernel
theorem dX11_costs_26 : decode cX11_costs 26 = .ok (.aload_n 0, 1) := by decide +kernel
theorem dX11_costs_27 : decode cX11_costs 27 = .ok (.invokevirtual 181, 3) := by decide +kernel
theorem dX11_costs_30 : decode cX11_costs 30 = .ok (.aload_n 0, 1) := by decide +kernel
theorem dX11_costs_31 : decode cX11_costs 31 = .ok (.aload_n 0, 1) := by decide +kernel
theorem dX11_costs_32 : decode cX11_costs 32 = .ok (.getfield 42, 3) := by decide +kernel
theorem dX11_costs_35 : decode cX11_costs 35 = .ok (.getfield 146, 3) := by decide +kernel
theorem dX11_costs_38 : decode cX11_costs 38 = .ok (.getfield 160, 3) := by decide +kernel
theorem dX11_costs_41 : decode cX11_costs 41 = .ok (.getfield 175, 3) := by decide +kernel
theorem dX11_costs_44 : decode cX11_costs 44 = .ok (.i2l, 1) := by decide +kernel
theorem dX11_costs_45 : decode cX11_costs 45 = .ok (.invokevirtual 184, 3) := by decide +kernel
theorem dX11_costs_48 : decode cX11_costs 48 = .ok (.aload_n 0, 1) := by decide +kernel
theorem dX11_costs_49 : decode cX11_costs 49 = .ok (.aload_n 0, 1) := by decide +kernel
theorem dX11_costs_50 : decode cX11_costs 50 = .ok (.getfield 42, 3) := by decide +kernel
theorem dX11_costs_53 : decode cX11_costs 53 = .ok (.getfield 166, 3) := by decide +kernel
theorem dX11_costs_56 : decode cX11_costs 56 = .ok (.getfield 216, 3) := by decide +kernel
theorem dX11_costs_59 : decode cX11_costs 59 = .ok (.i2l, 1) := by decide +kernel
theorem dX11_costs_60 : decode cX11_costs 60 = .ok (.invokevirtual 184, 3) := by decide +kernel
theorem dX11_costs_63 : decode cX11_costs 63 = .ok (.aload_n 0, 1) := by decide +kernel
theorem dX11_costs_64 : decode cX11_costs 64 = .ok (.aload_n 0, 1) := by decide +kernel
theorem dX11_costs_65 : decode cX11_costs 65 = .ok (.getfield 42, 3) := by decide +kernel
theorem dX11_costs_68 : decode cX11_costs 68 = .ok (.getfield 213, 3) := by decide +kernel
theorem dX11_costs_71 : decode cX11_costs 71 = .ok (.i2l, 1) := by decide +kernel
theorem dX11_costs_72 : decode cX11_costs 72 = .ok (.invokevirtual 184, 3) := by decide +kernel
theorem dX11_costs_75 : decode cX11_costs 75 = .ok (.aload_n 0, 1) := by decide +kernel
theorem dX11_costs_76 : decode cX11_costs 76 = .ok (.aload_n 0, 1) := by decide +kernel
theorem dX11_costs_77 : decode cX11_costs 77 = .ok (.getfield 42, 3) := by decide +kernel
theorem dX11_costs_80 : decode cX11_costs 80 = .ok (.getfield 166, 3) := by decide +kernel
theorem dX11_costs_83 : decode cX11_costs 83 = .ok (.getfield 188, 3) := by decide +kernel
theorem dX11_costs_86 : decode cX11_costs 86 = .ok (.getfield 219, 3) := by decide +kernel
theorem dX11_costs_89 : decode cX11_costs 89 = .ok (.i2l, 1) := by decide +kernel
theorem dX11_costs_90 : decode cX11_costs 90 = .ok (.invokevirtual 184, 3) := by decide +kernel
theorem dX11_costs_93 : decode cX11_costs 93 = .ok (.aload_n 0, 1) := by decide +kernel
theorem dX11_costs_94 : decode cX11_costs 94 = .ok (.aload_n 0, 1) := by decide +kernel
theorem dX11_costs_95 : decode cX11_costs 95 = .ok (.getfield 42, 3) := by decide +kernel
theorem dX11_costs_98 : decode cX11_costs 98 = .ok (.getfield 166, 3) := by decide +kernel
theorem dX11_costs_101 : decode cX11_costs 101 = .ok (.getfield 195, 3) := by decide +kernel
theorem dX11_costs_104 : decode cX11_costs 104 = .ok (.getfield 219, 3) := by decide +kernel
theorem dX11_costs_107 : decode cX11_costs 107 = .ok (.i2l, 1) := by decide +kernel
theorem dX11_costs_108 : decode cX11_costs 108 = .ok (.invokevirtual 184, 3) := by decide +kernel
theorem dX11_costs_111 : decode cX11_costs 111 = .ok (.aload_n 0, 1) := by decide +kernel
theorem dX11_costs_112 : decode cX11_costs 112 = .ok (.getfield 42, 3) := by decide +kernel
theorem dX11_costs_115 : decode cX11_costs 115 = .ok (.getfield 146, 3) := by decide +kernel
theorem dX11_costs_118 : decode cX11_costs 118 = .ok (.getfield 312, 3) := by decide +kernel
theorem dX11_costs_121 : decode cX11_costs 121 = .ok (.ireturn, 1) := by decide +kernel
theorem dX11_cheapest_0 : decode cX11_cheapest 0 = .ok (.iconst 0, 1) := by decide +kernel
theorem dX11_cheapest_1 : decode cX11_cheapest 1 = .ok (.istore_n 1, 1) := by decide +kernel
theorem dX11_cheapest_2 : decode cX11_cheapest 2 = .ok (.iconst 0, 1) := by decide +kernel
theorem dX11_cheapest_3 : decode cX11_cheapest 3 = .ok (.istore_n 2, 1) := by decide +kernel
theorem dX11_cheapest_4 : decode cX11_cheapest 4 = .ok (.aload_n 0, 1) := by decide +kernel
theorem dX11_cheapest_5 : decode cX11_cheapest 5 = .ok (.invokevirtual 181, 3) := by decide +kernel
theorem dX11_cheapest_8 : decode cX11_cheapest 8 = .ok (.iconst 0, 1) := by decide +kernel
theorem dX11_cheapest_9 : decode cX11_cheapest 9 = .ok (.istore_n 3, 1) := by decide +kernel
theorem dX11_cheapest_10 : decode cX11_cheapest 10 = .ok (.iload_n 3, 1) := by decide +kernel
theorem dX11_cheapest_11 : decode cX11_cheapest 11 = .ok (.iconst 4, 1) := by decide +kernel
theorem dX11_cheapest_12 : decode cX11_cheapest 12 = .ok (.if_icmp .ge 58, 3) := by decide +kernel
theorem dX11_cheapest_15 : decode cX11_cheapest 15 = .ok (.aload_n 0, 1) := by decide +kernel
theorem dX11_cheapest_16 : decode cX11_cheapest 16 = .ok (.getfield 42, 3) := by decide +kernel
theorem dX11_cheapest_19 : decode cX11_cheapest 19 = .ok (.iload_n 3, 1) := by decide +kernel
theorem dX11_cheapest_20 : decode cX11_cheapest 20 = .ok (.invokevirtual 69, 3) := by decide +kernel
theorem dX11_cheapest_23 : decode cX11_cheapest 23 = .ok (.aload_n 0, 1) := by decide +kernel
theorem dX11_cheapest_24 : decode cX11_cheapest 24 = .ok (.getfield 42, 3) := by decide +kernel
theorem dX11_cheapest_27 : decode cX11_cheapest 27 = .ok (.invokevirtual 210, 3) := by decide +kernel
theorem dX11_cheapest_30 : decode cX11_cheapest 30 = .ok (.aload_n 0, 1) := by decide +kernel
theorem dX11_cheapest_31 : decode cX11_cheapest 31 = .ok (.getfield 42, 3) := by decide +kernel
theorem dX11_cheapest_34 : decode cX11_cheapest 34 = .ok (.getfield 146, 3) := by decide +kernel
theorem dX11_cheapest_37 : decode cX11_cheapest 37 = .ok (.getfield 312, 3) := by decide +kernel
theorem dX11_cheapest_40 : decode cX11_cheapest 40 = .ok (.istore 4, 2) := by decide +kernel
theorem dX11_cheapest_42 : decode cX11_cheapest 42 = .ok (.aload_n 0, 1) := by decide +kernel
theorem dX11_cheapest_43 : decode cX11_cheapest 43 = .ok (.iload 4, 2) := by decide +kernel
theorem dX11_cheapest_45 : decode cX11_cheapest 45 = .ok (.i2l, 1) := by decide +kernel
theorem dX11_cheapest_46 : decode cX11_cheapest 46 = .ok (.invokevirtual 184, 3) := by decide +kernel
theorem dX11_cheapest_49 : decode cX11_cheapest 49 = .ok (.iload_n 3, 1) := by decide +kernel
theorem dX11_cheapest_50 : decode cX11_cheapest 50 = .ok (.ifCond .eq 9, 3) := by decide +kernel
theorem dX11_cheapest_53 : decode cX11_cheapest 53 = .ok (.iload 4, 2) := by decide +kernel
theorem dX11_cheapest_55 : decode cX11_cheapest 55 = .ok (.iload_n 2, 1) := by decide +kernel
theorem dX11_cheapest_56 : decode cX11_cheapest 56 = .ok (.if_icmp .ge 8, 3) := by decide +kernel
theorem dX11_cheapest_59 : decode cX11_cheapest 59 = .ok (.iload_n 3, 1) := by decide +kernel
theorem dX11_cheapest_60 : decode cX11_cheapest 60 = .ok (.istore_n 1, 1) := by decide +kernel
theorem dX11_cheapest_61 : decode cX11_cheapest 61 = .ok (.iload 4, 2) := by decide +kernel
theorem dX11_cheapest_63 : decode cX11_cheapest 63 = .ok (.istore_n 2, 1) := by decide +kernel
theorem dX11_cheapest_64 : decode cX11_cheapest 64 = .ok (.iinc 3 1, 3) := by decide +kernel
theorem dX11_cheapest_67 : decode cX11_cheapest 67 = .ok (.goto (-57), 3) := by decide +kernel
theorem dX11_cheapest_70 : decode cX11_cheapest 70 = .ok (.iload_n 1, 1) := by decide +kernel
theorem dX11_cheapest_71 : decode cX11_cheapest 71 = .ok (.ireturn, 1) := by decide +kernel
theorem dX11_count_0 : decode cX11_count 0 = .ok (.iload_n 1, 1) := by decide +kernel
theorem dX11_count_1 : decode cX11_count 1 = .ok (.tableswitch 185 0 10 #[59, 67, 75, 83, 97, 108, 119, 150, 155, 163, 174], 59) := by decide +kernel
theorem dX11_count_60 : decode cX11_count 60 = .ok (.aload_n 0, 1) := by decide +kernel
theorem dX11_count_61 : decode cX11_count 61 = .ok (.getfield 38, 3) := by decide +kernel
theorem dX11_count_64 : decode cX11_count 64 = .ok (.getfield 92, 3) := by decide +kernel
theorem dX11_count_67 : decode cX11_count 67 = .ok (.ireturn, 1) := by decide +kernel
theorem dX11_count_68 : decode cX11_count 68 = .ok (.aload_n 0, 1) := by decide +kernel
theorem dX11_count_69 : decode cX11_count 69 = .ok (.getfield 10, 3) := by decide +kernel
theorem dX11_count_72 : decode cX11_count 72 = .ok (.getfield 124, 3) := by decide +kernel
theorem dX11_count_75 : decode cX11_count 75 = .ok (.ireturn, 1) := by decide +kernel
theorem dX11_count_76 : decode cX11_count 76 = .ok (.aload_n 0, 1) := by decide +kernel
theorem dX11_count_77 : decode cX11_count 77 = .ok (.getfield 10, 3) := by decide +kernel
theorem dX11_count_80 : decode cX11_count 80 = .ok (.getfield 201, 3) := by decide +kernel
theorem dX11_count_83 : decode cX11_count 83 = .ok (.ireturn, 1) := by decide +kernel
theorem dX11_count_84 : decode cX11_count 84 = .ok (.aload_n 0, 1) := by decide +kernel
theorem dX11_count_85 : decode cX11_count 85 = .ok (.getfield 38, 3) := by decide +kernel
theorem dX11_count_88 : decode cX11_count 88 = .ok (.getfield 146, 3) := by decide +kernel
theorem dX11_count_91 : decode cX11_count 91 = .ok (.getfield 160, 3) := by decide +kernel
theorem dX11_count_94 : decode cX11_count 94 = .ok (.getfield 175, 3) := by decide +kernel
theorem dX11_count_97 : decode cX11_count 97 = .ok (.ireturn, 1) := by decide +kernel
theorem dX11_count_98 : decode cX11_count 98 = .ok (.aload_n 0, 1) := by decide +kernel
theorem dX11_count_99 : decode cX11_count 99 = .ok (.getfield 38, 3) := by decide +kernel
theorem dX11_count_102 : decode cX11_count 102 = .ok (.getfield 146, 3) := by decide +kernel
theorem dX11_count_105 : decode cX11_count 105 = .ok (.getfield 312, 3) := by decide +kernel
theorem dX11_count_108 : decode cX11_count 108 = .ok (.ireturn, 1) := by decide +kernel
theorem dX11_count_109 : decode cX11_count 109 = .ok (.aload_n 0, 1) := by decide +kernel
theorem dX11_count_110 : decode cX11_count 110 = .ok (.getfield 38, 3) := by decide +kernel
theorem dX11_count_113 : decode cX11_count 113 = .ok (.getfield 166, 3) := by decide +kernel
theorem dX11_count_116 : decode cX11_count 116 = .ok (.getfield 216, 3) := by decide +kernel
theorem dX11_count_119 : decode cX11_count 119 = .ok (.ireturn, 1) := by decide +kernel
theorem dX11_count_120 : decode cX11_count 120 = .ok (.aload_n 0, 1) := by decide +kernel
theorem dX11_count_121 : decode cX11_count 121 = .ok (.getfield 38, 3) := by decide +kernel
theorem dX11_count_124 : decode cX11_count 124 = .ok (.getfield 166, 3) := by decide +kernel
theorem dX11_count_127 : decode cX11_count 127 = .ok (.invokevirtual 170, 3) := by decide +kernel
theorem dX11_count_130 : decode cX11_count 130 = .ok (.ifCond .eq 19, 3) := by decide +kernel
theorem dX11_count_133 : decode cX11_count 133 = .ok (.aload_n 0, 1) := by decide +kernel
theorem dX11_count_134 : decode cX11_count 134 = .ok (.getfield 38, 3) := by decide +kernel
theorem dX11_count_137 : decode cX11_count 137 = .ok (.getfield 166, 3) := by decide +kernel
theorem dX11_count_140 : decode cX11_count 140 = .ok (.getfield 198, 3) := by decide +kernel
theorem dX11_count_143 : decode cX11_count 143 = .ok (.getfield 201, 3) := by decide +kernel
theorem dX11_count_146 : decode cX11_count 146 = .ok (.goto 4, 3) := by decide +kernel
theorem dX11_count_149 : decode cX11_count 149 = .ok (.iconst (-1), 1) := by decide +kernel
theorem dX11_count_150 : decode cX11_count 150 = .ok (.ireturn, 1) := by decide +kernel
theorem dX11_count_151 : decode cX11_count 151 = .ok (.aload_n 0, 1) := by decide +kernel
theorem dX11_count_152 : decode cX11_count 152 = .ok (.getfield 315, 3) := by decide +kernel
theorem dX11_count_155 : decode cX11_count 155 = .ok (.ireturn, 1) := by decide +kernel
theorem dX11_count_156 : decode cX11_count 156 = .ok (.aload_n 0, 1) := by decide +kernel
theorem dX11_count_157 : decode cX11_count 157 = .ok (.getfield 22, 3) := by decide +kernel
theorem dX11_count_160 : decode cX11_count 160 = .ok (.getfield 318, 3) := by decide +kernel
theorem dX11_count_163 : decode cX11_count 163 = .ok (.ireturn, 1) := by decide +kernel
theorem dX11_count_164 : decode cX11_count 164 = .ok (.aload_n 0, 1) := by decide +kernel
theorem dX11_count_165 : decode cX11_count 165 = .ok (.getfield 38, 3) := by decide +kernel
theorem dX11_count_168 : decode cX11_count 168 = .ok (.getfield 146, 3) := by decide +kernel
theorem dX11_count_171 : decode cX11_count 171 = .ok (.getfield 319, 3) := by decide +kernel
theorem dX11_count_174 : decode cX11_count 174 = .ok (.ireturn, 1) := by decide +kernel
theorem dX11_count_175 : decode cX11_count 175 = .ok (.aload_n 0, 1) := by decide +kernel
theorem dX11_count_176 : decode cX11_count 176 = .ok (.getfield 38, 3) := by decide +kernel
theorem dX11_count_179 : decode cX11_count 179 = .ok (.getfield 146, 3) := by decide +kernel
theorem dX11_count_182 : decode cX11_count 182 = .ok (.getfield 322, 3) := by decide +kernel
theorem dX11_count_185 : decode cX11_count 185 = .ok (.ireturn, 1) := by decide +kernel
theorem dX11_count_186 : decode cX11_count 186 = .ok (.iconst (-1), 1) := by decide +kernel
theorem dX11_count_187 : decode cX11_count 187 = .ok (.ireturn, 1) := by decide +kernel
theorem dX11_row_0 : decode cX11_row 0 = .ok (.iload_n 1, 1) := by decide +kernel
theorem dX11_row_1 : decode cX11_row 1 = .ok (.ifCond .lt 20, 3) := by decide +kernel
theorem dX11_row_4 : decode cX11_row 4 = .ok (.iload_n 1, 1) := by decide +kernel
theorem dX11_row_5 : decode cX11_row 5 = .ok (.aload_n 0, 1) := by decide +kernel
theorem dX11_row_6 : decode cX11_row 6 = .ok (.getfield 315, 3) := by decide +kernel
theorem dX11_row_9 : decode cX11_row 9 = .ok (.if_icmp .ge 12, 3) := by decide +kernel
theorem dX11_row_12 : decode cX11_row 12 = .ok (.iload_n 1, 1) := by decide +kernel
theorem dX11_row_13 : decode cX11_row 13 = .ok (.aload_n 0, 1) := by decide +kernel
theorem dX11_row_14 : decode cX11_row 14 = .ok (.getfield 65, 3) := by decide +kernel
theorem dX11_row_17 : decode cX11_row 17 = .ok (.arraylength, 1) := by decide +kernel
theorem dX11_row_18 : decode cX11_row 18 = .ok (.if_icmp .lt 11, 3) := by decide +kernel
theorem dX11_row_21 : decode cX11_row 21 = .ok (.new 325, 3) := by decide +kernel
theorem dX11_row_24 : decode cX11_row 24 = .ok (.dup, 1) := by decide +kernel
theorem dX11_row_25 : decode cX11_row 25 = .ok (.invokespecial 327, 3) := by decide +kernel
theorem dX11_row_28 : decode cX11_row 28 = .ok (.athrow, 1) := by decide +kernel
theorem dX11_row_29 : decode cX11_row 29 = .ok (.aload_n 0, 1) := by decide +kernel
theorem dX11_row_30 : decode cX11_row 30 = .ok (.getfield 65, 3) := by decide +kernel
theorem dX11_row_33 : decode cX11_row 33 = .ok (.iload_n 1, 1) := by decide +kernel
theorem dX11_row_34 : decode cX11_row 34 = .ok (.laload, 1) := by decide +kernel
theorem dX11_row_35 : decode cX11_row 35 = .ok (.lreturn, 1) := by decide +kernel
theorem dX11_clearNumbers_0 : decode cX11_clearNumbers 0 = .ok (.aload_n 0, 1) := by decide +kernel
theorem dX11_clearNumbers_1 : decode cX11_clearNumbers 1 = .ok (.iconst 0, 1) := by decide +kernel
theorem dX11_clearNumbers_2 : decode cX11_clearNumbers 2 = .ok (.putfield 315, 3) := by decide +kernel
theorem dX11_clearNumbers_5 : decode cX11_clearNumbers 5 = .ok (.return_, 1) := by decide +kernel
theorem dX11_put_0 : decode cX11_put 0 = .ok (.aload_n 0, 1) := by decide +kernel
theorem dX11_put_1 : decode cX11_put 1 = .ok (.getfield 315, 3) := by decide +kernel
theorem dX11_put_4 : decode cX11_put 4 = .ok (.aload_n 0, 1) := by decide +kernel
theorem dX11_put_5 : decode cX11_put 5 = .ok (.getfield 65, 3) := by decide +kernel
theorem dX11_put_8 : decode cX11_put 8 = .ok (.arraylength, 1) := by decide +kernel
theorem dX11_put_9 : decode cX11_put 9 = .ok (.if_icmp .ge 20, 3) := by decide +kernel
theorem dX11_put_12 : decode cX11_put 12 = .ok (.aload_n 0, 1) := by decide +kernel
theorem dX11_put_13 : decode cX11_put 13 = .ok (.getfield 65, 3) := by decide +kernel
theorem dX11_put_16 : decode cX11_put 16 = .ok (.aload_n 0, 1) := by decide +kernel
theorem dX11_put_17 : decode cX11_put 17 = .ok (.dup, 1) := by decide +kernel
theorem dX11_put_18 : decode cX11_put 18 = .ok (.getfield 315, 3) := by decide +kernel
theorem dX11_put_21 : decode cX11_put 21 = .ok (.dup_x1, 1) := by decide +kernel
theorem dX11_put_22 : decode cX11_put 22 = .ok (.iconst 1, 1) := by decide +kernel
theorem dX11_put_23 : decode cX11_put 23 = .ok (.iadd, 1) := by decide +kernel
theorem dX11_put_24 : decode cX11_put 24 = .ok (.putfield 315, 3) := by decide +kernel
theorem dX11_put_27 : decode cX11_put 27 = .ok (.lload_n 1, 1) := by decide +kernel
theorem dX11_put_28 : decode cX11_put 28 = .ok (.lastore, 1) := by decide +kernel
theorem dX11_put_29 : decode cX11_put 29 = .ok (.return_, 1) := by decide +kernel
theorem dX11_putGroups_0 : decode cX11_putGroups 0 = .ok (.aload_n 0, 1) := by decide +kernel
theorem dX11_putGroups_1 : decode cX11_putGroups 1 = .ok (.invokevirtual 181, 3) := by decide +kernel
theorem dX11_putGroups_4 : decode cX11_putGroups 4 = .ok (.iconst 0, 1) := by decide +kernel
theorem dX11_putGroups_5 : decode cX11_putGroups 5 = .ok (.istore_n 1, 1) := by decide +kernel
theorem dX11_putGroups_6 : decode cX11_putGroups 6 = .ok (.iload_n 1, 1) := by decide +kernel
theorem dX11_putGroups_7 : decode cX11_putGroups 7 = .ok (.aload_n 0, 1) := by decide +kernel
theorem dX11_putGroups_8 : decode cX11_putGroups 8 = .ok (.getfield 10, 3) := by decide +kernel
theorem dX11_putGroups_11 : decode cX11_putGroups 11 = .ok (.getfield 201, 3) := by decide +kernel
theorem dX11_putGroups_14 : decode cX11_putGroups 14 = .ok (.if_icmp .ge 29, 3) := by decide +kernel
theorem dX11_putGroups_17 : decode cX11_putGroups 17 = .ok (.iload_n 1, 1) := by decide +kernel
theorem dX11_putGroups_18 : decode cX11_putGroups 18 = .ok (.aload_n 0, 1) := by decide +kernel
theorem dX11_putGroups_19 : decode cX11_putGroups 19 = .ok (.getfield 61, 3) := by decide +kernel
theorem dX11_putGroups_22 : decode cX11_putGroups 22 = .ok (.arraylength, 1) := by decide +kernel
theorem dX11_putGroups_23 : decode cX11_putGroups 23 = .ok (.if_icmp .ge 20, 3) := by decide +kernel
theorem dX11_putGroups_26 : decode cX11_putGroups 26 = .ok (.aload_n 0, 1) := by decide +kernel
theorem dX11_putGroups_27 : decode cX11_putGroups 27 = .ok (.aload_n 0, 1) := by decide +kernel
theorem dX11_putGroups_28 : decode cX11_putGroups 28 = .ok (.getfield 61, 3) := by decide +kernel
theorem dX11_putGroups_31 : decode cX11_putGroups 31 = .ok (.iload_n 1, 1) := by decide +kernel
theorem dX11_putGroups_32 : decode cX11_putGroups 32 = .ok (.iaload, 1) := by decide +kernel
theorem dX11_putGroups_33 : decode cX11_putGroups 33 = .ok (.i2l, 1) := by decide +kernel
theorem dX11_putGroups_34 : decode cX11_putGroups 34 = .ok (.invokevirtual 184, 3) := by decide +kernel
theorem dX11_putGroups_37 : decode cX11_putGroups 37 = .ok (.iinc 1 1, 3) := by decide +kernel
theorem dX11_putGroups_40 : decode cX11_putGroups 40 = .ok (.goto (-34), 3) := by decide +kernel
theorem dX11_putGroups_43 : decode cX11_putGroups 43 = .ok (.return_, 1) := by decide +kernel
theorem dX11_isNoWord_0 : decode cX11_isNoWord 0 = .ok (.lload_n 1, 1) := by decide +kernel
theorem dX11_isNoWord_1 : decode cX11_isNoWord 1 = .ok (.aload_n 0, 1) := by decide +kernel
theorem dX11_isNoWord_2 : decode cX11_isNoWord 2 = .ok (.getfield 10, 3) := by decide +kernel
theorem dX11_isNoWord_5 : decode cX11_isNoWord 5 = .ok (.getfield 124, 3) := by decide +kernel
theorem dX11_isNoWord_8 : decode cX11_isNoWord 8 = .ok (.invokestatic 127, 3) := by decide +kernel
theorem dX11_isNoWord_11 : decode cX11_isNoWord 11 = .ok (.ifCond .ge 7, 3) := by decide +kernel
theorem dX11_isNoWord_14 : decode cX11_isNoWord 14 = .ok (.iconst 1, 1) := by decide +kernel
theorem dX11_isNoWord_15 : decode cX11_isNoWord 15 = .ok (.goto 4, 3) := by decide +kernel
theorem dX11_isNoWord_18 : decode cX11_isNoWord 18 = .ok (.iconst 0, 1) := by decide +kernel
theorem dX11_isNoWord_19 : decode cX11_isNoWord 19 = .ok (.ireturn, 1) := by decide +kernel
theorem dX11_refuseGuessed_0 : decode cX11_refuseGuessed 0 = .ok (.iload_n 1, 1) := by decide +kernel
theorem dX11_refuseGuessed_1 : decode cX11_refuseGuessed 1 = .ok (.ifCond .lt 9, 3) := by decide +kernel
theorem dX11_refuseGuessed_4 : decode cX11_refuseGuessed 4 = .ok (.iload_n 1, 1) := by decide +kernel
theorem dX11_refuseGuessed_5 : decode cX11_refuseGuessed 5 = .ok (.bipush 8, 2) := by decide +kernel
theorem dX11_refuseGuessed_7 : decode cX11_refuseGuessed 7 = .ok (.if_icmp .lt 5, 3) := by decide +kernel
theorem dX11_refuseGuessed_10 : decode cX11_refuseGuessed 10 = .ok (.iconst (-1), 1) := by decide +kernel
theorem dX11_refuseGuessed_11 : decode cX11_refuseGuessed 11 = .ok (.ireturn, 1) := by decide +kernel
theorem dX11_refuseGuessed_12 : decode cX11_refuseGuessed 12 = .ok (.aload_n 0, 1) := by decide +kernel
theorem dX11_refuseGuessed_13 : decode cX11_refuseGuessed 13 = .ok (.getfield 38, 3) := by decide +kernel
theorem dX11_refuseGuessed_16 : decode cX11_refuseGuessed 16 = .ok (.getfield 166, 3) := by decide +kernel
theorem dX11_refuseGuessed_19 : decode cX11_refuseGuessed 19 = .ok (.invokevirtual 170, 3) := by decide +kernel
theorem dX11_refuseGuessed_22 : decode cX11_refuseGuessed 22 = .ok (.ifCond .ne 6, 3) := by decide +kernel
theorem dX11_refuseGuessed_25 : decode cX11_refuseGuessed 25 = .ok (.bipush (-2), 2) := by decide +kernel
theorem dX11_refuseGuessed_27 : decode cX11_refuseGuessed 27 = .ok (.ireturn, 1) := by decide +kernel
theorem dX11_refuseGuessed_28 : decode cX11_refuseGuessed 28 = .ok (.iload_n 1, 1) := by decide +kernel
theorem dX11_refuseGuessed_29 : decode cX11_refuseGuessed 29 = .ok (.aload_n 0, 1) := by decide +kernel
theorem dX11_refuseGuessed_30 : decode cX11_refuseGuessed 30 = .ok (.getfield 38, 3) := by decide +kernel
theorem dX11_refuseGuessed_33 : decode cX11_refuseGuessed 33 = .ok (.getfield 166, 3) := by decide +kernel
theorem dX11_refuseGuessed_36 : decode cX11_refuseGuessed 36 = .ok (.getfield 198, 3) := by decide +kernel
theorem dX11_refuseGuessed_39 : decode cX11_refuseGuessed 39 = .ok (.getfield 201, 3) := by decide +kernel
theorem dX11_refuseGuessed_42 : decode cX11_refuseGuessed 42 = .ok (.if_icmp .ge 7, 3) := by decide +kernel
theorem dX11_refuseGuessed_45 : decode cX11_refuseGuessed 45 = .ok (.iconst 0, 1) := by decide +kernel
theorem dX11_refuseGuessed_46 : decode cX11_refuseGuessed 46 = .ok (.goto 4, 3) := by decide +kernel
theorem dX11_refuseGuessed_49 : decode cX11_refuseGuessed 49 = .ok (.iconst (-1), 1) := by decide +kernel
theorem dX11_refuseGuessed_50 : decode cX11_refuseGuessed 50 = .ok (.ireturn, 1) := by decide +kernel
theorem dX11_unlikeReached_0 : decode cX11_unlikeReached 0 = .ok (.aload_n 0, 1) := by decide +kernel
theorem dX11_unlikeReached_1 : decode cX11_unlikeReached 1 = .ok (.getfield 10, 3) := by decide +kernel
theorem dX11_unlikeReached_4 : decode cX11_unlikeReached 4 = .ok (.bipush 7, 2) := by decide +kernel
theorem dX11_unlikeReached_6 : decode cX11_unlikeReached 6 = .ok (.aload_n 0, 1) := by decide +kernel
theorem dX11_unlikeReached_7 : decode cX11_unlikeReached 7 = .ok (.getfield 61, 3) := by decide +kernel
theorem dX11_unlikeReached_10 : decode cX11_unlikeReached 10 = .ok (.invokevirtual 308, 3) := by decide +kernel
theorem dX11_unlikeReached_13 : decode cX11_unlikeReached 13 = .ok (.pop, 1) := by decide +kernel
theorem dX11_unlikeReached_14 : decode cX11_unlikeReached 14 = .ok (.aload_n 0, 1) := by decide +kernel
theorem dX11_unlikeReached_15 : decode cX11_unlikeReached 15 = .ok (.getfield 29, 3) := by decide +kernel
theorem dX11_unlikeReached_18 : decode cX11_unlikeReached 18 = .ok (.aload_n 0, 1) := by decide +kernel
theorem dX11_unlikeReached_19 : decode cX11_unlikeReached 19 = .ok (.getfield 10, 3) := by decide +kernel
theorem dX11_unlikeReached_22 : decode cX11_unlikeReached 22 = .ok (.invokevirtual 302, 3) := by decide +kernel
theorem dX11_unlikeReached_25 : decode cX11_unlikeReached 25 = .ok (.iconst 0, 1) := by decide +kernel
theorem dX11_unlikeReached_26 : decode cX11_unlikeReached 26 = .ok (.istore_n 1, 1) := by decide +kernel
theorem dX11_unlikeReached_27 : decode cX11_unlikeReached 27 = .ok (.iconst 0, 1) := by decide +kernel
theorem dX11_unlikeReached_28 : decode cX11_unlikeReached 28 = .ok (.istore_n 2, 1) := by decide +kernel
theorem dX11_unlikeReached_29 : decode cX11_unlikeReached 29 = .ok (.iload_n 2, 1) := by decide +kernel
theorem dX11_unlikeReached_30 : decode cX11_unlikeReached 30 = .ok (.aload_n 0, 1) := by decide +kernel
theorem dX11_unlikeReached_31 : decode cX11_unlikeReached 31 = .ok (.getfield 10, 3) := by decide +kernel
theorem dX11_unlikeReached_34 : decode cX11_unlikeReached 34 = .ok (.getfield 201, 3) := by decide +kernel
theorem dX11_unlikeReached_37 : decode cX11_unlikeReached 37 = .ok (.if_icmp .ge 20, 3) := by decide +kernel
theorem dX11_unlikeReached_40 : decode cX11_unlikeReached 40 = .ok (.aload_n 0, 1) := by decide +kernel
theorem dX11_unlikeReached_41 : decode cX11_unlikeReached 41 = .ok (.iload_n 2, 1) := by decide +kernel
theorem dX11_unlikeReached_42 : decode cX11_unlikeReached 42 = .ok (.invokevirtual 328, 3) := by decide +kernel
theorem dX11_unlikeReached_45 : decode cX11_unlikeReached 45 = .ok (.ifCond .eq 6, 3) := by decide +kernel
theorem dX11_unlikeReached_48 : decode cX11_unlikeReached 48 = .ok (.iinc 1 1, 3) := by decide +kernel
theorem dX11_unlikeReached_51 : decode cX11_unlikeReached 51 = .ok (.iinc 2 1, 3) := by decide +kernel
theorem dX11_unlikeReached_54 : decode cX11_unlikeReached 54 = .ok (.goto (-25), 3) := by decide +kernel
theorem dX11_unlikeReached_57 : decode cX11_unlikeReached 57 = .ok (.iload_n 1, 1) := by decide +kernel
theorem dX11_unlikeReached_58 : decode cX11_unlikeReached 58 = .ok (.ireturn, 1) := by decide +kernel
theorem dX11_isGroupReached_0 : decode cX11_isGroupReached 0 = .ok (.iconst 0, 1) := by decide +kernel
theorem dX11_isGroupReached_1 : decode cX11_isGroupReached 1 = .ok (.istore_n 2, 1) := by decide +kernel
theorem dX11_isGroupReached_2 : decode cX11_isGroupReached 2 = .ok (.iload_n 2, 1) := by decide +kernel
theorem dX11_isGroupReached_3 : decode cX11_isGroupReached 3 = .ok (.aload_n 0, 1) := by decide +kernel
theorem dX11_isGroupReached_4 : decode cX11_isGroupReached 4 = .ok (.getfield 10, 3) := by decide +kernel
theorem dX11_isGroupReached_7 : decode cX11_isGroupReached 7 = .ok (.getfield 201, 3) := by decide +kernel
theorem dX11_isGroupReached_10 : decode cX11_isGroupReached 10 = .ok (.if_icmp .ge 44, 3) := by decide +kernel
theorem dX11_isGroupReached_13 : decode cX11_isGroupReached 13 = .ok (.iload_n 2, 1) := by decide +kernel
theorem dX11_isGroupReached_14 : decode cX11_isGroupReached 14 = .ok (.aload_n 0, 1) := by decide +kernel
theorem dX11_isGroupReached_15 : decode cX11_isGroupReached 15 = .ok (.getfield 61, 3) := by decide +kernel
theorem dX11_isGroupReached_18 : decode cX11_isGroupReached 18 = .ok (.arraylength, 1) := by decide +kernel
theorem dX11_isGroupReached_19 : decode cX11_isGroupReached 19 = .ok (.if_icmp .ge 35, 3) := by decide +kernel
theorem dX11_isGroupReached_22 : decode cX11_isGroupReached 22 = .ok (.aload_n 0, 1) := by decide +kernel
theorem dX11_isGroupReached_23 : decode cX11_isGroupReached 23 = .ok (.getfield 61, 3) := by decide +kernel
theorem dX11_isGroupReached_26 : decode cX11_isGroupReached 26 = .ok (.iload_n 2, 1) := by decide +kernel
theorem dX11_isGroupReached_27 : decode cX11_isGroupReached 27 = .ok (.iaload, 1) := by decide +kernel
theorem dX11_isGroupReached_28 : decode cX11_isGroupReached 28 = .ok (.iload_n 1, 1) := by decide +kernel
theorem dX11_isGroupReached_29 : decode cX11_isGroupReached 29 = .ok (.if_icmp .ne 19, 3) := by decide +kernel
theorem dX11_isGroupReached_32 : decode cX11_isGroupReached 32 = .ok (.aload_n 0, 1) := by decide +kernel
theorem dX11_isGroupReached_33 : decode cX11_isGroupReached 33 = .ok (.getfield 29, 3) := by decide +kernel
theorem dX11_isGroupReached_36 : decode cX11_isGroupReached 36 = .ok (.iload_n 2, 1) := by decide +kernel
theorem dX11_isGroupReached_37 : decode cX11_isGroupReached 37 = .ok (.iload_n 2, 1) := by decide +kernel
theorem dX11_isGroupReached_38 : decode cX11_isGroupReached 38 = .ok (.invokevirtual 305, 3) := by decide +kernel
theorem dX11_isGroupReached_41 : decode cX11_isGroupReached 41 = .ok (.lconst 0, 1) := by decide +kernel
theorem dX11_isGroupReached_42 : decode cX11_isGroupReached 42 = .ok (.lcmp, 1) := by decide +kernel
theorem dX11_isGroupReached_43 : decode cX11_isGroupReached 43 = .ok (.ifCond .eq 5, 3) := by decide +kernel
theorem dX11_isGroupReached_46 : decode cX11_isGroupReached 46 = .ok (.iconst 1, 1) := by decide +kernel
theorem dX11_isGroupReached_47 : decode cX11_isGroupReached 47 = .ok (.ireturn, 1) := by decide +kernel
theorem dX11_isGroupReached_48 : decode cX11_isGroupReached 48 = .ok (.iinc 2 1, 3) := by decide +kernel
theorem dX11_isGroupReached_51 : decode cX11_isGroupReached 51 = .ok (.goto (-49), 3) := by decide +kernel
theorem dX11_isGroupReached_54 : decode cX11_isGroupReached 54 = .ok (.iconst 0, 1) := by decide +kernel
theorem dX11_isGroupReached_55 : decode cX11_isGroupReached 55 = .ok (.ireturn, 1) := by decide +kernel
theorem dX11_gatherTrials_0 : decode cX11_gatherTrials 0 = .ok (.aload_n 0, 1) := by decide +kernel
theorem dX11_gatherTrials_1 : decode cX11_gatherTrials 1 = .ok (.getfield 38, 3) := by decide +kernel
theorem dX11_gatherTrials_4 : decode cX11_gatherTrials 4 = .ok (.getfield 166, 3) := by decide +kernel
theorem dX11_gatherTrials_7 : decode cX11_gatherTrials 7 = .ok (.getfield 198, 3) := by decide +kernel
theorem dX11_gatherTrials_10 : decode cX11_gatherTrials 10 = .ok (.astore_n 2, 1) := by decide +kernel
theorem dX11_gatherTrials_11 : decode cX11_gatherTrials 11 = .ok (.aload_n 0, 1) := by decide +kernel
theorem dX11_gatherTrials_12 : decode cX11_gatherTrials 12 = .ok (.aload_n 2, 1) := by decide +kernel
theorem dX11_gatherTrials_13 : decode cX11_gatherTrials 13 = .ok (.invokevirtual 331, 3) := by decide +kernel
theorem dX11_gatherTrials_16 : decode cX11_gatherTrials 16 = .ok (.aload_n 0, 1) := by decide +kernel
theorem dX11_gatherTrials_17 : decode cX11_gatherTrials 17 = .ok (.getfield 48, 3) := by decide +kernel
theorem dX11_gatherTrials_20 : decode cX11_gatherTrials 20 = .ok (.invokevirtual 334, 3) := by decide +kernel
theorem dX11_gatherTrials_23 : decode cX11_gatherTrials 23 = .ok (.aload_n 0, 1) := by decide +kernel
theorem dX11_gatherTrials_24 : decode cX11_gatherTrials 24 = .ok (.getfield 29, 3) := by decide +kernel
theorem dX11_gatherTrials_27 : decode cX11_gatherTrials 27 = .ok (.aload_n 2, 1) := by decide +kernel
theorem dX11_gatherTrials_28 : decode cX11_gatherTrials 28 = .ok (.invokevirtual 302, 3) := by decide +kernel
theorem dX11_gatherTrials_31 : decode cX11_gatherTrials 31 = .ok (.iload_n 1, 1) := by decide +kernel
theorem dX11_gatherTrials_32 : decode cX11_gatherTrials 32 = .ok (.iconst 1, 1) := by decide +kernel
theorem dX11_gatherTrials_33 : decode cX11_gatherTrials 33 = .ok (.iadd, 1) := by decide +kernel
theorem dX11_gatherTrials_34 : decode cX11_gatherTrials 34 = .ok (.aload_n 2, 1) := by decide +kernel
theorem dX11_gatherTrials_35 : decode cX11_gatherTrials 35 = .ok (.getfield 124, 3) := by decide +kernel
theorem dX11_gatherTrials_38 : decode cX11_gatherTrials 38 = .ok (.invokestatic 280, 3) := by decide +kernel
theorem dX11_gatherTrials_41 : decode cX11_gatherTrials 41 = .ok (.istore_n 3, 1) := by decide +kernel
theorem dX11_gatherTrials_42 : decode cX11_gatherTrials 42 = .ok (.iconst 0, 1) := by decide +kernel
theorem dX11_gatherTrials_43 : decode cX11_gatherTrials 43 = .ok (.istore 4, 2) := by decide +kernel
theorem dX11_gatherTrials_45 : decode cX11_gatherTrials 45 = .ok (.iload 4, 2) := by decide +kernel
theorem dX11_gatherTrials_47 : decode cX11_gatherTrials 47 = .ok (.aload_n 2, 1) := by decide +kernel
theorem dX11_gatherTrials_48 : decode cX11_gatherTrials 48 = .ok (.getfield 201, 3) := by decide +kernel
theorem dX11_gatherTrials_51 : decode cX11_gatherTrials 51 = .ok (.if_icmp .ge 62, 3) := by decide +kernel
theorem dX11_gatherTrials_54 : decode cX11_gatherTrials 54 = .ok (.aload_n 0, 1) := by decide +kernel
theorem dX11_gatherTrials_55 : decode cX11_gatherTrials 55 = .ok (.getfield 29, 3) := by decide +kernel
theorem dX11_gatherTrials_58 : decode cX11_gatherTrials 58 = .ok (.iload 4, 2) := by decide +kernel
theorem dX11_gatherTrials_60 : decode cX11_gatherTrials 60 = .ok (.iload 4, 2) := by decide +kernel
theorem dX11_gatherTrials_62 : decode cX11_gatherTrials 62 = .ok (.invokevirtual 305, 3) := by decide +kernel
theorem dX11_gatherTrials_65 : decode cX11_gatherTrials 65 = .ok (.lstore 5, 2) := by decide +kernel
theorem dX11_gatherTrials_67 : decode cX11_gatherTrials 67 = .ok (.iconst 0, 1) := by decide +kernel
theorem dX11_gatherTrials_68 : decode cX11_gatherTrials 68 = .ok (.istore 7, 2) := by decide +kernel
theorem dX11_gatherTrials_70 : decode cX11_gatherTrials 70 = .ok (.iload 7, 2) := by decide +kernel
theorem dX11_gatherTrials_72 : decode cX11_gatherTrials 72 = .ok (.iload_n 3, 1) := by decide +kernel
theorem dX11_gatherTrials_73 : decode cX11_gatherTrials 73 = .ok (.if_icmp .ge 34, 3) := by decide +kernel
theorem dX11_gatherTrials_76 : decode cX11_gatherTrials 76 = .ok (.lload 5, 2) := by decide +kernel
theorem dX11_gatherTrials_78 : decode cX11_gatherTrials 78 = .ok (.lconst 0, 1) := by decide +kernel
theorem dX11_gatherTrials_79 : decode cX11_gatherTrials 79 = .ok (.lcmp, 1) := by decide +kernel
theorem dX11_gatherTrials_80 : decode cX11_gatherTrials 80 = .ok (.ifCond .eq 27, 3) := by decide +kernel
theorem dX11_gatherTrials_83 : decode cX11_gatherTrials 83 = .ok (.aload_n 0, 1) := by decide +kernel
theorem dX11_gatherTrials_84 : decode cX11_gatherTrials 84 = .ok (.lload 5, 2) := by decide +kernel
theorem dX11_gatherTrials_86 : decode cX11_gatherTrials 86 = .ok (.iload 7, 2) := by decide +kernel
theorem dX11_gatherTrials_88 : decode cX11_gatherTrials 88 = .ok (.aload_n 2, 1) := by decide +kernel
theorem dX11_gatherTrials_89 : decode cX11_gatherTrials 89 = .ok (.getfield 124, 3) := by decide +kernel
theorem dX11_gatherTrials_92 : decode cX11_gatherTrials 92 = .ok (.invokestatic 142, 3) := by decide +kernel
theorem dX11_gatherTrials_95 : decode cX11_gatherTrials 95 = .ok (.invokestatic 118, 3) := by decide +kernel
theorem dX11_gatherTrials_98 : decode cX11_gatherTrials 98 = .ok (.invokevirtual 337, 3) := by decide +kernel
theorem dX11_gatherTrials_101 : decode cX11_gatherTrials 101 = .ok (.iinc 7 1, 3) := by decide +kernel
theorem dX11_gatherTrials_104 : decode cX11_gatherTrials 104 = .ok (.goto (-34), 3) := by decide +kernel
theorem dX11_gatherTrials_107 : decode cX11_gatherTrials 107 = .ok (.iinc 4 1, 3) := by decide +kernel
theorem dX11_gatherTrials_110 : decode cX11_gatherTrials 110 = .ok (.goto (-65), 3) := by decide +kernel
theorem dX11_gatherTrials_113 : decode cX11_gatherTrials 113 = .ok (.return_, 1) := by decide +kernel
theorem dX11_addTrials_0 : decode cX11_addTrials 0 = .ok (.iconst 0, 1) := by decide +kernel
theorem dX11_addTrials_1 : decode cX11_addTrials 1 = .ok (.istore_n 3, 1) := by decide +kernel
theorem dX11_addTrials_2 : decode cX11_addTrials 2 = .ok (.iload_n 3, 1) := by decide +kernel
theorem dX11_addTrials_3 : decode cX11_addTrials 3 = .ok (.aload_n 0, 1) := by decide +kernel
theorem dX11_addTrials_4 : decode cX11_addTrials 4 = .ok (.getfield 57, 3) := by decide +kernel
theorem dX11_addTrials_7 : decode cX11_addTrials 7 = .ok (.getfield 219, 3) := by decide +kernel
theorem dX11_addTrials_10 : decode cX11_addTrials 10 = .ok (.if_icmp .ge 36, 3) := by decide +kernel
theorem dX11_addTrials_13 : decode cX11_addTrials 13 = .ok (.aload_n 0, 1) := by decide +kernel
theorem dX11_addTrials_14 : decode cX11_addTrials 14 = .ok (.getfield 48, 3) := by decide +kernel
theorem dX11_addTrials_17 : decode cX11_addTrials 17 = .ok (.invokevirtual 340, 3) := by decide +kernel
theorem dX11_addTrials_20 : decode cX11_addTrials 20 = .ok (.aload_n 0, 1) := by decide +kernel
theorem dX11_addTrials_21 : decode cX11_addTrials 21 = .ok (.getfield 48, 3) := by decide +kernel
theorem dX11_addTrials_24 : decode cX11_addTrials 24 = .ok (.lload_n 1, 1) := by decide +kernel
theorem dX11_addTrials_25 : decode cX11_addTrials 25 = .ok (.aload_n 0, 1) := by decide +kernel
theorem dX11_addTrials_26 : decode cX11_addTrials 26 = .ok (.getfield 57, 3) := by decide +kernel
theorem dX11_addTrials_29 : decode cX11_addTrials 29 = .ok (.iload_n 3, 1) := by decide +kernel
theorem dX11_addTrials_30 : decode cX11_addTrials 30 = .ok (.invokevirtual 220, 3) := by decide +kernel
theorem dX11_addTrials_33 : decode cX11_addTrials 33 = .ok (.invokestatic 118, 3) := by decide +kernel
theorem dX11_addTrials_36 : decode cX11_addTrials 36 = .ok (.invokevirtual 343, 3) := by decide +kernel
theorem dX11_addTrials_39 : decode cX11_addTrials 39 = .ok (.pop, 1) := by decide +kernel
theorem dX11_addTrials_40 : decode cX11_addTrials 40 = .ok (.iinc 3 1, 3) := by decide +kernel
theorem dX11_addTrials_43 : decode cX11_addTrials 43 = .ok (.goto (-41), 3) := by decide +kernel
theorem dX11_addTrials_46 : decode cX11_addTrials 46 = .ok (.return_, 1) := by decide +kernel
theorem dX11_gatherPartings_0 : decode cX11_gatherPartings 0 = .ok (.aload_n 0, 1) := by decide +kernel
theorem dX11_gatherPartings_1 : decode cX11_gatherPartings 1 = .ok (.getfield 57, 3) := by decide +kernel
theorem dX11_gatherPartings_4 : decode cX11_gatherPartings 4 = .ok (.invokevirtual 346, 3) := by decide +kernel
theorem dX11_gatherPartings_7 : decode cX11_gatherPartings 7 = .ok (.iconst 0, 1) := by decide +kernel
theorem dX11_gatherPartings_8 : decode cX11_gatherPartings 8 = .ok (.istore_n 2, 1) := by decide +kernel
theorem dX11_gatherPartings_9 : decode cX11_gatherPartings 9 = .ok (.iload_n 2, 1) := by decide +kernel
theorem dX11_gatherPartings_10 : decode cX11_gatherPartings 10 = .ok (.aload_n 1, 1) := by decide +kernel
theorem dX11_gatherPartings_11 : decode cX11_gatherPartings 11 = .ok (.getfield 201, 3) := by decide +kernel
theorem dX11_gatherPartings_14 : decode cX11_gatherPartings 14 = .ok (.if_icmp .ge 68, 3) := by decide +kernel
theorem dX11_gatherPartings_17 : decode cX11_gatherPartings 17 = .ok (.iload_n 2, 1) := by decide +kernel
theorem dX11_gatherPartings_18 : decode cX11_gatherPartings 18 = .ok (.iconst 1, 1) := by decide +kernel
theorem dX11_gatherPartings_19 : decode cX11_gatherPartings 19 = .ok (.iadd, 1) := by decide +kernel
theorem dX11_gatherPartings_20 : decode cX11_gatherPartings 20 = .ok (.istore_n 3, 1) := by decide +kernel
theorem dX11_gatherPartings_21 : decode cX11_gatherPartings 21 = .ok (.iload_n 3, 1) := by decide +kernel
theorem dX11_gatherPartings_22 : decode cX11_gatherPartings 22 = .ok (.aload_n 1, 1) := by decide +kernel
theorem dX11_gatherPartings_23 : decode cX11_gatherPartings 23 = .ok (.getfield 201, 3) := by decide +kernel
theorem dX11_gatherPartings_26 : decode cX11_gatherPartings 26 = .ok (.if_icmp .ge 50, 3) := by decide +kernel
theorem dX11_gatherPartings_29 : decode cX11_gatherPartings 29 = .ok (.aload_n 0, 1) := by decide +kernel
theorem dX11_gatherPartings_30 : decode cX11_gatherPartings 30 = .ok (.getfield 29, 3) := by decide +kernel
theorem dX11_gatherPartings_33 : decode cX11_gatherPartings 33 = .ok (.aload_n 1, 1) := by decide +kernel
theorem dX11_gatherPartings_34 : decode cX11_gatherPartings 34 = .ok (.iload_n 2, 1) := by decide +kernel
theorem dX11_gatherPartings_35 : decode cX11_gatherPartings 35 = .ok (.aload_n 1, 1) := by decide +kernel
theorem dX11_gatherPartings_36 : decode cX11_gatherPartings 36 = .ok (.iload_n 3, 1) := by decide +kernel
theorem dX11_gatherPartings_37 : decode cX11_gatherPartings 37 = .ok (.invokevirtual 270, 3) := by decide +kernel
theorem dX11_gatherPartings_40 : decode cX11_gatherPartings 40 = .ok (.lstore 4, 2) := by decide +kernel
theorem dX11_gatherPartings_42 : decode cX11_gatherPartings 42 = .ok (.lload 4, 2) := by decide +kernel
theorem dX11_gatherPartings_44 : decode cX11_gatherPartings 44 = .ok (.lconst 0, 1) := by decide +kernel
theorem dX11_gatherPartings_45 : decode cX11_gatherPartings 45 = .ok (.lcmp, 1) := by decide +kernel
theorem dX11_gatherPartings_46 : decode cX11_gatherPartings 46 = .ok (.ifCond .eq 24, 3) := by decide +kernel
theorem dX11_gatherPartings_49 : decode cX11_gatherPartings 49 = .ok (.aload_n 0, 1) := by decide +kernel
theorem dX11_gatherPartings_50 : decode cX11_gatherPartings 50 = .ok (.getfield 57, 3) := by decide +kernel
theorem dX11_gatherPartings_53 : decode cX11_gatherPartings 53 = .ok (.lload 4, 2) := by decide +kernel
theorem dX11_gatherPartings_55 : decode cX11_gatherPartings 55 = .ok (.invokevirtual 347, 3) := by decide +kernel
theorem dX11_gatherPartings_58 : decode cX11_gatherPartings 58 = .ok (.ifCond .ne 12, 3) := by decide +kernel
theorem dX11_gatherPartings_61 : decode cX11_gatherPartings 61 = .ok (.aload_n 0, 1) := by decide +kernel
theorem dX11_gatherPartings_62 : decode cX11_gatherPartings 62 = .ok (.getfield 57, 3) := by decide +kernel
theorem dX11_gatherPartings_65 : decode cX11_gatherPartings 65 = .ok (.lload 4, 2) := by decide +kernel
theorem dX11_gatherPartings_67 : decode cX11_gatherPartings 67 = .ok (.invokevirtual 348, 3) := by decide +kernel
theorem dX11_gatherPartings_70 : decode cX11_gatherPartings 70 = .ok (.iinc 3 1, 3) := by decide +kernel
theorem dX11_gatherPartings_73 : decode cX11_gatherPartings 73 = .ok (.goto (-52), 3) := by decide +kernel
theorem dX11_gatherPartings_76 : decode cX11_gatherPartings 76 = .ok (.iinc 2 1, 3) := by decide +kernel
theorem dX11_gatherPartings_79 : decode cX11_gatherPartings 79 = .ok (.goto (-70), 3) := by decide +kernel
theorem dX11_gatherPartings_82 : decode cX11_gatherPartings 82 = .ok (.aload_n 0, 1) := by decide +kernel
theorem dX11_gatherPartings_83 : decode cX11_gatherPartings 83 = .ok (.getfield 57, 3) := by decide +kernel
theorem dX11_gatherPartings_86 : decode cX11_gatherPartings 86 = .ok (.getfield 219, 3) := by decide +kernel
theorem dX11_gatherPartings_89 : decode cX11_gatherPartings 89 = .ok (.ifCond .ne 11, 3) := by decide +kernel
theorem dX11_gatherPartings_92 : decode cX11_gatherPartings 92 = .ok (.aload_n 0, 1) := by decide +kernel
theorem dX11_gatherPartings_93 : decode cX11_gatherPartings 93 = .ok (.getfield 57, 3) := by decide +kernel
theorem dX11_gatherPartings_96 : decode cX11_gatherPartings 96 = .ok (.lconst 1, 1) := by decide +kernel
theorem dX11_gatherPartings_97 : decode cX11_gatherPartings 97 = .ok (.invokevirtual 348, 3) := by decide +kernel
theorem dX11_gatherPartings_100 : decode cX11_gatherPartings 100 = .ok (.return_, 1) := by decide +kernel
theorem dJ9_abs_067f4_0 : decode cJ9_abs_067f4 0 = .ok (.lload_n 0, 1) := by decide +kernel
theorem dJ9_abs_067f4_1 : decode cJ9_abs_067f4 1 = .ok (.lconst 0, 1) := by decide +kernel
theorem dJ9_abs_067f4_2 : decode cJ9_abs_067f4 2 = .ok (.lcmp, 1) := by decide +kernel
theorem dJ9_abs_067f4_3 : decode cJ9_abs_067f4 3 = .ok (.ifCond .ge 8, 3) := by decide +kernel
theorem dJ9_abs_067f4_6 : decode cJ9_abs_067f4 6 = .ok (.lload_n 0, 1) := by decide +kernel
theorem dJ9_abs_067f4_7 : decode cJ9_abs_067f4 7 = .ok (.lneg, 1) := by decide +kernel
theorem dJ9_abs_067f4_8 : decode cJ9_abs_067f4 8 = .ok (.goto 4, 3) := by decide +kernel
theorem dJ9_abs_067f4_11 : decode cJ9_abs_067f4 11 = .ok (.lload_n 0, 1) := by decide +kernel
theorem dJ9_abs_067f4_12 : decode cJ9_abs_067f4 12 = .ok (.lreturn, 1) := by decide +kernel
theorem dJ9_max_7cf53_0 : decode cJ9_max_7cf53 0 = .ok (.iload_n 0, 1) := by decide +kernel
theorem dJ9_max_7cf53_1 : decode cJ9_max_7cf53 1 = .ok (.iload_n 1, 1) := by decide +kernel
theorem dJ9_max_7cf53_2 : decode cJ9_max_7cf53 2 = .ok (.if_icmp .lt 7, 3) := by decide +kernel
theorem dJ9_max_7cf53_5 : decode cJ9_max_7cf53 5 = .ok (.iload_n 0, 1) := by decide +kernel
theorem dJ9_max_7cf53_6 : decode cJ9_max_7cf53 6 = .ok (.goto 4, 3) := by decide +kernel
theorem dJ9_max_7cf53_9 : decode cJ9_max_7cf53 9 = .ok (.iload_n 1, 1) := by decide +kernel
theorem dJ9_max_7cf53_10 : decode cJ9_max_7cf53 10 = .ok (.ireturn, 1) := by decide +kernel
theorem dJ9_min_7cf53_0 : decode cJ9_min_7cf53 0 = .ok (.iload_n 0, 1) := by decide +kernel
theorem dJ9_min_7cf53_1 : decode cJ9_min_7cf53 1 = .ok (.iload_n 1, 1) := by decide +kernel
theorem dJ9_min_7cf53_2 : decode cJ9_min_7cf53 2 = .ok (.if_icmp .gt 7, 3) := by decide +kernel
theorem dJ9_min_7cf53_5 : decode cJ9_min_7cf53 5 = .ok (.iload_n 0, 1) := by decide +kernel
theorem dJ9_min_7cf53_6 : decode cJ9_min_7cf53 6 = .ok (.goto 4, 3) := by decide +kernel
theorem dJ9_min_7cf53_9 : decode cJ9_min_7cf53 9 = .ok (.iload_n 1, 1) := by decide +kernel
theorem dJ9_min_7cf53_10 : decode cJ9_min_7cf53 10 = .ok (.ireturn, 1) := by decide +kernel
theorem dJ7_fill_d0a16_0 : decode cJ7_fill_d0a16 0 = .ok (.iconst 0, 1) := by decide +kernel
theorem dJ7_fill_d0a16_1 : decode cJ7_fill_d0a16 1 = .ok (.istore_n 3, 1) := by decide +kernel
theorem dJ7_fill_d0a16_2 : decode cJ7_fill_d0a16 2 = .ok (.aload_n 0, 1) := by decide +kernel
theorem dJ7_fill_d0a16_3 : decode cJ7_fill_d0a16 3 = .ok (.arraylength, 1) := by decide +kernel
theorem dJ7_fill_d0a16_4 : decode cJ7_fill_d0a16 4 = .ok (.istore 4, 2) := by decide +kernel
theorem dJ7_fill_d0a16_6 : decode cJ7_fill_d0a16 6 = .ok (.iload_n 3, 1) := by decide +kernel
theorem dJ7_fill_d0a16_7 : decode cJ7_fill_d0a16 7 = .ok (.iload 4, 2) := by decide +kernel
theorem dJ7_fill_d0a16_9 : decode cJ7_fill_d0a16 9 = .ok (.if_icmp .ge 13, 3) := by decide +kernel
theorem dJ7_fill_d0a16_12 : decode cJ7_fill_d0a16 12 = .ok (.aload_n 0, 1) := by decide +kernel
theorem dJ7_fill_d0a16_13 : decode cJ7_fill_d0a16 13 = .ok (.iload_n 3, 1) := by decide +kernel
theorem dJ7_fill_d0a16_14 : decode cJ7_fill_d0a16 14 = .ok (.lload_n 1, 1) := by decide +kernel
theorem dJ7_fill_d0a16_15 : decode cJ7_fill_d0a16 15 = .ok (.lastore, 1) := by decide +kernel
theorem dJ7_fill_d0a16_16 : decode cJ7_fill_d0a16 16 = .ok (.iinc 3 1, 3) := by decide +kernel
theorem dJ7_fill_d0a16_19 : decode cJ7_fill_d0a16 19 = .ok (.goto (-13), 3) := by decide +kernel
theorem dJ7_fill_d0a16_22 : decode cJ7_fill_d0a16 22 = .ok (.return_, 1) := by decide +kernel
theorem dJ7_fill_53178_0 : decode cJ7_fill_53178 0 = .ok (.iconst 0, 1) := by decide +kernel
theorem dJ7_fill_53178_1 : decode cJ7_fill_53178 1 = .ok (.istore_n 2, 1) := by decide +kernel
theorem dJ7_fill_53178_2 : decode cJ7_fill_53178 2 = .ok (.aload_n 0, 1) := by decide +kernel
theorem dJ7_fill_53178_3 : decode cJ7_fill_53178 3 = .ok (.arraylength, 1) := by decide +kernel
theorem dJ7_fill_53178_4 : decode cJ7_fill_53178 4 = .ok (.istore_n 3, 1) := by decide +kernel
theorem dJ7_fill_53178_5 : decode cJ7_fill_53178 5 = .ok (.iload_n 2, 1) := by decide +kernel
theorem dJ7_fill_53178_6 : decode cJ7_fill_53178 6 = .ok (.iload_n 3, 1) := by decide +kernel
theorem dJ7_fill_53178_7 : decode cJ7_fill_53178 7 = .ok (.if_icmp .ge 13, 3) := by decide +kernel
theorem dJ7_fill_53178_10 : decode cJ7_fill_53178 10 = .ok (.aload_n 0, 1) := by decide +kernel
theorem dJ7_fill_53178_11 : decode cJ7_fill_53178 11 = .ok (.iload_n 2, 1) := by decide +kernel
theorem dJ7_fill_53178_12 : decode cJ7_fill_53178 12 = .ok (.iload_n 1, 1) := by decide +kernel
theorem dJ7_fill_53178_13 : decode cJ7_fill_53178 13 = .ok (.iastore, 1) := by decide +kernel
theorem dJ7_fill_53178_14 : decode cJ7_fill_53178 14 = .ok (.iinc 2 1, 3) := by decide +kernel
theorem dJ7_fill_53178_17 : decode cJ7_fill_53178 17 = .ok (.goto (-12), 3) := by decide +kernel
theorem dJ7_fill_53178_20 : decode cJ7_fill_53178 20 = .ok (.return_, 1) := by decide +kernel
