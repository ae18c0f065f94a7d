theorem dX12_thrown_0 : decode cX12_thrown 0 = .ok (.aload_n 0, 1) := by decide +kernel
theorem dX12_thrown_1 : decode cX12_thrown 1 = .ok (.getfield 1, 3) := by decide +kernel
theorem dX12_thrown_4 : decode cX12_thrown 4 = .ok (.ireturn, 1) := by decide +kernel
theorem dX12_in_0 : decode cX12_in 0 = .ok (.lload_n 0, 1) := by decide +kernel
theorem dX12_in_1 : decode cX12_in 1 = .ok (.lload_n 2, 1) := by decide +kernel
theorem dX12_in_2 : decode cX12_in 2 = .ok (.lcmp, 1) := by decide +kernel
theorem dX12_in_3 : decode cX12_in 3 = .ok (.ifCond .lt 14, 3) := by decide +kernel
theorem dX12_in_6 : decode cX12_in 6 = .ok (.lload_n 0, 1) := by decide +kernel
theorem dX12_in_7 : decode cX12_in 7 = .ok (.lload 4, 2) := by decide +kernel
theorem dX12_in_9 : decode cX12_in 9 = .ok (.lcmp, 1) := by decide +kernel
theorem dX12_in_10 : decode cX12_in 10 = .ok (.ifCond .gt 7, 3) := by decide +kernel
theorem dX12_in_13 : decode cX12_in 13 = .ok (.iconst 1, 1) := by decide +kernel
theorem dX12_in_14 : decode cX12_in 14 = .ok (.goto 4, 3) := by decide +kernel
theorem dX12_in_17 : decode cX12_in 17 = .ok (.iconst 0, 1) := by decide +kernel
theorem dX12_in_18 : decode cX12_in 18 = .ok (.ireturn, 1) := by decide +kernel
theorem dX12_flag_0 : decode cX12_flag 0 = .ok (.iload_n 0, 1) := by decide +kernel
theorem dX12_flag_1 : decode cX12_flag 1 = .ok (.ifCond .eq 7, 3) := by decide +kernel
theorem dX12_flag_4 : decode cX12_flag 4 = .ok (.iconst 1, 1) := by decide +kernel
theorem dX12_flag_5 : decode cX12_flag 5 = .ok (.goto 4, 3) := by decide +kernel
theorem dX12_flag_8 : decode cX12_flag 8 = .ok (.iconst 0, 1) := by decide +kernel
theorem dX12_flag_9 : decode cX12_flag 9 = .ok (.ireturn, 1) := by decide +kernel
theorem dX12_enters_0 : decode cX12_enters 0 = .ok (.aload_n 0, 1) := by decide +kernel
theorem dX12_enters_1 : decode cX12_enters 1 = .ok (.getfield 7, 3) := by decide +kernel
theorem dX12_enters_4 : decode cX12_enters 4 = .ok (.aload_n 0, 1) := by decide +kernel
theorem dX12_enters_5 : decode cX12_enters 5 = .ok (.getfield 11, 3) := by decide +kernel
theorem dX12_enters_8 : decode cX12_enters 8 = .ok (.lload_n 1, 1) := by decide +kernel
theorem dX12_enters_9 : decode cX12_enters 9 = .ok (.lastore, 1) := by decide +kernel
theorem dX12_enters_10 : decode cX12_enters 10 = .ok (.aload_n 0, 1) := by decide +kernel
theorem dX12_enters_11 : decode cX12_enters 11 = .ok (.dup, 1) := by decide +kernel
theorem dX12_enters_12 : decode cX12_enters 12 = .ok (.getfield 11, 3) := by decide +kernel
theorem dX12_enters_15 : decode cX12_enters 15 = .ok (.iconst 1, 1) := by decide +kernel
theorem dX12_enters_16 : decode cX12_enters 16 = .ok (.iadd, 1) := by decide +kernel
theorem dX12_enters_17 : decode cX12_enters 17 = .ok (.putfield 11, 3) := by decide +kernel
theorem dX12_enters_20 : decode cX12_enters 20 = .ok (.return_, 1) := by decide +kernel
theorem dX12_shown_0 : decode cX12_shown 0 = .ok (.aload_n 0, 1) := by decide +kernel
theorem dX12_shown_1 : decode cX12_shown 1 = .ok (.getfield 14, 3) := by decide +kernel
theorem dX12_shown_4 : decode cX12_shown 4 = .ok (.bipush 8, 2) := by decide +kernel
theorem dX12_shown_6 : decode cX12_shown 6 = .ok (.iload_n 1, 1) := by decide +kernel
theorem dX12_shown_7 : decode cX12_shown 7 = .ok (.imul, 1) := by decide +kernel
theorem dX12_shown_8 : decode cX12_shown 8 = .ok (.iload_n 2, 1) := by decide +kernel
theorem dX12_shown_9 : decode cX12_shown 9 = .ok (.iadd, 1) := by decide +kernel
theorem dX12_shown_10 : decode cX12_shown 10 = .ok (.iaload, 1) := by decide +kernel
theorem dX12_shown_11 : decode cX12_shown 11 = .ok (.ireturn, 1) := by decide +kernel
theorem dX12_comes_0 : decode cX12_comes 0 = .ok (.aload_n 0, 1) := by decide +kernel
theorem dX12_comes_1 : decode cX12_comes 1 = .ok (.getfield 18, 3) := by decide +kernel
theorem dX12_comes_4 : decode cX12_comes 4 = .ok (.iconst 3, 1) := by decide +kernel
theorem dX12_comes_5 : decode cX12_comes 5 = .ok (.bipush 8, 2) := by decide +kernel
theorem dX12_comes_7 : decode cX12_comes 7 = .ok (.iload_n 1, 1) := by decide +kernel
theorem dX12_comes_8 : decode cX12_comes 8 = .ok (.imul, 1) := by decide +kernel
theorem dX12_comes_9 : decode cX12_comes 9 = .ok (.iload_n 2, 1) := by decide +kernel
theorem dX12_comes_10 : decode cX12_comes 10 = .ok (.iadd, 1) := by decide +kernel
theorem dX12_comes_11 : decode cX12_comes 11 = .ok (.imul, 1) := by decide +kernel
theorem dX12_comes_12 : decode cX12_comes 12 = .ok (.iload_n 3, 1) := by decide +kernel
theorem dX12_comes_13 : decode cX12_comes 13 = .ok (.iadd, 1) := by decide +kernel
theorem dX12_comes_14 : decode cX12_comes 14 = .ok (.iaload, 1) := by decide +kernel
theorem dX12_comes_15 : decode cX12_comes 15 = .ok (.ireturn, 1) := by decide +kernel
theorem dX12_isState_0 : decode cX12_isState 0 = .ok (.iload_n 2, 1) := by decide +kernel
theorem dX12_isState_1 : decode cX12_isState 1 = .ok (.i2l, 1) := by decide +kernel
theorem dX12_isState_2 : decode cX12_isState 2 = .ok (.lconst 0, 1) := by decide +kernel
theorem dX12_isState_3 : decode cX12_isState 3 = .ok (.aload_n 0, 1) := by decide +kernel
theorem dX12_isState_4 : decode cX12_isState 4 = .ok (.getfield 21, 3) := by decide +kernel
theorem dX12_isState_7 : decode cX12_isState 7 = .ok (.iload_n 1, 1) := by decide +kernel
theorem dX12_isState_8 : decode cX12_isState 8 = .ok (.iaload, 1) := by decide +kernel
theorem dX12_isState_9 : decode cX12_isState 9 = .ok (.iconst 1, 1) := by decide +kernel
theorem dX12_isState_10 : decode cX12_isState 10 = .ok (.isub, 1) := by decide +kernel
theorem dX12_isState_11 : decode cX12_isState 11 = .ok (.i2l, 1) := by decide +kernel
theorem dX12_isState_12 : decode cX12_isState 12 = .ok (.invokestatic 24, 3) := by decide +kernel
theorem dX12_isState_15 : decode cX12_isState 15 = .ok (.ireturn, 1) := by decide +kernel
theorem dX12_lengthOf_0 : decode cX12_lengthOf 0 = .ok (.iconst 0, 1) := by decide +kernel
theorem dX12_lengthOf_1 : decode cX12_lengthOf 1 = .ok (.istore_n 2, 1) := by decide +kernel
theorem dX12_lengthOf_2 : decode cX12_lengthOf 2 = .ok (.lload_n 0, 1) := by decide +kernel
theorem dX12_lengthOf_3 : decode cX12_lengthOf 3 = .ok (.lstore_n 3, 1) := by decide +kernel
theorem dX12_lengthOf_4 : decode cX12_lengthOf 4 = .ok (.lload_n 3, 1) := by decide +kernel
theorem dX12_lengthOf_5 : decode cX12_lengthOf 5 = .ok (.ldc2_w 28, 3) := by decide +kernel
theorem dX12_lengthOf_8 : decode cX12_lengthOf 8 = .ok (.lcmp, 1) := by decide +kernel
theorem dX12_lengthOf_9 : decode cX12_lengthOf 9 = .ok (.ifCond .le 13, 3) := by decide +kernel
theorem dX12_lengthOf_12 : decode cX12_lengthOf 12 = .ok (.iinc 2 1, 3) := by decide +kernel
theorem dX12_lengthOf_15 : decode cX12_lengthOf 15 = .ok (.lload_n 3, 1) := by decide +kernel
theorem dX12_lengthOf_16 : decode cX12_lengthOf 16 = .ok (.iconst 2, 1) := by decide +kernel
theorem dX12_lengthOf_17 : decode cX12_lengthOf 17 = .ok (.lshr, 1) := by decide +kernel
theorem dX12_lengthOf_18 : decode cX12_lengthOf 18 = .ok (.lstore_n 3, 1) := by decide +kernel
theorem dX12_lengthOf_19 : decode cX12_lengthOf 19 = .ok (.goto (-15), 3) := by decide +kernel
theorem dX12_lengthOf_22 : decode cX12_lengthOf 22 = .ok (.iload_n 2, 1) := by decide +kernel
theorem dX12_lengthOf_23 : decode cX12_lengthOf 23 = .ok (.ireturn, 1) := by decide +kernel
theorem dX12_letterOf_0 : decode cX12_letterOf 0 = .ok (.lload_n 0, 1) := by decide +kernel
theorem dX12_letterOf_1 : decode cX12_letterOf 1 = .ok (.iconst 2, 1) := by decide +kernel
theorem dX12_letterOf_2 : decode cX12_letterOf 2 = .ok (.iload_n 2, 1) := by decide +kernel
theorem dX12_letterOf_3 : decode cX12_letterOf 3 = .ok (.iconst 1, 1) := by decide +kernel
theorem dX12_letterOf_4 : decode cX12_letterOf 4 = .ok (.isub, 1) := by decide +kernel
theorem dX12_letterOf_5 : decode cX12_letterOf 5 = .ok (.iload_n 3, 1) := by decide +kernel
theorem dX12_letterOf_6 : decode cX12_letterOf 6 = .ok (.isub, 1) := by decide +kernel
theorem dX12_letterOf_7 : decode cX12_letterOf 7 = .ok (.imul, 1) := by decide +kernel
theorem dX12_letterOf_8 : decode cX12_letterOf 8 = .ok (.lshr, 1) := by decide +kernel
theorem dX12_letterOf_9 : decode cX12_letterOf 9 = .ok (.ldc2_w 28, 3) := by decide +kernel
theorem dX12_letterOf_12 : decode cX12_letterOf 12 = .ok (.land, 1) := by decide +kernel
theorem dX12_letterOf_13 : decode cX12_letterOf 13 = .ok (.l2i, 1) := by decide +kernel
theorem dX12_letterOf_14 : decode cX12_letterOf 14 = .ok (.ireturn, 1) := by decide +kernel
theorem dX12_isWord_0 : decode cX12_isWord 0 = .ok (.lload_n 1, 1) := by decide +kernel
theorem dX12_isWord_1 : decode cX12_isWord 1 = .ok (.lconst 1, 1) := by decide +kernel
theorem dX12_isWord_2 : decode cX12_isWord 2 = .ok (.lcmp, 1) := by decide +kernel
theorem dX12_isWord_3 : decode cX12_isWord 3 = .ok (.ifCond .ge 5, 3) := by decide +kernel
theorem dX12_isWord_6 : decode cX12_isWord 6 = .ok (.iconst 0, 1) := by decide +kernel
theorem dX12_isWord_7 : decode cX12_isWord 7 = .ok (.ireturn, 1) := by decide +kernel
theorem dX12_isWord_8 : decode cX12_isWord 8 = .ok (.iconst 0, 1) := by decide +kernel
theorem dX12_isWord_9 : decode cX12_isWord 9 = .ok (.istore_n 3, 1) := by decide +kernel
theorem dX12_isWord_10 : decode cX12_isWord 10 = .ok (.lload_n 1, 1) := by decide +kernel
theorem dX12_isWord_11 : decode cX12_isWord 11 = .ok (.lstore 4, 2) := by decide +kernel
theorem dX12_isWord_13 : decode cX12_isWord 13 = .ok (.lload 4, 2) := by decide +kernel
theorem dX12_isWord_15 : decode cX12_isWord 15 = .ok (.ldc2_w 28, 3) := by decide +kernel
theorem dX12_isWord_18 : decode cX12_isWord 18 = .ok (.lcmp, 1) := by decide +kernel
theorem dX12_isWord_19 : decode cX12_isWord 19 = .ok (.ifCond .le 32, 3) := by decide +kernel
theorem dX12_isWord_22 : decode cX12_isWord 22 = .ok (.lload 4, 2) := by decide +kernel
theorem dX12_isWord_24 : decode cX12_isWord 24 = .ok (.ldc2_w 28, 3) := by decide +kernel
theorem dX12_isWord_27 : decode cX12_isWord 27 = .ok (.land, 1) := by decide +kernel
theorem dX12_isWord_28 : decode cX12_isWord 28 = .ok (.aload_n 0, 1) := by decide +kernel
theorem dX12_isWord_29 : decode cX12_isWord 29 = .ok (.getfield 30, 3) := by decide +kernel
theorem dX12_isWord_32 : decode cX12_isWord 32 = .ok (.i2l, 1) := by decide +kernel
theorem dX12_isWord_33 : decode cX12_isWord 33 = .ok (.lcmp, 1) := by decide +kernel
theorem dX12_isWord_34 : decode cX12_isWord 34 = .ok (.ifCond .lt 5, 3) := by decide +kernel
theorem dX12_isWord_37 : decode cX12_isWord 37 = .ok (.iconst 0, 1) := by decide +kernel
theorem dX12_isWord_38 : decode cX12_isWord 38 = .ok (.ireturn, 1) := by decide +kernel
theorem dX12_isWord_39 : decode cX12_isWord 39 = .ok (.lload 4, 2) := by decide +kernel
theorem dX12_isWord_41 : decode cX12_isWord 41 = .ok (.iconst 2, 1) := by decide +kernel
theorem dX12_isWord_42 : decode cX12_isWord 42 = .ok (.lshr, 1) := by decide +kernel
theorem dX12_isWord_43 : decode cX12_isWord 43 = .ok (.lstore 4, 2) := by decide +kernel
theorem dX12_isWord_45 : decode cX12_isWord 45 = .ok (.iinc 3 1, 3) := by decide +kernel
theorem dX12_isWord_48 : decode cX12_isWord 48 = .ok (.goto (-35), 3) := by decide +kernel
theorem dX12_isWord_51 : decode cX12_isWord 51 = .ok (.lload 4, 2) := by decide +kernel
theorem dX12_isWord_53 : decode cX12_isWord 53 = .ok (.lconst 1, 1) := by decide +kernel
theorem dX12_isWord_54 : decode cX12_isWord 54 = .ok (.lcmp, 1) := by decide +kernel
theorem dX12_isWord_55 : decode cX12_isWord 55 = .ok (.ifCond .ne 13, 3) := by decide +kernel
theorem dX12_isWord_58 : decode cX12_isWord 58 = .ok (.iload_n 3, 1) := by decide +kernel
theorem dX12_isWord_59 : decode cX12_isWord 59 = .ok (.bipush 30, 2) := by decide +kernel
theorem dX12_isWord_61 : decode cX12_isWord 61 = .ok (.if_icmp .gt 7, 3) := by decide +kernel
theorem dX12_isWord_64 : decode cX12_isWord 64 = .ok (.iconst 1, 1) := by decide +kernel
theorem dX12_isWord_65 : decode cX12_isWord 65 = .ok (.goto 4, 3) := by decide +kernel
theorem dX12_isWord_68 : decode cX12_isWord 68 = .ok (.iconst 0, 1) := by decide +kernel
theorem dX12_isWord_69 : decode cX12_isWord 69 = .ok (.ireturn, 1) := by decide +kernel
theorem dX12_both_0 : decode cX12_both 0 = .ok (.lload_n 2, 1) := by decide +kernel
theorem dX12_both_1 : decode cX12_both 1 = .ok (.invokestatic 33, 3) := by decide +kernel
theorem dX12_both_4 : decode cX12_both 4 = .ok (.istore 4, 2) := by decide +kernel
theorem dX12_both_6 : decode cX12_both 6 = .ok (.lload_n 0, 1) := by decide +kernel
theorem dX12_both_7 : decode cX12_both 7 = .ok (.iconst 2, 1) := by decide +kernel
theorem dX12_both_8 : decode cX12_both 8 = .ok (.iload 4, 2) := by decide +kernel
theorem dX12_both_10 : decode cX12_both 10 = .ok (.imul, 1) := by decide +kernel
theorem dX12_both_11 : decode cX12_both 11 = .ok (.lshl, 1) := by decide +kernel
theorem dX12_both_12 : decode cX12_both 12 = .ok (.lload_n 2, 1) := by decide +kernel
theorem dX12_both_13 : decode cX12_both 13 = .ok (.lconst 1, 1) := by decide +kernel
theorem dX12_both_14 : decode cX12_both 14 = .ok (.iconst 2, 1) := by decide +kernel
theorem dX12_both_15 : decode cX12_both 15 = .ok (.iload 4, 2) := by decide +kernel
theorem dX12_both_17 : decode cX12_both 17 = .ok (.imul, 1) := by decide +kernel
theorem dX12_both_18 : decode cX12_both 18 = .ok (.lshl, 1) := by decide +kernel
theorem dX12_both_19 : decode cX12_both 19 = .ok (.lsub, 1) := by decide +kernel
theorem dX12_both_20 : decode cX12_both 20 = .ok (.ladd, 1) := by decide +kernel
theorem dX12_both_21 : decode cX12_both 21 = .ok (.lreturn, 1) := by decide +kernel
theorem dX12_longer_0 : decode cX12_longer 0 = .ok (.ldc2_w 37, 3) := by decide +kernel
theorem dX12_longer_3 : decode cX12_longer 3 = .ok (.lload_n 0, 1) := by decide +kernel
theorem dX12_longer_4 : decode cX12_longer 4 = .ok (.lmul, 1) := by decide +kernel
theorem dX12_longer_5 : decode cX12_longer 5 = .ok (.iload_n 2, 1) := by decide +kernel
theorem dX12_longer_6 : decode cX12_longer 6 = .ok (.i2l, 1) := by decide +kernel
theorem dX12_longer_7 : decode cX12_longer 7 = .ok (.ladd, 1) := by decide +kernel
theorem dX12_longer_8 : decode cX12_longer 8 = .ok (.lreturn, 1) := by decide +kernel
theorem dX12_firstOf_0 : decode cX12_firstOf 0 = .ok (.lload_n 0, 1) := by decide +kernel
theorem dX12_firstOf_1 : decode cX12_firstOf 1 = .ok (.iconst 2, 1) := by decide +kernel
theorem dX12_firstOf_2 : decode cX12_firstOf 2 = .ok (.lload_n 0, 1) := by decide +kernel
theorem dX12_firstOf_3 : decode cX12_firstOf 3 = .ok (.invokestatic 33, 3) := by decide +kernel
theorem dX12_firstOf_6 : decode cX12_firstOf 6 = .ok (.iload_n 2, 1) := by decide +kernel
theorem dX12_firstOf_7 : decode cX12_firstOf 7 = .ok (.isub, 1) := by decide +kernel
theorem dX12_firstOf_8 : decode cX12_firstOf 8 = .ok (.imul, 1) := by decide +kernel
theorem dX12_firstOf_9 : decode cX12_firstOf 9 = .ok (.lshr, 1) := by decide +kernel
theorem dX12_firstOf_10 : decode cX12_firstOf 10 = .ok (.lreturn, 1) := by decide +kernel
theorem dX12_behind_0 : decode cX12_behind 0 = .ok (.lload_n 0, 1) := by decide +kernel
theorem dX12_behind_1 : decode cX12_behind 1 = .ok (.invokestatic 33, 3) := by decide +kernel
theorem dX12_behind_4 : decode cX12_behind 4 = .ok (.iload_n 2, 1) := by decide +kernel
theorem dX12_behind_5 : decode cX12_behind 5 = .ok (.isub, 1) := by decide +kernel
theorem dX12_behind_6 : decode cX12_behind 6 = .ok (.istore_n 3, 1) := by decide +kernel
theorem dX12_behind_7 : decode cX12_behind 7 = .ok (.lload_n 0, 1) := by decide +kernel
theorem dX12_behind_8 : decode cX12_behind 8 = .ok (.lconst 1, 1) := by decide +kernel
theorem dX12_behind_9 : decode cX12_behind 9 = .ok (.iconst 2, 1) := by decide +kernel
theorem dX12_behind_10 : decode cX12_behind 10 = .ok (.iload_n 3, 1) := by decide +kernel
theorem dX12_behind_11 : decode cX12_behind 11 = .ok (.imul, 1) := by decide +kernel
theorem dX12_behind_12 : decode cX12_behind 12 = .ok (.lshl, 1) := by decide +kernel
theorem dX12_behind_13 : decode cX12_behind 13 = .ok (.lconst 1, 1) := by decide +kernel
theorem dX12_behind_14 : decode cX12_behind 14 = .ok (.lsub, 1) := by decide +kernel
theorem dX12_behind_15 : decode cX12_behind 15 = .ok (.land, 1) := by decide +kernel
theorem dX12_behind_16 : decode cX12_behind 16 = .ok (.lconst 1, 1) := by decide +kernel
theorem dX12_behind_17 : decode cX12_behind 17 = .ok (.iconst 2, 1) := by decide +kernel
theorem dX12_behind_18 : decode cX12_behind 18 = .ok (.iload_n 3, 1) := by decide +kernel
theorem dX12_behind_19 : decode cX12_behind 19 = .ok (.imul, 1) := by decide +kernel
theorem dX12_behind_20 : decode cX12_behind 20 = .ok (.lshl, 1) := by decide +kernel
theorem dX12_behind_21 : decode cX12_behind 21 = .ok (.ladd, 1) := by decide +kernel
theorem dX12_behind_22 : decode cX12_behind 22 = .ok (.lreturn, 1) := by decide +kernel
theorem dX12_endFrom_0 : decode cX12_endFrom 0 = .ok (.lload_n 3, 1) := by decide +kernel
theorem dX12_endFrom_1 : decode cX12_endFrom 1 = .ok (.invokestatic 33, 3) := by decide +kernel
theorem dX12_endFrom_4 : decode cX12_endFrom 4 = .ok (.istore 5, 2) := by decide +kernel
theorem dX12_endFrom_6 : decode cX12_endFrom 6 = .ok (.iload_n 2, 1) := by decide +kernel
theorem dX12_endFrom_7 : decode cX12_endFrom 7 = .ok (.istore 6, 2) := by decide +kernel
theorem dX12_endFrom_9 : decode cX12_endFrom 9 = .ok (.iconst 0, 1) := by decide +kernel
theorem dX12_endFrom_10 : decode cX12_endFrom 10 = .ok (.istore 7, 2) := by decide +kernel
theorem dX12_endFrom_12 : decode cX12_endFrom 12 = .ok (.iload 7, 2) := by decide +kernel
theorem dX12_endFrom_14 : decode cX12_endFrom 14 = .ok (.iload 5, 2) := by decide +kernel
theorem dX12_endFrom_16 : decode cX12_endFrom 16 = .ok (.if_icmp .ge 26, 3) := by decide +kernel
theorem dX12_endFrom_19 : decode cX12_endFrom 19 = .ok (.aload_n 0, 1) := by decide +kernel
theorem dX12_endFrom_20 : decode cX12_endFrom 20 = .ok (.iload_n 1, 1) := by decide +kernel
theorem dX12_endFrom_21 : decode cX12_endFrom 21 = .ok (.iload 6, 2) := by decide +kernel
theorem dX12_endFrom_23 : decode cX12_endFrom 23 = .ok (.lload_n 3, 1) := by decide +kernel
theorem dX12_endFrom_24 : decode cX12_endFrom 24 = .ok (.iload 5, 2) := by decide +kernel
theorem dX12_endFrom_26 : decode cX12_endFrom 26 = .ok (.iload 7, 2) := by decide +kernel
theorem dX12_endFrom_28 : decode cX12_endFrom 28 = .ok (.invokestatic 39, 3) := by decide +kernel
theorem dX12_endFrom_31 : decode cX12_endFrom 31 = .ok (.invokevirtual 43, 3) := by decide +kernel
theorem dX12_endFrom_34 : decode cX12_endFrom 34 = .ok (.istore 6, 2) := by decide +kernel
theorem dX12_endFrom_36 : decode cX12_endFrom 36 = .ok (.iinc 7 1, 3) := by decide +kernel
theorem dX12_endFrom_39 : decode cX12_endFrom 39 = .ok (.goto (-27), 3) := by decide +kernel
theorem dX12_endFrom_42 : decode cX12_endFrom 42 = .ok (.iload 6, 2) := by decide +kernel
theorem dX12_endFrom_44 : decode cX12_endFrom 44 = .ok (.ireturn, 1) := by decide +kernel
theorem dX12_answer_0 : decode cX12_answer 0 = .ok (.aload_n 0, 1) := by decide +kernel
theorem dX12_answer_1 : decode cX12_answer 1 = .ok (.iload_n 1, 1) := by decide +kernel
theorem dX12_answer_2 : decode cX12_answer 2 = .ok (.aload_n 0, 1) := by decide +kernel
theorem dX12_answer_3 : decode cX12_answer 3 = .ok (.iload_n 1, 1) := by decide +kernel
theorem dX12_answer_4 : decode cX12_answer 4 = .ok (.iconst 0, 1) := by decide +kernel
theorem dX12_answer_5 : decode cX12_answer 5 = .ok (.lload_n 2, 1) := by decide +kernel
theorem dX12_answer_6 : decode cX12_answer 6 = .ok (.invokevirtual 47, 3) := by decide +kernel
theorem dX12_answer_9 : decode cX12_answer 9 = .ok (.invokevirtual 51, 3) := by decide +kernel
theorem dX12_answer_12 : decode cX12_answer 12 = .ok (.ireturn, 1) := by decide +kernel
theorem dX12_run_0 : decode cX12_run 0 = .ok (.aload_n 0, 1) := by decide +kernel
theorem dX12_run_1 : decode cX12_run 1 = .ok (.iconst 0, 1) := by decide +kernel
theorem dX12_run_2 : decode cX12_run 2 = .ok (.putfield 1, 3) := by decide +kernel
theorem dX12_run_5 : decode cX12_run 5 = .ok (.aload_n 0, 1) := by decide +kernel
theorem dX12_run_6 : decode cX12_run 6 = .ok (.lload_n 1, 1) := by decide +kernel
theorem dX12_run_7 : decode cX12_run 7 = .ok (.invokevirtual 55, 3) := by decide +kernel
theorem dX12_run_10 : decode cX12_run 10 = .ok (.ifCond .eq 13, 3) := by decide +kernel
theorem dX12_run_13 : decode cX12_run 13 = .ok (.aload_n 0, 1) := by decide +kernel
theorem dX12_run_14 : decode cX12_run 14 = .ok (.iconst 0, 1) := by decide +kernel
theorem dX12_run_15 : decode cX12_run 15 = .ok (.iconst 0, 1) := by decide +kernel
theorem dX12_run_16 : decode cX12_run 16 = .ok (.lload_n 1, 1) := by decide +kernel
theorem dX12_run_17 : decode cX12_run 17 = .ok (.invokevirtual 47, 3) := by decide +kernel
theorem dX12_run_20 : decode cX12_run 20 = .ok (.goto 4, 3) := by decide +kernel
theorem dX12_run_23 : decode cX12_run 23 = .ok (.iconst (-1), 1) := by decide +kernel
theorem dX12_run_24 : decode cX12_run 24 = .ok (.ireturn, 1) := by decide +kernel
theorem dX12_joins_0 : decode cX12_joins 0 = .ok (.aload_n 0, 1) := by decide +kernel
theorem dX12_joins_1 : decode cX12_joins 1 = .ok (.iconst 0, 1) := by decide +kernel
theorem dX12_joins_2 : decode cX12_joins 2 = .ok (.putfield 1, 3) := by decide +kernel
theorem dX12_joins_5 : decode cX12_joins 5 = .ok (.aload_n 0, 1) := by decide +kernel
theorem dX12_joins_6 : decode cX12_joins 6 = .ok (.lload_n 1, 1) := by decide +kernel
theorem dX12_joins_7 : decode cX12_joins 7 = .ok (.invokevirtual 55, 3) := by decide +kernel
theorem dX12_joins_10 : decode cX12_joins 10 = .ok (.ifCond .eq 25, 3) := by decide +kernel
theorem dX12_joins_13 : decode cX12_joins 13 = .ok (.aload_n 0, 1) := by decide +kernel
theorem dX12_joins_14 : decode cX12_joins 14 = .ok (.lload_n 3, 1) := by decide +kernel
theorem dX12_joins_15 : decode cX12_joins 15 = .ok (.invokevirtual 55, 3) := by decide +kernel
theorem dX12_joins_18 : decode cX12_joins 18 = .ok (.ifCond .eq 17, 3) := by decide +kernel
theorem dX12_joins_21 : decode cX12_joins 21 = .ok (.lload_n 1, 1) := by decide +kernel
theorem dX12_joins_22 : decode cX12_joins 22 = .ok (.invokestatic 33, 3) := by decide +kernel
theorem dX12_joins_25 : decode cX12_joins 25 = .ok (.lload_n 3, 1) := by decide +kernel
theorem dX12_joins_26 : decode cX12_joins 26 = .ok (.invokestatic 33, 3) := by decide +kernel
theorem dX12_joins_29 : decode cX12_joins 29 = .ok (.iadd, 1) := by decide +kernel
theorem dX12_joins_30 : decode cX12_joins 30 = .ok (.bipush 30, 2) := by decide +kernel
theorem dX12_joins_32 : decode cX12_joins 32 = .ok (.if_icmp .le 7, 3) := by decide +kernel
theorem dX12_joins_35 : decode cX12_joins 35 = .ok (.ldc2_w 59, 3) := by decide +kernel
theorem dX12_joins_38 : decode cX12_joins 38 = .ok (.lreturn, 1) := by decide +kernel
theorem dX12_joins_39 : decode cX12_joins 39 = .ok (.lload_n 1, 1) := by decide +kernel
theorem dX12_joins_40 : decode cX12_joins 40 = .ok (.lload_n 3, 1) := by decide +kernel
theorem dX12_joins_41 : decode cX12_joins 41 = .ok (.invokestatic 61, 3) := by decide +kernel
theorem dX12_joins_44 : decode cX12_joins 44 = .ok (.lreturn, 1) := by decide +kernel
theorem dX12_letter_0 : decode cX12_letter 0 = .ok (.aload_n 0, 1) := by decide +kernel
theorem dX12_letter_1 : decode cX12_letter 1 = .ok (.iconst 0, 1) := by decide +kernel
theorem dX12_letter_2 : decode cX12_letter 2 = .ok (.putfield 1, 3) := by decide +kernel
theorem dX12_letter_5 : decode cX12_letter 5 = .ok (.aload_n 0, 1) := by decide +kernel
theorem dX12_letter_6 : decode cX12_letter 6 = .ok (.lload_n 1, 1) := by decide +kernel
theorem dX12_letter_7 : decode cX12_letter 7 = .ok (.invokevirtual 55, 3) := by decide +kernel
theorem dX12_letter_10 : decode cX12_letter 10 = .ok (.ifCond .ne 5, 3) := by decide +kernel
theorem dX12_letter_13 : decode cX12_letter 13 = .ok (.iconst (-1), 1) := by decide +kernel
theorem dX12_letter_14 : decode cX12_letter 14 = .ok (.ireturn, 1) := by decide +kernel
theorem dX12_letter_15 : decode cX12_letter 15 = .ok (.lload_n 1, 1) := by decide +kernel
theorem dX12_letter_16 : decode cX12_letter 16 = .ok (.invokestatic 33, 3) := by decide +kernel
theorem dX12_letter_19 : decode cX12_letter 19 = .ok (.istore 4, 2) := by decide +kernel
theorem dX12_letter_21 : decode cX12_letter 21 = .ok (.iload_n 3, 1) := by decide +kernel
theorem dX12_letter_22 : decode cX12_letter 22 = .ok (.iconst (-1), 1) := by decide +kernel
theorem dX12_letter_23 : decode cX12_letter 23 = .ok (.if_icmp .ne 6, 3) := by decide +kernel
theorem dX12_letter_26 : decode cX12_letter 26 = .ok (.iload 4, 2) := by decide +kernel
theorem dX12_letter_28 : decode cX12_letter 28 = .ok (.ireturn, 1) := by decide +kernel
theorem dX12_letter_29 : decode cX12_letter 29 = .ok (.iload_n 3, 1) := by decide +kernel
theorem dX12_letter_30 : decode cX12_letter 30 = .ok (.i2l, 1) := by decide +kernel
theorem dX12_letter_31 : decode cX12_letter 31 = .ok (.lconst 0, 1) := by decide +kernel
theorem dX12_letter_32 : decode cX12_letter 32 = .ok (.iload 4, 2) := by decide +kernel
theorem dX12_letter_34 : decode cX12_letter 34 = .ok (.iconst 1, 1) := by decide +kernel
theorem dX12_letter_35 : decode cX12_letter 35 = .ok (.isub, 1) := by decide +kernel
theorem dX12_letter_36 : decode cX12_letter 36 = .ok (.i2l, 1) := by decide +kernel
theorem dX12_letter_37 : decode cX12_letter 37 = .ok (.invokestatic 24, 3) := by decide +kernel
theorem dX12_letter_40 : decode cX12_letter 40 = .ok (.ifCond .eq 13, 3) := by decide +kernel
theorem dX12_letter_43 : decode cX12_letter 43 = .ok (.lload_n 1, 1) := by decide +kernel
theorem dX12_letter_44 : decode cX12_letter 44 = .ok (.iload 4, 2) := by decide +kernel
theorem dX12_letter_46 : decode cX12_letter 46 = .ok (.iload_n 3, 1) := by decide +kernel
theorem dX12_letter_47 : decode cX12_letter 47 = .ok (.invokestatic 39, 3) := by decide +kernel
theorem dX12_letter_50 : decode cX12_letter 50 = .ok (.goto 4, 3) := by decide +kernel
theorem dX12_letter_53 : decode cX12_letter 53 = .ok (.iconst (-1), 1) := by decide +kernel
theorem dX12_letter_54 : decode cX12_letter 54 = .ok (.ireturn, 1) := by decide +kernel
theorem dX12_cut_0 : decode cX12_cut 0 = .ok (.aload_n 0, 1) := by decide +kernel
theorem dX12_cut_1 : decode cX12_cut 1 = .ok (.iconst 0, 1) := by decide +kernel
theorem dX12_cut_2 : decode cX12_cut 2 = .ok (.putfield 1, 3) := by decide +kernel
theorem dX12_cut_5 : decode cX12_cut 5 = .ok (.aload_n 0, 1) := by decide +kernel
theorem dX12_cut_6 : decode cX12_cut 6 = .ok (.lload_n 1, 1) := by decide +kernel
theorem dX12_cut_7 : decode cX12_cut 7 = .ok (.invokevirtual 55, 3) := by decide +kernel
theorem dX12_cut_10 : decode cX12_cut 10 = .ok (.ifCond .eq 17, 3) := by decide +kernel
theorem dX12_cut_13 : decode cX12_cut 13 = .ok (.iload_n 3, 1) := by decide +kernel
theorem dX12_cut_14 : decode cX12_cut 14 = .ok (.i2l, 1) := by decide +kernel
theorem dX12_cut_15 : decode cX12_cut 15 = .ok (.invokestatic 65, 3) := by decide +kernel
theorem dX12_cut_18 : decode cX12_cut 18 = .ok (.lload_n 1, 1) := by decide +kernel
theorem dX12_cut_19 : decode cX12_cut 19 = .ok (.invokestatic 33, 3) := by decide +kernel
theorem dX12_cut_22 : decode cX12_cut 22 = .ok (.i2l, 1) := by decide +kernel
theorem dX12_cut_23 : decode cX12_cut 23 = .ok (.lcmp, 1) := by decide +kernel
theorem dX12_cut_24 : decode cX12_cut 24 = .ok (.ifCond .le 7, 3) := by decide +kernel
theorem dX12_cut_27 : decode cX12_cut 27 = .ok (.ldc2_w 59, 3) := by decide +kernel
theorem dX12_cut_30 : decode cX12_cut 30 = .ok (.lreturn, 1) := by decide +kernel
theorem dX12_cut_31 : decode cX12_cut 31 = .ok (.iload_n 3, 1) := by decide +kernel
theorem dX12_cut_32 : decode cX12_cut 32 = .ok (.ifCond .lt 11, 3) := by decide +kernel
theorem dX12_cut_35 : decode cX12_cut 35 = .ok (.lload_n 1, 1) := by decide +kernel
theorem dX12_cut_36 : decode cX12_cut 36 = .ok (.iload_n 3, 1) := by decide +kernel
theorem dX12_cut_37 : decode cX12_cut 37 = .ok (.invokestatic 71, 3) := by decide +kernel
theorem dX12_cut_40 : decode cX12_cut 40 = .ok (.goto 9, 3) := by decide +kernel
theorem dX12_cut_43 : decode cX12_cut 43 = .ok (.lload_n 1, 1) := by decide +kernel
theorem dX12_cut_44 : decode cX12_cut 44 = .ok (.iload_n 3, 1) := by decide +kernel
theorem dX12_cut_45 : decode cX12_cut 45 = .ok (.ineg, 1) := by decide +kernel
theorem dX12_cut_46 : decode cX12_cut 46 = .ok (.invokestatic 75, 3) := by decide +kernel
theorem dX12_cut_49 : decode cX12_cut 49 = .ok (.lreturn, 1) := by decide +kernel
theorem dX12_word_0 : decode cX12_word 0 = .ok (.aload_n 0, 1) := by decide +kernel
theorem dX12_word_1 : decode cX12_word 1 = .ok (.iconst 0, 1) := by decide +kernel
theorem dX12_word_2 : decode cX12_word 2 = .ok (.putfield 1, 3) := by decide +kernel
theorem dX12_word_5 : decode cX12_word 5 = .ok (.iload_n 1, 1) := by decide +kernel
theorem dX12_word_6 : decode cX12_word 6 = .ok (.i2l, 1) := by decide +kernel
theorem dX12_word_7 : decode cX12_word 7 = .ok (.lconst 0, 1) := by decide +kernel
theorem dX12_word_8 : decode cX12_word 8 = .ok (.ldc2_w 78, 3) := by decide +kernel
theorem dX12_word_11 : decode cX12_word 11 = .ok (.invokestatic 24, 3) := by decide +kernel
theorem dX12_word_14 : decode cX12_word 14 = .ok (.ifCond .ne 7, 3) := by decide +kernel
theorem dX12_word_17 : decode cX12_word 17 = .ok (.ldc2_w 59, 3) := by decide +kernel
theorem dX12_word_20 : decode cX12_word 20 = .ok (.lreturn, 1) := by decide +kernel
theorem dX12_word_21 : decode cX12_word 21 = .ok (.iload_n 1, 1) := by decide +kernel
theorem dX12_word_22 : decode cX12_word 22 = .ok (.istore_n 2, 1) := by decide +kernel
theorem dX12_word_23 : decode cX12_word 23 = .ok (.iconst 1, 1) := by decide +kernel
theorem dX12_word_24 : decode cX12_word 24 = .ok (.istore_n 3, 1) := by decide +kernel
theorem dX12_word_25 : decode cX12_word 25 = .ok (.iconst 0, 1) := by decide +kernel
theorem dX12_word_26 : decode cX12_word 26 = .ok (.istore 4, 2) := by decide +kernel
theorem dX12_word_28 : decode cX12_word 28 = .ok (.iload_n 2, 1) := by decide +kernel
theorem dX12_word_29 : decode cX12_word 29 = .ok (.iload_n 3, 1) := by decide +kernel
theorem dX12_word_30 : decode cX12_word 30 = .ok (.if_icmp .lt 28, 3) := by decide +kernel
theorem dX12_word_33 : decode cX12_word 33 = .ok (.iload_n 2, 1) := by decide +kernel
theorem dX12_word_34 : decode cX12_word 34 = .ok (.iload_n 3, 1) := by decide +kernel
theorem dX12_word_35 : decode cX12_word 35 = .ok (.isub, 1) := by decide +kernel
theorem dX12_word_36 : decode cX12_word 36 = .ok (.istore_n 2, 1) := by decide +kernel
theorem dX12_word_37 : decode cX12_word 37 = .ok (.iload_n 3, 1) := by decide +kernel
theorem dX12_word_38 : decode cX12_word 38 = .ok (.aload_n 0, 1) := by decide +kernel
theorem dX12_word_39 : decode cX12_word 39 = .ok (.getfield 30, 3) := by decide +kernel
theorem dX12_word_42 : decode cX12_word 42 = .ok (.imul, 1) := by decide +kernel
theorem dX12_word_43 : decode cX12_word 43 = .ok (.istore_n 3, 1) := by decide +kernel
theorem dX12_word_44 : decode cX12_word 44 = .ok (.iinc 4 1, 3) := by decide +kernel
theorem dX12_word_47 : decode cX12_word 47 = .ok (.iload 4, 2) := by decide +kernel
theorem dX12_word_49 : decode cX12_word 49 = .ok (.bipush 30, 2) := by decide +kernel
theorem dX12_word_51 : decode cX12_word 51 = .ok (.if_icmp .le (-23), 3) := by decide +kernel
theorem dX12_word_54 : decode cX12_word 54 = .ok (.ldc2_w 59, 3) := by decide +kernel
theorem dX12_word_57 : decode cX12_word 57 = .ok (.lreturn, 1) := by decide +kernel
theorem dX12_word_58 : decode cX12_word 58 = .ok (.lconst 1, 1) := by decide +kernel
theorem dX12_word_59 : decode cX12_word 59 = .ok (.lstore 5, 2) := by decide +kernel
theorem dX12_word_61 : decode cX12_word 61 = .ok (.iload_n 3, 1) := by decide +kernel
theorem dX12_word_62 : decode cX12_word 62 = .ok (.istore 7, 2) := by decide +kernel
theorem dX12_word_64 : decode cX12_word 64 = .ok (.iconst 0, 1) := by decide +kernel
theorem dX12_word_65 : decode cX12_word 65 = .ok (.istore 8, 2) := by decide +kernel
theorem dX12_word_67 : decode cX12_word 67 = .ok (.iload 8, 2) := by decide +kernel
theorem dX12_word_69 : decode cX12_word 69 = .ok (.iload 4, 2) := by decide +kernel
theorem dX12_word_71 : decode cX12_word 71 = .ok (.if_icmp .ge 34, 3) := by decide +kernel
theorem dX12_word_74 : decode cX12_word 74 = .ok (.iload 7, 2) := by decide +kernel
theorem dX12_word_76 : decode cX12_word 76 = .ok (.aload_n 0, 1) := by decide +kernel
theorem dX12_word_77 : decode cX12_word 77 = .ok (.getfield 30, 3) := by decide +kernel
theorem dX12_word_80 : decode cX12_word 80 = .ok (.idiv, 1) := by decide +kernel
theorem dX12_word_81 : decode cX12_word 81 = .ok (.istore 7, 2) := by decide +kernel
theorem dX12_word_83 : decode cX12_word 83 = .ok (.lload 5, 2) := by decide +kernel
theorem dX12_word_85 : decode cX12_word 85 = .ok (.iload_n 2, 1) := by decide +kernel
theorem dX12_word_86 : decode cX12_word 86 = .ok (.iload 7, 2) := by decide +kernel
theorem dX12_word_88 : decode cX12_word 88 = .ok (.idiv, 1) := by decide +kernel
theorem dX12_word_89 : decode cX12_word 89 = .ok (.invokestatic 80, 3) := by decide +kernel
theorem dX12_word_92 : decode cX12_word 92 = .ok (.lstore 5, 2) := by decide +kernel
theorem dX12_word_94 : decode cX12_word 94 = .ok (.iload_n 2, 1) := by decide +kernel
theorem dX12_word_95 : decode cX12_word 95 = .ok (.iload 7, 2) := by decide +kernel
theorem dX12_word_97 : decode cX12_word 97 = .ok (.irem, 1) := by decide +kernel
theorem dX12_word_98 : decode cX12_word 98 = .ok (.istore_n 2, 1) := by decide +kernel
theorem dX12_word_99 : decode cX12_word 99 = .ok (.iinc 8 1, 3) := by decide +kernel
theorem dX12_word_102 : decode cX12_word 102 = .ok (.goto (-35), 3) := by decide +kernel
theorem dX12_word_105 : decode cX12_word 105 = .ok (.lload 5, 2) := by decide +kernel
theorem dX12_word_107 : decode cX12_word 107 = .ok (.lreturn, 1) := by decide +kernel
theorem dX12_init_0 : decode cX12_init 0 = .ok (.aload_n 0, 1) := by decide +kernel
theorem dX12_init_1 : decode cX12_init 1 = .ok (.invokespecial 83, 3) := by decide +kernel
theorem dX12_init_4 : decode cX12_init 4 = .ok (.aload_n 0, 1) := by decide +kernel
theorem dX12_init_5 : decode cX12_init 5 = .ok (.bipush 16, 2) := by decide +kernel
theorem dX12_init_7 : decode cX12_init 7 = .ok (.newarray .long, 2) := by decide +kernel
theorem dX12_init_9 : decode cX12_init 9 = .ok (.putfield 7, 3) := by decide +kernel
theorem dX12_init_12 : decode cX12_init 12 = .ok (.aload_n 0, 1) := by decide +kernel
theorem dX12_init_13 : decode cX12_init 13 = .ok (.iconst 1, 1) := by decide +kernel
theorem dX12_init_14 : decode cX12_init 14 = .ok (.putfield 30, 3) := by decide +kernel
theorem dX12_init_17 : decode cX12_init 17 = .ok (.aload_n 0, 1) := by decide +kernel
theorem dX12_init_18 : decode cX12_init 18 = .ok (.iconst 3, 1) := by decide +kernel
theorem dX12_init_19 : decode cX12_init 19 = .ok (.newarray .int, 2) := by decide +kernel
theorem dX12_init_21 : decode cX12_init 21 = .ok (.dup, 1) := by decide +kernel
theorem dX12_init_22 : decode cX12_init 22 = .ok (.iconst 0, 1) := by decide +kernel
theorem dX12_init_23 : decode cX12_init 23 = .ok (.iconst 1, 1) := by decide +kernel
theorem dX12_init_24 : decode cX12_init 24 = .ok (.iastore, 1) := by decide +kernel
theorem dX12_init_25 : decode cX12_init 25 = .ok (.dup, 1) := by decide +kernel
theorem dX12_init_26 : decode cX12_init 26 = .ok (.iconst 1, 1) := by decide +kernel
theorem dX12_init_27 : decode cX12_init 27 = .ok (.iconst 0, 1) := by decide +kernel
theorem dX12_init_28 : decode cX12_init 28 = .ok (.iastore, 1) := by decide +kernel
theorem dX12_init_29 : decode cX12_init 29 = .ok (.dup, 1) := by decide +kernel
theorem dX12_init_30 : decode cX12_init 30 = .ok (.iconst 2, 1) := by decide +kernel
theorem dX12_init_31 : decode cX12_init 31 = .ok (.iconst 0, 1) := by decide +kernel
theorem dX12_init_32 : decode cX12_init 32 = .ok (.iastore, 1) := by decide +kernel
theorem dX12_init_33 : decode cX12_init 33 = .ok (.putfield 21, 3) := by decide +kernel
theorem dX12_init_36 : decode cX12_init 36 = .ok (.aload_n 0, 1) := by decide +kernel
theorem dX12_init_37 : decode cX12_init 37 = .ok (.bipush 24, 2) := by decide +kernel
theorem dX12_init_39 : decode cX12_init 39 = .ok (.newarray .int, 2) := by decide +kernel
theorem dX12_init_41 : decode cX12_init 41 = .ok (.putfield 14, 3) := by decide +kernel
theorem dX12_init_44 : decode cX12_init 44 = .ok (.aload_n 0, 1) := by decide +kernel
theorem dX12_init_45 : decode cX12_init 45 = .ok (.bipush 72, 2) := by decide +kernel
theorem dX12_init_47 : decode cX12_init 47 = .ok (.newarray .int, 2) := by decide +kernel
theorem dX12_init_49 : decode cX12_init 49 = .ok (.putfield 18, 3) := by decide +kernel
theorem dX12_init_52 : decode cX12_init 52 = .ok (.aload_n 0, 1) := by decide +kernel
theorem dX12_init_53 : decode cX12_init 53 = .ok (.iconst 1, 1) := by decide +kernel
theorem dX12_init_54 : decode cX12_init 54 = .ok (.putfield 89, 3) := by decide +kernel
theorem dX12_init_57 : decode cX12_init 57 = .ok (.aload_n 0, 1) := by decide +kernel
theorem dX12_init_58 : decode cX12_init 58 = .ok (.iconst 1, 1) := by decide +kernel
theorem dX12_init_59 : decode cX12_init 59 = .ok (.putfield 92, 3) := by decide +kernel
theorem dX12_init_62 : decode cX12_init 62 = .ok (.aload_n 0, 1) := by decide +kernel
theorem dX12_init_63 : decode cX12_init 63 = .ok (.iconst 2, 1) := by decide +kernel
theorem dX12_init_64 : decode cX12_init 64 = .ok (.newarray .int, 2) := by decide +kernel
theorem dX12_init_66 : decode cX12_init 66 = .ok (.putfield 95, 3) := by decide +kernel
theorem dX12_init_69 : decode cX12_init 69 = .ok (.aload_n 0, 1) := by decide +kernel
theorem dX12_init_70 : decode cX12_init 70 = .ok (.iconst 2, 1) := by decide +kernel
theorem dX12_init_71 : decode cX12_init 71 = .ok (.newarray .int, 2) := by decide +kernel
theorem dX12_init_73 : decode cX12_init 73 = .ok (.putfield 98, 3) := by decide +kernel
theorem dX12_init_76 : decode cX12_init 76 = .ok (.aload_n 0, 1) := by decide +kernel
theorem dX12_init_77 : decode cX12_init 77 = .ok (.iconst 2, 1) := by decide +kernel
theorem dX12_init_78 : decode cX12_init 78 = .ok (.newarray .int, 2) := by decide +kernel
theorem dX12_init_80 : decode cX12_init 80 = .ok (.putfield 101, 3) := by decide +kernel
theorem dX12_init_83 : decode cX12_init 83 = .ok (.aload_n 0, 1) := by decide +kernel
theorem dX12_init_84 : decode cX12_init 84 = .ok (.sipush 320, 3) := by decide +kernel
theorem dX12_init_87 : decode cX12_init 87 = .ok (.newarray .long, 2) := by decide +kernel
theorem dX12_init_89 : decode cX12_init 89 = .ok (.putfield 104, 3) := by decide +kernel
theorem dX12_init_92 : decode cX12_init 92 = .ok (.aload_n 0, 1) := by decide +kernel
theorem dX12_init_93 : decode cX12_init 93 = .ok (.sipush 320, 3) := by decide +kernel
theorem dX12_init_96 : decode cX12_init 96 = .ok (.newarray .int, 2) := by decide +kernel
theorem dX12_init_98 : decode cX12_init 98 = .ok (.putfield 107, 3) := by decide +kernel
theorem dX12_init_101 : decode cX12_init 101 = .ok (.aload_n 0, 1) := by decide +kernel
theorem dX12_init_102 : decode cX12_init 102 = .ok (.sipush 256, 3) := by decide +kernel
theorem dX12_init_105 : decode cX12_init 105 = .ok (.newarray .long, 2) := by decide +kernel
theorem dX12_init_107 : decode cX12_init 107 = .ok (.putfield 110, 3) := by decide +kernel
theorem dX12_init_110 : decode cX12_init 110 = .ok (.aload_n 0, 1) := by decide +kernel
theorem dX12_init_111 : decode cX12_init 111 = .ok (.ldc 113, 2) := by decide +kernel
theorem dX12_init_113 : decode cX12_init 113 = .ok (.newarray .long, 2) := by decide +kernel
theorem dX12_init_115 : decode cX12_init 115 = .ok (.putfield 114, 3) := by decide +kernel
theorem dX12_init_118 : decode cX12_init 118 = .ok (.aload_n 0, 1) := by decide +kernel
theorem dX12_init_119 : decode cX12_init 119 = .ok (.iconst 2, 1) := by decide +kernel
theorem dX12_init_120 : decode cX12_init 120 = .ok (.newarray .int, 2) := by decide +kernel
theorem dX12_init_122 : decode cX12_init 122 = .ok (.putfield 117, 3) := by decide +kernel
theorem dX12_init_125 : decode cX12_init 125 = .ok (.aload_n 0, 1) := by decide +kernel
theorem dX12_init_126 : decode cX12_init 126 = .ok (.iconst 2, 1) := by decide +kernel
theorem dX12_init_127 : decode cX12_init 127 = .ok (.newarray .int, 2) := by decide +kernel
theorem dX12_init_129 : decode cX12_init 129 = .ok (.putfield 120, 3) := by decide +kernel
theorem dX12_init_132 : decode cX12_init 132 = .ok (.aload_n 0, 1) := by decide +kernel
theorem dX12_init_133 : decode cX12_init 133 = .ok (.iconst 2, 1) := by decide +kernel
theorem dX12_init_134 : decode cX12_init 134 = .ok (.newarray .int, 2) := by decide +kernel
theorem dX12_init_136 : decode cX12_init 136 = .ok (.putfield 123, 3) := by decide +kernel
theorem dX12_init_139 : decode cX12_init 139 = .ok (.aload_n 0, 1) := by decide +kernel
theorem dX12_init_140 : decode cX12_init 140 = .ok (.iconst 2, 1) := by decide +kernel
theorem dX12_init_141 : decode cX12_init 141 = .ok (.newarray .boolean, 2) := by decide +kernel
theorem dX12_init_143 : decode cX12_init 143 = .ok (.putfield 126, 3) := by decide +kernel
theorem dX12_init_146 : decode cX12_init 146 = .ok (.aload_n 0, 1) := by decide +kernel
theorem dX12_init_147 : decode cX12_init 147 = .ok (.bipush 16, 2) := by decide +kernel
theorem dX12_init_149 : decode cX12_init 149 = .ok (.newarray .long, 2) := by decide +kernel
theorem dX12_init_151 : decode cX12_init 151 = .ok (.putfield 130, 3) := by decide +kernel
theorem dX12_init_154 : decode cX12_init 154 = .ok (.aload_n 0, 1) := by decide +kernel
theorem dX12_init_155 : decode cX12_init 155 = .ok (.sipush 1024, 3) := by decide +kernel
theorem dX12_init_158 : decode cX12_init 158 = .ok (.newarray .int, 2) := by decide +kernel
theorem dX12_init_160 : decode cX12_init 160 = .ok (.putfield 133, 3) := by decide +kernel
theorem dX12_init_163 : decode cX12_init 163 = .ok (.aload_n 0, 1) := by decide +kernel
theorem dX12_init_164 : decode cX12_init 164 = .ok (.bipush 64, 2) := by decide +kernel
theorem dX12_init_166 : decode cX12_init 166 = .ok (.newarray .boolean, 2) := by decide +kernel
theorem dX12_init_168 : decode cX12_init 168 = .ok (.putfield 136, 3) := by decide +kernel
theorem dX12_init_171 : decode cX12_init 171 = .ok (.aload_n 0, 1) := by decide +kernel
theorem dX12_init_172 : decode cX12_init 172 = .ok (.bipush 64, 2) := by decide +kernel
theorem dX12_init_174 : decode cX12_init 174 = .ok (.newarray .int, 2) := by decide +kernel
theorem dX12_init_176 : decode cX12_init 176 = .ok (.putfield 139, 3) := by decide +kernel
theorem dX12_init_179 : decode cX12_init 179 = .ok (.aload_n 0, 1) := by decide +kernel
theorem dX12_init_180 : decode cX12_init 180 = .ok (.bipush 64, 2) := by decide +kernel
theorem dX12_init_182 : decode cX12_init 182 = .ok (.newarray .long, 2) := by decide +kernel
theorem dX12_init_184 : decode cX12_init 184 = .ok (.putfield 142, 3) := by decide +kernel
theorem dX12_init_187 : decode cX12_init 187 = .ok (.aload_n 0, 1) := by decide +kernel
theorem dX12_init_188 : decode cX12_init 188 = .ok (.bipush 64, 2) := by decide +kernel
theorem dX12_init_190 : decode cX12_init 190 = .ok (.newarray .int, 2) := by decide +kernel
theorem dX12_init_192 : decode cX12_init 192 = .ok (.putfield 145, 3) := by decide +kernel
theorem dX12_init_195 : decode cX12_init 195 = .ok (.aload_n 0, 1) := by decide +kernel
theorem dX12_init_196 : decode cX12_init 196 = .ok (.bipush 8, 2) := by decide +kernel
theorem dX12_init_198 : decode cX12_init 198 = .ok (.newarray .int, 2) := by decide +kernel
theorem dX12_init_200 : decode cX12_init 200 = .ok (.putfield 148, 3) := by decide +kernel
theorem dX12_init_203 : decode cX12_init 203 = .ok (.aload_n 0, 1) := by decide +kernel
theorem dX12_init_204 : decode cX12_init 204 = .ok (.bipush 24, 2) := by decide +kernel
theorem dX12_init_206 : decode cX12_init 206 = .ok (.newarray .int, 2) := by decide +kernel
theorem dX12_init_208 : decode cX12_init 208 = .ok (.putfield 151, 3) := by decide +kernel
theorem dX12_init_211 : decode cX12_init 211 = .ok (.aload_n 0, 1) := by decide +kernel
theorem dX12_init_212 : decode cX12_init 212 = .ok (.bipush 64, 2) := by decide +kernel
theorem dX12_init_214 : decode cX12_init 214 = .ok (.newarray .int, 2) := by decide +kernel
theorem dX12_init_216 : decode cX12_init 216 = .ok (.putfield 154, 3) := by decide +kernel
theorem dX12_init_219 : decode cX12_init 219 = .ok (.aload_n 0, 1) := by decide +kernel
theorem dX12_init_220 : decode cX12_init 220 = .ok (.bipush 64, 2) := by decide +kernel
theorem dX12_init_222 : decode cX12_init 222 = .ok (.newarray .int, 2) := by decide +kernel
theorem dX12_init_224 : decode cX12_init 224 = .ok (.putfield 157, 3) := by decide +kernel
theorem dX12_init_227 : decode cX12_init 227 = .ok (.aload_n 0, 1) := by decide +kernel
theorem dX12_init_228 : decode cX12_init 228 = .ok (.bipush 8, 2) := by decide +kernel
theorem dX12_init_230 : decode cX12_init 230 = .ok (.newarray .long, 2) := by decide +kernel
theorem dX12_init_232 : decode cX12_init 232 = .ok (.putfield 160, 3) := by decide +kernel
theorem dX12_init_235 : decode cX12_init 235 = .ok (.aload_n 0, 1) := by decide +kernel
theorem dX12_init_236 : decode cX12_init 236 = .ok (.ldc 113, 2) := by decide +kernel
theorem dX12_init_238 : decode cX12_init 238 = .ok (.newarray .long, 2) := by decide +kernel
theorem dX12_init_240 : decode cX12_init 240 = .ok (.putfield 163, 3) := by decide +kernel
theorem dX12_init_243 : decode cX12_init 243 = .ok (.aload_n 0, 1) := by decide +kernel
theorem dX12_init_244 : decode cX12_init 244 = .ok (.bipush 64, 2) := by decide +kernel
theorem dX12_init_246 : decode cX12_init 246 = .ok (.newarray .long, 2) := by decide +kernel
theorem dX12_init_248 : decode cX12_init 248 = .ok (.putfield 166, 3) := by decide +kernel
theorem dX12_init_251 : decode cX12_init 251 = .ok (.aload_n 0, 1) := by decide +kernel
theorem dX12_init_252 : decode cX12_init 252 = .ok (.bipush 8, 2) := by decide +kernel
theorem dX12_init_254 : decode cX12_init 254 = .ok (.newarray .int, 2) := by decide +kernel
theorem dX12_init_256 : decode cX12_init 256 = .ok (.putfield 169, 3) := by decide +kernel
theorem dX12_init_259 : decode cX12_init 259 = .ok (.aload_n 0, 1) := by decide +kernel
theorem dX12_init_260 : decode cX12_init 260 = .ok (.bipush 8, 2) := by decide +kernel
theorem dX12_init_262 : decode cX12_init 262 = .ok (.newarray .int, 2) := by decide +kernel
theorem dX12_init_264 : decode cX12_init 264 = .ok (.putfield 172, 3) := by decide +kernel
theorem dX12_init_267 : decode cX12_init 267 = .ok (.aload_n 0, 1) := by decide +kernel
theorem dX12_init_268 : decode cX12_init 268 = .ok (.iconst 0, 1) := by decide +kernel
theorem dX12_init_269 : decode cX12_init 269 = .ok (.iconst 0, 1) := by decide +kernel
theorem dX12_init_270 : decode cX12_init 270 = .ok (.invokevirtual 175, 3) := by decide +kernel
theorem dX12_init_273 : decode cX12_init 273 = .ok (.return_, 1) := by decide +kernel
theorem dX12_slotOf_0 : decode cX12_slotOf 0 = .ok (.lload_n 2, 1) := by decide +kernel
theorem dX12_slotOf_1 : decode cX12_slotOf 1 = .ok (.ldc2_w 179, 3) := by decide +kernel
theorem dX12_slotOf_4 : decode cX12_slotOf 4 = .ok (.lmul, 1) := by decide +kernel
theorem dX12_slotOf_5 : decode cX12_slotOf 5 = .ok (.lstore 4, 2) := by decide +kernel
theorem dX12_slotOf_7 : decode cX12_slotOf 7 = .ok (.lload 4, 2) := by decide +kernel
theorem dX12_slotOf_9 : decode cX12_slotOf 9 = .ok (.bipush 50, 2) := by decide +kernel
theorem dX12_slotOf_11 : decode cX12_slotOf 11 = .ok (.lushr, 1) := by decide +kernel
theorem dX12_slotOf_12 : decode cX12_slotOf 12 = .ok (.l2i, 1) := by decide +kernel
theorem dX12_slotOf_13 : decode cX12_slotOf 13 = .ok (.istore 6, 2) := by decide +kernel
theorem dX12_slotOf_15 : decode cX12_slotOf 15 = .ok (.aload_n 0, 1) := by decide +kernel
theorem dX12_slotOf_16 : decode cX12_slotOf 16 = .ok (.getfield 114, 3) := by decide +kernel
theorem dX12_slotOf_19 : decode cX12_slotOf 19 = .ok (.sipush 16384, 3) := by decide +kernel
theorem dX12_slotOf_22 : decode cX12_slotOf 22 = .ok (.iload_n 1, 1) := by decide +kernel
theorem dX12_slotOf_23 : decode cX12_slotOf 23 = .ok (.imul, 1) := by decide +kernel
theorem dX12_slotOf_24 : decode cX12_slotOf 24 = .ok (.iload 6, 2) := by decide +kernel
theorem dX12_slotOf_26 : decode cX12_slotOf 26 = .ok (.iadd, 1) := by decide +kernel
theorem dX12_slotOf_27 : decode cX12_slotOf 27 = .ok (.laload, 1) := by decide +kernel
theorem dX12_slotOf_28 : decode cX12_slotOf 28 = .ok (.lconst 0, 1) := by decide +kernel
theorem dX12_slotOf_29 : decode cX12_slotOf 29 = .ok (.lcmp, 1) := by decide +kernel
theorem dX12_slotOf_30 : decode cX12_slotOf 30 = .ok (.ifCond .eq 34, 3) := by decide +kernel
theorem dX12_slotOf_33 : decode cX12_slotOf 33 = .ok (.aload_n 0, 1) := by decide +kernel
theorem dX12_slotOf_34 : decode cX12_slotOf 34 = .ok (.getfield 114, 3) := by decide +kernel
theorem dX12_slotOf_37 : decode cX12_slotOf 37 = .ok (.sipush 16384, 3) := by decide +kernel
theorem dX12_slotOf_40 : decode cX12_slotOf 40 = .ok (.iload_n 1, 1) := by decide +kernel
theorem dX12_slotOf_41 : decode cX12_slotOf 41 = .ok (.imul, 1) := by decide +kernel
theorem dX12_slotOf_42 : decode cX12_slotOf 42 = .ok (.iload 6, 2) := by decide +kernel
theorem dX12_slotOf_44 : decode cX12_slotOf 44 = .ok (.iadd, 1) := by decide +kernel
theorem dX12_slotOf_45 : decode cX12_slotOf 45 = .ok (.laload, 1) := by decide +kernel
theorem dX12_slotOf_46 : decode cX12_slotOf 46 = .ok (.lload_n 2, 1) := by decide +kernel
theorem dX12_slotOf_47 : decode cX12_slotOf 47 = .ok (.lcmp, 1) := by decide +kernel
theorem dX12_slotOf_48 : decode cX12_slotOf 48 = .ok (.ifCond .eq 16, 3) := by decide +kernel
theorem dX12_slotOf_51 : decode cX12_slotOf 51 = .ok (.iload 6, 2) := by decide +kernel
theorem dX12_slotOf_53 : decode cX12_slotOf 53 = .ok (.iconst 1, 1) := by decide +kernel
theorem dX12_slotOf_54 : decode cX12_slotOf 54 = .ok (.iadd, 1) := by decide +kernel
theorem dX12_slotOf_55 : decode cX12_slotOf 55 = .ok (.sipush 16384, 3) := by decide +kernel
theorem dX12_slotOf_58 : decode cX12_slotOf 58 = .ok (.irem, 1) := by decide +kernel
theorem dX12_slotOf_59 : decode cX12_slotOf 59 = .ok (.istore 6, 2) := by decide +kernel
theorem dX12_slotOf_61 : decode cX12_slotOf 61 = .ok (.goto (-46), 3) := by decide +kernel
theorem dX12_slotOf_64 : decode cX12_slotOf 64 = .ok (.sipush 16384, 3) := by decide +kernel
theorem dX12_slotOf_67 : decode cX12_slotOf 67 = .ok (.iload_n 1, 1) := by decide +kernel
theorem dX12_slotOf_68 : decode cX12_slotOf 68 = .ok (.imul, 1) := by decide +kernel
theorem dX12_slotOf_69 : decode cX12_slotOf 69 = .ok (.iload 6, 2) := by decide +kernel
theorem dX12_slotOf_71 : decode cX12_slotOf 71 = .ok (.iadd, 1) := by decide +kernel
theorem dX12_slotOf_72 : decode cX12_slotOf 72 = .ok (.ireturn, 1) := by decide +kernel
theorem dX12_wasAsked_0 : decode cX12_wasAsked 0 = .ok (.aload_n 0, 1) := by decide +kernel
theorem dX12_wasAsked_1 : decode cX12_wasAsked 1 = .ok (.getfield 114, 3) := by decide +kernel
theorem dX12_wasAsked_4 : decode cX12_wasAsked 4 = .ok (.aload_n 0, 1) := by decide +kernel
theorem dX12_wasAsked_5 : decode cX12_wasAsked 5 = .ok (.iload_n 1, 1) := by decide +kernel
theorem dX12_wasAsked_6 : decode cX12_wasAsked 6 = .ok (.lload_n 2, 1) := by decide +kernel
theorem dX12_wasAsked_7 : decode cX12_wasAsked 7 = .ok (.invokevirtual 181, 3) := by decide +kernel
theorem dX12_wasAsked_10 : decode cX12_wasAsked 10 = .ok (.laload, 1) := by decide +kernel
theorem dX12_wasAsked_11 : decode cX12_wasAsked 11 = .ok (.lload_n 2, 1) := by decide +kernel
theorem dX12_wasAsked_12 : decode cX12_wasAsked 12 = .ok (.lcmp, 1) := by decide +kernel
theorem dX12_wasAsked_13 : decode cX12_wasAsked 13 = .ok (.ifCond .ne 7, 3) := by decide +kernel
theorem dX12_wasAsked_16 : decode cX12_wasAsked 16 = .ok (.iconst 1, 1) := by decide +kernel
theorem dX12_wasAsked_17 : decode cX12_wasAsked 17 = .ok (.goto 4, 3) := by decide +kernel
theorem dX12_wasAsked_20 : decode cX12_wasAsked 20 = .ok (.iconst 0, 1) := by decide +kernel
theorem dX12_wasAsked_21 : decode cX12_wasAsked 21 = .ok (.ireturn, 1) := by decide +kernel
theorem dX12_ask_0 : decode cX12_ask 0 = .ok (.aload_n 0, 1) := by decide +kernel
theorem dX12_ask_1 : decode cX12_ask 1 = .ok (.iload_n 1, 1) := by decide +kernel
theorem dX12_ask_2 : decode cX12_ask 2 = .ok (.lload_n 2, 1) := by decide +kernel
theorem dX12_ask_3 : decode cX12_ask 3 = .ok (.invokevirtual 181, 3) := by decide +kernel
theorem dX12_ask_6 : decode cX12_ask 6 = .ok (.istore 4, 2) := by decide +kernel
theorem dX12_ask_8 : decode cX12_ask 8 = .ok (.aload_n 0, 1) := by decide +kernel
theorem dX12_ask_9 : decode cX12_ask 9 = .ok (.getfield 114, 3) := by decide +kernel
theorem dX12_ask_12 : decode cX12_ask 12 = .ok (.iload 4, 2) := by decide +kernel
theorem dX12_ask_14 : decode cX12_ask 14 = .ok (.laload, 1) := by decide +kernel
theorem dX12_ask_15 : decode cX12_ask 15 = .ok (.lload_n 2, 1) := by decide +kernel
theorem dX12_ask_16 : decode cX12_ask 16 = .ok (.lcmp, 1) := by decide +kernel
theorem dX12_ask_17 : decode cX12_ask 17 = .ok (.ifCond .eq 44, 3) := by decide +kernel
theorem dX12_ask_20 : decode cX12_ask 20 = .ok (.aload_n 0, 1) := by decide +kernel
theorem dX12_ask_21 : decode cX12_ask 21 = .ok (.getfield 114, 3) := by decide +kernel
theorem dX12_ask_24 : decode cX12_ask 24 = .ok (.iload 4, 2) := by decide +kernel
theorem dX12_ask_26 : decode cX12_ask 26 = .ok (.lload_n 2, 1) := by decide +kernel
theorem dX12_ask_27 : decode cX12_ask 27 = .ok (.lastore, 1) := by decide +kernel
theorem dX12_ask_28 : decode cX12_ask 28 = .ok (.aload_n 0, 1) := by decide +kernel
theorem dX12_ask_29 : decode cX12_ask 29 = .ok (.getfield 117, 3) := by decide +kernel
theorem dX12_ask_32 : decode cX12_ask 32 = .ok (.iload_n 1, 1) := by decide +kernel
theorem dX12_ask_33 : decode cX12_ask 33 = .ok (.dup2, 1) := by decide +kernel
theorem dX12_ask_34 : decode cX12_ask 34 = .ok (.iaload, 1) := by decide +kernel
theorem dX12_ask_35 : decode cX12_ask 35 = .ok (.iconst 1, 1) := by decide +kernel
theorem dX12_ask_36 : decode cX12_ask 36 = .ok (.iadd, 1) := by decide +kernel
theorem dX12_ask_37 : decode cX12_ask 37 = .ok (.iastore, 1) := by decide +kernel
theorem dX12_ask_38 : decode cX12_ask 38 = .ok (.aload_n 0, 1) := by decide +kernel
theorem dX12_ask_39 : decode cX12_ask 39 = .ok (.getfield 120, 3) := by decide +kernel
theorem dX12_ask_42 : decode cX12_ask 42 = .ok (.iload_n 1, 1) := by decide +kernel
theorem dX12_ask_43 : decode cX12_ask 43 = .ok (.dup2, 1) := by decide +kernel
theorem dX12_ask_44 : decode cX12_ask 44 = .ok (.iaload, 1) := by decide +kernel
theorem dX12_ask_45 : decode cX12_ask 45 = .ok (.aload_n 0, 1) := by decide +kernel
theorem dX12_ask_46 : decode cX12_ask 46 = .ok (.getfield 89, 3) := by decide +kernel
theorem dX12_ask_49 : decode cX12_ask 49 = .ok (.aload_n 0, 1) := by decide +kernel
theorem dX12_ask_50 : decode cX12_ask 50 = .ok (.getfield 92, 3) := by decide +kernel
theorem dX12_ask_53 : decode cX12_ask 53 = .ok (.lload_n 2, 1) := by decide +kernel
theorem dX12_ask_54 : decode cX12_ask 54 = .ok (.invokestatic 33, 3) := by decide +kernel
theorem dX12_ask_57 : decode cX12_ask 57 = .ok (.imul, 1) := by decide +kernel
theorem dX12_ask_58 : decode cX12_ask 58 = .ok (.iadd, 1) := by decide +kernel
theorem dX12_ask_59 : decode cX12_ask 59 = .ok (.iadd, 1) := by decide +kernel
theorem dX12_ask_60 : decode cX12_ask 60 = .ok (.iastore, 1) := by decide +kernel
theorem dX12_ask_61 : decode cX12_ask 61 = .ok (.aload_n 0, 1) := by decide +kernel
theorem dX12_ask_62 : decode cX12_ask 62 = .ok (.iconst 0, 1) := by decide +kernel
theorem dX12_ask_63 : decode cX12_ask 63 = .ok (.lload_n 2, 1) := by decide +kernel
theorem dX12_ask_64 : decode cX12_ask 64 = .ok (.invokevirtual 185, 3) := by decide +kernel
theorem dX12_ask_67 : decode cX12_ask 67 = .ok (.ireturn, 1) := by decide +kernel
theorem dX12_headComes_0 : decode cX12_headComes 0 = .ok (.aload_n 0, 1) := by decide +kernel
theorem dX12_headComes_1 : decode cX12_headComes 1 = .ok (.getfield 104, 3) := by decide +kernel
theorem dX12_headComes_4 : decode cX12_headComes 4 = .ok (.sipush 160, 3) := by decide +kernel
theorem dX12_headComes_7 : decode cX12_headComes 7 = .ok (.iload_n 1, 1) := by decide +kernel
theorem dX12_headComes_8 : decode cX12_headComes 8 = .ok (.imul, 1) := by decide +kernel
theorem dX12_headComes_9 : decode cX12_headComes 9 = .ok (.aload_n 0, 1) := by decide +kernel
theorem dX12_headComes_10 : decode cX12_headComes 10 = .ok (.getfield 98, 3) := by decide +kernel
theorem dX12_headComes_13 : decode cX12_headComes 13 = .ok (.iload_n 1, 1) := by decide +kernel
theorem dX12_headComes_14 : decode cX12_headComes 14 = .ok (.iaload, 1) := by decide +kernel
theorem dX12_headComes_15 : decode cX12_headComes 15 = .ok (.iadd, 1) := by decide +kernel
theorem dX12_headComes_16 : decode cX12_headComes 16 = .ok (.lload_n 2, 1) := by decide +kernel
theorem dX12_headComes_17 : decode cX12_headComes 17 = .ok (.lastore, 1) := by decide +kernel
theorem dX12_headComes_18 : decode cX12_headComes 18 = .ok (.aload_n 0, 1) := by decide +kernel
theorem dX12_headComes_19 : decode cX12_headComes 19 = .ok (.getfield 107, 3) := by decide +kernel
theorem dX12_headComes_22 : decode cX12_headComes 22 = .ok (.sipush 160, 3) := by decide +kernel
theorem dX12_headComes_25 : decode cX12_headComes 25 = .ok (.iload_n 1, 1) := by decide +kernel
theorem dX12_headComes_26 : decode cX12_headComes 26 = .ok (.imul, 1) := by decide +kernel
theorem dX12_headComes_27 : decode cX12_headComes 27 = .ok (.aload_n 0, 1) := by decide +kernel
theorem dX12_headComes_28 : decode cX12_headComes 28 = .ok (.getfield 98, 3) := by decide +kernel
theorem dX12_headComes_31 : decode cX12_headComes 31 = .ok (.iload_n 1, 1) := by decide +kernel
theorem dX12_headComes_32 : decode cX12_headComes 32 = .ok (.iaload, 1) := by decide +kernel
theorem dX12_headComes_33 : decode cX12_headComes 33 = .ok (.iadd, 1) := by decide +kernel
theorem dX12_headComes_34 : decode cX12_headComes 34 = .ok (.aload_n 0, 1) := by decide +kernel
theorem dX12_headComes_35 : decode cX12_headComes 35 = .ok (.iconst 0, 1) := by decide +kernel
theorem dX12_headComes_36 : decode cX12_headComes 36 = .ok (.iconst 0, 1) := by decide +kernel
theorem dX12_headComes_37 : decode cX12_headComes 37 = .ok (.lload_n 2, 1) := by decide +kernel
theorem dX12_headComes_38 : decode cX12_headComes 38 = .ok (.invokevirtual 47, 3) := by decide +kernel
theorem dX12_headComes_41 : decode cX12_headComes 41 = .ok (.iastore, 1) := by decide +kernel
theorem dX12_headComes_42 : decode cX12_headComes 42 = .ok (.aload_n 0, 1) := by decide +kernel
theorem dX12_headComes_43 : decode cX12_headComes 43 = .ok (.getfield 98, 3) := by decide +kernel
theorem dX12_headComes_46 : decode cX12_headComes 46 = .ok (.iload_n 1, 1) := by decide +kernel
theorem dX12_headComes_47 : decode cX12_headComes 47 = .ok (.dup2, 1) := by decide +kernel
theorem dX12_headComes_48 : decode cX12_headComes 48 = .ok (.iaload, 1) := by decide +kernel
theorem dX12_headComes_49 : decode cX12_headComes 49 = .ok (.iconst 1, 1) := by decide +kernel
theorem dX12_headComes_50 : decode cX12_headComes 50 = .ok (.iadd, 1) := by decide +kernel
theorem dX12_headComes_51 : decode cX12_headComes 51 = .ok (.iastore, 1) := by decide +kernel
theorem dX12_headComes_52 : decode cX12_headComes 52 = .ok (.return_, 1) := by decide +kernel
theorem dX12_tailComes_0 : decode cX12_tailComes 0 = .ok (.aload_n 0, 1) := by decide +kernel
theorem dX12_tailComes_1 : decode cX12_tailComes 1 = .ok (.getfield 110, 3) := by decide +kernel
theorem dX12_tailComes_4 : decode cX12_tailComes 4 = .ok (.sipush 128, 3) := by decide +kernel
theorem dX12_tailComes_7 : decode cX12_tailComes 7 = .ok (.iload_n 1, 1) := by decide +kernel
theorem dX12_tailComes_8 : decode cX12_tailComes 8 = .ok (.imul, 1) := by decide +kernel
theorem dX12_tailComes_9 : decode cX12_tailComes 9 = .ok (.aload_n 0, 1) := by decide +kernel
theorem dX12_tailComes_10 : decode cX12_tailComes 10 = .ok (.getfield 101, 3) := by decide +kernel
theorem dX12_tailComes_13 : decode cX12_tailComes 13 = .ok (.iload_n 1, 1) := by decide +kernel
theorem dX12_tailComes_14 : decode cX12_tailComes 14 = .ok (.iaload, 1) := by decide +kernel
theorem dX12_tailComes_15 : decode cX12_tailComes 15 = .ok (.iadd, 1) := by decide +kernel
theorem dX12_tailComes_16 : decode cX12_tailComes 16 = .ok (.lload_n 2, 1) := by decide +kernel
theorem dX12_tailComes_17 : decode cX12_tailComes 17 = .ok (.lastore, 1) := by decide +kernel
theorem dX12_tailComes_18 : decode cX12_tailComes 18 = .ok (.iconst 0, 1) := by decide +kernel
theorem dX12_tailComes_19 : decode cX12_tailComes 19 = .ok (.istore 4, 2) := by decide +kernel
theorem dX12_tailComes_21 : decode cX12_tailComes 21 = .ok (.iload 4, 2) := by decide +kernel
theorem dX12_tailComes_23 : decode cX12_tailComes 23 = .ok (.iconst 4, 1) := by decide +kernel
theorem dX12_tailComes_24 : decode cX12_tailComes 24 = .ok (.if_icmp .ge 32, 3) := by decide +kernel
theorem dX12_tailComes_27 : decode cX12_tailComes 27 = .ok (.aload_n 0, 1) := by decide +kernel
theorem dX12_tailComes_28 : decode cX12_tailComes 28 = .ok (.getfield 133, 3) := by decide +kernel
theorem dX12_tailComes_31 : decode cX12_tailComes 31 = .ok (.iconst 4, 1) := by decide +kernel
theorem dX12_tailComes_32 : decode cX12_tailComes 32 = .ok (.sipush 128, 3) := by decide +kernel
theorem dX12_tailComes_35 : decode cX12_tailComes 35 = .ok (.iload_n 1, 1) := by decide +kernel
theorem dX12_tailComes_36 : decode cX12_tailComes 36 = .ok (.imul, 1) := by decide +kernel
theorem dX12_tailComes_37 : decode cX12_tailComes 37 = .ok (.aload_n 0, 1) := by decide +kernel
theorem dX12_tailComes_38 : decode cX12_tailComes 38 = .ok (.getfield 101, 3) := by decide +kernel
theorem dX12_tailComes_41 : decode cX12_tailComes 41 = .ok (.iload_n 1, 1) := by decide +kernel
theorem dX12_tailComes_42 : decode cX12_tailComes 42 = .ok (.iaload, 1) := by decide +kernel
theorem dX12_tailComes_43 : decode cX12_tailComes 43 = .ok (.iadd, 1) := by decide +kernel
theorem dX12_tailComes_44 : decode cX12_tailComes 44 = .ok (.imul, 1) := by decide +kernel
theorem dX12_tailComes_45 : decode cX12_tailComes 45 = .ok (.iload 4, 2) := by decide +kernel
theorem dX12_tailComes_47 : decode cX12_tailComes 47 = .ok (.iadd, 1) := by decide +kernel
theorem dX12_tailComes_48 : decode cX12_tailComes 48 = .ok (.iconst 0, 1) := by decide +kernel
theorem dX12_tailComes_49 : decode cX12_tailComes 49 = .ok (.iastore, 1) := by decide +kernel
theorem dX12_tailComes_50 : decode cX12_tailComes 50 = .ok (.iinc 4 1, 3) := by decide +kernel
theorem dX12_tailComes_53 : decode cX12_tailComes 53 = .ok (.goto (-32), 3) := by decide +kernel
theorem dX12_tailComes_56 : decode cX12_tailComes 56 = .ok (.aload_n 0, 1) := by decide +kernel
theorem dX12_tailComes_57 : decode cX12_tailComes 57 = .ok (.getfield 101, 3) := by decide +kernel
theorem dX12_tailComes_60 : decode cX12_tailComes 60 = .ok (.iload_n 1, 1) := by decide +kernel
theorem dX12_tailComes_61 : decode cX12_tailComes 61 = .ok (.dup2, 1) := by decide +kernel
theorem dX12_tailComes_62 : decode cX12_tailComes 62 = .ok (.iaload, 1) := by decide +kernel
theorem dX12_tailComes_63 : decode cX12_tailComes 63 = .ok (.iconst 1, 1) := by decide +kernel
theorem dX12_tailComes_64 : decode cX12_tailComes 64 = .ok (.iadd, 1) := by decide +kernel
theorem dX12_tailComes_65 : decode cX12_tailComes 65 = .ok (.iastore, 1) := by decide +kernel
theorem dX12_tailComes_66 : decode cX12_tailComes 66 = .ok (.return_, 1) := by decide +kernel
theorem dX12_headOf_0 : decode cX12_headOf 0 = .ok (.aload_n 0, 1) := by decide +kernel
theorem dX12_headOf_1 : decode cX12_headOf 1 = .ok (.getfield 104, 3) := by decide +kernel
theorem dX12_headOf_4 : decode cX12_headOf 4 = .ok (.sipush 160, 3) := by decide +kernel
theorem dX12_headOf_7 : decode cX12_headOf 7 = .ok (.iload_n 1, 1) := by decide +kernel
theorem dX12_headOf_8 : decode cX12_headOf 8 = .ok (.imul, 1) := by decide +kernel
theorem dX12_headOf_9 : decode cX12_headOf 9 = .ok (.iload_n 2, 1) := by decide +kernel
theorem dX12_headOf_10 : decode cX12_headOf 10 = .ok (.iadd, 1) := by decide +kernel
theorem dX12_headOf_11 : decode cX12_headOf 11 = .ok (.laload, 1) := by decide +kernel
theorem dX12_headOf_12 : decode cX12_headOf 12 = .ok (.lreturn, 1) := by decide +kernel
theorem dX12_tailOf_0 : decode cX12_tailOf 0 = .ok (.aload_n 0, 1) := by decide +kernel
theorem dX12_tailOf_1 : decode cX12_tailOf 1 = .ok (.getfield 110, 3) := by decide +kernel
theorem dX12_tailOf_4 : decode cX12_tailOf 4 = .ok (.sipush 128, 3) := by decide +kernel
theorem dX12_tailOf_7 : decode cX12_tailOf 7 = .ok (.iload_n 1, 1) := by decide +kernel
theorem dX12_tailOf_8 : decode cX12_tailOf 8 = .ok (.imul, 1) := by decide +kernel
theorem dX12_tailOf_9 : decode cX12_tailOf 9 = .ok (.iload_n 2, 1) := by decide +kernel
theorem dX12_tailOf_10 : decode cX12_tailOf 10 = .ok (.iadd, 1) := by decide +kernel
theorem dX12_tailOf_11 : decode cX12_tailOf 11 = .ok (.laload, 1) := by decide +kernel
theorem dX12_tailOf_12 : decode cX12_tailOf 12 = .ok (.lreturn, 1) := by decide +kernel
theorem dX12_fresh_0 : decode cX12_fresh 0 = .ok (.aload_n 0, 1) := by decide +kernel
theorem dX12_fresh_1 : decode cX12_fresh 1 = .ok (.getfield 95, 3) := by decide +kernel
theorem dX12_fresh_4 : decode cX12_fresh 4 = .ok (.iload_n 1, 1) := by decide +kernel
theorem dX12_fresh_5 : decode cX12_fresh 5 = .ok (.iload_n 2, 1) := by decide +kernel
theorem dX12_fresh_6 : decode cX12_fresh 6 = .ok (.iastore, 1) := by decide +kernel
theorem dX12_fresh_7 : decode cX12_fresh 7 = .ok (.iconst 0, 1) := by decide +kernel
theorem dX12_fresh_8 : decode cX12_fresh 8 = .ok (.istore_n 3, 1) := by decide +kernel
theorem dX12_fresh_9 : decode cX12_fresh 9 = .ok (.iload_n 3, 1) := by decide +kernel
theorem dX12_fresh_10 : decode cX12_fresh 10 = .ok (.sipush 16384, 3) := by decide +kernel
theorem dX12_fresh_13 : decode cX12_fresh 13 = .ok (.if_icmp .ge 22, 3) := by decide +kernel
theorem dX12_fresh_16 : decode cX12_fresh 16 = .ok (.aload_n 0, 1) := by decide +kernel
theorem dX12_fresh_17 : decode cX12_fresh 17 = .ok (.getfield 114, 3) := by decide +kernel
theorem dX12_fresh_20 : decode cX12_fresh 20 = .ok (.sipush 16384, 3) := by decide +kernel
theorem dX12_fresh_23 : decode cX12_fresh 23 = .ok (.iload_n 1, 1) := by decide +kernel
theorem dX12_fresh_24 : decode cX12_fresh 24 = .ok (.imul, 1) := by decide +kernel
theorem dX12_fresh_25 : decode cX12_fresh 25 = .ok (.iload_n 3, 1) := by decide +kernel
theorem dX12_fresh_26 : decode cX12_fresh 26 = .ok (.iadd, 1) := by decide +kernel
theorem dX12_fresh_27 : decode cX12_fresh 27 = .ok (.lconst 0, 1) := by decide +kernel
theorem dX12_fresh_28 : decode cX12_fresh 28 = .ok (.lastore, 1) := by decide +kernel
theorem dX12_fresh_29 : decode cX12_fresh 29 = .ok (.iinc 3 1, 3) := by decide +kernel
theorem dX12_fresh_32 : decode cX12_fresh 32 = .ok (.goto (-23), 3) := by decide +kernel
theorem dX12_fresh_35 : decode cX12_fresh 35 = .ok (.aload_n 0, 1) := by decide +kernel
theorem dX12_fresh_36 : decode cX12_fresh 36 = .ok (.getfield 117, 3) := by decide +kernel
theorem dX12_fresh_39 : decode cX12_fresh 39 = .ok (.iload_n 1, 1) := by decide +kernel
theorem dX12_fresh_40 : decode cX12_fresh 40 = .ok (.iconst 0, 1) := by decide +kernel
theorem dX12_fresh_41 : decode cX12_fresh 41 = .ok (.iastore, 1) := by decide +kernel
theorem dX12_fresh_42 : decode cX12_fresh 42 = .ok (.aload_n 0, 1) := by decide +kernel
theorem dX12_fresh_43 : decode cX12_fresh 43 = .ok (.getfield 120, 3) := by decide +kernel
theorem dX12_fresh_46 : decode cX12_fresh 46 = .ok (.iload_n 1, 1) := by decide +kernel
theorem dX12_fresh_47 : decode cX12_fresh 47 = .ok (.iconst 0, 1) := by decide +kernel
theorem dX12_fresh_48 : decode cX12_fresh 48 = .ok (.iastore, 1) := by decide +kernel
theorem dX12_fresh_49 : decode cX12_fresh 49 = .ok (.aload_n 0, 1) := by decide +kernel
theorem dX12_fresh_50 : decode cX12_fresh 50 = .ok (.getfield 123, 3) := by decide +kernel
theorem dX12_fresh_53 : decode cX12_fresh 53 = .ok (.iload_n 1, 1) := by decide +kernel
theorem dX12_fresh_54 : decode cX12_fresh 54 = .ok (.iconst 0, 1) := by decide +kernel
theorem dX12_fresh_55 : decode cX12_fresh 55 = .ok (.iastore, 1) := by decide +kernel
theorem dX12_fresh_56 : decode cX12_fresh 56 = .ok (.aload_n 0, 1) := by decide +kernel
theorem dX12_fresh_57 : decode cX12_fresh 57 = .ok (.getfield 126, 3) := by decide +kernel
theorem dX12_fresh_60 : decode cX12_fresh 60 = .ok (.iload_n 1, 1) := by decide +kernel
theorem dX12_fresh_61 : decode cX12_fresh 61 = .ok (.iconst 0, 1) := by decide +kernel
theorem dX12_fresh_62 : decode cX12_fresh 62 = .ok (.bastore, 1) := by decide +kernel
theorem dX12_fresh_63 : decode cX12_fresh 63 = .ok (.aload_n 0, 1) := by decide +kernel
theorem dX12_fresh_64 : decode cX12_fresh 64 = .ok (.getfield 98, 3) := by decide +kernel
theorem dX12_fresh_67 : decode cX12_fresh 67 = .ok (.iload_n 1, 1) := by decide +kernel
theorem dX12_fresh_68 : decode cX12_fresh 68 = .ok (.iconst 0, 1) := by decide +kernel
theorem dX12_fresh_69 : decode cX12_fresh 69 = .ok (.iastore, 1) := by decide +kernel
theorem dX12_fresh_70 : decode cX12_fresh 70 = .ok (.aload_n 0, 1) := by decide +kernel
theorem dX12_fresh_71 : decode cX12_fresh 71 = .ok (.getfield 101, 3) := by decide +kernel
theorem dX12_fresh_74 : decode cX12_fresh 74 = .ok (.iload_n 1, 1) := by decide +kernel
theorem dX12_fresh_75 : decode cX12_fresh 75 = .ok (.iconst 0, 1) := by decide +kernel
theorem dX12_fresh_76 : decode cX12_fresh 76 = .ok (.iastore, 1) := by decide +kernel
theorem dX12_fresh_77 : decode cX12_fresh 77 = .ok (.aload_n 0, 1) := by decide +kernel
theorem dX12_fresh_78 : decode cX12_fresh 78 = .ok (.iload_n 1, 1) := by decide +kernel
theorem dX12_fresh_79 : decode cX12_fresh 79 = .ok (.lconst 1, 1) := by decide +kernel
theorem dX12_fresh_80 : decode cX12_fresh 80 = .ok (.invokevirtual 188, 3) := by decide +kernel
theorem dX12_fresh_83 : decode cX12_fresh 83 = .ok (.aload_n 0, 1) := by decide +kernel
theorem dX12_fresh_84 : decode cX12_fresh 84 = .ok (.iload_n 1, 1) := by decide +kernel
theorem dX12_fresh_85 : decode cX12_fresh 85 = .ok (.lconst 1, 1) := by decide +kernel
theorem dX12_fresh_86 : decode cX12_fresh 86 = .ok (.invokevirtual 192, 3) := by decide +kernel
theorem dX12_fresh_89 : decode cX12_fresh 89 = .ok (.iload_n 2, 1) := by decide +kernel
theorem dX12_fresh_90 : decode cX12_fresh 90 = .ok (.iconst 3, 1) := by decide +kernel
theorem dX12_fresh_91 : decode cX12_fresh 91 = .ok (.if_icmp .ne 21, 3) := by decide +kernel
theorem dX12_fresh_94 : decode cX12_fresh 94 = .ok (.aload_n 0, 1) := by decide +kernel
theorem dX12_fresh_95 : decode cX12_fresh 95 = .ok (.getfield 133, 3) := by decide +kernel
theorem dX12_fresh_98 : decode cX12_fresh 98 = .ok (.sipush 512, 3) := by decide +kernel
theorem dX12_fresh_101 : decode cX12_fresh 101 = .ok (.iload_n 1, 1) := by decide +kernel
theorem dX12_fresh_102 : decode cX12_fresh 102 = .ok (.imul, 1) := by decide +kernel
theorem dX12_fresh_103 : decode cX12_fresh 103 = .ok (.aload_n 0, 1) := by decide +kernel
theorem dX12_fresh_104 : decode cX12_fresh 104 = .ok (.iload_n 1, 1) := by decide +kernel
theorem dX12_fresh_105 : decode cX12_fresh 105 = .ok (.lconst 1, 1) := by decide +kernel
theorem dX12_fresh_106 : decode cX12_fresh 106 = .ok (.invokevirtual 195, 3) := by decide +kernel
theorem dX12_fresh_109 : decode cX12_fresh 109 = .ok (.iadd, 1) := by decide +kernel
theorem dX12_fresh_110 : decode cX12_fresh 110 = .ok (.iconst 1, 1) := by decide +kernel
theorem dX12_fresh_111 : decode cX12_fresh 111 = .ok (.iastore, 1) := by decide +kernel
theorem dX12_fresh_112 : decode cX12_fresh 112 = .ok (.return_, 1) := by decide +kernel
theorem dX12_areLike_0 : decode cX12_areLike 0 = .ok (.iconst 1, 1) := by decide +kernel
theorem dX12_areLike_1 : decode cX12_areLike 1 = .ok (.istore 4, 2) := by decide +kernel
theorem dX12_areLike_3 : decode cX12_areLike 3 = .ok (.iconst 0, 1) := by decide +kernel
theorem dX12_areLike_4 : decode cX12_areLike 4 = .ok (.istore 5, 2) := by decide +kernel
theorem dX12_areLike_6 : decode cX12_areLike 6 = .ok (.iload 5, 2) := by decide +kernel
theorem dX12_areLike_8 : decode cX12_areLike 8 = .ok (.aload_n 0, 1) := by decide +kernel
theorem dX12_areLike_9 : decode cX12_areLike 9 = .ok (.getfield 101, 3) := by decide +kernel
theorem dX12_areLike_12 : decode cX12_areLike 12 = .ok (.iload_n 1, 1) := by decide +kernel
theorem dX12_areLike_13 : decode cX12_areLike 13 = .ok (.iaload, 1) := by decide +kernel
theorem dX12_areLike_14 : decode cX12_areLike 14 = .ok (.if_icmp .ge 60, 3) := by decide +kernel
theorem dX12_areLike_17 : decode cX12_areLike 17 = .ok (.iload 4, 2) := by decide +kernel
theorem dX12_areLike_19 : decode cX12_areLike 19 = .ok (.ifCond .eq 46, 3) := by decide +kernel
theorem dX12_areLike_22 : decode cX12_areLike 22 = .ok (.aload_n 0, 1) := by decide +kernel
theorem dX12_areLike_23 : decode cX12_areLike 23 = .ok (.iconst 0, 1) := by decide +kernel
theorem dX12_areLike_24 : decode cX12_areLike 24 = .ok (.aload_n 0, 1) := by decide +kernel
theorem dX12_areLike_25 : decode cX12_areLike 25 = .ok (.iconst 0, 1) := by decide +kernel
theorem dX12_areLike_26 : decode cX12_areLike 26 = .ok (.iload_n 2, 1) := by decide +kernel
theorem dX12_areLike_27 : decode cX12_areLike 27 = .ok (.aload_n 0, 1) := by decide +kernel
theorem dX12_areLike_28 : decode cX12_areLike 28 = .ok (.iload_n 1, 1) := by decide +kernel
theorem dX12_areLike_29 : decode cX12_areLike 29 = .ok (.iload 5, 2) := by decide +kernel
theorem dX12_areLike_31 : decode cX12_areLike 31 = .ok (.invokevirtual 198, 3) := by decide +kernel
theorem dX12_areLike_34 : decode cX12_areLike 34 = .ok (.invokevirtual 47, 3) := by decide +kernel
theorem dX12_areLike_37 : decode cX12_areLike 37 = .ok (.invokevirtual 51, 3) := by decide +kernel
theorem dX12_areLike_40 : decode cX12_areLike 40 = .ok (.aload_n 0, 1) := by decide +kernel
theorem dX12_areLike_41 : decode cX12_areLike 41 = .ok (.iconst 0, 1) := by decide +kernel
theorem dX12_areLike_42 : decode cX12_areLike 42 = .ok (.aload_n 0, 1) := by decide +kernel
theorem dX12_areLike_43 : decode cX12_areLike 43 = .ok (.iconst 0, 1) := by decide +kernel
theorem dX12_areLike_44 : decode cX12_areLike 44 = .ok (.iload_n 3, 1) := by decide +kernel
theorem dX12_areLike_45 : decode cX12_areLike 45 = .ok (.aload_n 0, 1) := by decide +kernel
theorem dX12_areLike_46 : decode cX12_areLike 46 = .ok (.iload_n 1, 1) := by decide +kernel
theorem dX12_areLike_47 : decode cX12_areLike 47 = .ok (.iload 5, 2) := by decide +kernel
theorem dX12_areLike_49 : decode cX12_areLike 49 = .ok (.invokevirtual 198, 3) := by decide +kernel
theorem dX12_areLike_52 : decode cX12_areLike 52 = .ok (.invokevirtual 47, 3) := by decide +kernel
theorem dX12_areLike_55 : decode cX12_areLike 55 = .ok (.invokevirtual 51, 3) := by decide +kernel
theorem dX12_areLike_58 : decode cX12_areLike 58 = .ok (.if_icmp .ne 7, 3) := by decide +kernel
theorem dX12_areLike_61 : decode cX12_areLike 61 = .ok (.iconst 1, 1) := by decide +kernel
theorem dX12_areLike_62 : decode cX12_areLike 62 = .ok (.goto 4, 3) := by decide +kernel
theorem dX12_areLike_65 : decode cX12_areLike 65 = .ok (.iconst 0, 1) := by decide +kernel
theorem dX12_areLike_66 : decode cX12_areLike 66 = .ok (.istore 4, 2) := by decide +kernel
theorem dX12_areLike_68 : decode cX12_areLike 68 = .ok (.iinc 5 1, 3) := by decide +kernel
theorem dX12_areLike_71 : decode cX12_areLike 71 = .ok (.goto (-65), 3) := by decide +kernel
theorem dX12_areLike_74 : decode cX12_areLike 74 = .ok (.iload 4, 2) := by decide +kernel
theorem dX12_areLike_76 : decode cX12_areLike 76 = .ok (.ireturn, 1) := by decide +kernel
theorem dX12_headLike_0 : decode cX12_headLike 0 = .ok (.iconst 0, 1) := by decide +kernel
theorem dX12_headLike_1 : decode cX12_headLike 1 = .ok (.istore_n 3, 1) := by decide +kernel
theorem dX12_headLike_2 : decode cX12_headLike 2 = .ok (.iload_n 3, 1) := by decide +kernel
theorem dX12_headLike_3 : decode cX12_headLike 3 = .ok (.aload_n 0, 1) := by decide +kernel
theorem dX12_headLike_4 : decode cX12_headLike 4 = .ok (.getfield 98, 3) := by decide +kernel
theorem dX12_headLike_7 : decode cX12_headLike 7 = .ok (.iload_n 1, 1) := by decide +kernel
theorem dX12_headLike_8 : decode cX12_headLike 8 = .ok (.iaload, 1) := by decide +kernel
theorem dX12_headLike_9 : decode cX12_headLike 9 = .ok (.if_icmp .ge 32, 3) := by decide +kernel
theorem dX12_headLike_12 : decode cX12_headLike 12 = .ok (.aload_n 0, 1) := by decide +kernel
theorem dX12_headLike_13 : decode cX12_headLike 13 = .ok (.iload_n 1, 1) := by decide +kernel
theorem dX12_headLike_14 : decode cX12_headLike 14 = .ok (.aload_n 0, 1) := by decide +kernel
theorem dX12_headLike_15 : decode cX12_headLike 15 = .ok (.getfield 107, 3) := by decide +kernel
theorem dX12_headLike_18 : decode cX12_headLike 18 = .ok (.sipush 160, 3) := by decide +kernel
theorem dX12_headLike_21 : decode cX12_headLike 21 = .ok (.iload_n 1, 1) := by decide +kernel
theorem dX12_headLike_22 : decode cX12_headLike 22 = .ok (.imul, 1) := by decide +kernel
theorem dX12_headLike_23 : decode cX12_headLike 23 = .ok (.iload_n 3, 1) := by decide +kernel
theorem dX12_headLike_24 : decode cX12_headLike 24 = .ok (.iadd, 1) := by decide +kernel
theorem dX12_headLike_25 : decode cX12_headLike 25 = .ok (.iaload, 1) := by decide +kernel
theorem dX12_headLike_26 : decode cX12_headLike 26 = .ok (.iload_n 2, 1) := by decide +kernel
theorem dX12_headLike_27 : decode cX12_headLike 27 = .ok (.invokevirtual 202, 3) := by decide +kernel
theorem dX12_headLike_30 : decode cX12_headLike 30 = .ok (.ifCond .eq 5, 3) := by decide +kernel
theorem dX12_headLike_33 : decode cX12_headLike 33 = .ok (.iload_n 3, 1) := by decide +kernel
theorem dX12_headLike_34 : decode cX12_headLike 34 = .ok (.ireturn, 1) := by decide +kernel
theorem dX12_headLike_35 : decode cX12_headLike 35 = .ok (.iinc 3 1, 3) := by decide +kernel
theorem dX12_headLike_38 : decode cX12_headLike 38 = .ok (.goto (-36), 3) := by decide +kernel
theorem dX12_headLike_41 : decode cX12_headLike 41 = .ok (.iconst (-1), 1) := by decide +kernel
theorem dX12_headLike_42 : decode cX12_headLike 42 = .ok (.ireturn, 1) := by decide +kernel
theorem dX12_asksAll_0 : decode cX12_asksAll 0 = .ok (.iconst 0, 1) := by decide +kernel
theorem dX12_asksAll_1 : decode cX12_asksAll 1 = .ok (.istore_n 2, 1) := by decide +kernel
theorem dX12_asksAll_2 : decode cX12_asksAll 2 = .ok (.iload_n 2, 1) := by decide +kernel
theorem dX12_asksAll_3 : decode cX12_asksAll 3 = .ok (.aload_n 0, 1) := by decide +kernel
theorem dX12_asksAll_4 : decode cX12_asksAll 4 = .ok (.getfield 98, 3) := by decide +kernel
theorem dX12_asksAll_7 : decode cX12_asksAll 7 = .ok (.iload_n 1, 1) := by decide +kernel
theorem dX12_asksAll_8 : decode cX12_asksAll 8 = .ok (.iaload, 1) := by decide +kernel
theorem dX12_asksAll_9 : decode cX12_asksAll 9 = .ok (.if_icmp .ge 92, 3) := by decide +kernel
theorem dX12_asksAll_12 : decode cX12_asksAll 12 = .ok (.iconst 0, 1) := by decide +kernel
theorem dX12_asksAll_13 : decode cX12_asksAll 13 = .ok (.istore_n 3, 1) := by decide +kernel
theorem dX12_asksAll_14 : decode cX12_asksAll 14 = .ok (.iload_n 3, 1) := by decide +kernel
theorem dX12_asksAll_15 : decode cX12_asksAll 15 = .ok (.aload_n 0, 1) := by decide +kernel
theorem dX12_asksAll_16 : decode cX12_asksAll 16 = .ok (.getfield 101, 3) := by decide +kernel
theorem dX12_asksAll_19 : decode cX12_asksAll 19 = .ok (.iload_n 1, 1) := by decide +kernel
theorem dX12_asksAll_20 : decode cX12_asksAll 20 = .ok (.iaload, 1) := by decide +kernel
theorem dX12_asksAll_21 : decode cX12_asksAll 21 = .ok (.if_icmp .ge 74, 3) := by decide +kernel
theorem dX12_asksAll_24 : decode cX12_asksAll 24 = .ok (.aload_n 0, 1) := by decide +kernel
theorem dX12_asksAll_25 : decode cX12_asksAll 25 = .ok (.iload_n 1, 1) := by decide +kernel
theorem dX12_asksAll_26 : decode cX12_asksAll 26 = .ok (.aload_n 0, 1) := by decide +kernel
theorem dX12_asksAll_27 : decode cX12_asksAll 27 = .ok (.iload_n 1, 1) := by decide +kernel
theorem dX12_asksAll_28 : decode cX12_asksAll 28 = .ok (.iload_n 2, 1) := by decide +kernel
theorem dX12_asksAll_29 : decode cX12_asksAll 29 = .ok (.invokevirtual 206, 3) := by decide +kernel
theorem dX12_asksAll_32 : decode cX12_asksAll 32 = .ok (.aload_n 0, 1) := by decide +kernel
theorem dX12_asksAll_33 : decode cX12_asksAll 33 = .ok (.iload_n 1, 1) := by decide +kernel
theorem dX12_asksAll_34 : decode cX12_asksAll 34 = .ok (.iload_n 3, 1) := by decide +kernel
theorem dX12_asksAll_35 : decode cX12_asksAll 35 = .ok (.invokevirtual 198, 3) := by decide +kernel
theorem dX12_asksAll_38 : decode cX12_asksAll 38 = .ok (.invokestatic 61, 3) := by decide +kernel
theorem dX12_asksAll_41 : decode cX12_asksAll 41 = .ok (.invokevirtual 195, 3) := by decide +kernel
theorem dX12_asksAll_44 : decode cX12_asksAll 44 = .ok (.pop, 1) := by decide +kernel
theorem dX12_asksAll_45 : decode cX12_asksAll 45 = .ok (.iconst 0, 1) := by decide +kernel
theorem dX12_asksAll_46 : decode cX12_asksAll 46 = .ok (.istore 4, 2) := by decide +kernel
theorem dX12_asksAll_48 : decode cX12_asksAll 48 = .ok (.iload 4, 2) := by decide +kernel
theorem dX12_asksAll_50 : decode cX12_asksAll 50 = .ok (.aload_n 0, 1) := by decide +kernel
theorem dX12_asksAll_51 : decode cX12_asksAll 51 = .ok (.getfield 30, 3) := by decide +kernel
theorem dX12_asksAll_54 : decode cX12_asksAll 54 = .ok (.if_icmp .ge 35, 3) := by decide +kernel
theorem dX12_asksAll_57 : decode cX12_asksAll 57 = .ok (.aload_n 0, 1) := by decide +kernel
theorem dX12_asksAll_58 : decode cX12_asksAll 58 = .ok (.iload_n 1, 1) := by decide +kernel
theorem dX12_asksAll_59 : decode cX12_asksAll 59 = .ok (.aload_n 0, 1) := by decide +kernel
theorem dX12_asksAll_60 : decode cX12_asksAll 60 = .ok (.iload_n 1, 1) := by decide +kernel
theorem dX12_asksAll_61 : decode cX12_asksAll 61 = .ok (.iload_n 2, 1) := by decide +kernel
theorem dX12_asksAll_62 : decode cX12_asksAll 62 = .ok (.invokevirtual 206, 3) := by decide +kernel
theorem dX12_asksAll_65 : decode cX12_asksAll 65 = .ok (.iload 4, 2) := by decide +kernel
theorem dX12_asksAll_67 : decode cX12_asksAll 67 = .ok (.invokestatic 80, 3) := by decide +kernel
theorem dX12_asksAll_70 : decode cX12_asksAll 70 = .ok (.aload_n 0, 1) := by decide +kernel
theorem dX12_asksAll_71 : decode cX12_asksAll 71 = .ok (.iload_n 1, 1) := by decide +kernel
theorem dX12_asksAll_72 : decode cX12_asksAll 72 = .ok (.iload_n 3, 1) := by decide +kernel
theorem dX12_asksAll_73 : decode cX12_asksAll 73 = .ok (.invokevirtual 198, 3) := by decide +kernel
theorem dX12_asksAll_76 : decode cX12_asksAll 76 = .ok (.invokestatic 61, 3) := by decide +kernel
theorem dX12_asksAll_79 : decode cX12_asksAll 79 = .ok (.invokevirtual 195, 3) := by decide +kernel
theorem dX12_asksAll_82 : decode cX12_asksAll 82 = .ok (.pop, 1) := by decide +kernel
theorem dX12_asksAll_83 : decode cX12_asksAll 83 = .ok (.iinc 4 1, 3) := by decide +kernel
theorem dX12_asksAll_86 : decode cX12_asksAll 86 = .ok (.goto (-38), 3) := by decide +kernel
theorem dX12_asksAll_89 : decode cX12_asksAll 89 = .ok (.iinc 3 1, 3) := by decide +kernel
theorem dX12_asksAll_92 : decode cX12_asksAll 92 = .ok (.goto (-78), 3) := by decide +kernel
theorem dX12_asksAll_95 : decode cX12_asksAll 95 = .ok (.iinc 2 1, 3) := by decide +kernel
theorem dX12_asksAll_98 : decode cX12_asksAll 98 = .ok (.goto (-96), 3) := by decide +kernel
theorem dX12_asksAll_101 : decode cX12_asksAll 101 = .ok (.return_, 1) := by decide +kernel
theorem dX12_closes_0 : decode cX12_closes 0 = .ok (.iconst 0, 1) := by decide +kernel
theorem dX12_closes_1 : decode cX12_closes 1 = .ok (.istore_n 2, 1) := by decide +kernel
theorem dX12_closes_2 : decode cX12_closes 2 = .ok (.iload_n 2, 1) := by decide +kernel
theorem dX12_closes_3 : decode cX12_closes 3 = .ok (.aload_n 0, 1) := by decide +kernel
theorem dX12_closes_4 : decode cX12_closes 4 = .ok (.getfield 98, 3) := by decide +kernel
theorem dX12_closes_7 : decode cX12_closes 7 = .ok (.iload_n 1, 1) := by decide +kernel
theorem dX12_closes_8 : decode cX12_closes 8 = .ok (.iaload, 1) := by decide +kernel
theorem dX12_closes_9 : decode cX12_closes 9 = .ok (.if_icmp .ge 80, 3) := by decide +kernel
theorem dX12_closes_12 : decode cX12_closes 12 = .ok (.iconst 0, 1) := by decide +kernel
theorem dX12_closes_13 : decode cX12_closes 13 = .ok (.istore_n 3, 1) := by decide +kernel
theorem dX12_closes_14 : decode cX12_closes 14 = .ok (.iload_n 3, 1) := by decide +kernel
theorem dX12_closes_15 : decode cX12_closes 15 = .ok (.aload_n 0, 1) := by decide +kernel
theorem dX12_closes_16 : decode cX12_closes 16 = .ok (.getfield 30, 3) := by decide +kernel
theorem dX12_closes_19 : decode cX12_closes 19 = .ok (.if_icmp .ge 64, 3) := by decide +kernel
theorem dX12_closes_22 : decode cX12_closes 22 = .ok (.aload_n 0, 1) := by decide +kernel
theorem dX12_closes_23 : decode cX12_closes 23 = .ok (.iload_n 1, 1) := by decide +kernel
theorem dX12_closes_24 : decode cX12_closes 24 = .ok (.aload_n 0, 1) := by decide +kernel
theorem dX12_closes_25 : decode cX12_closes 25 = .ok (.iconst 0, 1) := by decide +kernel
theorem dX12_closes_26 : decode cX12_closes 26 = .ok (.aload_n 0, 1) := by decide +kernel
theorem dX12_closes_27 : decode cX12_closes 27 = .ok (.getfield 107, 3) := by decide +kernel
theorem dX12_closes_30 : decode cX12_closes 30 = .ok (.sipush 160, 3) := by decide +kernel
theorem dX12_closes_33 : decode cX12_closes 33 = .ok (.iload_n 1, 1) := by decide +kernel
theorem dX12_closes_34 : decode cX12_closes 34 = .ok (.imul, 1) := by decide +kernel
theorem dX12_closes_35 : decode cX12_closes 35 = .ok (.iload_n 2, 1) := by decide +kernel
theorem dX12_closes_36 : decode cX12_closes 36 = .ok (.iadd, 1) := by decide +kernel
theorem dX12_closes_37 : decode cX12_closes 37 = .ok (.iaload, 1) := by decide +kernel
theorem dX12_closes_38 : decode cX12_closes 38 = .ok (.iload_n 3, 1) := by decide +kernel
theorem dX12_closes_39 : decode cX12_closes 39 = .ok (.invokevirtual 43, 3) := by decide +kernel
theorem dX12_closes_42 : decode cX12_closes 42 = .ok (.invokevirtual 209, 3) := by decide +kernel
theorem dX12_closes_45 : decode cX12_closes 45 = .ok (.iconst (-1), 1) := by decide +kernel
theorem dX12_closes_46 : decode cX12_closes 46 = .ok (.if_icmp .eq 6, 3) := by decide +kernel
theorem dX12_closes_49 : decode cX12_closes 49 = .ok (.goto 28, 3) := by decide +kernel
theorem dX12_closes_52 : decode cX12_closes 52 = .ok (.aload_n 0, 1) := by decide +kernel
theorem dX12_closes_53 : decode cX12_closes 53 = .ok (.aload_n 0, 1) := by decide +kernel
theorem dX12_closes_54 : decode cX12_closes 54 = .ok (.iload_n 1, 1) := by decide +kernel
theorem dX12_closes_55 : decode cX12_closes 55 = .ok (.iload_n 2, 1) := by decide +kernel
theorem dX12_closes_56 : decode cX12_closes 56 = .ok (.invokevirtual 206, 3) := by decide +kernel
theorem dX12_closes_59 : decode cX12_closes 59 = .ok (.iload_n 3, 1) := by decide +kernel
theorem dX12_closes_60 : decode cX12_closes 60 = .ok (.invokestatic 80, 3) := by decide +kernel
theorem dX12_closes_63 : decode cX12_closes 63 = .ok (.putfield 212, 3) := by decide +kernel
theorem dX12_closes_66 : decode cX12_closes 66 = .ok (.aload_n 0, 1) := by decide +kernel
theorem dX12_closes_67 : decode cX12_closes 67 = .ok (.iload_n 1, 1) := by decide +kernel
theorem dX12_closes_68 : decode cX12_closes 68 = .ok (.aload_n 0, 1) := by decide +kernel
theorem dX12_closes_69 : decode cX12_closes 69 = .ok (.getfield 212, 3) := by decide +kernel
theorem dX12_closes_72 : decode cX12_closes 72 = .ok (.invokevirtual 188, 3) := by decide +kernel
theorem dX12_closes_75 : decode cX12_closes 75 = .ok (.iconst 1, 1) := by decide +kernel
theorem dX12_closes_76 : decode cX12_closes 76 = .ok (.ireturn, 1) := by decide +kernel
theorem dX12_closes_77 : decode cX12_closes 77 = .ok (.iinc 3 1, 3) := by decide +kernel
theorem dX12_closes_80 : decode cX12_closes 80 = .ok (.goto (-66), 3) := by decide +kernel
theorem dX12_closes_83 : decode cX12_closes 83 = .ok (.iinc 2 1, 3) := by decide +kernel
theorem dX12_closes_86 : decode cX12_closes 86 = .ok (.goto (-84), 3) := by decide +kernel
theorem dX12_closes_89 : decode cX12_closes 89 = .ok (.iconst 0, 1) := by decide +kernel
theorem dX12_closes_90 : decode cX12_closes 90 = .ok (.ireturn, 1) := by decide +kernel
theorem dX12_parts_0 : decode cX12_parts 0 = .ok (.iconst 0, 1) := by decide +kernel
theorem dX12_parts_1 : decode cX12_parts 1 = .ok (.istore 4, 2) := by decide +kernel
theorem dX12_parts_3 : decode cX12_parts 3 = .ok (.iload 4, 2) := by decide +kernel
theorem dX12_parts_5 : decode cX12_parts 5 = .ok (.aload_n 0, 1) := by decide +kernel
theorem dX12_parts_6 : decode cX12_parts 6 = .ok (.getfield 30, 3) := by decide +kernel
theorem dX12_parts_9 : decode cX12_parts 9 = .ok (.if_icmp .ge 110, 3) := by decide +kernel
theorem dX12_parts_12 : decode cX12_parts 12 = .ok (.iconst 0, 1) := by decide +kernel
theorem dX12_parts_13 : decode cX12_parts 13 = .ok (.istore 5, 2) := by decide +kernel
theorem dX12_parts_15 : decode cX12_parts 15 = .ok (.iload 5, 2) := by decide +kernel
theorem dX12_parts_17 : decode cX12_parts 17 = .ok (.aload_n 0, 1) := by decide +kernel
theorem dX12_parts_18 : decode cX12_parts 18 = .ok (.getfield 101, 3) := by decide +kernel
theorem dX12_parts_21 : decode cX12_parts 21 = .ok (.iload_n 1, 1) := by decide +kernel
theorem dX12_parts_22 : decode cX12_parts 22 = .ok (.iaload, 1) := by decide +kernel
theorem dX12_parts_23 : decode cX12_parts 23 = .ok (.if_icmp .ge 90, 3) := by decide +kernel
theorem dX12_parts_26 : decode cX12_parts 26 = .ok (.aload_n 0, 1) := by decide +kernel
theorem dX12_parts_27 : decode cX12_parts 27 = .ok (.iload_n 1, 1) := by decide +kernel
theorem dX12_parts_28 : decode cX12_parts 28 = .ok (.iload 5, 2) := by decide +kernel
theorem dX12_parts_30 : decode cX12_parts 30 = .ok (.invokevirtual 198, 3) := by decide +kernel
theorem dX12_parts_33 : decode cX12_parts 33 = .ok (.lstore 6, 2) := by decide +kernel
theorem dX12_parts_35 : decode cX12_parts 35 = .ok (.aload_n 0, 1) := by decide +kernel
theorem dX12_parts_36 : decode cX12_parts 36 = .ok (.iconst 0, 1) := by decide +kernel
theorem dX12_parts_37 : decode cX12_parts 37 = .ok (.aload_n 0, 1) := by decide +kernel
theorem dX12_parts_38 : decode cX12_parts 38 = .ok (.iconst 0, 1) := by decide +kernel
theorem dX12_parts_39 : decode cX12_parts 39 = .ok (.aload_n 0, 1) := by decide +kernel
theorem dX12_parts_40 : decode cX12_parts 40 = .ok (.iconst 0, 1) := by decide +kernel
theorem dX12_parts_41 : decode cX12_parts 41 = .ok (.iload_n 2, 1) := by decide +kernel
theorem dX12_parts_42 : decode cX12_parts 42 = .ok (.iload 4, 2) := by decide +kernel
theorem dX12_parts_44 : decode cX12_parts 44 = .ok (.invokevirtual 43, 3) := by decide +kernel
theorem dX12_parts_47 : decode cX12_parts 47 = .ok (.lload 6, 2) := by decide +kernel
theorem dX12_parts_49 : decode cX12_parts 49 = .ok (.invokevirtual 47, 3) := by decide +kernel
theorem dX12_parts_52 : decode cX12_parts 52 = .ok (.invokevirtual 51, 3) := by decide +kernel
theorem dX12_parts_55 : decode cX12_parts 55 = .ok (.aload_n 0, 1) := by decide +kernel
theorem dX12_parts_56 : decode cX12_parts 56 = .ok (.iconst 0, 1) := by decide +kernel
theorem dX12_parts_57 : decode cX12_parts 57 = .ok (.aload_n 0, 1) := by decide +kernel
theorem dX12_parts_58 : decode cX12_parts 58 = .ok (.iconst 0, 1) := by decide +kernel
theorem dX12_parts_59 : decode cX12_parts 59 = .ok (.aload_n 0, 1) := by decide +kernel
theorem dX12_parts_60 : decode cX12_parts 60 = .ok (.iconst 0, 1) := by decide +kernel
theorem dX12_parts_61 : decode cX12_parts 61 = .ok (.iload_n 3, 1) := by decide +kernel
theorem dX12_parts_62 : decode cX12_parts 62 = .ok (.iload 4, 2) := by decide +kernel
theorem dX12_parts_64 : decode cX12_parts 64 = .ok (.invokevirtual 43, 3) := by decide +kernel
theorem dX12_parts_67 : decode cX12_parts 67 = .ok (.lload 6, 2) := by decide +kernel
theorem dX12_parts_69 : decode cX12_parts 69 = .ok (.invokevirtual 47, 3) := by decide +kernel
theorem dX12_parts_72 : decode cX12_parts 72 = .ok (.invokevirtual 51, 3) := by decide +kernel
theorem dX12_parts_75 : decode cX12_parts 75 = .ok (.if_icmp .ne 6, 3) := by decide +kernel
theorem dX12_parts_78 : decode cX12_parts 78 = .ok (.goto 29, 3) := by decide +kernel
theorem dX12_parts_81 : decode cX12_parts 81 = .ok (.aload_n 0, 1) := by decide +kernel
theorem dX12_parts_82 : decode cX12_parts 82 = .ok (.lconst 1, 1) := by decide +kernel
theorem dX12_parts_83 : decode cX12_parts 83 = .ok (.iload 4, 2) := by decide +kernel
theorem dX12_parts_85 : decode cX12_parts 85 = .ok (.invokestatic 80, 3) := by decide +kernel
theorem dX12_parts_88 : decode cX12_parts 88 = .ok (.lload 6, 2) := by decide +kernel
theorem dX12_parts_90 : decode cX12_parts 90 = .ok (.invokestatic 61, 3) := by decide +kernel
theorem dX12_parts_93 : decode cX12_parts 93 = .ok (.putfield 212, 3) := by decide +kernel
theorem dX12_parts_96 : decode cX12_parts 96 = .ok (.aload_n 0, 1) := by decide +kernel
theorem dX12_parts_97 : decode cX12_parts 97 = .ok (.iload_n 1, 1) := by decide +kernel
theorem dX12_parts_98 : decode cX12_parts 98 = .ok (.aload_n 0, 1) := by decide +kernel
theorem dX12_parts_99 : decode cX12_parts 99 = .ok (.getfield 212, 3) := by decide +kernel
theorem dX12_parts_102 : decode cX12_parts 102 = .ok (.invokevirtual 192, 3) := by decide +kernel
theorem dX12_parts_105 : decode cX12_parts 105 = .ok (.iconst 1, 1) := by decide +kernel
theorem dX12_parts_106 : decode cX12_parts 106 = .ok (.ireturn, 1) := by decide +kernel
theorem dX12_parts_107 : decode cX12_parts 107 = .ok (.iinc 5 1, 3) := by decide +kernel
theorem dX12_parts_110 : decode cX12_parts 110 = .ok (.goto (-95), 3) := by decide +kernel
theorem dX12_parts_113 : decode cX12_parts 113 = .ok (.iinc 4 1, 3) := by decide +kernel
theorem dX12_parts_116 : decode cX12_parts 116 = .ok (.goto (-113), 3) := by decide +kernel
theorem dX12_parts_119 : decode cX12_parts 119 = .ok (.iconst 0, 1) := by decide +kernel
theorem dX12_parts_120 : decode cX12_parts 120 = .ok (.ireturn, 1) := by decide +kernel
theorem dX12_agrees_0 : decode cX12_agrees 0 = .ok (.iconst 0, 1) := by decide +kernel
theorem dX12_agrees_1 : decode cX12_agrees 1 = .ok (.istore_n 2, 1) := by decide +kernel
theorem dX12_agrees_2 : decode cX12_agrees 2 = .ok (.iload_n 2, 1) := by decide +kernel
theorem dX12_agrees_3 : decode cX12_agrees 3 = .ok (.aload_n 0, 1) := by decide +kernel
theorem dX12_agrees_4 : decode cX12_agrees 4 = .ok (.getfield 98, 3) := by decide +kernel
theorem dX12_agrees_7 : decode cX12_agrees 7 = .ok (.iload_n 1, 1) := by decide +kernel
theorem dX12_agrees_8 : decode cX12_agrees 8 = .ok (.iaload, 1) := by decide +kernel
theorem dX12_agrees_9 : decode cX12_agrees 9 = .ok (.if_icmp .ge 90, 3) := by decide +kernel
theorem dX12_agrees_12 : decode cX12_agrees 12 = .ok (.iload_n 2, 1) := by decide +kernel
theorem dX12_agrees_13 : decode cX12_agrees 13 = .ok (.iconst 1, 1) := by decide +kernel
theorem dX12_agrees_14 : decode cX12_agrees 14 = .ok (.iadd, 1) := by decide +kernel
theorem dX12_agrees_15 : decode cX12_agrees 15 = .ok (.istore_n 3, 1) := by decide +kernel
theorem dX12_agrees_16 : decode cX12_agrees 16 = .ok (.iload_n 3, 1) := by decide +kernel
theorem dX12_agrees_17 : decode cX12_agrees 17 = .ok (.aload_n 0, 1) := by decide +kernel
theorem dX12_agrees_18 : decode cX12_agrees 18 = .ok (.getfield 98, 3) := by decide +kernel
theorem dX12_agrees_21 : decode cX12_agrees 21 = .ok (.iload_n 1, 1) := by decide +kernel
theorem dX12_agrees_22 : decode cX12_agrees 22 = .ok (.iaload, 1) := by decide +kernel
theorem dX12_agrees_23 : decode cX12_agrees 23 = .ok (.if_icmp .ge 70, 3) := by decide +kernel
theorem dX12_agrees_26 : decode cX12_agrees 26 = .ok (.aload_n 0, 1) := by decide +kernel
theorem dX12_agrees_27 : decode cX12_agrees 27 = .ok (.getfield 107, 3) := by decide +kernel
theorem dX12_agrees_30 : decode cX12_agrees 30 = .ok (.sipush 160, 3) := by decide +kernel
theorem dX12_agrees_33 : decode cX12_agrees 33 = .ok (.iload_n 1, 1) := by decide +kernel
theorem dX12_agrees_34 : decode cX12_agrees 34 = .ok (.imul, 1) := by decide +kernel
theorem dX12_agrees_35 : decode cX12_agrees 35 = .ok (.iload_n 2, 1) := by decide +kernel
theorem dX12_agrees_36 : decode cX12_agrees 36 = .ok (.iadd, 1) := by decide +kernel
theorem dX12_agrees_37 : decode cX12_agrees 37 = .ok (.iaload, 1) := by decide +kernel
theorem dX12_agrees_38 : decode cX12_agrees 38 = .ok (.istore 4, 2) := by decide +kernel
theorem dX12_agrees_40 : decode cX12_agrees 40 = .ok (.aload_n 0, 1) := by decide +kernel
theorem dX12_agrees_41 : decode cX12_agrees 41 = .ok (.getfield 107, 3) := by decide +kernel
theorem dX12_agrees_44 : decode cX12_agrees 44 = .ok (.sipush 160, 3) := by decide +kernel
theorem dX12_agrees_47 : decode cX12_agrees 47 = .ok (.iload_n 1, 1) := by decide +kernel
theorem dX12_agrees_48 : decode cX12_agrees 48 = .ok (.imul, 1) := by decide +kernel
theorem dX12_agrees_49 : decode cX12_agrees 49 = .ok (.iload_n 3, 1) := by decide +kernel
theorem dX12_agrees_50 : decode cX12_agrees 50 = .ok (.iadd, 1) := by decide +kernel
theorem dX12_agrees_51 : decode cX12_agrees 51 = .ok (.iaload, 1) := by decide +kernel
theorem dX12_agrees_52 : decode cX12_agrees 52 = .ok (.istore 5, 2) := by decide +kernel
theorem dX12_agrees_54 : decode cX12_agrees 54 = .ok (.iload 4, 2) := by decide +kernel
theorem dX12_agrees_56 : decode cX12_agrees 56 = .ok (.iload 5, 2) := by decide +kernel
theorem dX12_agrees_58 : decode cX12_agrees 58 = .ok (.if_icmp .eq 29, 3) := by decide +kernel
theorem dX12_agrees_61 : decode cX12_agrees 61 = .ok (.aload_n 0, 1) := by decide +kernel
theorem dX12_agrees_62 : decode cX12_agrees 62 = .ok (.iload_n 1, 1) := by decide +kernel
theorem dX12_agrees_63 : decode cX12_agrees 63 = .ok (.iload 4, 2) := by decide +kernel
theorem dX12_agrees_65 : decode cX12_agrees 65 = .ok (.iload 5, 2) := by decide +kernel
theorem dX12_agrees_67 : decode cX12_agrees 67 = .ok (.invokevirtual 202, 3) := by decide +kernel
theorem dX12_agrees_70 : decode cX12_agrees 70 = .ok (.ifCond .eq 17, 3) := by decide +kernel
theorem dX12_agrees_73 : decode cX12_agrees 73 = .ok (.aload_n 0, 1) := by decide +kernel
theorem dX12_agrees_74 : decode cX12_agrees 74 = .ok (.iload_n 1, 1) := by decide +kernel
theorem dX12_agrees_75 : decode cX12_agrees 75 = .ok (.iload 4, 2) := by decide +kernel
theorem dX12_agrees_77 : decode cX12_agrees 77 = .ok (.iload 5, 2) := by decide +kernel
theorem dX12_agrees_79 : decode cX12_agrees 79 = .ok (.invokevirtual 216, 3) := by decide +kernel
theorem dX12_agrees_82 : decode cX12_agrees 82 = .ok (.ifCond .eq 5, 3) := by decide +kernel
theorem dX12_agrees_85 : decode cX12_agrees 85 = .ok (.iconst 1, 1) := by decide +kernel
theorem dX12_agrees_86 : decode cX12_agrees 86 = .ok (.ireturn, 1) := by decide +kernel
theorem dX12_agrees_87 : decode cX12_agrees 87 = .ok (.iinc 3 1, 3) := by decide +kernel
theorem dX12_agrees_90 : decode cX12_agrees 90 = .ok (.goto (-74), 3) := by decide +kernel
theorem dX12_agrees_93 : decode cX12_agrees 93 = .ok (.iinc 2 1, 3) := by decide +kernel
theorem dX12_agrees_96 : decode cX12_agrees 96 = .ok (.goto (-94), 3) := by decide +kernel
theorem dX12_agrees_99 : decode cX12_agrees 99 = .ok (.iconst 0, 1) := by decide +kernel
theorem dX12_agrees_100 : decode cX12_agrees 100 = .ok (.ireturn, 1) := by decide +kernel
theorem dX12_stateOfHead_0 : decode cX12_stateOfHead 0 = .ok (.iconst 0, 1) := by decide +kernel
theorem dX12_stateOfHead_1 : decode cX12_stateOfHead 1 = .ok (.istore_n 3, 1) := by decide +kernel
theorem dX12_stateOfHead_2 : decode cX12_stateOfHead 2 = .ok (.iconst 0, 1) := by decide +kernel
theorem dX12_stateOfHead_3 : decode cX12_stateOfHead 3 = .ok (.istore 4, 2) := by decide +kernel
theorem dX12_stateOfHead_5 : decode cX12_stateOfHead 5 = .ok (.iload 4, 2) := by decide +kernel
theorem dX12_stateOfHead_7 : decode cX12_stateOfHead 7 = .ok (.aload_n 0, 1) := by decide +kernel
theorem dX12_stateOfHead_8 : decode cX12_stateOfHead 8 = .ok (.getfield 21, 3) := by decide +kernel
theorem dX12_stateOfHead_11 : decode cX12_stateOfHead 11 = .ok (.iconst 1, 1) := by decide +kernel
theorem dX12_stateOfHead_12 : decode cX12_stateOfHead 12 = .ok (.iload_n 1, 1) := by decide +kernel
theorem dX12_stateOfHead_13 : decode cX12_stateOfHead 13 = .ok (.iadd, 1) := by decide +kernel
theorem dX12_stateOfHead_14 : decode cX12_stateOfHead 14 = .ok (.iaload, 1) := by decide +kernel
theorem dX12_stateOfHead_15 : decode cX12_stateOfHead 15 = .ok (.if_icmp .ge 38, 3) := by decide +kernel
theorem dX12_stateOfHead_18 : decode cX12_stateOfHead 18 = .ok (.aload_n 0, 1) := by decide +kernel
theorem dX12_stateOfHead_19 : decode cX12_stateOfHead 19 = .ok (.getfield 130, 3) := by decide +kernel
theorem dX12_stateOfHead_22 : decode cX12_stateOfHead 22 = .ok (.bipush 8, 2) := by decide +kernel
theorem dX12_stateOfHead_24 : decode cX12_stateOfHead 24 = .ok (.iload_n 1, 1) := by decide +kernel
theorem dX12_stateOfHead_25 : decode cX12_stateOfHead 25 = .ok (.imul, 1) := by decide +kernel
theorem dX12_stateOfHead_26 : decode cX12_stateOfHead 26 = .ok (.iload 4, 2) := by decide +kernel
theorem dX12_stateOfHead_28 : decode cX12_stateOfHead 28 = .ok (.iadd, 1) := by decide +kernel
theorem dX12_stateOfHead_29 : decode cX12_stateOfHead 29 = .ok (.laload, 1) := by decide +kernel
theorem dX12_stateOfHead_30 : decode cX12_stateOfHead 30 = .ok (.aload_n 0, 1) := by decide +kernel
theorem dX12_stateOfHead_31 : decode cX12_stateOfHead 31 = .ok (.iload_n 1, 1) := by decide +kernel
theorem dX12_stateOfHead_32 : decode cX12_stateOfHead 32 = .ok (.iload_n 2, 1) := by decide +kernel
theorem dX12_stateOfHead_33 : decode cX12_stateOfHead 33 = .ok (.invokevirtual 206, 3) := by decide +kernel
theorem dX12_stateOfHead_36 : decode cX12_stateOfHead 36 = .ok (.lcmp, 1) := by decide +kernel
theorem dX12_stateOfHead_37 : decode cX12_stateOfHead 37 = .ok (.ifCond .ne 8, 3) := by decide +kernel
theorem dX12_stateOfHead_40 : decode cX12_stateOfHead 40 = .ok (.iload 4, 2) := by decide +kernel
theorem dX12_stateOfHead_42 : decode cX12_stateOfHead 42 = .ok (.goto 4, 3) := by decide +kernel
theorem dX12_stateOfHead_45 : decode cX12_stateOfHead 45 = .ok (.iload_n 3, 1) := by decide +kernel
theorem dX12_stateOfHead_46 : decode cX12_stateOfHead 46 = .ok (.istore_n 3, 1) := by decide +kernel
theorem dX12_stateOfHead_47 : decode cX12_stateOfHead 47 = .ok (.iinc 4 1, 3) := by decide +kernel
theorem dX12_stateOfHead_50 : decode cX12_stateOfHead 50 = .ok (.goto (-45), 3) := by decide +kernel
theorem dX12_stateOfHead_53 : decode cX12_stateOfHead 53 = .ok (.iload_n 3, 1) := by decide +kernel
theorem dX12_stateOfHead_54 : decode cX12_stateOfHead 54 = .ok (.ireturn, 1) := by decide +kernel
theorem dX12_guessesByTable_0 : decode cX12_guessesByTable 0 = .ok (.iconst 1, 1) := by decide +kernel
theorem dX12_guessesByTable_1 : decode cX12_guessesByTable 1 = .ok (.iload_n 1, 1) := by decide +kernel
theorem dX12_guessesByTable_2 : decode cX12_guessesByTable 2 = .ok (.iadd, 1) := by decide +kernel
theorem dX12_guessesByTable_3 : decode cX12_guessesByTable 3 = .ok (.istore_n 2, 1) := by decide +kernel
theorem dX12_guessesByTable_4 : decode cX12_guessesByTable 4 = .ok (.aload_n 0, 1) := by decide +kernel
theorem dX12_guessesByTable_5 : decode cX12_guessesByTable 5 = .ok (.getfield 21, 3) := by decide +kernel
theorem dX12_guessesByTable_8 : decode cX12_guessesByTable 8 = .ok (.iload_n 2, 1) := by decide +kernel
theorem dX12_guessesByTable_9 : decode cX12_guessesByTable 9 = .ok (.iconst 0, 1) := by decide +kernel
theorem dX12_guessesByTable_10 : decode cX12_guessesByTable 10 = .ok (.iastore, 1) := by decide +kernel
theorem dX12_guessesByTable_11 : decode cX12_guessesByTable 11 = .ok (.iconst 0, 1) := by decide +kernel
theorem dX12_guessesByTable_12 : decode cX12_guessesByTable 12 = .ok (.istore_n 3, 1) := by decide +kernel
theorem dX12_guessesByTable_13 : decode cX12_guessesByTable 13 = .ok (.iload_n 3, 1) := by decide +kernel
theorem dX12_guessesByTable_14 : decode cX12_guessesByTable 14 = .ok (.aload_n 0, 1) := by decide +kernel
theorem dX12_guessesByTable_15 : decode cX12_guessesByTable 15 = .ok (.getfield 98, 3) := by decide +kernel
theorem dX12_guessesByTable_18 : decode cX12_guessesByTable 18 = .ok (.iload_n 1, 1) := by decide +kernel
theorem dX12_guessesByTable_19 : decode cX12_guessesByTable 19 = .ok (.iaload, 1) := by decide +kernel
theorem dX12_guessesByTable_20 : decode cX12_guessesByTable 20 = .ok (.if_icmp .ge 98, 3) := by decide +kernel
theorem dX12_guessesByTable_23 : decode cX12_guessesByTable 23 = .ok (.aload_n 0, 1) := by decide +kernel
theorem dX12_guessesByTable_24 : decode cX12_guessesByTable 24 = .ok (.iload_n 1, 1) := by decide +kernel
theorem dX12_guessesByTable_25 : decode cX12_guessesByTable 25 = .ok (.aload_n 0, 1) := by decide +kernel
theorem dX12_guessesByTable_26 : decode cX12_guessesByTable 26 = .ok (.getfield 107, 3) := by decide +kernel
theorem dX12_guessesByTable_29 : decode cX12_guessesByTable 29 = .ok (.sipush 160, 3) := by decide +kernel
theorem dX12_guessesByTable_32 : decode cX12_guessesByTable 32 = .ok (.iload_n 1, 1) := by decide +kernel
theorem dX12_guessesByTable_33 : decode cX12_guessesByTable 33 = .ok (.imul, 1) := by decide +kernel
theorem dX12_guessesByTable_34 : decode cX12_guessesByTable 34 = .ok (.iload_n 3, 1) := by decide +kernel
theorem dX12_guessesByTable_35 : decode cX12_guessesByTable 35 = .ok (.iadd, 1) := by decide +kernel
theorem dX12_guessesByTable_36 : decode cX12_guessesByTable 36 = .ok (.iaload, 1) := by decide +kernel
theorem dX12_guessesByTable_37 : decode cX12_guessesByTable 37 = .ok (.invokevirtual 209, 3) := by decide +kernel
theorem dX12_guessesByTable_40 : decode cX12_guessesByTable 40 = .ok (.iload_n 3, 1) := by decide +kernel
theorem dX12_guessesByTable_41 : decode cX12_guessesByTable 41 = .ok (.if_icmp .eq 6, 3) := by decide +kernel
theorem dX12_guessesByTable_44 : decode cX12_guessesByTable 44 = .ok (.goto 68, 3) := by decide +kernel
theorem dX12_guessesByTable_47 : decode cX12_guessesByTable 47 = .ok (.aload_n 0, 1) := by decide +kernel
theorem dX12_guessesByTable_48 : decode cX12_guessesByTable 48 = .ok (.getfield 130, 3) := by decide +kernel
theorem dX12_guessesByTable_51 : decode cX12_guessesByTable 51 = .ok (.bipush 8, 2) := by decide +kernel
theorem dX12_guessesByTable_53 : decode cX12_guessesByTable 53 = .ok (.iload_n 1, 1) := by decide +kernel
theorem dX12_guessesByTable_54 : decode cX12_guessesByTable 54 = .ok (.imul, 1) := by decide +kernel
theorem dX12_guessesByTable_55 : decode cX12_guessesByTable 55 = .ok (.aload_n 0, 1) := by decide +kernel
theorem dX12_guessesByTable_56 : decode cX12_guessesByTable 56 = .ok (.getfield 21, 3) := by decide +kernel
theorem dX12_guessesByTable_59 : decode cX12_guessesByTable 59 = .ok (.iload_n 2, 1) := by decide +kernel
theorem dX12_guessesByTable_60 : decode cX12_guessesByTable 60 = .ok (.iaload, 1) := by decide +kernel
theorem dX12_guessesByTable_61 : decode cX12_guessesByTable 61 = .ok (.iadd, 1) := by decide +kernel
theorem dX12_guessesByTable_62 : decode cX12_guessesByTable 62 = .ok (.aload_n 0, 1) := by decide +kernel
theorem dX12_guessesByTable_63 : decode cX12_guessesByTable 63 = .ok (.iload_n 1, 1) := by decide +kernel
theorem dX12_guessesByTable_64 : decode cX12_guessesByTable 64 = .ok (.iload_n 3, 1) := by decide +kernel
theorem dX12_guessesByTable_65 : decode cX12_guessesByTable 65 = .ok (.invokevirtual 206, 3) := by decide +kernel
theorem dX12_guessesByTable_68 : decode cX12_guessesByTable 68 = .ok (.lastore, 1) := by decide +kernel
theorem dX12_guessesByTable_69 : decode cX12_guessesByTable 69 = .ok (.aload_n 0, 1) := by decide +kernel
theorem dX12_guessesByTable_70 : decode cX12_guessesByTable 70 = .ok (.getfield 14, 3) := by decide +kernel
theorem dX12_guessesByTable_73 : decode cX12_guessesByTable 73 = .ok (.bipush 8, 2) := by decide +kernel
theorem dX12_guessesByTable_75 : decode cX12_guessesByTable 75 = .ok (.iload_n 2, 1) := by decide +kernel
theorem dX12_guessesByTable_76 : decode cX12_guessesByTable 76 = .ok (.imul, 1) := by decide +kernel
theorem dX12_guessesByTable_77 : decode cX12_guessesByTable 77 = .ok (.aload_n 0, 1) := by decide +kernel
theorem dX12_guessesByTable_78 : decode cX12_guessesByTable 78 = .ok (.getfield 21, 3) := by decide +kernel
theorem dX12_guessesByTable_81 : decode cX12_guessesByTable 81 = .ok (.iload_n 2, 1) := by decide +kernel
theorem dX12_guessesByTable_82 : decode cX12_guessesByTable 82 = .ok (.iaload, 1) := by decide +kernel
theorem dX12_guessesByTable_83 : decode cX12_guessesByTable 83 = .ok (.iadd, 1) := by decide +kernel
theorem dX12_guessesByTable_84 : decode cX12_guessesByTable 84 = .ok (.aload_n 0, 1) := by decide +kernel
theorem dX12_guessesByTable_85 : decode cX12_guessesByTable 85 = .ok (.iconst 0, 1) := by decide +kernel
theorem dX12_guessesByTable_86 : decode cX12_guessesByTable 86 = .ok (.aload_n 0, 1) := by decide +kernel
theorem dX12_guessesByTable_87 : decode cX12_guessesByTable 87 = .ok (.getfield 107, 3) := by decide +kernel
theorem dX12_guessesByTable_90 : decode cX12_guessesByTable 90 = .ok (.sipush 160, 3) := by decide +kernel
theorem dX12_guessesByTable_93 : decode cX12_guessesByTable 93 = .ok (.iload_n 1, 1) := by decide +kernel
theorem dX12_guessesByTable_94 : decode cX12_guessesByTable 94 = .ok (.imul, 1) := by decide +kernel
theorem dX12_guessesByTable_95 : decode cX12_guessesByTable 95 = .ok (.iload_n 3, 1) := by decide +kernel
theorem dX12_guessesByTable_96 : decode cX12_guessesByTable 96 = .ok (.iadd, 1) := by decide +kernel
theorem dX12_guessesByTable_97 : decode cX12_guessesByTable 97 = .ok (.iaload, 1) := by decide +kernel
theorem dX12_guessesByTable_98 : decode cX12_guessesByTable 98 = .ok (.invokevirtual 51, 3) := by decide +kernel
theorem dX12_guessesByTable_101 : decode cX12_guessesByTable 101 = .ok (.iastore, 1) := by decide +kernel
theorem dX12_guessesByTable_102 : decode cX12_guessesByTable 102 = .ok (.aload_n 0, 1) := by decide +kernel
theorem dX12_guessesByTable_103 : decode cX12_guessesByTable 103 = .ok (.getfield 21, 3) := by decide +kernel
theorem dX12_guessesByTable_106 : decode cX12_guessesByTable 106 = .ok (.iload_n 2, 1) := by decide +kernel
theorem dX12_guessesByTable_107 : decode cX12_guessesByTable 107 = .ok (.dup2, 1) := by decide +kernel
theorem dX12_guessesByTable_108 : decode cX12_guessesByTable 108 = .ok (.iaload, 1) := by decide +kernel
theorem dX12_guessesByTable_109 : decode cX12_guessesByTable 109 = .ok (.iconst 1, 1) := by decide +kernel
theorem dX12_guessesByTable_110 : decode cX12_guessesByTable 110 = .ok (.iadd, 1) := by decide +kernel
theorem dX12_guessesByTable_111 : decode cX12_guessesByTable 111 = .ok (.iastore, 1) := by decide +kernel
theorem dX12_guessesByTable_112 : decode cX12_guessesByTable 112 = .ok (.iinc 3 1, 3) := by decide +kernel
theorem dX12_guessesByTable_115 : decode cX12_guessesByTable 115 = .ok (.goto (-102), 3) := by decide +kernel
theorem dX12_guessesByTable_118 : decode cX12_guessesByTable 118 = .ok (.iconst 0, 1) := by decide +kernel
theorem dX12_guessesByTable_119 : decode cX12_guessesByTable 119 = .ok (.istore_n 3, 1) := by decide +kernel
theorem dX12_guessesByTable_120 : decode cX12_guessesByTable 120 = .ok (.iload_n 3, 1) := by decide +kernel
theorem dX12_guessesByTable_121 : decode cX12_guessesByTable 121 = .ok (.aload_n 0, 1) := by decide +kernel
theorem dX12_guessesByTable_122 : decode cX12_guessesByTable 122 = .ok (.getfield 21, 3) := by decide +kernel
theorem dX12_guessesByTable_125 : decode cX12_guessesByTable 125 = .ok (.iload_n 2, 1) := by decide +kernel
theorem dX12_guessesByTable_126 : decode cX12_guessesByTable 126 = .ok (.iaload, 1) := by decide +kernel
theorem dX12_guessesByTable_127 : decode cX12_guessesByTable 127 = .ok (.if_icmp .ge 81, 3) := by decide +kernel
theorem dX12_guessesByTable_130 : decode cX12_guessesByTable 130 = .ok (.aload_n 0, 1) := by decide +kernel
theorem dX12_guessesByTable_131 : decode cX12_guessesByTable 131 = .ok (.iconst 0, 1) := by decide +kernel
theorem dX12_guessesByTable_132 : decode cX12_guessesByTable 132 = .ok (.iconst 0, 1) := by decide +kernel
theorem dX12_guessesByTable_133 : decode cX12_guessesByTable 133 = .ok (.aload_n 0, 1) := by decide +kernel
theorem dX12_guessesByTable_134 : decode cX12_guessesByTable 134 = .ok (.getfield 130, 3) := by decide +kernel
theorem dX12_guessesByTable_137 : decode cX12_guessesByTable 137 = .ok (.bipush 8, 2) := by decide +kernel
theorem dX12_guessesByTable_139 : decode cX12_guessesByTable 139 = .ok (.iload_n 1, 1) := by decide +kernel
theorem dX12_guessesByTable_140 : decode cX12_guessesByTable 140 = .ok (.imul, 1) := by decide +kernel
theorem dX12_guessesByTable_141 : decode cX12_guessesByTable 141 = .ok (.iload_n 3, 1) := by decide +kernel
theorem dX12_guessesByTable_142 : decode cX12_guessesByTable 142 = .ok (.iadd, 1) := by decide +kernel
theorem dX12_guessesByTable_143 : decode cX12_guessesByTable 143 = .ok (.laload, 1) := by decide +kernel
theorem dX12_guessesByTable_144 : decode cX12_guessesByTable 144 = .ok (.invokevirtual 47, 3) := by decide +kernel
theorem dX12_guessesByTable_147 : decode cX12_guessesByTable 147 = .ok (.istore 4, 2) := by decide +kernel
theorem dX12_guessesByTable_149 : decode cX12_guessesByTable 149 = .ok (.iconst 0, 1) := by decide +kernel
theorem dX12_guessesByTable_150 : decode cX12_guessesByTable 150 = .ok (.istore 5, 2) := by decide +kernel
theorem dX12_guessesByTable_152 : decode cX12_guessesByTable 152 = .ok (.iload 5, 2) := by decide +kernel
theorem dX12_guessesByTable_154 : decode cX12_guessesByTable 154 = .ok (.aload_n 0, 1) := by decide +kernel
theorem dX12_guessesByTable_155 : decode cX12_guessesByTable 155 = .ok (.getfield 30, 3) := by decide +kernel
theorem dX12_guessesByTable_158 : decode cX12_guessesByTable 158 = .ok (.if_icmp .ge 44, 3) := by decide +kernel
theorem dX12_guessesByTable_161 : decode cX12_guessesByTable 161 = .ok (.aload_n 0, 1) := by decide +kernel
theorem dX12_guessesByTable_162 : decode cX12_guessesByTable 162 = .ok (.getfield 18, 3) := by decide +kernel
theorem dX12_guessesByTable_165 : decode cX12_guessesByTable 165 = .ok (.iconst 3, 1) := by decide +kernel
theorem dX12_guessesByTable_166 : decode cX12_guessesByTable 166 = .ok (.bipush 8, 2) := by decide +kernel
theorem dX12_guessesByTable_168 : decode cX12_guessesByTable 168 = .ok (.iload_n 2, 1) := by decide +kernel
theorem dX12_guessesByTable_169 : decode cX12_guessesByTable 169 = .ok (.imul, 1) := by decide +kernel
theorem dX12_guessesByTable_170 : decode cX12_guessesByTable 170 = .ok (.iload_n 3, 1) := by decide +kernel
theorem dX12_guessesByTable_171 : decode cX12_guessesByTable 171 = .ok (.iadd, 1) := by decide +kernel
theorem dX12_guessesByTable_172 : decode cX12_guessesByTable 172 = .ok (.imul, 1) := by decide +kernel
theorem dX12_guessesByTable_173 : decode cX12_guessesByTable 173 = .ok (.iload 5, 2) := by decide +kernel
theorem dX12_guessesByTable_175 : decode cX12_guessesByTable 175 = .ok (.iadd, 1) := by decide +kernel
theorem dX12_guessesByTable_176 : decode cX12_guessesByTable 176 = .ok (.aload_n 0, 1) := by decide +kernel
theorem dX12_guessesByTable_177 : decode cX12_guessesByTable 177 = .ok (.iload_n 1, 1) := by decide +kernel
theorem dX12_guessesByTable_178 : decode cX12_guessesByTable 178 = .ok (.aload_n 0, 1) := by decide +kernel
theorem dX12_guessesByTable_179 : decode cX12_guessesByTable 179 = .ok (.iload_n 1, 1) := by decide +kernel
theorem dX12_guessesByTable_180 : decode cX12_guessesByTable 180 = .ok (.aload_n 0, 1) := by decide +kernel
theorem dX12_guessesByTable_181 : decode cX12_guessesByTable 181 = .ok (.iconst 0, 1) := by decide +kernel
theorem dX12_guessesByTable_182 : decode cX12_guessesByTable 182 = .ok (.iload 4, 2) := by decide +kernel
theorem dX12_guessesByTable_184 : decode cX12_guessesByTable 184 = .ok (.iload 5, 2) := by decide +kernel
theorem dX12_guessesByTable_186 : decode cX12_guessesByTable 186 = .ok (.invokevirtual 43, 3) := by decide +kernel
theorem dX12_guessesByTable_189 : decode cX12_guessesByTable 189 = .ok (.invokevirtual 209, 3) := by decide +kernel
theorem dX12_guessesByTable_192 : decode cX12_guessesByTable 192 = .ok (.invokevirtual 219, 3) := by decide +kernel
theorem dX12_guessesByTable_195 : decode cX12_guessesByTable 195 = .ok (.iastore, 1) := by decide +kernel
theorem dX12_guessesByTable_196 : decode cX12_guessesByTable 196 = .ok (.iinc 5 1, 3) := by decide +kernel
theorem dX12_guessesByTable_199 : decode cX12_guessesByTable 199 = .ok (.goto (-47), 3) := by decide +kernel
theorem dX12_guessesByTable_202 : decode cX12_guessesByTable 202 = .ok (.iinc 3 1, 3) := by decide +kernel
theorem dX12_guessesByTable_205 : decode cX12_guessesByTable 205 = .ok (.goto (-85), 3) := by decide +kernel
theorem dX12_guessesByTable_208 : decode cX12_guessesByTable 208 = .ok (.aload_n 0, 1) := by decide +kernel
theorem dX12_guessesByTable_209 : decode cX12_guessesByTable 209 = .ok (.getfield 126, 3) := by decide +kernel
theorem dX12_guessesByTable_212 : decode cX12_guessesByTable 212 = .ok (.iload_n 1, 1) := by decide +kernel
theorem dX12_guessesByTable_213 : decode cX12_guessesByTable 213 = .ok (.iconst 1, 1) := by decide +kernel
theorem dX12_guessesByTable_214 : decode cX12_guessesByTable 214 = .ok (.bastore, 1) := by decide +kernel
theorem dX12_guessesByTable_215 : decode cX12_guessesByTable 215 = .ok (.return_, 1) := by decide +kernel
theorem dX12_sifts_0 : decode cX12_sifts 0 = .ok (.aload_n 0, 1) := by decide +kernel
theorem dX12_sifts_1 : decode cX12_sifts 1 = .ok (.iconst 0, 1) := by decide +kernel
theorem dX12_sifts_2 : decode cX12_sifts 2 = .ok (.putfield 222, 3) := by decide +kernel
theorem dX12_sifts_5 : decode cX12_sifts 5 = .ok (.iconst 0, 1) := by decide +kernel
theorem dX12_sifts_6 : decode cX12_sifts 6 = .ok (.istore 4, 2) := by decide +kernel
theorem dX12_sifts_8 : decode cX12_sifts 8 = .ok (.aload_n 0, 1) := by decide +kernel
theorem dX12_sifts_9 : decode cX12_sifts 9 = .ok (.dup, 1) := by decide +kernel
theorem dX12_sifts_10 : decode cX12_sifts 10 = .ok (.getfield 222, 3) := by decide +kernel
theorem dX12_sifts_13 : decode cX12_sifts 13 = .ok (.iconst 1, 1) := by decide +kernel
theorem dX12_sifts_14 : decode cX12_sifts 14 = .ok (.iadd, 1) := by decide +kernel
theorem dX12_sifts_15 : decode cX12_sifts 15 = .ok (.putfield 222, 3) := by decide +kernel
theorem dX12_sifts_18 : decode cX12_sifts 18 = .ok (.aload_n 0, 1) := by decide +kernel
theorem dX12_sifts_19 : decode cX12_sifts 19 = .ok (.iconst 4, 1) := by decide +kernel
theorem dX12_sifts_20 : decode cX12_sifts 20 = .ok (.sipush 128, 3) := by decide +kernel
theorem dX12_sifts_23 : decode cX12_sifts 23 = .ok (.iload_n 1, 1) := by decide +kernel
theorem dX12_sifts_24 : decode cX12_sifts 24 = .ok (.imul, 1) := by decide +kernel
theorem dX12_sifts_25 : decode cX12_sifts 25 = .ok (.iload 4, 2) := by decide +kernel
theorem dX12_sifts_27 : decode cX12_sifts 27 = .ok (.iadd, 1) := by decide +kernel
theorem dX12_sifts_28 : decode cX12_sifts 28 = .ok (.imul, 1) := by decide +kernel
theorem dX12_sifts_29 : decode cX12_sifts 29 = .ok (.aload_n 0, 1) := by decide +kernel
theorem dX12_sifts_30 : decode cX12_sifts 30 = .ok (.iload_n 1, 1) := by decide +kernel
theorem dX12_sifts_31 : decode cX12_sifts 31 = .ok (.lload_n 2, 1) := by decide +kernel
theorem dX12_sifts_32 : decode cX12_sifts 32 = .ok (.aload_n 0, 1) := by decide +kernel
theorem dX12_sifts_33 : decode cX12_sifts 33 = .ok (.iload_n 1, 1) := by decide +kernel
theorem dX12_sifts_34 : decode cX12_sifts 34 = .ok (.iload 4, 2) := by decide +kernel
theorem dX12_sifts_36 : decode cX12_sifts 36 = .ok (.invokevirtual 198, 3) := by decide +kernel
theorem dX12_sifts_39 : decode cX12_sifts 39 = .ok (.invokestatic 61, 3) := by decide +kernel
theorem dX12_sifts_42 : decode cX12_sifts 42 = .ok (.invokevirtual 195, 3) := by decide +kernel
theorem dX12_sifts_45 : decode cX12_sifts 45 = .ok (.iadd, 1) := by decide +kernel
theorem dX12_sifts_46 : decode cX12_sifts 46 = .ok (.putfield 225, 3) := by decide +kernel
theorem dX12_sifts_49 : decode cX12_sifts 49 = .ok (.aload_n 0, 1) := by decide +kernel
theorem dX12_sifts_50 : decode cX12_sifts 50 = .ok (.getfield 133, 3) := by decide +kernel
theorem dX12_sifts_53 : decode cX12_sifts 53 = .ok (.aload_n 0, 1) := by decide +kernel
theorem dX12_sifts_54 : decode cX12_sifts 54 = .ok (.getfield 225, 3) := by decide +kernel
theorem dX12_sifts_57 : decode cX12_sifts 57 = .ok (.iaload, 1) := by decide +kernel
theorem dX12_sifts_58 : decode cX12_sifts 58 = .ok (.istore 5, 2) := by decide +kernel
theorem dX12_sifts_60 : decode cX12_sifts 60 = .ok (.iload 5, 2) := by decide +kernel
theorem dX12_sifts_62 : decode cX12_sifts 62 = .ok (.bipush 100, 2) := by decide +kernel
theorem dX12_sifts_64 : decode cX12_sifts 64 = .ok (.if_icmp .ge 8, 3) := by decide +kernel
theorem dX12_sifts_67 : decode cX12_sifts 67 = .ok (.iload 5, 2) := by decide +kernel
theorem dX12_sifts_69 : decode cX12_sifts 69 = .ok (.iconst 1, 1) := by decide +kernel
theorem dX12_sifts_70 : decode cX12_sifts 70 = .ok (.isub, 1) := by decide +kernel
theorem dX12_sifts_71 : decode cX12_sifts 71 = .ok (.ireturn, 1) := by decide +kernel
theorem dX12_sifts_72 : decode cX12_sifts 72 = .ok (.iload 5, 2) := by decide +kernel
theorem dX12_sifts_74 : decode cX12_sifts 74 = .ok (.bipush 100, 2) := by decide +kernel
theorem dX12_sifts_76 : decode cX12_sifts 76 = .ok (.isub, 1) := by decide +kernel
theorem dX12_sifts_77 : decode cX12_sifts 77 = .ok (.istore 4, 2) := by decide +kernel
theorem dX12_sifts_79 : decode cX12_sifts 79 = .ok (.goto (-71), 3) := by decide +kernel
theorem dX12_growsLeaf_0 : decode cX12_growsLeaf 0 = .ok (.iconst 0, 1) := by decide +kernel
theorem dX12_growsLeaf_1 : decode cX12_growsLeaf 1 = .ok (.istore_n 2, 1) := by decide +kernel
theorem dX12_growsLeaf_2 : decode cX12_growsLeaf 2 = .ok (.iload_n 2, 1) := by decide +kernel
theorem dX12_growsLeaf_3 : decode cX12_growsLeaf 3 = .ok (.aload_n 0, 1) := by decide +kernel
theorem dX12_growsLeaf_4 : decode cX12_growsLeaf 4 = .ok (.getfield 98, 3) := by decide +kernel
theorem dX12_growsLeaf_7 : decode cX12_growsLeaf 7 = .ok (.iload_n 1, 1) := by decide +kernel
theorem dX12_growsLeaf_8 : decode cX12_growsLeaf 8 = .ok (.iaload, 1) := by decide +kernel
theorem dX12_growsLeaf_9 : decode cX12_growsLeaf 9 = .ok (.if_icmp .ge 83, 3) := by decide +kernel
theorem dX12_growsLeaf_12 : decode cX12_growsLeaf 12 = .ok (.iconst 0, 1) := by decide +kernel
theorem dX12_growsLeaf_13 : decode cX12_growsLeaf 13 = .ok (.istore_n 3, 1) := by decide +kernel
theorem dX12_growsLeaf_14 : decode cX12_growsLeaf 14 = .ok (.iload_n 3, 1) := by decide +kernel
theorem dX12_growsLeaf_15 : decode cX12_growsLeaf 15 = .ok (.aload_n 0, 1) := by decide +kernel
theorem dX12_growsLeaf_16 : decode cX12_growsLeaf 16 = .ok (.getfield 30, 3) := by decide +kernel
theorem dX12_growsLeaf_19 : decode cX12_growsLeaf 19 = .ok (.if_icmp .ge 67, 3) := by decide +kernel
theorem dX12_growsLeaf_22 : decode cX12_growsLeaf 22 = .ok (.aload_n 0, 1) := by decide +kernel
theorem dX12_growsLeaf_23 : decode cX12_growsLeaf 23 = .ok (.iload_n 1, 1) := by decide +kernel
theorem dX12_growsLeaf_24 : decode cX12_growsLeaf 24 = .ok (.iload_n 2, 1) := by decide +kernel
theorem dX12_growsLeaf_25 : decode cX12_growsLeaf 25 = .ok (.invokevirtual 206, 3) := by decide +kernel
theorem dX12_growsLeaf_28 : decode cX12_growsLeaf 28 = .ok (.iload_n 3, 1) := by decide +kernel
theorem dX12_growsLeaf_29 : decode cX12_growsLeaf 29 = .ok (.invokestatic 80, 3) := by decide +kernel
theorem dX12_growsLeaf_32 : decode cX12_growsLeaf 32 = .ok (.lstore 4, 2) := by decide +kernel
theorem dX12_growsLeaf_34 : decode cX12_growsLeaf 34 = .ok (.aload_n 0, 1) := by decide +kernel
theorem dX12_growsLeaf_35 : decode cX12_growsLeaf 35 = .ok (.iload_n 1, 1) := by decide +kernel
theorem dX12_growsLeaf_36 : decode cX12_growsLeaf 36 = .ok (.lload 4, 2) := by decide +kernel
theorem dX12_growsLeaf_38 : decode cX12_growsLeaf 38 = .ok (.invokevirtual 228, 3) := by decide +kernel
theorem dX12_growsLeaf_41 : decode cX12_growsLeaf 41 = .ok (.iconst (-1), 1) := by decide +kernel
theorem dX12_growsLeaf_42 : decode cX12_growsLeaf 42 = .ok (.if_icmp .eq 6, 3) := by decide +kernel
theorem dX12_growsLeaf_45 : decode cX12_growsLeaf 45 = .ok (.goto 35, 3) := by decide +kernel
theorem dX12_growsLeaf_48 : decode cX12_growsLeaf 48 = .ok (.aload_n 0, 1) := by decide +kernel
theorem dX12_growsLeaf_49 : decode cX12_growsLeaf 49 = .ok (.getfield 133, 3) := by decide +kernel
theorem dX12_growsLeaf_52 : decode cX12_growsLeaf 52 = .ok (.aload_n 0, 1) := by decide +kernel
theorem dX12_growsLeaf_53 : decode cX12_growsLeaf 53 = .ok (.getfield 225, 3) := by decide +kernel
theorem dX12_growsLeaf_56 : decode cX12_growsLeaf 56 = .ok (.iconst 1, 1) := by decide +kernel
theorem dX12_growsLeaf_57 : decode cX12_growsLeaf 57 = .ok (.aload_n 0, 1) := by decide +kernel
theorem dX12_growsLeaf_58 : decode cX12_growsLeaf 58 = .ok (.getfield 98, 3) := by decide +kernel
theorem dX12_growsLeaf_61 : decode cX12_growsLeaf 61 = .ok (.iload_n 1, 1) := by decide +kernel
theorem dX12_growsLeaf_62 : decode cX12_growsLeaf 62 = .ok (.iaload, 1) := by decide +kernel
theorem dX12_growsLeaf_63 : decode cX12_growsLeaf 63 = .ok (.iadd, 1) := by decide +kernel
theorem dX12_growsLeaf_64 : decode cX12_growsLeaf 64 = .ok (.iastore, 1) := by decide +kernel
theorem dX12_growsLeaf_65 : decode cX12_growsLeaf 65 = .ok (.aload_n 0, 1) := by decide +kernel
theorem dX12_growsLeaf_66 : decode cX12_growsLeaf 66 = .ok (.iload_n 1, 1) := by decide +kernel
theorem dX12_growsLeaf_67 : decode cX12_growsLeaf 67 = .ok (.lload 4, 2) := by decide +kernel
theorem dX12_growsLeaf_69 : decode cX12_growsLeaf 69 = .ok (.invokevirtual 188, 3) := by decide +kernel
theorem dX12_growsLeaf_72 : decode cX12_growsLeaf 72 = .ok (.aload_n 0, 1) := by decide +kernel
theorem dX12_growsLeaf_73 : decode cX12_growsLeaf 73 = .ok (.lload 4, 2) := by decide +kernel
theorem dX12_growsLeaf_75 : decode cX12_growsLeaf 75 = .ok (.putfield 212, 3) := by decide +kernel
theorem dX12_growsLeaf_78 : decode cX12_growsLeaf 78 = .ok (.iconst 1, 1) := by decide +kernel
theorem dX12_growsLeaf_79 : decode cX12_growsLeaf 79 = .ok (.ireturn, 1) := by decide +kernel
theorem dX12_growsLeaf_80 : decode cX12_growsLeaf 80 = .ok (.iinc 3 1, 3) := by decide +kernel
theorem dX12_growsLeaf_83 : decode cX12_growsLeaf 83 = .ok (.goto (-69), 3) := by decide +kernel
theorem dX12_growsLeaf_86 : decode cX12_growsLeaf 86 = .ok (.iinc 2 1, 3) := by decide +kernel
theorem dX12_growsLeaf_89 : decode cX12_growsLeaf 89 = .ok (.goto (-87), 3) := by decide +kernel
theorem dX12_growsLeaf_92 : decode cX12_growsLeaf 92 = .ok (.iconst 0, 1) := by decide +kernel
theorem dX12_growsLeaf_93 : decode cX12_growsLeaf 93 = .ok (.ireturn, 1) := by decide +kernel
theorem dX12_guessesByTree_0 : decode cX12_guessesByTree 0 = .ok (.iconst 1, 1) := by decide +kernel
theorem dX12_guessesByTree_1 : decode cX12_guessesByTree 1 = .ok (.iload_n 1, 1) := by decide +kernel
theorem dX12_guessesByTree_2 : decode cX12_guessesByTree 2 = .ok (.iadd, 1) := by decide +kernel
theorem dX12_guessesByTree_3 : decode cX12_guessesByTree 3 = .ok (.istore_n 2, 1) := by decide +kernel
theorem dX12_guessesByTree_4 : decode cX12_guessesByTree 4 = .ok (.aload_n 0, 1) := by decide +kernel
theorem dX12_guessesByTree_5 : decode cX12_guessesByTree 5 = .ok (.getfield 21, 3) := by decide +kernel
theorem dX12_guessesByTree_8 : decode cX12_guessesByTree 8 = .ok (.iload_n 2, 1) := by decide +kernel
theorem dX12_guessesByTree_9 : decode cX12_guessesByTree 9 = .ok (.aload_n 0, 1) := by decide +kernel
theorem dX12_guessesByTree_10 : decode cX12_guessesByTree 10 = .ok (.getfield 98, 3) := by decide +kernel
theorem dX12_guessesByTree_13 : decode cX12_guessesByTree 13 = .ok (.iload_n 1, 1) := by decide +kernel
theorem dX12_guessesByTree_14 : decode cX12_guessesByTree 14 = .ok (.iaload, 1) := by decide +kernel
theorem dX12_guessesByTree_15 : decode cX12_guessesByTree 15 = .ok (.iastore, 1) := by decide +kernel
theorem dX12_guessesByTree_16 : decode cX12_guessesByTree 16 = .ok (.iconst 0, 1) := by decide +kernel
theorem dX12_guessesByTree_17 : decode cX12_guessesByTree 17 = .ok (.istore_n 3, 1) := by decide +kernel
theorem dX12_guessesByTree_18 : decode cX12_guessesByTree 18 = .ok (.iload_n 3, 1) := by decide +kernel
theorem dX12_guessesByTree_19 : decode cX12_guessesByTree 19 = .ok (.aload_n 0, 1) := by decide +kernel
theorem dX12_guessesByTree_20 : decode cX12_guessesByTree 20 = .ok (.getfield 98, 3) := by decide +kernel
theorem dX12_guessesByTree_23 : decode cX12_guessesByTree 23 = .ok (.iload_n 1, 1) := by decide +kernel
theorem dX12_guessesByTree_24 : decode cX12_guessesByTree 24 = .ok (.iaload, 1) := by decide +kernel
theorem dX12_guessesByTree_25 : decode cX12_guessesByTree 25 = .ok (.if_icmp .ge 98, 3) := by decide +kernel
theorem dX12_guessesByTree_28 : decode cX12_guessesByTree 28 = .ok (.aload_n 0, 1) := by decide +kernel
theorem dX12_guessesByTree_29 : decode cX12_guessesByTree 29 = .ok (.getfield 130, 3) := by decide +kernel
theorem dX12_guessesByTree_32 : decode cX12_guessesByTree 32 = .ok (.bipush 8, 2) := by decide +kernel
theorem dX12_guessesByTree_34 : decode cX12_guessesByTree 34 = .ok (.iload_n 1, 1) := by decide +kernel
theorem dX12_guessesByTree_35 : decode cX12_guessesByTree 35 = .ok (.imul, 1) := by decide +kernel
theorem dX12_guessesByTree_36 : decode cX12_guessesByTree 36 = .ok (.iload_n 3, 1) := by decide +kernel
theorem dX12_guessesByTree_37 : decode cX12_guessesByTree 37 = .ok (.iadd, 1) := by decide +kernel
theorem dX12_guessesByTree_38 : decode cX12_guessesByTree 38 = .ok (.aload_n 0, 1) := by decide +kernel
theorem dX12_guessesByTree_39 : decode cX12_guessesByTree 39 = .ok (.iload_n 1, 1) := by decide +kernel
theorem dX12_guessesByTree_40 : decode cX12_guessesByTree 40 = .ok (.iload_n 3, 1) := by decide +kernel
theorem dX12_guessesByTree_41 : decode cX12_guessesByTree 41 = .ok (.invokevirtual 206, 3) := by decide +kernel
theorem dX12_guessesByTree_44 : decode cX12_guessesByTree 44 = .ok (.lastore, 1) := by decide +kernel
theorem dX12_guessesByTree_45 : decode cX12_guessesByTree 45 = .ok (.aload_n 0, 1) := by decide +kernel
theorem dX12_guessesByTree_46 : decode cX12_guessesByTree 46 = .ok (.getfield 14, 3) := by decide +kernel
theorem dX12_guessesByTree_49 : decode cX12_guessesByTree 49 = .ok (.bipush 8, 2) := by decide +kernel
theorem dX12_guessesByTree_51 : decode cX12_guessesByTree 51 = .ok (.iload_n 2, 1) := by decide +kernel
theorem dX12_guessesByTree_52 : decode cX12_guessesByTree 52 = .ok (.imul, 1) := by decide +kernel
theorem dX12_guessesByTree_53 : decode cX12_guessesByTree 53 = .ok (.iload_n 3, 1) := by decide +kernel
theorem dX12_guessesByTree_54 : decode cX12_guessesByTree 54 = .ok (.iadd, 1) := by decide +kernel
theorem dX12_guessesByTree_55 : decode cX12_guessesByTree 55 = .ok (.aload_n 0, 1) := by decide +kernel
theorem dX12_guessesByTree_56 : decode cX12_guessesByTree 56 = .ok (.iconst 0, 1) := by decide +kernel
theorem dX12_guessesByTree_57 : decode cX12_guessesByTree 57 = .ok (.aload_n 0, 1) := by decide +kernel
theorem dX12_guessesByTree_58 : decode cX12_guessesByTree 58 = .ok (.iload_n 1, 1) := by decide +kernel
theorem dX12_guessesByTree_59 : decode cX12_guessesByTree 59 = .ok (.iload_n 3, 1) := by decide +kernel
theorem dX12_guessesByTree_60 : decode cX12_guessesByTree 60 = .ok (.invokevirtual 206, 3) := by decide +kernel
theorem dX12_guessesByTree_63 : decode cX12_guessesByTree 63 = .ok (.invokevirtual 185, 3) := by decide +kernel
theorem dX12_guessesByTree_66 : decode cX12_guessesByTree 66 = .ok (.iastore, 1) := by decide +kernel
theorem dX12_guessesByTree_67 : decode cX12_guessesByTree 67 = .ok (.iconst 0, 1) := by decide +kernel
theorem dX12_guessesByTree_68 : decode cX12_guessesByTree 68 = .ok (.istore 4, 2) := by decide +kernel
theorem dX12_guessesByTree_70 : decode cX12_guessesByTree 70 = .ok (.iload 4, 2) := by decide +kernel
theorem dX12_guessesByTree_72 : decode cX12_guessesByTree 72 = .ok (.aload_n 0, 1) := by decide +kernel
theorem dX12_guessesByTree_73 : decode cX12_guessesByTree 73 = .ok (.getfield 30, 3) := by decide +kernel
theorem dX12_guessesByTree_76 : decode cX12_guessesByTree 76 = .ok (.if_icmp .ge 41, 3) := by decide +kernel
theorem dX12_guessesByTree_79 : decode cX12_guessesByTree 79 = .ok (.aload_n 0, 1) := by decide +kernel
theorem dX12_guessesByTree_80 : decode cX12_guessesByTree 80 = .ok (.getfield 18, 3) := by decide +kernel
theorem dX12_guessesByTree_83 : decode cX12_guessesByTree 83 = .ok (.iconst 3, 1) := by decide +kernel
theorem dX12_guessesByTree_84 : decode cX12_guessesByTree 84 = .ok (.bipush 8, 2) := by decide +kernel
theorem dX12_guessesByTree_86 : decode cX12_guessesByTree 86 = .ok (.iload_n 2, 1) := by decide +kernel
theorem dX12_guessesByTree_87 : decode cX12_guessesByTree 87 = .ok (.imul, 1) := by decide +kernel
theorem dX12_guessesByTree_88 : decode cX12_guessesByTree 88 = .ok (.iload_n 3, 1) := by decide +kernel
theorem dX12_guessesByTree_89 : decode cX12_guessesByTree 89 = .ok (.iadd, 1) := by decide +kernel
theorem dX12_guessesByTree_90 : decode cX12_guessesByTree 90 = .ok (.imul, 1) := by decide +kernel
theorem dX12_guessesByTree_91 : decode cX12_guessesByTree 91 = .ok (.iload 4, 2) := by decide +kernel
theorem dX12_guessesByTree_93 : decode cX12_guessesByTree 93 = .ok (.iadd, 1) := by decide +kernel
theorem dX12_guessesByTree_94 : decode cX12_guessesByTree 94 = .ok (.aload_n 0, 1) := by decide +kernel
theorem dX12_guessesByTree_95 : decode cX12_guessesByTree 95 = .ok (.iload_n 1, 1) := by decide +kernel
theorem dX12_guessesByTree_96 : decode cX12_guessesByTree 96 = .ok (.aload_n 0, 1) := by decide +kernel
theorem dX12_guessesByTree_97 : decode cX12_guessesByTree 97 = .ok (.iload_n 1, 1) := by decide +kernel
theorem dX12_guessesByTree_98 : decode cX12_guessesByTree 98 = .ok (.iload_n 3, 1) := by decide +kernel
theorem dX12_guessesByTree_99 : decode cX12_guessesByTree 99 = .ok (.invokevirtual 206, 3) := by decide +kernel
theorem dX12_guessesByTree_102 : decode cX12_guessesByTree 102 = .ok (.iload 4, 2) := by decide +kernel
theorem dX12_guessesByTree_104 : decode cX12_guessesByTree 104 = .ok (.invokestatic 80, 3) := by decide +kernel
theorem dX12_guessesByTree_107 : decode cX12_guessesByTree 107 = .ok (.invokevirtual 228, 3) := by decide +kernel
theorem dX12_guessesByTree_110 : decode cX12_guessesByTree 110 = .ok (.iastore, 1) := by decide +kernel
theorem dX12_guessesByTree_111 : decode cX12_guessesByTree 111 = .ok (.iinc 4 1, 3) := by decide +kernel
theorem dX12_guessesByTree_114 : decode cX12_guessesByTree 114 = .ok (.goto (-44), 3) := by decide +kernel
theorem dX12_guessesByTree_117 : decode cX12_guessesByTree 117 = .ok (.iinc 3 1, 3) := by decide +kernel
theorem dX12_guessesByTree_120 : decode cX12_guessesByTree 120 = .ok (.goto (-102), 3) := by decide +kernel
theorem dX12_guessesByTree_123 : decode cX12_guessesByTree 123 = .ok (.aload_n 0, 1) := by decide +kernel
theorem dX12_guessesByTree_124 : decode cX12_guessesByTree 124 = .ok (.getfield 126, 3) := by decide +kernel
theorem dX12_guessesByTree_127 : decode cX12_guessesByTree 127 = .ok (.iload_n 1, 1) := by decide +kernel
theorem dX12_guessesByTree_128 : decode cX12_guessesByTree 128 = .ok (.iconst 1, 1) := by decide +kernel
theorem dX12_guessesByTree_129 : decode cX12_guessesByTree 129 = .ok (.bastore, 1) := by decide +kernel
theorem dX12_guessesByTree_130 : decode cX12_guessesByTree 130 = .ok (.return_, 1) := by decide +kernel
theorem dX12_steps_0 : decode cX12_steps 0 = .ok (.aload_n 0, 1) := by decide +kernel
theorem dX12_steps_1 : decode cX12_steps 1 = .ok (.getfield 95, 3) := by decide +kernel
theorem dX12_steps_4 : decode cX12_steps 4 = .ok (.iload_n 1, 1) := by decide +kernel
theorem dX12_steps_5 : decode cX12_steps 5 = .ok (.iaload, 1) := by decide +kernel
theorem dX12_steps_6 : decode cX12_steps 6 = .ok (.iconst 3, 1) := by decide +kernel
theorem dX12_steps_7 : decode cX12_steps 7 = .ok (.if_icmp .ne 20, 3) := by decide +kernel
theorem dX12_steps_10 : decode cX12_steps 10 = .ok (.aload_n 0, 1) := by decide +kernel
theorem dX12_steps_11 : decode cX12_steps 11 = .ok (.iload_n 1, 1) := by decide +kernel
theorem dX12_steps_12 : decode cX12_steps 12 = .ok (.invokevirtual 231, 3) := by decide +kernel
theorem dX12_steps_15 : decode cX12_steps 15 = .ok (.ifCond .eq 5, 3) := by decide +kernel
theorem dX12_steps_18 : decode cX12_steps 18 = .ok (.iconst 1, 1) := by decide +kernel
theorem dX12_steps_19 : decode cX12_steps 19 = .ok (.ireturn, 1) := by decide +kernel
theorem dX12_steps_20 : decode cX12_steps 20 = .ok (.aload_n 0, 1) := by decide +kernel
theorem dX12_steps_21 : decode cX12_steps 21 = .ok (.iload_n 1, 1) := by decide +kernel
theorem dX12_steps_22 : decode cX12_steps 22 = .ok (.invokevirtual 235, 3) := by decide +kernel
theorem dX12_steps_25 : decode cX12_steps 25 = .ok (.iconst 0, 1) := by decide +kernel
theorem dX12_steps_26 : decode cX12_steps 26 = .ok (.ireturn, 1) := by decide +kernel
theorem dX12_steps_27 : decode cX12_steps 27 = .ok (.aload_n 0, 1) := by decide +kernel
theorem dX12_steps_28 : decode cX12_steps 28 = .ok (.iload_n 1, 1) := by decide +kernel
theorem dX12_steps_29 : decode cX12_steps 29 = .ok (.invokevirtual 239, 3) := by decide +kernel
theorem dX12_steps_32 : decode cX12_steps 32 = .ok (.aload_n 0, 1) := by decide +kernel
theorem dX12_steps_33 : decode cX12_steps 33 = .ok (.iload_n 1, 1) := by decide +kernel
theorem dX12_steps_34 : decode cX12_steps 34 = .ok (.invokevirtual 242, 3) := by decide +kernel
theorem dX12_steps_37 : decode cX12_steps 37 = .ok (.ifCond .eq 5, 3) := by decide +kernel
theorem dX12_steps_40 : decode cX12_steps 40 = .ok (.iconst 1, 1) := by decide +kernel
theorem dX12_steps_41 : decode cX12_steps 41 = .ok (.ireturn, 1) := by decide +kernel
theorem dX12_steps_42 : decode cX12_steps 42 = .ok (.aload_n 0, 1) := by decide +kernel
theorem dX12_steps_43 : decode cX12_steps 43 = .ok (.getfield 95, 3) := by decide +kernel
theorem dX12_steps_46 : decode cX12_steps 46 = .ok (.iload_n 1, 1) := by decide +kernel
theorem dX12_steps_47 : decode cX12_steps 47 = .ok (.iaload, 1) := by decide +kernel
theorem dX12_steps_48 : decode cX12_steps 48 = .ok (.ifCond .ne 13, 3) := by decide +kernel
theorem dX12_steps_51 : decode cX12_steps 51 = .ok (.aload_n 0, 1) := by decide +kernel
theorem dX12_steps_52 : decode cX12_steps 52 = .ok (.iload_n 1, 1) := by decide +kernel
theorem dX12_steps_53 : decode cX12_steps 53 = .ok (.invokevirtual 245, 3) := by decide +kernel
theorem dX12_steps_56 : decode cX12_steps 56 = .ok (.ifCond .eq 5, 3) := by decide +kernel
theorem dX12_steps_59 : decode cX12_steps 59 = .ok (.iconst 2, 1) := by decide +kernel
theorem dX12_steps_60 : decode cX12_steps 60 = .ok (.ireturn, 1) := by decide +kernel
theorem dX12_steps_61 : decode cX12_steps 61 = .ok (.aload_n 0, 1) := by decide +kernel
theorem dX12_steps_62 : decode cX12_steps 62 = .ok (.iload_n 1, 1) := by decide +kernel
theorem dX12_steps_63 : decode cX12_steps 63 = .ok (.invokevirtual 248, 3) := by decide +kernel
theorem dX12_steps_66 : decode cX12_steps 66 = .ok (.iconst 0, 1) := by decide +kernel
theorem dX12_steps_67 : decode cX12_steps 67 = .ok (.ireturn, 1) := by decide +kernel
theorem dX12_stepsTillGuess_0 : decode cX12_stepsTillGuess 0 = .ok (.iconst 0, 1) := by decide +kernel
theorem dX12_stepsTillGuess_1 : decode cX12_stepsTillGuess 1 = .ok (.istore_n 2, 1) := by decide +kernel
theorem dX12_stepsTillGuess_2 : decode cX12_stepsTillGuess 2 = .ok (.aload_n 0, 1) := by decide +kernel
theorem dX12_stepsTillGuess_3 : decode cX12_stepsTillGuess 3 = .ok (.getfield 126, 3) := by decide +kernel
theorem dX12_stepsTillGuess_6 : decode cX12_stepsTillGuess 6 = .ok (.iload_n 1, 1) := by decide +kernel
theorem dX12_stepsTillGuess_7 : decode cX12_stepsTillGuess 7 = .ok (.baload, 1) := by decide +kernel
theorem dX12_stepsTillGuess_8 : decode cX12_stepsTillGuess 8 = .ok (.ifCond .ne 15, 3) := by decide +kernel
theorem dX12_stepsTillGuess_11 : decode cX12_stepsTillGuess 11 = .ok (.aload_n 0, 1) := by decide +kernel
theorem dX12_stepsTillGuess_12 : decode cX12_stepsTillGuess 12 = .ok (.iload_n 1, 1) := by decide +kernel
theorem dX12_stepsTillGuess_13 : decode cX12_stepsTillGuess 13 = .ok (.invokevirtual 251, 3) := by decide +kernel
theorem dX12_stepsTillGuess_16 : decode cX12_stepsTillGuess 16 = .ok (.pop, 1) := by decide +kernel
theorem dX12_stepsTillGuess_17 : decode cX12_stepsTillGuess 17 = .ok (.iinc 2 1, 3) := by decide +kernel
theorem dX12_stepsTillGuess_20 : decode cX12_stepsTillGuess 20 = .ok (.goto (-18), 3) := by decide +kernel
theorem dX12_stepsTillGuess_23 : decode cX12_stepsTillGuess 23 = .ok (.iload_n 2, 1) := by decide +kernel
theorem dX12_stepsTillGuess_24 : decode cX12_stepsTillGuess 24 = .ok (.ireturn, 1) := by decide +kernel
theorem dX12_isHead_0 : decode cX12_isHead 0 = .ok (.iconst 0, 1) := by decide +kernel
theorem dX12_isHead_1 : decode cX12_isHead 1 = .ok (.istore 4, 2) := by decide +kernel
theorem dX12_isHead_3 : decode cX12_isHead 3 = .ok (.iload 4, 2) := by decide +kernel
theorem dX12_isHead_5 : decode cX12_isHead 5 = .ok (.aload_n 0, 1) := by decide +kernel
theorem dX12_isHead_6 : decode cX12_isHead 6 = .ok (.getfield 98, 3) := by decide +kernel
theorem dX12_isHead_9 : decode cX12_isHead 9 = .ok (.iload_n 1, 1) := by decide +kernel
theorem dX12_isHead_10 : decode cX12_isHead 10 = .ok (.iaload, 1) := by decide +kernel
theorem dX12_isHead_11 : decode cX12_isHead 11 = .ok (.if_icmp .ge 23, 3) := by decide +kernel
theorem dX12_isHead_14 : decode cX12_isHead 14 = .ok (.aload_n 0, 1) := by decide +kernel
theorem dX12_isHead_15 : decode cX12_isHead 15 = .ok (.iload_n 1, 1) := by decide +kernel
theorem dX12_isHead_16 : decode cX12_isHead 16 = .ok (.iload 4, 2) := by decide +kernel
theorem dX12_isHead_18 : decode cX12_isHead 18 = .ok (.invokevirtual 206, 3) := by decide +kernel
theorem dX12_isHead_21 : decode cX12_isHead 21 = .ok (.lload_n 2, 1) := by decide +kernel
theorem dX12_isHead_22 : decode cX12_isHead 22 = .ok (.lcmp, 1) := by decide +kernel
theorem dX12_isHead_23 : decode cX12_isHead 23 = .ok (.ifCond .ne 5, 3) := by decide +kernel
theorem dX12_isHead_26 : decode cX12_isHead 26 = .ok (.iconst 1, 1) := by decide +kernel
theorem dX12_isHead_27 : decode cX12_isHead 27 = .ok (.ireturn, 1) := by decide +kernel
theorem dX12_isHead_28 : decode cX12_isHead 28 = .ok (.iinc 4 1, 3) := by decide +kernel
theorem dX12_isHead_31 : decode cX12_isHead 31 = .ok (.goto (-28), 3) := by decide +kernel
theorem dX12_isHead_34 : decode cX12_isHead 34 = .ok (.iconst 0, 1) := by decide +kernel
theorem dX12_isHead_35 : decode cX12_isHead 35 = .ok (.ireturn, 1) := by decide +kernel
theorem dX12_isTail_0 : decode cX12_isTail 0 = .ok (.iconst 0, 1) := by decide +kernel
theorem dX12_isTail_1 : decode cX12_isTail 1 = .ok (.istore 4, 2) := by decide +kernel
theorem dX12_isTail_3 : decode cX12_isTail 3 = .ok (.iload 4, 2) := by decide +kernel
theorem dX12_isTail_5 : decode cX12_isTail 5 = .ok (.aload_n 0, 1) := by decide +kernel
theorem dX12_isTail_6 : decode cX12_isTail 6 = .ok (.getfield 101, 3) := by decide +kernel
theorem dX12_isTail_9 : decode cX12_isTail 9 = .ok (.iload_n 1, 1) := by decide +kernel
theorem dX12_isTail_10 : decode cX12_isTail 10 = .ok (.iaload, 1) := by decide +kernel
theorem dX12_isTail_11 : decode cX12_isTail 11 = .ok (.if_icmp .ge 23, 3) := by decide +kernel
theorem dX12_isTail_14 : decode cX12_isTail 14 = .ok (.aload_n 0, 1) := by decide +kernel
theorem dX12_isTail_15 : decode cX12_isTail 15 = .ok (.iload_n 1, 1) := by decide +kernel
theorem dX12_isTail_16 : decode cX12_isTail 16 = .ok (.iload 4, 2) := by decide +kernel
theorem dX12_isTail_18 : decode cX12_isTail 18 = .ok (.invokevirtual 198, 3) := by decide +kernel
theorem dX12_isTail_21 : decode cX12_isTail 21 = .ok (.lload_n 2, 1) := by decide +kernel
theorem dX12_isTail_22 : decode cX12_isTail 22 = .ok (.lcmp, 1) := by decide +kernel
theorem dX12_isTail_23 : decode cX12_isTail 23 = .ok (.ifCond .ne 5, 3) := by decide +kernel
theorem dX12_isTail_26 : decode cX12_isTail 26 = .ok (.iconst 1, 1) := by decide +kernel
theorem dX12_isTail_27 : decode cX12_isTail 27 = .ok (.ireturn, 1) := by decide +kernel
theorem dX12_isTail_28 : decode cX12_isTail 28 = .ok (.iinc 4 1, 3) := by decide +kernel
theorem dX12_isTail_31 : decode cX12_isTail 31 = .ok (.goto (-28), 3) := by decide +kernel
theorem dX12_isTail_34 : decode cX12_isTail 34 = .ok (.iconst 0, 1) := by decide +kernel
theorem dX12_isTail_35 : decode cX12_isTail 35 = .ok (.ireturn, 1) := by decide +kernel
theorem dX12_endInGuess_0 : decode cX12_endInGuess 0 = .ok (.aload_n 0, 1) := by decide +kernel
theorem dX12_endInGuess_1 : decode cX12_endInGuess 1 = .ok (.iconst 1, 1) := by decide +kernel
theorem dX12_endInGuess_2 : decode cX12_endInGuess 2 = .ok (.iload_n 1, 1) := by decide +kernel
theorem dX12_endInGuess_3 : decode cX12_endInGuess 3 = .ok (.iadd, 1) := by decide +kernel
theorem dX12_endInGuess_4 : decode cX12_endInGuess 4 = .ok (.iconst 0, 1) := by decide +kernel
theorem dX12_endInGuess_5 : decode cX12_endInGuess 5 = .ok (.lload_n 2, 1) := by decide +kernel
theorem dX12_endInGuess_6 : decode cX12_endInGuess 6 = .ok (.invokevirtual 47, 3) := by decide +kernel
theorem dX12_endInGuess_9 : decode cX12_endInGuess 9 = .ok (.ireturn, 1) := by decide +kernel
theorem dX12_accessOf_0 : decode cX12_accessOf 0 = .ok (.aload_n 0, 1) := by decide +kernel
theorem dX12_accessOf_1 : decode cX12_accessOf 1 = .ok (.getfield 130, 3) := by decide +kernel
theorem dX12_accessOf_4 : decode cX12_accessOf 4 = .ok (.bipush 8, 2) := by decide +kernel
theorem dX12_accessOf_6 : decode cX12_accessOf 6 = .ok (.iload_n 1, 1) := by decide +kernel
theorem dX12_accessOf_7 : decode cX12_accessOf 7 = .ok (.imul, 1) := by decide +kernel
theorem dX12_accessOf_8 : decode cX12_accessOf 8 = .ok (.iload_n 2, 1) := by decide +kernel
theorem dX12_accessOf_9 : decode cX12_accessOf 9 = .ok (.iadd, 1) := by decide +kernel
theorem dX12_accessOf_10 : decode cX12_accessOf 10 = .ok (.laload, 1) := by decide +kernel
theorem dX12_accessOf_11 : decode cX12_accessOf 11 = .ok (.lreturn, 1) := by decide +kernel
theorem dX12_lowOf_0 : decode cX12_lowOf 0 = .ok (.iconst 0, 1) := by decide +kernel
theorem dX12_lowOf_1 : decode cX12_lowOf 1 = .ok (.istore 5, 2) := by decide +kernel
theorem dX12_lowOf_3 : decode cX12_lowOf 3 = .ok (.lload_n 2, 1) := by decide +kernel
theorem dX12_lowOf_4 : decode cX12_lowOf 4 = .ok (.invokestatic 33, 3) := by decide +kernel
theorem dX12_lowOf_7 : decode cX12_lowOf 7 = .ok (.istore 6, 2) := by decide +kernel
theorem dX12_lowOf_9 : decode cX12_lowOf 9 = .ok (.iload 6, 2) := by decide +kernel
theorem dX12_lowOf_11 : decode cX12_lowOf 11 = .ok (.iload 5, 2) := by decide +kernel
theorem dX12_lowOf_13 : decode cX12_lowOf 13 = .ok (.iconst 1, 1) := by decide +kernel
theorem dX12_lowOf_14 : decode cX12_lowOf 14 = .ok (.iadd, 1) := by decide +kernel
theorem dX12_lowOf_15 : decode cX12_lowOf 15 = .ok (.if_icmp .le 65, 3) := by decide +kernel
theorem dX12_lowOf_18 : decode cX12_lowOf 18 = .ok (.iload 5, 2) := by decide +kernel
theorem dX12_lowOf_20 : decode cX12_lowOf 20 = .ok (.iload 6, 2) := by decide +kernel
theorem dX12_lowOf_22 : decode cX12_lowOf 22 = .ok (.iadd, 1) := by decide +kernel
theorem dX12_lowOf_23 : decode cX12_lowOf 23 = .ok (.iconst 2, 1) := by decide +kernel
theorem dX12_lowOf_24 : decode cX12_lowOf 24 = .ok (.idiv, 1) := by decide +kernel
theorem dX12_lowOf_25 : decode cX12_lowOf 25 = .ok (.istore 7, 2) := by decide +kernel
theorem dX12_lowOf_27 : decode cX12_lowOf 27 = .ok (.aload_n 0, 1) := by decide +kernel
theorem dX12_lowOf_28 : decode cX12_lowOf 28 = .ok (.iload_n 1, 1) := by decide +kernel
theorem dX12_lowOf_29 : decode cX12_lowOf 29 = .ok (.aload_n 0, 1) := by decide +kernel
theorem dX12_lowOf_30 : decode cX12_lowOf 30 = .ok (.iload_n 1, 1) := by decide +kernel
theorem dX12_lowOf_31 : decode cX12_lowOf 31 = .ok (.lload_n 2, 1) := by decide +kernel
theorem dX12_lowOf_32 : decode cX12_lowOf 32 = .ok (.iload 7, 2) := by decide +kernel
theorem dX12_lowOf_34 : decode cX12_lowOf 34 = .ok (.invokestatic 71, 3) := by decide +kernel
theorem dX12_lowOf_37 : decode cX12_lowOf 37 = .ok (.invokevirtual 255, 3) := by decide +kernel
theorem dX12_lowOf_40 : decode cX12_lowOf 40 = .ok (.invokevirtual 258, 3) := by decide +kernel
theorem dX12_lowOf_43 : decode cX12_lowOf 43 = .ok (.lstore 8, 2) := by decide +kernel
theorem dX12_lowOf_45 : decode cX12_lowOf 45 = .ok (.aload_n 0, 1) := by decide +kernel
theorem dX12_lowOf_46 : decode cX12_lowOf 46 = .ok (.iload_n 1, 1) := by decide +kernel
theorem dX12_lowOf_47 : decode cX12_lowOf 47 = .ok (.lload 8, 2) := by decide +kernel
theorem dX12_lowOf_49 : decode cX12_lowOf 49 = .ok (.lload_n 2, 1) := by decide +kernel
theorem dX12_lowOf_50 : decode cX12_lowOf 50 = .ok (.iload 7, 2) := by decide +kernel
theorem dX12_lowOf_52 : decode cX12_lowOf 52 = .ok (.invokestatic 75, 3) := by decide +kernel
theorem dX12_lowOf_55 : decode cX12_lowOf 55 = .ok (.invokestatic 61, 3) := by decide +kernel
theorem dX12_lowOf_58 : decode cX12_lowOf 58 = .ok (.invokevirtual 195, 3) := by decide +kernel
theorem dX12_lowOf_61 : decode cX12_lowOf 61 = .ok (.iload 4, 2) := by decide +kernel
theorem dX12_lowOf_63 : decode cX12_lowOf 63 = .ok (.if_icmp .ne 10, 3) := by decide +kernel
theorem dX12_lowOf_66 : decode cX12_lowOf 66 = .ok (.iload 7, 2) := by decide +kernel
theorem dX12_lowOf_68 : decode cX12_lowOf 68 = .ok (.istore 5, 2) := by decide +kernel
theorem dX12_lowOf_70 : decode cX12_lowOf 70 = .ok (.goto 7, 3) := by decide +kernel
theorem dX12_lowOf_73 : decode cX12_lowOf 73 = .ok (.iload 7, 2) := by decide +kernel
theorem dX12_lowOf_75 : decode cX12_lowOf 75 = .ok (.istore 6, 2) := by decide +kernel
theorem dX12_lowOf_77 : decode cX12_lowOf 77 = .ok (.goto (-68), 3) := by decide +kernel
theorem dX12_lowOf_80 : decode cX12_lowOf 80 = .ok (.iload 5, 2) := by decide +kernel
theorem dX12_lowOf_82 : decode cX12_lowOf 82 = .ok (.ireturn, 1) := by decide +kernel
theorem dX12_givesWay_0 : decode cX12_givesWay 0 = .ok (.aload_n 0, 1) := by decide +kernel
theorem dX12_givesWay_1 : decode cX12_givesWay 1 = .ok (.iload_n 1, 1) := by decide +kernel
theorem dX12_givesWay_2 : decode cX12_givesWay 2 = .ok (.lload_n 2, 1) := by decide +kernel
theorem dX12_givesWay_3 : decode cX12_givesWay 3 = .ok (.iload 4, 2) := by decide +kernel
theorem dX12_givesWay_5 : decode cX12_givesWay 5 = .ok (.iconst 1, 1) := by decide +kernel
theorem dX12_givesWay_6 : decode cX12_givesWay 6 = .ok (.iadd, 1) := by decide +kernel
theorem dX12_givesWay_7 : decode cX12_givesWay 7 = .ok (.invokestatic 71, 3) := by decide +kernel
theorem dX12_givesWay_10 : decode cX12_givesWay 10 = .ok (.invokevirtual 255, 3) := by decide +kernel
theorem dX12_givesWay_13 : decode cX12_givesWay 13 = .ok (.istore 7, 2) := by decide +kernel
theorem dX12_givesWay_15 : decode cX12_givesWay 15 = .ok (.aload_n 0, 1) := by decide +kernel
theorem dX12_givesWay_16 : decode cX12_givesWay 16 = .ok (.iload_n 1, 1) := by decide +kernel
theorem dX12_givesWay_17 : decode cX12_givesWay 17 = .ok (.aload_n 0, 1) := by decide +kernel
theorem dX12_givesWay_18 : decode cX12_givesWay 18 = .ok (.iload_n 1, 1) := by decide +kernel
theorem dX12_givesWay_19 : decode cX12_givesWay 19 = .ok (.lload_n 2, 1) := by decide +kernel
theorem dX12_givesWay_20 : decode cX12_givesWay 20 = .ok (.iload 4, 2) := by decide +kernel
theorem dX12_givesWay_22 : decode cX12_givesWay 22 = .ok (.invokestatic 71, 3) := by decide +kernel
theorem dX12_givesWay_25 : decode cX12_givesWay 25 = .ok (.invokevirtual 255, 3) := by decide +kernel
theorem dX12_givesWay_28 : decode cX12_givesWay 28 = .ok (.invokevirtual 258, 3) := by decide +kernel
theorem dX12_givesWay_31 : decode cX12_givesWay 31 = .ok (.lload_n 2, 1) := by decide +kernel
theorem dX12_givesWay_32 : decode cX12_givesWay 32 = .ok (.lload_n 2, 1) := by decide +kernel
theorem dX12_givesWay_33 : decode cX12_givesWay 33 = .ok (.invokestatic 33, 3) := by decide +kernel
theorem dX12_givesWay_36 : decode cX12_givesWay 36 = .ok (.iload 4, 2) := by decide +kernel
theorem dX12_givesWay_38 : decode cX12_givesWay 38 = .ok (.invokestatic 39, 3) := by decide +kernel
theorem dX12_givesWay_41 : decode cX12_givesWay 41 = .ok (.invokestatic 80, 3) := by decide +kernel
theorem dX12_givesWay_44 : decode cX12_givesWay 44 = .ok (.lstore 8, 2) := by decide +kernel
theorem dX12_givesWay_46 : decode cX12_givesWay 46 = .ok (.aload_n 0, 1) := by decide +kernel
theorem dX12_givesWay_47 : decode cX12_givesWay 47 = .ok (.getfield 101, 3) := by decide +kernel
theorem dX12_givesWay_50 : decode cX12_givesWay 50 = .ok (.iload_n 1, 1) := by decide +kernel
theorem dX12_givesWay_51 : decode cX12_givesWay 51 = .ok (.iaload, 1) := by decide +kernel
theorem dX12_givesWay_52 : decode cX12_givesWay 52 = .ok (.istore 10, 2) := by decide +kernel
theorem dX12_givesWay_54 : decode cX12_givesWay 54 = .ok (.iconst 0, 1) := by decide +kernel
theorem dX12_givesWay_55 : decode cX12_givesWay 55 = .ok (.istore 11, 2) := by decide +kernel
theorem dX12_givesWay_57 : decode cX12_givesWay 57 = .ok (.iconst 0, 1) := by decide +kernel
theorem dX12_givesWay_58 : decode cX12_givesWay 58 = .ok (.istore 12, 2) := by decide +kernel
theorem dX12_givesWay_60 : decode cX12_givesWay 60 = .ok (.iload 12, 2) := by decide +kernel
theorem dX12_givesWay_62 : decode cX12_givesWay 62 = .ok (.iconst 4, 1) := by decide +kernel
theorem dX12_givesWay_63 : decode cX12_givesWay 63 = .ok (.aload_n 0, 1) := by decide +kernel
theorem dX12_givesWay_64 : decode cX12_givesWay 64 = .ok (.getfield 101, 3) := by decide +kernel
theorem dX12_givesWay_67 : decode cX12_givesWay 67 = .ok (.iload_n 1, 1) := by decide +kernel
theorem dX12_givesWay_68 : decode cX12_givesWay 68 = .ok (.iaload, 1) := by decide +kernel
theorem dX12_givesWay_69 : decode cX12_givesWay 69 = .ok (.imul, 1) := by decide +kernel
theorem dX12_givesWay_70 : decode cX12_givesWay 70 = .ok (.if_icmp .ge 38, 3) := by decide +kernel
theorem dX12_givesWay_73 : decode cX12_givesWay 73 = .ok (.aload_n 0, 1) := by decide +kernel
theorem dX12_givesWay_74 : decode cX12_givesWay 74 = .ok (.getfield 133, 3) := by decide +kernel
theorem dX12_givesWay_77 : decode cX12_givesWay 77 = .ok (.sipush 512, 3) := by decide +kernel
theorem dX12_givesWay_80 : decode cX12_givesWay 80 = .ok (.iload_n 1, 1) := by decide +kernel
theorem dX12_givesWay_81 : decode cX12_givesWay 81 = .ok (.imul, 1) := by decide +kernel
theorem dX12_givesWay_82 : decode cX12_givesWay 82 = .ok (.iload 12, 2) := by decide +kernel
theorem dX12_givesWay_84 : decode cX12_givesWay 84 = .ok (.iadd, 1) := by decide +kernel
theorem dX12_givesWay_85 : decode cX12_givesWay 85 = .ok (.iaload, 1) := by decide +kernel
theorem dX12_givesWay_86 : decode cX12_givesWay 86 = .ok (.iconst 1, 1) := by decide +kernel
theorem dX12_givesWay_87 : decode cX12_givesWay 87 = .ok (.iload 7, 2) := by decide +kernel
theorem dX12_givesWay_89 : decode cX12_givesWay 89 = .ok (.iadd, 1) := by decide +kernel
theorem dX12_givesWay_90 : decode cX12_givesWay 90 = .ok (.if_icmp .ne 8, 3) := by decide +kernel
theorem dX12_givesWay_93 : decode cX12_givesWay 93 = .ok (.iload 12, 2) := by decide +kernel
theorem dX12_givesWay_95 : decode cX12_givesWay 95 = .ok (.goto 5, 3) := by decide +kernel
theorem dX12_givesWay_98 : decode cX12_givesWay 98 = .ok (.iload 11, 2) := by decide +kernel
theorem dX12_givesWay_100 : decode cX12_givesWay 100 = .ok (.istore 11, 2) := by decide +kernel
theorem dX12_givesWay_102 : decode cX12_givesWay 102 = .ok (.iinc 12 1, 3) := by decide +kernel
theorem dX12_givesWay_105 : decode cX12_givesWay 105 = .ok (.goto (-45), 3) := by decide +kernel
theorem dX12_givesWay_108 : decode cX12_givesWay 108 = .ok (.aload_n 0, 1) := by decide +kernel
theorem dX12_givesWay_109 : decode cX12_givesWay 109 = .ok (.iload_n 1, 1) := by decide +kernel
theorem dX12_givesWay_110 : decode cX12_givesWay 110 = .ok (.lload 5, 2) := by decide +kernel
theorem dX12_givesWay_112 : decode cX12_givesWay 112 = .ok (.invokevirtual 192, 3) := by decide +kernel
theorem dX12_givesWay_115 : decode cX12_givesWay 115 = .ok (.aload_n 0, 1) := by decide +kernel
theorem dX12_givesWay_116 : decode cX12_givesWay 116 = .ok (.getfield 133, 3) := by decide +kernel
theorem dX12_givesWay_119 : decode cX12_givesWay 119 = .ok (.sipush 512, 3) := by decide +kernel
theorem dX12_givesWay_122 : decode cX12_givesWay 122 = .ok (.iload_n 1, 1) := by decide +kernel
theorem dX12_givesWay_123 : decode cX12_givesWay 123 = .ok (.imul, 1) := by decide +kernel
theorem dX12_givesWay_124 : decode cX12_givesWay 124 = .ok (.iload 11, 2) := by decide +kernel
theorem dX12_givesWay_126 : decode cX12_givesWay 126 = .ok (.iadd, 1) := by decide +kernel
theorem dX12_givesWay_127 : decode cX12_givesWay 127 = .ok (.bipush 100, 2) := by decide +kernel
theorem dX12_givesWay_129 : decode cX12_givesWay 129 = .ok (.iload 10, 2) := by decide +kernel
theorem dX12_givesWay_131 : decode cX12_givesWay 131 = .ok (.iadd, 1) := by decide +kernel
theorem dX12_givesWay_132 : decode cX12_givesWay 132 = .ok (.iastore, 1) := by decide +kernel
theorem dX12_givesWay_133 : decode cX12_givesWay 133 = .ok (.aload_n 0, 1) := by decide +kernel
theorem dX12_givesWay_134 : decode cX12_givesWay 134 = .ok (.iload_n 1, 1) := by decide +kernel
theorem dX12_givesWay_135 : decode cX12_givesWay 135 = .ok (.aload_n 0, 1) := by decide +kernel
theorem dX12_givesWay_136 : decode cX12_givesWay 136 = .ok (.iload_n 1, 1) := by decide +kernel
theorem dX12_givesWay_137 : decode cX12_givesWay 137 = .ok (.iload 7, 2) := by decide +kernel
theorem dX12_givesWay_139 : decode cX12_givesWay 139 = .ok (.invokevirtual 206, 3) := by decide +kernel
theorem dX12_givesWay_142 : decode cX12_givesWay 142 = .ok (.lload 5, 2) := by decide +kernel
theorem dX12_givesWay_144 : decode cX12_givesWay 144 = .ok (.invokestatic 61, 3) := by decide +kernel
theorem dX12_givesWay_147 : decode cX12_givesWay 147 = .ok (.invokevirtual 195, 3) := by decide +kernel
theorem dX12_givesWay_150 : decode cX12_givesWay 150 = .ok (.istore 12, 2) := by decide +kernel
theorem dX12_givesWay_152 : decode cX12_givesWay 152 = .ok (.aload_n 0, 1) := by decide +kernel
theorem dX12_givesWay_153 : decode cX12_givesWay 153 = .ok (.iload_n 1, 1) := by decide +kernel
theorem dX12_givesWay_154 : decode cX12_givesWay 154 = .ok (.lload 8, 2) := by decide +kernel
theorem dX12_givesWay_156 : decode cX12_givesWay 156 = .ok (.lload 5, 2) := by decide +kernel
theorem dX12_givesWay_158 : decode cX12_givesWay 158 = .ok (.invokestatic 61, 3) := by decide +kernel
theorem dX12_givesWay_161 : decode cX12_givesWay 161 = .ok (.invokevirtual 195, 3) := by decide +kernel
theorem dX12_givesWay_164 : decode cX12_givesWay 164 = .ok (.istore 13, 2) := by decide +kernel
theorem dX12_givesWay_166 : decode cX12_givesWay 166 = .ok (.aload_n 0, 1) := by decide +kernel
theorem dX12_givesWay_167 : decode cX12_givesWay 167 = .ok (.getfield 133, 3) := by decide +kernel
theorem dX12_givesWay_170 : decode cX12_givesWay 170 = .ok (.iconst 4, 1) := by decide +kernel
theorem dX12_givesWay_171 : decode cX12_givesWay 171 = .ok (.sipush 128, 3) := by decide +kernel
theorem dX12_givesWay_174 : decode cX12_givesWay 174 = .ok (.iload_n 1, 1) := by decide +kernel
theorem dX12_givesWay_175 : decode cX12_givesWay 175 = .ok (.imul, 1) := by decide +kernel
theorem dX12_givesWay_176 : decode cX12_givesWay 176 = .ok (.iload 10, 2) := by decide +kernel
theorem dX12_givesWay_178 : decode cX12_givesWay 178 = .ok (.iadd, 1) := by decide +kernel
theorem dX12_givesWay_179 : decode cX12_givesWay 179 = .ok (.imul, 1) := by decide +kernel
theorem dX12_givesWay_180 : decode cX12_givesWay 180 = .ok (.iload 12, 2) := by decide +kernel
theorem dX12_givesWay_182 : decode cX12_givesWay 182 = .ok (.iadd, 1) := by decide +kernel
theorem dX12_givesWay_183 : decode cX12_givesWay 183 = .ok (.iconst 1, 1) := by decide +kernel
theorem dX12_givesWay_184 : decode cX12_givesWay 184 = .ok (.iload 7, 2) := by decide +kernel
theorem dX12_givesWay_186 : decode cX12_givesWay 186 = .ok (.iadd, 1) := by decide +kernel
theorem dX12_givesWay_187 : decode cX12_givesWay 187 = .ok (.iastore, 1) := by decide +kernel
theorem dX12_givesWay_188 : decode cX12_givesWay 188 = .ok (.aload_n 0, 1) := by decide +kernel
theorem dX12_givesWay_189 : decode cX12_givesWay 189 = .ok (.getfield 133, 3) := by decide +kernel
theorem dX12_givesWay_192 : decode cX12_givesWay 192 = .ok (.iconst 4, 1) := by decide +kernel
theorem dX12_givesWay_193 : decode cX12_givesWay 193 = .ok (.sipush 128, 3) := by decide +kernel
theorem dX12_givesWay_196 : decode cX12_givesWay 196 = .ok (.iload_n 1, 1) := by decide +kernel
theorem dX12_givesWay_197 : decode cX12_givesWay 197 = .ok (.imul, 1) := by decide +kernel
theorem dX12_givesWay_198 : decode cX12_givesWay 198 = .ok (.iload 10, 2) := by decide +kernel
theorem dX12_givesWay_200 : decode cX12_givesWay 200 = .ok (.iadd, 1) := by decide +kernel
theorem dX12_givesWay_201 : decode cX12_givesWay 201 = .ok (.imul, 1) := by decide +kernel
theorem dX12_givesWay_202 : decode cX12_givesWay 202 = .ok (.iload 13, 2) := by decide +kernel
theorem dX12_givesWay_204 : decode cX12_givesWay 204 = .ok (.iadd, 1) := by decide +kernel
theorem dX12_givesWay_205 : decode cX12_givesWay 205 = .ok (.iconst 1, 1) := by decide +kernel
theorem dX12_givesWay_206 : decode cX12_givesWay 206 = .ok (.aload_n 0, 1) := by decide +kernel
theorem dX12_givesWay_207 : decode cX12_givesWay 207 = .ok (.getfield 98, 3) := by decide +kernel
theorem dX12_givesWay_210 : decode cX12_givesWay 210 = .ok (.iload_n 1, 1) := by decide +kernel
theorem dX12_givesWay_211 : decode cX12_givesWay 211 = .ok (.iaload, 1) := by decide +kernel
theorem dX12_givesWay_212 : decode cX12_givesWay 212 = .ok (.iadd, 1) := by decide +kernel
theorem dX12_givesWay_213 : decode cX12_givesWay 213 = .ok (.iastore, 1) := by decide +kernel
theorem dX12_givesWay_214 : decode cX12_givesWay 214 = .ok (.aload_n 0, 1) := by decide +kernel
theorem dX12_givesWay_215 : decode cX12_givesWay 215 = .ok (.iload_n 1, 1) := by decide +kernel
theorem dX12_givesWay_216 : decode cX12_givesWay 216 = .ok (.lload 8, 2) := by decide +kernel
theorem dX12_givesWay_218 : decode cX12_givesWay 218 = .ok (.invokevirtual 188, 3) := by decide +kernel
theorem dX12_givesWay_221 : decode cX12_givesWay 221 = .ok (.return_, 1) := by decide +kernel
theorem dX12_lesson_0 : decode cX12_lesson 0 = .ok (.aload_n 0, 1) := by decide +kernel
theorem dX12_lesson_1 : decode cX12_lesson 1 = .ok (.getfield 98, 3) := by decide +kernel
theorem dX12_lesson_4 : decode cX12_lesson 4 = .ok (.iload_n 1, 1) := by decide +kernel
theorem dX12_lesson_5 : decode cX12_lesson 5 = .ok (.iaload, 1) := by decide +kernel
theorem dX12_lesson_6 : decode cX12_lesson 6 = .ok (.aload_n 0, 1) := by decide +kernel
theorem dX12_lesson_7 : decode cX12_lesson 7 = .ok (.getfield 101, 3) := by decide +kernel
theorem dX12_lesson_10 : decode cX12_lesson 10 = .ok (.iload_n 1, 1) := by decide +kernel
theorem dX12_lesson_11 : decode cX12_lesson 11 = .ok (.iaload, 1) := by decide +kernel
theorem dX12_lesson_12 : decode cX12_lesson 12 = .ok (.iadd, 1) := by decide +kernel
theorem dX12_lesson_13 : decode cX12_lesson 13 = .ok (.istore 4, 2) := by decide +kernel
theorem dX12_lesson_15 : decode cX12_lesson 15 = .ok (.aload_n 0, 1) := by decide +kernel
theorem dX12_lesson_16 : decode cX12_lesson 16 = .ok (.iload_n 1, 1) := by decide +kernel
theorem dX12_lesson_17 : decode cX12_lesson 17 = .ok (.lload_n 2, 1) := by decide +kernel
theorem dX12_lesson_18 : decode cX12_lesson 18 = .ok (.invokevirtual 195, 3) := by decide +kernel
theorem dX12_lesson_21 : decode cX12_lesson 21 = .ok (.istore 5, 2) := by decide +kernel
theorem dX12_lesson_23 : decode cX12_lesson 23 = .ok (.lload_n 2, 1) := by decide +kernel
theorem dX12_lesson_24 : decode cX12_lesson 24 = .ok (.invokestatic 33, 3) := by decide +kernel
theorem dX12_lesson_27 : decode cX12_lesson 27 = .ok (.istore 6, 2) := by decide +kernel
theorem dX12_lesson_29 : decode cX12_lesson 29 = .ok (.aload_n 0, 1) := by decide +kernel
theorem dX12_lesson_30 : decode cX12_lesson 30 = .ok (.getfield 123, 3) := by decide +kernel
theorem dX12_lesson_33 : decode cX12_lesson 33 = .ok (.iload_n 1, 1) := by decide +kernel
theorem dX12_lesson_34 : decode cX12_lesson 34 = .ok (.dup2, 1) := by decide +kernel
theorem dX12_lesson_35 : decode cX12_lesson 35 = .ok (.iaload, 1) := by decide +kernel
theorem dX12_lesson_36 : decode cX12_lesson 36 = .ok (.iconst 1, 1) := by decide +kernel
theorem dX12_lesson_37 : decode cX12_lesson 37 = .ok (.iadd, 1) := by decide +kernel
theorem dX12_lesson_38 : decode cX12_lesson 38 = .ok (.iastore, 1) := by decide +kernel
theorem dX12_lesson_39 : decode cX12_lesson 39 = .ok (.aload_n 0, 1) := by decide +kernel
theorem dX12_lesson_40 : decode cX12_lesson 40 = .ok (.getfield 95, 3) := by decide +kernel
theorem dX12_lesson_43 : decode cX12_lesson 43 = .ok (.iload_n 1, 1) := by decide +kernel
theorem dX12_lesson_44 : decode cX12_lesson 44 = .ok (.iaload, 1) := by decide +kernel
theorem dX12_lesson_45 : decode cX12_lesson 45 = .ok (.ifCond .ne 47, 3) := by decide +kernel
theorem dX12_lesson_48 : decode cX12_lesson 48 = .ok (.iconst 0, 1) := by decide +kernel
theorem dX12_lesson_49 : decode cX12_lesson 49 = .ok (.istore 7, 2) := by decide +kernel
theorem dX12_lesson_51 : decode cX12_lesson 51 = .ok (.iload 7, 2) := by decide +kernel
theorem dX12_lesson_53 : decode cX12_lesson 53 = .ok (.iload 6, 2) := by decide +kernel
theorem dX12_lesson_55 : decode cX12_lesson 55 = .ok (.if_icmp .gt 34, 3) := by decide +kernel
theorem dX12_lesson_58 : decode cX12_lesson 58 = .ok (.aload_n 0, 1) := by decide +kernel
theorem dX12_lesson_59 : decode cX12_lesson 59 = .ok (.iload_n 1, 1) := by decide +kernel
theorem dX12_lesson_60 : decode cX12_lesson 60 = .ok (.lload_n 2, 1) := by decide +kernel
theorem dX12_lesson_61 : decode cX12_lesson 61 = .ok (.iload 7, 2) := by decide +kernel
theorem dX12_lesson_63 : decode cX12_lesson 63 = .ok (.invokestatic 71, 3) := by decide +kernel
theorem dX12_lesson_66 : decode cX12_lesson 66 = .ok (.invokevirtual 261, 3) := by decide +kernel
theorem dX12_lesson_69 : decode cX12_lesson 69 = .ok (.ifCond .ne 14, 3) := by decide +kernel
theorem dX12_lesson_72 : decode cX12_lesson 72 = .ok (.aload_n 0, 1) := by decide +kernel
theorem dX12_lesson_73 : decode cX12_lesson 73 = .ok (.iload_n 1, 1) := by decide +kernel
theorem dX12_lesson_74 : decode cX12_lesson 74 = .ok (.lload_n 2, 1) := by decide +kernel
theorem dX12_lesson_75 : decode cX12_lesson 75 = .ok (.iload 7, 2) := by decide +kernel
theorem dX12_lesson_77 : decode cX12_lesson 77 = .ok (.invokestatic 71, 3) := by decide +kernel
theorem dX12_lesson_80 : decode cX12_lesson 80 = .ok (.invokevirtual 188, 3) := by decide +kernel
theorem dX12_lesson_83 : decode cX12_lesson 83 = .ok (.iinc 7 1, 3) := by decide +kernel
theorem dX12_lesson_86 : decode cX12_lesson 86 = .ok (.goto (-35), 3) := by decide +kernel
theorem dX12_lesson_89 : decode cX12_lesson 89 = .ok (.goto 106, 3) := by decide +kernel
theorem dX12_lesson_92 : decode cX12_lesson 92 = .ok (.aload_n 0, 1) := by decide +kernel
theorem dX12_lesson_93 : decode cX12_lesson 93 = .ok (.getfield 95, 3) := by decide +kernel
theorem dX12_lesson_96 : decode cX12_lesson 96 = .ok (.iload_n 1, 1) := by decide +kernel
theorem dX12_lesson_97 : decode cX12_lesson 97 = .ok (.iaload, 1) := by decide +kernel
theorem dX12_lesson_98 : decode cX12_lesson 98 = .ok (.iconst 1, 1) := by decide +kernel
theorem dX12_lesson_99 : decode cX12_lesson 99 = .ok (.if_icmp .ne 46, 3) := by decide +kernel
theorem dX12_lesson_102 : decode cX12_lesson 102 = .ok (.iload 6, 2) := by decide +kernel
theorem dX12_lesson_104 : decode cX12_lesson 104 = .ok (.istore 7, 2) := by decide +kernel
theorem dX12_lesson_106 : decode cX12_lesson 106 = .ok (.iload 7, 2) := by decide +kernel
theorem dX12_lesson_108 : decode cX12_lesson 108 = .ok (.ifCond .lt 34, 3) := by decide +kernel
theorem dX12_lesson_111 : decode cX12_lesson 111 = .ok (.aload_n 0, 1) := by decide +kernel
theorem dX12_lesson_112 : decode cX12_lesson 112 = .ok (.iload_n 1, 1) := by decide +kernel
theorem dX12_lesson_113 : decode cX12_lesson 113 = .ok (.lload_n 2, 1) := by decide +kernel
theorem dX12_lesson_114 : decode cX12_lesson 114 = .ok (.iload 7, 2) := by decide +kernel
theorem dX12_lesson_116 : decode cX12_lesson 116 = .ok (.invokestatic 75, 3) := by decide +kernel
theorem dX12_lesson_119 : decode cX12_lesson 119 = .ok (.invokevirtual 265, 3) := by decide +kernel
theorem dX12_lesson_122 : decode cX12_lesson 122 = .ok (.ifCond .ne 14, 3) := by decide +kernel
theorem dX12_lesson_125 : decode cX12_lesson 125 = .ok (.aload_n 0, 1) := by decide +kernel
theorem dX12_lesson_126 : decode cX12_lesson 126 = .ok (.iload_n 1, 1) := by decide +kernel
theorem dX12_lesson_127 : decode cX12_lesson 127 = .ok (.lload_n 2, 1) := by decide +kernel
theorem dX12_lesson_128 : decode cX12_lesson 128 = .ok (.iload 7, 2) := by decide +kernel
theorem dX12_lesson_130 : decode cX12_lesson 130 = .ok (.invokestatic 75, 3) := by decide +kernel
theorem dX12_lesson_133 : decode cX12_lesson 133 = .ok (.invokevirtual 192, 3) := by decide +kernel
theorem dX12_lesson_136 : decode cX12_lesson 136 = .ok (.iinc 7 (-1), 3) := by decide +kernel
theorem dX12_lesson_139 : decode cX12_lesson 139 = .ok (.goto (-33), 3) := by decide +kernel
theorem dX12_lesson_142 : decode cX12_lesson 142 = .ok (.goto 53, 3) := by decide +kernel
theorem dX12_lesson_145 : decode cX12_lesson 145 = .ok (.aload_n 0, 1) := by decide +kernel
theorem dX12_lesson_146 : decode cX12_lesson 146 = .ok (.iload_n 1, 1) := by decide +kernel
theorem dX12_lesson_147 : decode cX12_lesson 147 = .ok (.lload_n 2, 1) := by decide +kernel
theorem dX12_lesson_148 : decode cX12_lesson 148 = .ok (.iload 5, 2) := by decide +kernel
theorem dX12_lesson_150 : decode cX12_lesson 150 = .ok (.invokevirtual 268, 3) := by decide +kernel
theorem dX12_lesson_153 : decode cX12_lesson 153 = .ok (.istore 7, 2) := by decide +kernel
theorem dX12_lesson_155 : decode cX12_lesson 155 = .ok (.lload_n 2, 1) := by decide +kernel
theorem dX12_lesson_156 : decode cX12_lesson 156 = .ok (.iload 7, 2) := by decide +kernel
theorem dX12_lesson_158 : decode cX12_lesson 158 = .ok (.iconst 1, 1) := by decide +kernel
theorem dX12_lesson_159 : decode cX12_lesson 159 = .ok (.iadd, 1) := by decide +kernel
theorem dX12_lesson_160 : decode cX12_lesson 160 = .ok (.invokestatic 75, 3) := by decide +kernel
theorem dX12_lesson_163 : decode cX12_lesson 163 = .ok (.lstore 8, 2) := by decide +kernel
theorem dX12_lesson_165 : decode cX12_lesson 165 = .ok (.aload_n 0, 1) := by decide +kernel
theorem dX12_lesson_166 : decode cX12_lesson 166 = .ok (.getfield 95, 3) := by decide +kernel
theorem dX12_lesson_169 : decode cX12_lesson 169 = .ok (.iload_n 1, 1) := by decide +kernel
theorem dX12_lesson_170 : decode cX12_lesson 170 = .ok (.iaload, 1) := by decide +kernel
theorem dX12_lesson_171 : decode cX12_lesson 171 = .ok (.iconst 2, 1) := by decide +kernel
theorem dX12_lesson_172 : decode cX12_lesson 172 = .ok (.if_icmp .ne 13, 3) := by decide +kernel
theorem dX12_lesson_175 : decode cX12_lesson 175 = .ok (.aload_n 0, 1) := by decide +kernel
theorem dX12_lesson_176 : decode cX12_lesson 176 = .ok (.iload_n 1, 1) := by decide +kernel
theorem dX12_lesson_177 : decode cX12_lesson 177 = .ok (.lload 8, 2) := by decide +kernel
theorem dX12_lesson_179 : decode cX12_lesson 179 = .ok (.invokevirtual 192, 3) := by decide +kernel
theorem dX12_lesson_182 : decode cX12_lesson 182 = .ok (.goto 13, 3) := by decide +kernel
theorem dX12_lesson_185 : decode cX12_lesson 185 = .ok (.aload_n 0, 1) := by decide +kernel
theorem dX12_lesson_186 : decode cX12_lesson 186 = .ok (.iload_n 1, 1) := by decide +kernel
theorem dX12_lesson_187 : decode cX12_lesson 187 = .ok (.lload_n 2, 1) := by decide +kernel
theorem dX12_lesson_188 : decode cX12_lesson 188 = .ok (.iload 7, 2) := by decide +kernel
theorem dX12_lesson_190 : decode cX12_lesson 190 = .ok (.lload 8, 2) := by decide +kernel
theorem dX12_lesson_192 : decode cX12_lesson 192 = .ok (.invokevirtual 272, 3) := by decide +kernel
theorem dX12_lesson_195 : decode cX12_lesson 195 = .ok (.aload_n 0, 1) := by decide +kernel
theorem dX12_lesson_196 : decode cX12_lesson 196 = .ok (.getfield 126, 3) := by decide +kernel
theorem dX12_lesson_199 : decode cX12_lesson 199 = .ok (.iload_n 1, 1) := by decide +kernel
theorem dX12_lesson_200 : decode cX12_lesson 200 = .ok (.iconst 0, 1) := by decide +kernel
theorem dX12_lesson_201 : decode cX12_lesson 201 = .ok (.bastore, 1) := by decide +kernel
theorem dX12_lesson_202 : decode cX12_lesson 202 = .ok (.aload_n 0, 1) := by decide +kernel
theorem dX12_lesson_203 : decode cX12_lesson 203 = .ok (.getfield 98, 3) := by decide +kernel
theorem dX12_lesson_206 : decode cX12_lesson 206 = .ok (.iload_n 1, 1) := by decide +kernel
theorem dX12_lesson_207 : decode cX12_lesson 207 = .ok (.iaload, 1) := by decide +kernel
theorem dX12_lesson_208 : decode cX12_lesson 208 = .ok (.aload_n 0, 1) := by decide +kernel
theorem dX12_lesson_209 : decode cX12_lesson 209 = .ok (.getfield 101, 3) := by decide +kernel
theorem dX12_lesson_212 : decode cX12_lesson 212 = .ok (.iload_n 1, 1) := by decide +kernel
theorem dX12_lesson_213 : decode cX12_lesson 213 = .ok (.iaload, 1) := by decide +kernel
theorem dX12_lesson_214 : decode cX12_lesson 214 = .ok (.iadd, 1) := by decide +kernel
theorem dX12_lesson_215 : decode cX12_lesson 215 = .ok (.iload 4, 2) := by decide +kernel
theorem dX12_lesson_217 : decode cX12_lesson 217 = .ok (.isub, 1) := by decide +kernel
theorem dX12_lesson_218 : decode cX12_lesson 218 = .ok (.ireturn, 1) := by decide +kernel
theorem dX12_firstUnlike_0 : decode cX12_firstUnlike 0 = .ok (.iconst 0, 1) := by decide +kernel
theorem dX12_firstUnlike_1 : decode cX12_firstUnlike 1 = .ok (.istore 5, 2) := by decide +kernel
theorem dX12_firstUnlike_3 : decode cX12_firstUnlike 3 = .ok (.iload 5, 2) := by decide +kernel
theorem dX12_firstUnlike_5 : decode cX12_firstUnlike 5 = .ok (.bipush 64, 2) := by decide +kernel
theorem dX12_firstUnlike_7 : decode cX12_firstUnlike 7 = .ok (.if_icmp .ge 17, 3) := by decide +kernel
theorem dX12_firstUnlike_10 : decode cX12_firstUnlike 10 = .ok (.aload_n 0, 1) := by decide +kernel
theorem dX12_firstUnlike_11 : decode cX12_firstUnlike 11 = .ok (.getfield 136, 3) := by decide +kernel
theorem dX12_firstUnlike_14 : decode cX12_firstUnlike 14 = .ok (.iload 5, 2) := by decide +kernel
theorem dX12_firstUnlike_16 : decode cX12_firstUnlike 16 = .ok (.iconst 0, 1) := by decide +kernel
theorem dX12_firstUnlike_17 : decode cX12_firstUnlike 17 = .ok (.bastore, 1) := by decide +kernel
theorem dX12_firstUnlike_18 : decode cX12_firstUnlike 18 = .ok (.iinc 5 1, 3) := by decide +kernel
theorem dX12_firstUnlike_21 : decode cX12_firstUnlike 21 = .ok (.goto (-18), 3) := by decide +kernel
theorem dX12_firstUnlike_24 : decode cX12_firstUnlike 24 = .ok (.aload_n 0, 1) := by decide +kernel
theorem dX12_firstUnlike_25 : decode cX12_firstUnlike 25 = .ok (.getfield 139, 3) := by decide +kernel
theorem dX12_firstUnlike_28 : decode cX12_firstUnlike 28 = .ok (.iconst 0, 1) := by decide +kernel
theorem dX12_firstUnlike_29 : decode cX12_firstUnlike 29 = .ok (.bipush 8, 2) := by decide +kernel
theorem dX12_firstUnlike_31 : decode cX12_firstUnlike 31 = .ok (.iload_n 2, 1) := by decide +kernel
theorem dX12_firstUnlike_32 : decode cX12_firstUnlike 32 = .ok (.imul, 1) := by decide +kernel
theorem dX12_firstUnlike_33 : decode cX12_firstUnlike 33 = .ok (.iload 4, 2) := by decide +kernel
theorem dX12_firstUnlike_35 : decode cX12_firstUnlike 35 = .ok (.iadd, 1) := by decide +kernel
theorem dX12_firstUnlike_36 : decode cX12_firstUnlike 36 = .ok (.iastore, 1) := by decide +kernel
theorem dX12_firstUnlike_37 : decode cX12_firstUnlike 37 = .ok (.aload_n 0, 1) := by decide +kernel
theorem dX12_firstUnlike_38 : decode cX12_firstUnlike 38 = .ok (.getfield 142, 3) := by decide +kernel
theorem dX12_firstUnlike_41 : decode cX12_firstUnlike 41 = .ok (.iconst 0, 1) := by decide +kernel
theorem dX12_firstUnlike_42 : decode cX12_firstUnlike 42 = .ok (.lconst 1, 1) := by decide +kernel
theorem dX12_firstUnlike_43 : decode cX12_firstUnlike 43 = .ok (.lastore, 1) := by decide +kernel
theorem dX12_firstUnlike_44 : decode cX12_firstUnlike 44 = .ok (.aload_n 0, 1) := by decide +kernel
theorem dX12_firstUnlike_45 : decode cX12_firstUnlike 45 = .ok (.getfield 136, 3) := by decide +kernel
theorem dX12_firstUnlike_48 : decode cX12_firstUnlike 48 = .ok (.aload_n 0, 1) := by decide +kernel
theorem dX12_firstUnlike_49 : decode cX12_firstUnlike 49 = .ok (.getfield 139, 3) := by decide +kernel
theorem dX12_firstUnlike_52 : decode cX12_firstUnlike 52 = .ok (.iconst 0, 1) := by decide +kernel
theorem dX12_firstUnlike_53 : decode cX12_firstUnlike 53 = .ok (.iaload, 1) := by decide +kernel
theorem dX12_firstUnlike_54 : decode cX12_firstUnlike 54 = .ok (.iconst 1, 1) := by decide +kernel
theorem dX12_firstUnlike_55 : decode cX12_firstUnlike 55 = .ok (.bastore, 1) := by decide +kernel
theorem dX12_firstUnlike_56 : decode cX12_firstUnlike 56 = .ok (.iconst 1, 1) := by decide +kernel
theorem dX12_firstUnlike_57 : decode cX12_firstUnlike 57 = .ok (.istore 5, 2) := by decide +kernel
theorem dX12_firstUnlike_59 : decode cX12_firstUnlike 59 = .ok (.iconst 0, 1) := by decide +kernel
theorem dX12_firstUnlike_60 : decode cX12_firstUnlike 60 = .ok (.istore 6, 2) := by decide +kernel
theorem dX12_firstUnlike_62 : decode cX12_firstUnlike 62 = .ok (.iload 6, 2) := by decide +kernel
theorem dX12_firstUnlike_64 : decode cX12_firstUnlike 64 = .ok (.iload 5, 2) := by decide +kernel
theorem dX12_firstUnlike_66 : decode cX12_firstUnlike 66 = .ok (.if_icmp .ge 152, 3) := by decide +kernel
theorem dX12_firstUnlike_69 : decode cX12_firstUnlike 69 = .ok (.aload_n 0, 1) := by decide +kernel
theorem dX12_firstUnlike_70 : decode cX12_firstUnlike 70 = .ok (.getfield 139, 3) := by decide +kernel
theorem dX12_firstUnlike_73 : decode cX12_firstUnlike 73 = .ok (.iload 6, 2) := by decide +kernel
theorem dX12_firstUnlike_75 : decode cX12_firstUnlike 75 = .ok (.iaload, 1) := by decide +kernel
theorem dX12_firstUnlike_76 : decode cX12_firstUnlike 76 = .ok (.bipush 8, 2) := by decide +kernel
theorem dX12_firstUnlike_78 : decode cX12_firstUnlike 78 = .ok (.idiv, 1) := by decide +kernel
theorem dX12_firstUnlike_79 : decode cX12_firstUnlike 79 = .ok (.istore 7, 2) := by decide +kernel
theorem dX12_firstUnlike_81 : decode cX12_firstUnlike 81 = .ok (.aload_n 0, 1) := by decide +kernel
theorem dX12_firstUnlike_82 : decode cX12_firstUnlike 82 = .ok (.getfield 139, 3) := by decide +kernel
theorem dX12_firstUnlike_85 : decode cX12_firstUnlike 85 = .ok (.iload 6, 2) := by decide +kernel
theorem dX12_firstUnlike_87 : decode cX12_firstUnlike 87 = .ok (.iaload, 1) := by decide +kernel
theorem dX12_firstUnlike_88 : decode cX12_firstUnlike 88 = .ok (.bipush 8, 2) := by decide +kernel
theorem dX12_firstUnlike_90 : decode cX12_firstUnlike 90 = .ok (.irem, 1) := by decide +kernel
theorem dX12_firstUnlike_91 : decode cX12_firstUnlike 91 = .ok (.istore 8, 2) := by decide +kernel
theorem dX12_firstUnlike_93 : decode cX12_firstUnlike 93 = .ok (.aload_n 0, 1) := by decide +kernel
theorem dX12_firstUnlike_94 : decode cX12_firstUnlike 94 = .ok (.iload_n 1, 1) := by decide +kernel
theorem dX12_firstUnlike_95 : decode cX12_firstUnlike 95 = .ok (.iload 7, 2) := by decide +kernel
theorem dX12_firstUnlike_97 : decode cX12_firstUnlike 97 = .ok (.invokevirtual 51, 3) := by decide +kernel
theorem dX12_firstUnlike_100 : decode cX12_firstUnlike 100 = .ok (.aload_n 0, 1) := by decide +kernel
theorem dX12_firstUnlike_101 : decode cX12_firstUnlike 101 = .ok (.iload_n 3, 1) := by decide +kernel
theorem dX12_firstUnlike_102 : decode cX12_firstUnlike 102 = .ok (.iload 8, 2) := by decide +kernel
theorem dX12_firstUnlike_104 : decode cX12_firstUnlike 104 = .ok (.invokevirtual 51, 3) := by decide +kernel
theorem dX12_firstUnlike_107 : decode cX12_firstUnlike 107 = .ok (.if_icmp .eq 11, 3) := by decide +kernel
theorem dX12_firstUnlike_110 : decode cX12_firstUnlike 110 = .ok (.aload_n 0, 1) := by decide +kernel
theorem dX12_firstUnlike_111 : decode cX12_firstUnlike 111 = .ok (.getfield 142, 3) := by decide +kernel
theorem dX12_firstUnlike_114 : decode cX12_firstUnlike 114 = .ok (.iload 6, 2) := by decide +kernel
theorem dX12_firstUnlike_116 : decode cX12_firstUnlike 116 = .ok (.laload, 1) := by decide +kernel
theorem dX12_firstUnlike_117 : decode cX12_firstUnlike 117 = .ok (.lreturn, 1) := by decide +kernel
theorem dX12_firstUnlike_118 : decode cX12_firstUnlike 118 = .ok (.iconst 0, 1) := by decide +kernel
theorem dX12_firstUnlike_119 : decode cX12_firstUnlike 119 = .ok (.istore 9, 2) := by decide +kernel
theorem dX12_firstUnlike_121 : decode cX12_firstUnlike 121 = .ok (.iload 9, 2) := by decide +kernel
theorem dX12_firstUnlike_123 : decode cX12_firstUnlike 123 = .ok (.aload_n 0, 1) := by decide +kernel
theorem dX12_firstUnlike_124 : decode cX12_firstUnlike 124 = .ok (.getfield 30, 3) := by decide +kernel
theorem dX12_firstUnlike_127 : decode cX12_firstUnlike 127 = .ok (.if_icmp .ge 85, 3) := by decide +kernel
theorem dX12_firstUnlike_130 : decode cX12_firstUnlike 130 = .ok (.bipush 8, 2) := by decide +kernel
theorem dX12_firstUnlike_132 : decode cX12_firstUnlike 132 = .ok (.aload_n 0, 1) := by decide +kernel
theorem dX12_firstUnlike_133 : decode cX12_firstUnlike 133 = .ok (.iload_n 1, 1) := by decide +kernel
theorem dX12_firstUnlike_134 : decode cX12_firstUnlike 134 = .ok (.iload 7, 2) := by decide +kernel
theorem dX12_firstUnlike_136 : decode cX12_firstUnlike 136 = .ok (.iload 9, 2) := by decide +kernel
theorem dX12_firstUnlike_138 : decode cX12_firstUnlike 138 = .ok (.invokevirtual 43, 3) := by decide +kernel
theorem dX12_firstUnlike_141 : decode cX12_firstUnlike 141 = .ok (.imul, 1) := by decide +kernel
theorem dX12_firstUnlike_142 : decode cX12_firstUnlike 142 = .ok (.aload_n 0, 1) := by decide +kernel
theorem dX12_firstUnlike_143 : decode cX12_firstUnlike 143 = .ok (.iload_n 3, 1) := by decide +kernel
theorem dX12_firstUnlike_144 : decode cX12_firstUnlike 144 = .ok (.iload 8, 2) := by decide +kernel
theorem dX12_firstUnlike_146 : decode cX12_firstUnlike 146 = .ok (.iload 9, 2) := by decide +kernel
theorem dX12_firstUnlike_148 : decode cX12_firstUnlike 148 = .ok (.invokevirtual 43, 3) := by decide +kernel
theorem dX12_firstUnlike_151 : decode cX12_firstUnlike 151 = .ok (.iadd, 1) := by decide +kernel
theorem dX12_firstUnlike_152 : decode cX12_firstUnlike 152 = .ok (.istore 10, 2) := by decide +kernel
theorem dX12_firstUnlike_154 : decode cX12_firstUnlike 154 = .ok (.aload_n 0, 1) := by decide +kernel
theorem dX12_firstUnlike_155 : decode cX12_firstUnlike 155 = .ok (.getfield 136, 3) := by decide +kernel
theorem dX12_firstUnlike_158 : decode cX12_firstUnlike 158 = .ok (.iload 10, 2) := by decide +kernel
theorem dX12_firstUnlike_160 : decode cX12_firstUnlike 160 = .ok (.baload, 1) := by decide +kernel
theorem dX12_firstUnlike_161 : decode cX12_firstUnlike 161 = .ok (.ifCond .eq 6, 3) := by decide +kernel
theorem dX12_firstUnlike_164 : decode cX12_firstUnlike 164 = .ok (.goto 42, 3) := by decide +kernel
theorem dX12_firstUnlike_167 : decode cX12_firstUnlike 167 = .ok (.aload_n 0, 1) := by decide +kernel
theorem dX12_firstUnlike_168 : decode cX12_firstUnlike 168 = .ok (.getfield 136, 3) := by decide +kernel
theorem dX12_firstUnlike_171 : decode cX12_firstUnlike 171 = .ok (.iload 10, 2) := by decide +kernel
theorem dX12_firstUnlike_173 : decode cX12_firstUnlike 173 = .ok (.iconst 1, 1) := by decide +kernel
theorem dX12_firstUnlike_174 : decode cX12_firstUnlike 174 = .ok (.bastore, 1) := by decide +kernel
theorem dX12_firstUnlike_175 : decode cX12_firstUnlike 175 = .ok (.aload_n 0, 1) := by decide +kernel
theorem dX12_firstUnlike_176 : decode cX12_firstUnlike 176 = .ok (.getfield 139, 3) := by decide +kernel
theorem dX12_firstUnlike_179 : decode cX12_firstUnlike 179 = .ok (.iload 5, 2) := by decide +kernel
theorem dX12_firstUnlike_181 : decode cX12_firstUnlike 181 = .ok (.iload 10, 2) := by decide +kernel
theorem dX12_firstUnlike_183 : decode cX12_firstUnlike 183 = .ok (.iastore, 1) := by decide +kernel
theorem dX12_firstUnlike_184 : decode cX12_firstUnlike 184 = .ok (.aload_n 0, 1) := by decide +kernel
theorem dX12_firstUnlike_185 : decode cX12_firstUnlike 185 = .ok (.getfield 142, 3) := by decide +kernel
theorem dX12_firstUnlike_188 : decode cX12_firstUnlike 188 = .ok (.iload 5, 2) := by decide +kernel
theorem dX12_firstUnlike_190 : decode cX12_firstUnlike 190 = .ok (.aload_n 0, 1) := by decide +kernel
theorem dX12_firstUnlike_191 : decode cX12_firstUnlike 191 = .ok (.getfield 142, 3) := by decide +kernel
theorem dX12_firstUnlike_194 : decode cX12_firstUnlike 194 = .ok (.iload 6, 2) := by decide +kernel
theorem dX12_firstUnlike_196 : decode cX12_firstUnlike 196 = .ok (.laload, 1) := by decide +kernel
theorem dX12_firstUnlike_197 : decode cX12_firstUnlike 197 = .ok (.iload 9, 2) := by decide +kernel
theorem dX12_firstUnlike_199 : decode cX12_firstUnlike 199 = .ok (.invokestatic 80, 3) := by decide +kernel
theorem dX12_firstUnlike_202 : decode cX12_firstUnlike 202 = .ok (.lastore, 1) := by decide +kernel
theorem dX12_firstUnlike_203 : decode cX12_firstUnlike 203 = .ok (.iinc 5 1, 3) := by decide +kernel
theorem dX12_firstUnlike_206 : decode cX12_firstUnlike 206 = .ok (.iinc 9 1, 3) := by decide +kernel
theorem dX12_firstUnlike_209 : decode cX12_firstUnlike 209 = .ok (.goto (-88), 3) := by decide +kernel
theorem dX12_firstUnlike_212 : decode cX12_firstUnlike 212 = .ok (.iinc 6 1, 3) := by decide +kernel
theorem dX12_firstUnlike_215 : decode cX12_firstUnlike 215 = .ok (.goto (-153), 3) := by decide +kernel
theorem dX12_firstUnlike_218 : decode cX12_firstUnlike 218 = .ok (.lconst 0, 1) := by decide +kernel
theorem dX12_firstUnlike_219 : decode cX12_firstUnlike 219 = .ok (.lreturn, 1) := by decide +kernel
theorem dX12_wrongFirst_0 : decode cX12_wrongFirst 0 = .ok (.aload_n 0, 1) := by decide +kernel
theorem dX12_wrongFirst_1 : decode cX12_wrongFirst 1 = .ok (.iconst 1, 1) := by decide +kernel
theorem dX12_wrongFirst_2 : decode cX12_wrongFirst 2 = .ok (.iload_n 1, 1) := by decide +kernel
theorem dX12_wrongFirst_3 : decode cX12_wrongFirst 3 = .ok (.iadd, 1) := by decide +kernel
theorem dX12_wrongFirst_4 : decode cX12_wrongFirst 4 = .ok (.iconst 0, 1) := by decide +kernel
theorem dX12_wrongFirst_5 : decode cX12_wrongFirst 5 = .ok (.iconst 0, 1) := by decide +kernel
theorem dX12_wrongFirst_6 : decode cX12_wrongFirst 6 = .ok (.iconst 0, 1) := by decide +kernel
theorem dX12_wrongFirst_7 : decode cX12_wrongFirst 7 = .ok (.invokevirtual 276, 3) := by decide +kernel
theorem dX12_wrongFirst_10 : decode cX12_wrongFirst 10 = .ok (.lreturn, 1) := by decide +kernel
theorem dX12_learnsAll_0 : decode cX12_learnsAll 0 = .ok (.aload_n 0, 1) := by decide +kernel
theorem dX12_learnsAll_1 : decode cX12_learnsAll 1 = .ok (.iload_n 1, 1) := by decide +kernel
theorem dX12_learnsAll_2 : decode cX12_learnsAll 2 = .ok (.invokevirtual 280, 3) := by decide +kernel
theorem dX12_learnsAll_5 : decode cX12_learnsAll 5 = .ok (.istore_n 2, 1) := by decide +kernel
theorem dX12_learnsAll_6 : decode cX12_learnsAll 6 = .ok (.aload_n 0, 1) := by decide +kernel
theorem dX12_learnsAll_7 : decode cX12_learnsAll 7 = .ok (.iload_n 1, 1) := by decide +kernel
theorem dX12_learnsAll_8 : decode cX12_learnsAll 8 = .ok (.invokevirtual 283, 3) := by decide +kernel
theorem dX12_learnsAll_11 : decode cX12_learnsAll 11 = .ok (.lstore_n 3, 1) := by decide +kernel
theorem dX12_learnsAll_12 : decode cX12_learnsAll 12 = .ok (.lload_n 3, 1) := by decide +kernel
theorem dX12_learnsAll_13 : decode cX12_learnsAll 13 = .ok (.lconst 0, 1) := by decide +kernel
theorem dX12_learnsAll_14 : decode cX12_learnsAll 14 = .ok (.lcmp, 1) := by decide +kernel
theorem dX12_learnsAll_15 : decode cX12_learnsAll 15 = .ok (.ifCond .eq 27, 3) := by decide +kernel
theorem dX12_learnsAll_18 : decode cX12_learnsAll 18 = .ok (.aload_n 0, 1) := by decide +kernel
theorem dX12_learnsAll_19 : decode cX12_learnsAll 19 = .ok (.iload_n 1, 1) := by decide +kernel
theorem dX12_learnsAll_20 : decode cX12_learnsAll 20 = .ok (.lload_n 3, 1) := by decide +kernel
theorem dX12_learnsAll_21 : decode cX12_learnsAll 21 = .ok (.invokevirtual 287, 3) := by decide +kernel
theorem dX12_learnsAll_24 : decode cX12_learnsAll 24 = .ok (.pop, 1) := by decide +kernel
theorem dX12_learnsAll_25 : decode cX12_learnsAll 25 = .ok (.iload_n 2, 1) := by decide +kernel
theorem dX12_learnsAll_26 : decode cX12_learnsAll 26 = .ok (.aload_n 0, 1) := by decide +kernel
theorem dX12_learnsAll_27 : decode cX12_learnsAll 27 = .ok (.iload_n 1, 1) := by decide +kernel
theorem dX12_learnsAll_28 : decode cX12_learnsAll 28 = .ok (.invokevirtual 280, 3) := by decide +kernel
theorem dX12_learnsAll_31 : decode cX12_learnsAll 31 = .ok (.iadd, 1) := by decide +kernel
theorem dX12_learnsAll_32 : decode cX12_learnsAll 32 = .ok (.istore_n 2, 1) := by decide +kernel
theorem dX12_learnsAll_33 : decode cX12_learnsAll 33 = .ok (.aload_n 0, 1) := by decide +kernel
theorem dX12_learnsAll_34 : decode cX12_learnsAll 34 = .ok (.iload_n 1, 1) := by decide +kernel
theorem dX12_learnsAll_35 : decode cX12_learnsAll 35 = .ok (.invokevirtual 283, 3) := by decide +kernel
theorem dX12_learnsAll_38 : decode cX12_learnsAll 38 = .ok (.lstore_n 3, 1) := by decide +kernel
theorem dX12_learnsAll_39 : decode cX12_learnsAll 39 = .ok (.goto (-27), 3) := by decide +kernel
theorem dX12_learnsAll_42 : decode cX12_learnsAll 42 = .ok (.iload_n 2, 1) := by decide +kernel
theorem dX12_learnsAll_43 : decode cX12_learnsAll 43 = .ok (.ireturn, 1) := by decide +kernel
theorem dX12_sign_0 : decode cX12_sign 0 = .ok (.aload_n 0, 1) := by decide +kernel
theorem dX12_sign_1 : decode cX12_sign 1 = .ok (.iconst 0, 1) := by decide +kernel
theorem dX12_sign_2 : decode cX12_sign 2 = .ok (.putfield 1, 3) := by decide +kernel
theorem dX12_sign_5 : decode cX12_sign 5 = .ok (.aload_n 0, 1) := by decide +kernel
theorem dX12_sign_6 : decode cX12_sign 6 = .ok (.getfield 290, 3) := by decide +kernel
theorem dX12_sign_9 : decode cX12_sign 9 = .ok (.bipush 60, 2) := by decide +kernel
theorem dX12_sign_11 : decode cX12_sign 11 = .ok (.if_icmp .le 5, 3) := by decide +kernel
theorem dX12_sign_14 : decode cX12_sign 14 = .ok (.iconst (-1), 1) := by decide +kernel
theorem dX12_sign_15 : decode cX12_sign 15 = .ok (.ireturn, 1) := by decide +kernel
theorem dX12_sign_16 : decode cX12_sign 16 = .ok (.iconst 0, 1) := by decide +kernel
theorem dX12_sign_17 : decode cX12_sign 17 = .ok (.istore_n 2, 1) := by decide +kernel
theorem dX12_sign_18 : decode cX12_sign 18 = .ok (.iload_n 2, 1) := by decide +kernel
theorem dX12_sign_19 : decode cX12_sign 19 = .ok (.iconst 4, 1) := by decide +kernel
theorem dX12_sign_20 : decode cX12_sign 20 = .ok (.if_icmp .ge 33, 3) := by decide +kernel
theorem dX12_sign_23 : decode cX12_sign 23 = .ok (.aload_n 0, 1) := by decide +kernel
theorem dX12_sign_24 : decode cX12_sign 24 = .ok (.getfield 145, 3) := by decide +kernel
theorem dX12_sign_27 : decode cX12_sign 27 = .ok (.aload_n 0, 1) := by decide +kernel
theorem dX12_sign_28 : decode cX12_sign 28 = .ok (.getfield 290, 3) := by decide +kernel
theorem dX12_sign_31 : decode cX12_sign 31 = .ok (.iload_n 2, 1) := by decide +kernel
theorem dX12_sign_32 : decode cX12_sign 32 = .ok (.iadd, 1) := by decide +kernel
theorem dX12_sign_33 : decode cX12_sign 33 = .ok (.iload_n 1, 1) := by decide +kernel
theorem dX12_sign_34 : decode cX12_sign 34 = .ok (.bipush 24, 2) := by decide +kernel
theorem dX12_sign_36 : decode cX12_sign 36 = .ok (.bipush 8, 2) := by decide +kernel
theorem dX12_sign_38 : decode cX12_sign 38 = .ok (.iload_n 2, 1) := by decide +kernel
theorem dX12_sign_39 : decode cX12_sign 39 = .ok (.imul, 1) := by decide +kernel
theorem dX12_sign_40 : decode cX12_sign 40 = .ok (.isub, 1) := by decide +kernel
theorem dX12_sign_41 : decode cX12_sign 41 = .ok (.ishr, 1) := by decide +kernel
theorem dX12_sign_42 : decode cX12_sign 42 = .ok (.sipush 255, 3) := by decide +kernel
theorem dX12_sign_45 : decode cX12_sign 45 = .ok (.iand, 1) := by decide +kernel
theorem dX12_sign_46 : decode cX12_sign 46 = .ok (.iastore, 1) := by decide +kernel
theorem dX12_sign_47 : decode cX12_sign 47 = .ok (.iinc 2 1, 3) := by decide +kernel
theorem dX12_sign_50 : decode cX12_sign 50 = .ok (.goto (-32), 3) := by decide +kernel
theorem dX12_sign_53 : decode cX12_sign 53 = .ok (.aload_n 0, 1) := by decide +kernel
theorem dX12_sign_54 : decode cX12_sign 54 = .ok (.dup, 1) := by decide +kernel
theorem dX12_sign_55 : decode cX12_sign 55 = .ok (.getfield 290, 3) := by decide +kernel
theorem dX12_sign_58 : decode cX12_sign 58 = .ok (.iconst 4, 1) := by decide +kernel
theorem dX12_sign_59 : decode cX12_sign 59 = .ok (.iadd, 1) := by decide +kernel
theorem dX12_sign_60 : decode cX12_sign 60 = .ok (.putfield 290, 3) := by decide +kernel
theorem dX12_sign_63 : decode cX12_sign 63 = .ok (.aload_n 0, 1) := by decide +kernel
theorem dX12_sign_64 : decode cX12_sign 64 = .ok (.getfield 290, 3) := by decide +kernel
theorem dX12_sign_67 : decode cX12_sign 67 = .ok (.ireturn, 1) := by decide +kernel
theorem dX12_end_0 : decode cX12_end 0 = .ok (.aload_n 0, 1) := by decide +kernel
theorem dX12_end_1 : decode cX12_end 1 = .ok (.iconst 0, 1) := by decide +kernel
theorem dX12_end_2 : decode cX12_end 2 = .ok (.putfield 1, 3) := by decide +kernel
theorem dX12_end_5 : decode cX12_end 5 = .ok (.iload_n 1, 1) := by decide +kernel
theorem dX12_end_6 : decode cX12_end 6 = .ok (.i2l, 1) := by decide +kernel
theorem dX12_end_7 : decode cX12_end 7 = .ok (.lconst 0, 1) := by decide +kernel
theorem dX12_end_8 : decode cX12_end 8 = .ok (.aload_n 0, 1) := by decide +kernel
theorem dX12_end_9 : decode cX12_end 9 = .ok (.getfield 290, 3) := by decide +kernel
theorem dX12_end_12 : decode cX12_end 12 = .ok (.i2l, 1) := by decide +kernel
theorem dX12_end_13 : decode cX12_end 13 = .ok (.invokestatic 24, 3) := by decide +kernel
theorem dX12_end_16 : decode cX12_end 16 = .ok (.ifCond .ne 5, 3) := by decide +kernel
theorem dX12_end_19 : decode cX12_end 19 = .ok (.iconst 0, 1) := by decide +kernel
theorem dX12_end_20 : decode cX12_end 20 = .ok (.ireturn, 1) := by decide +kernel
theorem dX12_end_21 : decode cX12_end 21 = .ok (.aload_n 0, 1) := by decide +kernel
theorem dX12_end_22 : decode cX12_end 22 = .ok (.iload_n 1, 1) := by decide +kernel
theorem dX12_end_23 : decode cX12_end 23 = .ok (.putfield 290, 3) := by decide +kernel
theorem dX12_end_26 : decode cX12_end 26 = .ok (.iconst 1, 1) := by decide +kernel
theorem dX12_end_27 : decode cX12_end 27 = .ok (.ireturn, 1) := by decide +kernel
theorem dX12_takes_0 : decode cX12_takes 0 = .ok (.aload_n 0, 1) := by decide +kernel
theorem dX12_takes_1 : decode cX12_takes 1 = .ok (.getfield 293, 3) := by decide +kernel
theorem dX12_takes_4 : decode cX12_takes 4 = .ok (.aload_n 0, 1) := by decide +kernel
theorem dX12_takes_5 : decode cX12_takes 5 = .ok (.getfield 296, 3) := by decide +kernel
theorem dX12_takes_8 : decode cX12_takes 8 = .ok (.if_icmp .ge 16, 3) := by decide +kernel
theorem dX12_takes_11 : decode cX12_takes 11 = .ok (.aload_n 0, 1) := by decide +kernel
theorem dX12_takes_12 : decode cX12_takes 12 = .ok (.getfield 145, 3) := by decide +kernel
theorem dX12_takes_15 : decode cX12_takes 15 = .ok (.aload_n 0, 1) := by decide +kernel
theorem dX12_takes_16 : decode cX12_takes 16 = .ok (.getfield 293, 3) := by decide +kernel
theorem dX12_takes_19 : decode cX12_takes 19 = .ok (.iaload, 1) := by decide +kernel
theorem dX12_takes_20 : decode cX12_takes 20 = .ok (.iload_n 1, 1) := by decide +kernel
theorem dX12_takes_21 : decode cX12_takes 21 = .ok (.if_icmp .eq 5, 3) := by decide +kernel
theorem dX12_takes_24 : decode cX12_takes 24 = .ok (.iconst 0, 1) := by decide +kernel
theorem dX12_takes_25 : decode cX12_takes 25 = .ok (.ireturn, 1) := by decide +kernel
theorem dX12_takes_26 : decode cX12_takes 26 = .ok (.aload_n 0, 1) := by decide +kernel
theorem dX12_takes_27 : decode cX12_takes 27 = .ok (.dup, 1) := by decide +kernel
theorem dX12_takes_28 : decode cX12_takes 28 = .ok (.getfield 293, 3) := by decide +kernel
theorem dX12_takes_31 : decode cX12_takes 31 = .ok (.iconst 1, 1) := by decide +kernel
theorem dX12_takes_32 : decode cX12_takes 32 = .ok (.iadd, 1) := by decide +kernel
theorem dX12_takes_33 : decode cX12_takes 33 = .ok (.putfield 293, 3) := by decide +kernel
theorem dX12_takes_36 : decode cX12_takes 36 = .ok (.iconst 1, 1) := by decide +kernel
theorem dX12_takes_37 : decode cX12_takes 37 = .ok (.ireturn, 1) := by decide +kernel
theorem dX12_takesDigit_0 : decode cX12_takesDigit 0 = .ok (.aload_n 0, 1) := by decide +kernel
theorem dX12_takesDigit_1 : decode cX12_takesDigit 1 = .ok (.getfield 293, 3) := by decide +kernel
theorem dX12_takesDigit_4 : decode cX12_takesDigit 4 = .ok (.aload_n 0, 1) := by decide +kernel
theorem dX12_takesDigit_5 : decode cX12_takesDigit 5 = .ok (.getfield 296, 3) := by decide +kernel
theorem dX12_takesDigit_8 : decode cX12_takesDigit 8 = .ok (.if_icmp .ge 25, 3) := by decide +kernel
theorem dX12_takesDigit_11 : decode cX12_takesDigit 11 = .ok (.aload_n 0, 1) := by decide +kernel
theorem dX12_takesDigit_12 : decode cX12_takesDigit 12 = .ok (.getfield 145, 3) := by decide +kernel
theorem dX12_takesDigit_15 : decode cX12_takesDigit 15 = .ok (.aload_n 0, 1) := by decide +kernel
theorem dX12_takesDigit_16 : decode cX12_takesDigit 16 = .ok (.getfield 293, 3) := by decide +kernel
theorem dX12_takesDigit_19 : decode cX12_takesDigit 19 = .ok (.iaload, 1) := by decide +kernel
theorem dX12_takesDigit_20 : decode cX12_takesDigit 20 = .ok (.bipush 48, 2) := by decide +kernel
theorem dX12_takesDigit_22 : decode cX12_takesDigit 22 = .ok (.isub, 1) := by decide +kernel
theorem dX12_takesDigit_23 : decode cX12_takesDigit 23 = .ok (.i2l, 1) := by decide +kernel
theorem dX12_takesDigit_24 : decode cX12_takesDigit 24 = .ok (.lconst 0, 1) := by decide +kernel
theorem dX12_takesDigit_25 : decode cX12_takesDigit 25 = .ok (.iload_n 1, 1) := by decide +kernel
theorem dX12_takesDigit_26 : decode cX12_takesDigit 26 = .ok (.i2l, 1) := by decide +kernel
theorem dX12_takesDigit_27 : decode cX12_takesDigit 27 = .ok (.invokestatic 24, 3) := by decide +kernel
theorem dX12_takesDigit_30 : decode cX12_takesDigit 30 = .ok (.ifCond .ne 5, 3) := by decide +kernel
theorem dX12_takesDigit_33 : decode cX12_takesDigit 33 = .ok (.iconst 0, 1) := by decide +kernel
theorem dX12_takesDigit_34 : decode cX12_takesDigit 34 = .ok (.ireturn, 1) := by decide +kernel
theorem dX12_takesDigit_35 : decode cX12_takesDigit 35 = .ok (.aload_n 0, 1) := by decide +kernel
theorem dX12_takesDigit_36 : decode cX12_takesDigit 36 = .ok (.aload_n 0, 1) := by decide +kernel
theorem dX12_takesDigit_37 : decode cX12_takesDigit 37 = .ok (.getfield 145, 3) := by decide +kernel
theorem dX12_takesDigit_40 : decode cX12_takesDigit 40 = .ok (.aload_n 0, 1) := by decide +kernel
theorem dX12_takesDigit_41 : decode cX12_takesDigit 41 = .ok (.getfield 293, 3) := by decide +kernel
theorem dX12_takesDigit_44 : decode cX12_takesDigit 44 = .ok (.iaload, 1) := by decide +kernel
theorem dX12_takesDigit_45 : decode cX12_takesDigit 45 = .ok (.bipush 48, 2) := by decide +kernel
theorem dX12_takesDigit_47 : decode cX12_takesDigit 47 = .ok (.isub, 1) := by decide +kernel
theorem dX12_takesDigit_48 : decode cX12_takesDigit 48 = .ok (.putfield 299, 3) := by decide +kernel
theorem dX12_takesDigit_51 : decode cX12_takesDigit 51 = .ok (.aload_n 0, 1) := by decide +kernel
theorem dX12_takesDigit_52 : decode cX12_takesDigit 52 = .ok (.dup, 1) := by decide +kernel
theorem dX12_takesDigit_53 : decode cX12_takesDigit 53 = .ok (.getfield 293, 3) := by decide +kernel
theorem dX12_takesDigit_56 : decode cX12_takesDigit 56 = .ok (.iconst 1, 1) := by decide +kernel
theorem dX12_takesDigit_57 : decode cX12_takesDigit 57 = .ok (.iadd, 1) := by decide +kernel
theorem dX12_takesDigit_58 : decode cX12_takesDigit 58 = .ok (.putfield 293, 3) := by decide +kernel
theorem dX12_takesDigit_61 : decode cX12_takesDigit 61 = .ok (.iconst 1, 1) := by decide +kernel
theorem dX12_takesDigit_62 : decode cX12_takesDigit 62 = .ok (.ireturn, 1) := by decide +kernel
theorem dX12_readsState_0 : decode cX12_readsState 0 = .ok (.aload_n 0, 1) := by decide +kernel
theorem dX12_readsState_1 : decode cX12_readsState 1 = .ok (.iconst 3, 1) := by decide +kernel
theorem dX12_readsState_2 : decode cX12_readsState 2 = .ok (.invokevirtual 302, 3) := by decide +kernel
theorem dX12_readsState_5 : decode cX12_readsState 5 = .ok (.ifCond .ne 5, 3) := by decide +kernel
theorem dX12_readsState_8 : decode cX12_readsState 8 = .ok (.iconst 0, 1) := by decide +kernel
theorem dX12_readsState_9 : decode cX12_readsState 9 = .ok (.ireturn, 1) := by decide +kernel
theorem dX12_readsState_10 : decode cX12_readsState 10 = .ok (.aload_n 0, 1) := by decide +kernel
theorem dX12_readsState_11 : decode cX12_readsState 11 = .ok (.getfield 148, 3) := by decide +kernel
theorem dX12_readsState_14 : decode cX12_readsState 14 = .ok (.iload_n 1, 1) := by decide +kernel
theorem dX12_readsState_15 : decode cX12_readsState 15 = .ok (.aload_n 0, 1) := by decide +kernel
theorem dX12_readsState_16 : decode cX12_readsState 16 = .ok (.getfield 299, 3) := by decide +kernel
theorem dX12_readsState_19 : decode cX12_readsState 19 = .ok (.iastore, 1) := by decide +kernel
theorem dX12_readsState_20 : decode cX12_readsState 20 = .ok (.aload_n 0, 1) := by decide +kernel
theorem dX12_readsState_21 : decode cX12_readsState 21 = .ok (.bipush 58, 2) := by decide +kernel
theorem dX12_readsState_23 : decode cX12_readsState 23 = .ok (.invokevirtual 305, 3) := by decide +kernel
theorem dX12_readsState_26 : decode cX12_readsState 26 = .ok (.ifCond .ne 5, 3) := by decide +kernel
theorem dX12_readsState_29 : decode cX12_readsState 29 = .ok (.iconst 0, 1) := by decide +kernel
theorem dX12_readsState_30 : decode cX12_readsState 30 = .ok (.ireturn, 1) := by decide +kernel
theorem dX12_readsState_31 : decode cX12_readsState 31 = .ok (.iconst 0, 1) := by decide +kernel
theorem dX12_readsState_32 : decode cX12_readsState 32 = .ok (.istore_n 2, 1) := by decide +kernel
theorem dX12_readsState_33 : decode cX12_readsState 33 = .ok (.iconst 1, 1) := by decide +kernel
theorem dX12_readsState_34 : decode cX12_readsState 34 = .ok (.istore_n 3, 1) := by decide +kernel
theorem dX12_readsState_35 : decode cX12_readsState 35 = .ok (.iload_n 3, 1) := by decide +kernel
theorem dX12_readsState_36 : decode cX12_readsState 36 = .ok (.ifCond .eq 90, 3) := by decide +kernel
theorem dX12_readsState_39 : decode cX12_readsState 39 = .ok (.aload_n 0, 1) := by decide +kernel
theorem dX12_readsState_40 : decode cX12_readsState 40 = .ok (.bipush 7, 2) := by decide +kernel
theorem dX12_readsState_42 : decode cX12_readsState 42 = .ok (.invokevirtual 302, 3) := by decide +kernel
theorem dX12_readsState_45 : decode cX12_readsState 45 = .ok (.ifCond .ne 5, 3) := by decide +kernel
theorem dX12_readsState_48 : decode cX12_readsState 48 = .ok (.iconst 0, 1) := by decide +kernel
theorem dX12_readsState_49 : decode cX12_readsState 49 = .ok (.ireturn, 1) := by decide +kernel
theorem dX12_readsState_50 : decode cX12_readsState 50 = .ok (.aload_n 0, 1) := by decide +kernel
theorem dX12_readsState_51 : decode cX12_readsState 51 = .ok (.getfield 151, 3) := by decide +kernel
theorem dX12_readsState_54 : decode cX12_readsState 54 = .ok (.iconst 3, 1) := by decide +kernel
theorem dX12_readsState_55 : decode cX12_readsState 55 = .ok (.iload_n 1, 1) := by decide +kernel
theorem dX12_readsState_56 : decode cX12_readsState 56 = .ok (.imul, 1) := by decide +kernel
theorem dX12_readsState_57 : decode cX12_readsState 57 = .ok (.iload_n 2, 1) := by decide +kernel
theorem dX12_readsState_58 : decode cX12_readsState 58 = .ok (.iadd, 1) := by decide +kernel
theorem dX12_readsState_59 : decode cX12_readsState 59 = .ok (.aload_n 0, 1) := by decide +kernel
theorem dX12_readsState_60 : decode cX12_readsState 60 = .ok (.getfield 299, 3) := by decide +kernel
theorem dX12_readsState_63 : decode cX12_readsState 63 = .ok (.iastore, 1) := by decide +kernel
theorem dX12_readsState_64 : decode cX12_readsState 64 = .ok (.iinc 2 1, 3) := by decide +kernel
theorem dX12_readsState_67 : decode cX12_readsState 67 = .ok (.iload_n 1, 1) := by decide +kernel
theorem dX12_readsState_68 : decode cX12_readsState 68 = .ok (.ifCond .ne 25, 3) := by decide +kernel
theorem dX12_readsState_71 : decode cX12_readsState 71 = .ok (.iload_n 2, 1) := by decide +kernel
theorem dX12_readsState_72 : decode cX12_readsState 72 = .ok (.iconst 3, 1) := by decide +kernel
theorem dX12_readsState_73 : decode cX12_readsState 73 = .ok (.if_icmp .ge 16, 3) := by decide +kernel
theorem dX12_readsState_76 : decode cX12_readsState 76 = .ok (.aload_n 0, 1) := by decide +kernel
theorem dX12_readsState_77 : decode cX12_readsState 77 = .ok (.bipush 44, 2) := by decide +kernel
theorem dX12_readsState_79 : decode cX12_readsState 79 = .ok (.invokevirtual 305, 3) := by decide +kernel
theorem dX12_readsState_82 : decode cX12_readsState 82 = .ok (.ifCond .eq 7, 3) := by decide +kernel
theorem dX12_readsState_85 : decode cX12_readsState 85 = .ok (.iconst 1, 1) := by decide +kernel
theorem dX12_readsState_86 : decode cX12_readsState 86 = .ok (.goto 20, 3) := by decide +kernel
theorem dX12_readsState_89 : decode cX12_readsState 89 = .ok (.iconst 0, 1) := by decide +kernel
theorem dX12_readsState_90 : decode cX12_readsState 90 = .ok (.goto 16, 3) := by decide +kernel
theorem dX12_readsState_93 : decode cX12_readsState 93 = .ok (.iload_n 2, 1) := by decide +kernel
theorem dX12_readsState_94 : decode cX12_readsState 94 = .ok (.aload_n 0, 1) := by decide +kernel
theorem dX12_readsState_95 : decode cX12_readsState 95 = .ok (.getfield 308, 3) := by decide +kernel
theorem dX12_readsState_98 : decode cX12_readsState 98 = .ok (.if_icmp .ge 7, 3) := by decide +kernel
theorem dX12_readsState_101 : decode cX12_readsState 101 = .ok (.iconst 1, 1) := by decide +kernel
theorem dX12_readsState_102 : decode cX12_readsState 102 = .ok (.goto 4, 3) := by decide +kernel
theorem dX12_readsState_105 : decode cX12_readsState 105 = .ok (.iconst 0, 1) := by decide +kernel
theorem dX12_readsState_106 : decode cX12_readsState 106 = .ok (.istore_n 3, 1) := by decide +kernel
theorem dX12_readsState_107 : decode cX12_readsState 107 = .ok (.iload_n 1, 1) := by decide +kernel
theorem dX12_readsState_108 : decode cX12_readsState 108 = .ok (.ifCond .le (-73), 3) := by decide +kernel
theorem dX12_readsState_111 : decode cX12_readsState 111 = .ok (.iload_n 3, 1) := by decide +kernel
theorem dX12_readsState_112 : decode cX12_readsState 112 = .ok (.ifCond .eq (-77), 3) := by decide +kernel
theorem dX12_readsState_115 : decode cX12_readsState 115 = .ok (.aload_n 0, 1) := by decide +kernel
theorem dX12_readsState_116 : decode cX12_readsState 116 = .ok (.bipush 44, 2) := by decide +kernel
theorem dX12_readsState_118 : decode cX12_readsState 118 = .ok (.invokevirtual 305, 3) := by decide +kernel
theorem dX12_readsState_121 : decode cX12_readsState 121 = .ok (.ifCond .ne (-86), 3) := by decide +kernel
theorem dX12_readsState_124 : decode cX12_readsState 124 = .ok (.iconst 0, 1) := by decide +kernel
theorem dX12_readsState_125 : decode cX12_readsState 125 = .ok (.ireturn, 1) := by decide +kernel
theorem dX12_readsState_126 : decode cX12_readsState 126 = .ok (.aload_n 0, 1) := by decide +kernel
theorem dX12_readsState_127 : decode cX12_readsState 127 = .ok (.iload_n 2, 1) := by decide +kernel
theorem dX12_readsState_128 : decode cX12_readsState 128 = .ok (.putfield 308, 3) := by decide +kernel
theorem dX12_readsState_131 : decode cX12_readsState 131 = .ok (.iconst 1, 1) := by decide +kernel
theorem dX12_readsState_132 : decode cX12_readsState 132 = .ok (.ireturn, 1) := by decide +kernel
theorem dX12_machine_0 : decode cX12_machine 0 = .ok (.aload_n 0, 1) := by decide +kernel
theorem dX12_machine_1 : decode cX12_machine 1 = .ok (.iconst 0, 1) := by decide +kernel
theorem dX12_machine_2 : decode cX12_machine 2 = .ok (.putfield 1, 3) := by decide +kernel
theorem dX12_machine_5 : decode cX12_machine 5 = .ok (.aload_n 0, 1) := by decide +kernel
theorem dX12_machine_6 : decode cX12_machine 6 = .ok (.aload_n 0, 1) := by decide +kernel
theorem dX12_machine_7 : decode cX12_machine 7 = .ok (.getfield 290, 3) := by decide +kernel
theorem dX12_machine_10 : decode cX12_machine 10 = .ok (.putfield 296, 3) := by decide +kernel
theorem dX12_machine_13 : decode cX12_machine 13 = .ok (.aload_n 0, 1) := by decide +kernel
theorem dX12_machine_14 : decode cX12_machine 14 = .ok (.iconst 0, 1) := by decide +kernel
theorem dX12_machine_15 : decode cX12_machine 15 = .ok (.putfield 290, 3) := by decide +kernel
theorem dX12_machine_18 : decode cX12_machine 18 = .ok (.aload_n 0, 1) := by decide +kernel
theorem dX12_machine_19 : decode cX12_machine 19 = .ok (.iconst 0, 1) := by decide +kernel
theorem dX12_machine_20 : decode cX12_machine 20 = .ok (.putfield 293, 3) := by decide +kernel
theorem dX12_machine_23 : decode cX12_machine 23 = .ok (.iconst 0, 1) := by decide +kernel
theorem dX12_machine_24 : decode cX12_machine 24 = .ok (.istore_n 1, 1) := by decide +kernel
theorem dX12_machine_25 : decode cX12_machine 25 = .ok (.iconst 1, 1) := by decide +kernel
theorem dX12_machine_26 : decode cX12_machine 26 = .ok (.istore_n 2, 1) := by decide +kernel
theorem dX12_machine_27 : decode cX12_machine 27 = .ok (.iload_n 2, 1) := by decide +kernel
theorem dX12_machine_28 : decode cX12_machine 28 = .ok (.ifCond .eq 46, 3) := by decide +kernel
theorem dX12_machine_31 : decode cX12_machine 31 = .ok (.aload_n 0, 1) := by decide +kernel
theorem dX12_machine_32 : decode cX12_machine 32 = .ok (.iload_n 1, 1) := by decide +kernel
theorem dX12_machine_33 : decode cX12_machine 33 = .ok (.invokevirtual 311, 3) := by decide +kernel
theorem dX12_machine_36 : decode cX12_machine 36 = .ok (.ifCond .ne 11, 3) := by decide +kernel
theorem dX12_machine_39 : decode cX12_machine 39 = .ok (.bipush (-21), 2) := by decide +kernel
theorem dX12_machine_41 : decode cX12_machine 41 = .ok (.aload_n 0, 1) := by decide +kernel
theorem dX12_machine_42 : decode cX12_machine 42 = .ok (.getfield 293, 3) := by decide +kernel
theorem dX12_machine_45 : decode cX12_machine 45 = .ok (.isub, 1) := by decide +kernel
theorem dX12_machine_46 : decode cX12_machine 46 = .ok (.ireturn, 1) := by decide +kernel
theorem dX12_machine_47 : decode cX12_machine 47 = .ok (.iinc 1 1, 3) := by decide +kernel
theorem dX12_machine_50 : decode cX12_machine 50 = .ok (.iload_n 1, 1) := by decide +kernel
theorem dX12_machine_51 : decode cX12_machine 51 = .ok (.bipush 8, 2) := by decide +kernel
theorem dX12_machine_53 : decode cX12_machine 53 = .ok (.if_icmp .ge 16, 3) := by decide +kernel
theorem dX12_machine_56 : decode cX12_machine 56 = .ok (.aload_n 0, 1) := by decide +kernel
theorem dX12_machine_57 : decode cX12_machine 57 = .ok (.bipush 59, 2) := by decide +kernel
theorem dX12_machine_59 : decode cX12_machine 59 = .ok (.invokevirtual 305, 3) := by decide +kernel
theorem dX12_machine_62 : decode cX12_machine 62 = .ok (.ifCond .eq 7, 3) := by decide +kernel
theorem dX12_machine_65 : decode cX12_machine 65 = .ok (.iconst 1, 1) := by decide +kernel
theorem dX12_machine_66 : decode cX12_machine 66 = .ok (.goto 4, 3) := by decide +kernel
theorem dX12_machine_69 : decode cX12_machine 69 = .ok (.iconst 0, 1) := by decide +kernel
theorem dX12_machine_70 : decode cX12_machine 70 = .ok (.istore_n 2, 1) := by decide +kernel
theorem dX12_machine_71 : decode cX12_machine 71 = .ok (.goto (-44), 3) := by decide +kernel
theorem dX12_machine_74 : decode cX12_machine 74 = .ok (.aload_n 0, 1) := by decide +kernel
theorem dX12_machine_75 : decode cX12_machine 75 = .ok (.getfield 293, 3) := by decide +kernel
theorem dX12_machine_78 : decode cX12_machine 78 = .ok (.aload_n 0, 1) := by decide +kernel
theorem dX12_machine_79 : decode cX12_machine 79 = .ok (.getfield 296, 3) := by decide +kernel
theorem dX12_machine_82 : decode cX12_machine 82 = .ok (.if_icmp .ge 11, 3) := by decide +kernel
theorem dX12_machine_85 : decode cX12_machine 85 = .ok (.bipush (-21), 2) := by decide +kernel
theorem dX12_machine_87 : decode cX12_machine 87 = .ok (.aload_n 0, 1) := by decide +kernel
theorem dX12_machine_88 : decode cX12_machine 88 = .ok (.getfield 293, 3) := by decide +kernel
theorem dX12_machine_91 : decode cX12_machine 91 = .ok (.isub, 1) := by decide +kernel
theorem dX12_machine_92 : decode cX12_machine 92 = .ok (.ireturn, 1) := by decide +kernel
theorem dX12_machine_93 : decode cX12_machine 93 = .ok (.iconst 0, 1) := by decide +kernel
theorem dX12_machine_94 : decode cX12_machine 94 = .ok (.istore_n 3, 1) := by decide +kernel
theorem dX12_machine_95 : decode cX12_machine 95 = .ok (.iload_n 3, 1) := by decide +kernel
theorem dX12_machine_96 : decode cX12_machine 96 = .ok (.iload_n 1, 1) := by decide +kernel
theorem dX12_machine_97 : decode cX12_machine 97 = .ok (.if_icmp .ge 45, 3) := by decide +kernel
theorem dX12_machine_100 : decode cX12_machine 100 = .ok (.iconst 0, 1) := by decide +kernel
theorem dX12_machine_101 : decode cX12_machine 101 = .ok (.istore 4, 2) := by decide +kernel
theorem dX12_machine_103 : decode cX12_machine 103 = .ok (.iload 4, 2) := by decide +kernel
theorem dX12_machine_105 : decode cX12_machine 105 = .ok (.aload_n 0, 1) := by decide +kernel
theorem dX12_machine_106 : decode cX12_machine 106 = .ok (.getfield 308, 3) := by decide +kernel
theorem dX12_machine_109 : decode cX12_machine 109 = .ok (.if_icmp .ge 27, 3) := by decide +kernel
theorem dX12_machine_112 : decode cX12_machine 112 = .ok (.aload_n 0, 1) := by decide +kernel
theorem dX12_machine_113 : decode cX12_machine 113 = .ok (.getfield 151, 3) := by decide +kernel
theorem dX12_machine_116 : decode cX12_machine 116 = .ok (.iconst 3, 1) := by decide +kernel
theorem dX12_machine_117 : decode cX12_machine 117 = .ok (.iload_n 3, 1) := by decide +kernel
theorem dX12_machine_118 : decode cX12_machine 118 = .ok (.imul, 1) := by decide +kernel
theorem dX12_machine_119 : decode cX12_machine 119 = .ok (.iload 4, 2) := by decide +kernel
theorem dX12_machine_121 : decode cX12_machine 121 = .ok (.iadd, 1) := by decide +kernel
theorem dX12_machine_122 : decode cX12_machine 122 = .ok (.iaload, 1) := by decide +kernel
theorem dX12_machine_123 : decode cX12_machine 123 = .ok (.iload_n 1, 1) := by decide +kernel
theorem dX12_machine_124 : decode cX12_machine 124 = .ok (.if_icmp .lt 6, 3) := by decide +kernel
theorem dX12_machine_127 : decode cX12_machine 127 = .ok (.bipush (-100), 2) := by decide +kernel
theorem dX12_machine_129 : decode cX12_machine 129 = .ok (.ireturn, 1) := by decide +kernel
theorem dX12_machine_130 : decode cX12_machine 130 = .ok (.iinc 4 1, 3) := by decide +kernel
theorem dX12_machine_133 : decode cX12_machine 133 = .ok (.goto (-30), 3) := by decide +kernel
theorem dX12_machine_136 : decode cX12_machine 136 = .ok (.iinc 3 1, 3) := by decide +kernel
theorem dX12_machine_139 : decode cX12_machine 139 = .ok (.goto (-44), 3) := by decide +kernel
theorem dX12_machine_142 : decode cX12_machine 142 = .ok (.aload_n 0, 1) := by decide +kernel
theorem dX12_machine_143 : decode cX12_machine 143 = .ok (.aload_n 0, 1) := by decide +kernel
theorem dX12_machine_144 : decode cX12_machine 144 = .ok (.getfield 308, 3) := by decide +kernel
theorem dX12_machine_147 : decode cX12_machine 147 = .ok (.putfield 30, 3) := by decide +kernel
theorem dX12_machine_150 : decode cX12_machine 150 = .ok (.aload_n 0, 1) := by decide +kernel
theorem dX12_machine_151 : decode cX12_machine 151 = .ok (.getfield 21, 3) := by decide +kernel
theorem dX12_machine_154 : decode cX12_machine 154 = .ok (.iconst 0, 1) := by decide +kernel
theorem dX12_machine_155 : decode cX12_machine 155 = .ok (.iload_n 1, 1) := by decide +kernel
theorem dX12_machine_156 : decode cX12_machine 156 = .ok (.iastore, 1) := by decide +kernel
theorem dX12_machine_157 : decode cX12_machine 157 = .ok (.iconst 0, 1) := by decide +kernel
theorem dX12_machine_158 : decode cX12_machine 158 = .ok (.istore_n 3, 1) := by decide +kernel
theorem dX12_machine_159 : decode cX12_machine 159 = .ok (.iload_n 3, 1) := by decide +kernel
theorem dX12_machine_160 : decode cX12_machine 160 = .ok (.iload_n 1, 1) := by decide +kernel
theorem dX12_machine_161 : decode cX12_machine 161 = .ok (.if_icmp .ge 71, 3) := by decide +kernel
theorem dX12_machine_164 : decode cX12_machine 164 = .ok (.aload_n 0, 1) := by decide +kernel
theorem dX12_machine_165 : decode cX12_machine 165 = .ok (.getfield 14, 3) := by decide +kernel
theorem dX12_machine_168 : decode cX12_machine 168 = .ok (.iload_n 3, 1) := by decide +kernel
theorem dX12_machine_169 : decode cX12_machine 169 = .ok (.aload_n 0, 1) := by decide +kernel
theorem dX12_machine_170 : decode cX12_machine 170 = .ok (.getfield 148, 3) := by decide +kernel
theorem dX12_machine_173 : decode cX12_machine 173 = .ok (.iload_n 3, 1) := by decide +kernel
theorem dX12_machine_174 : decode cX12_machine 174 = .ok (.iaload, 1) := by decide +kernel
theorem dX12_machine_175 : decode cX12_machine 175 = .ok (.iastore, 1) := by decide +kernel
theorem dX12_machine_176 : decode cX12_machine 176 = .ok (.iconst 0, 1) := by decide +kernel
theorem dX12_machine_177 : decode cX12_machine 177 = .ok (.istore 4, 2) := by decide +kernel
theorem dX12_machine_179 : decode cX12_machine 179 = .ok (.iload 4, 2) := by decide +kernel
theorem dX12_machine_181 : decode cX12_machine 181 = .ok (.iconst 3, 1) := by decide +kernel
theorem dX12_machine_182 : decode cX12_machine 182 = .ok (.if_icmp .ge 44, 3) := by decide +kernel
theorem dX12_machine_185 : decode cX12_machine 185 = .ok (.aload_n 0, 1) := by decide +kernel
theorem dX12_machine_186 : decode cX12_machine 186 = .ok (.getfield 18, 3) := by decide +kernel
theorem dX12_machine_189 : decode cX12_machine 189 = .ok (.iconst 3, 1) := by decide +kernel
theorem dX12_machine_190 : decode cX12_machine 190 = .ok (.iload_n 3, 1) := by decide +kernel
theorem dX12_machine_191 : decode cX12_machine 191 = .ok (.imul, 1) := by decide +kernel
theorem dX12_machine_192 : decode cX12_machine 192 = .ok (.iload 4, 2) := by decide +kernel
theorem dX12_machine_194 : decode cX12_machine 194 = .ok (.iadd, 1) := by decide +kernel
theorem dX12_machine_195 : decode cX12_machine 195 = .ok (.iload 4, 2) := by decide +kernel
theorem dX12_machine_197 : decode cX12_machine 197 = .ok (.aload_n 0, 1) := by decide +kernel
theorem dX12_machine_198 : decode cX12_machine 198 = .ok (.getfield 30, 3) := by decide +kernel
theorem dX12_machine_201 : decode cX12_machine 201 = .ok (.if_icmp .ge 17, 3) := by decide +kernel
theorem dX12_machine_204 : decode cX12_machine 204 = .ok (.aload_n 0, 1) := by decide +kernel
theorem dX12_machine_205 : decode cX12_machine 205 = .ok (.getfield 151, 3) := by decide +kernel
theorem dX12_machine_208 : decode cX12_machine 208 = .ok (.iconst 3, 1) := by decide +kernel
theorem dX12_machine_209 : decode cX12_machine 209 = .ok (.iload_n 3, 1) := by decide +kernel
theorem dX12_machine_210 : decode cX12_machine 210 = .ok (.imul, 1) := by decide +kernel
theorem dX12_machine_211 : decode cX12_machine 211 = .ok (.iload 4, 2) := by decide +kernel
theorem dX12_machine_213 : decode cX12_machine 213 = .ok (.iadd, 1) := by decide +kernel
theorem dX12_machine_214 : decode cX12_machine 214 = .ok (.iaload, 1) := by decide +kernel
theorem dX12_machine_215 : decode cX12_machine 215 = .ok (.goto 4, 3) := by decide +kernel
theorem dX12_machine_218 : decode cX12_machine 218 = .ok (.iconst 0, 1) := by decide +kernel
theorem dX12_machine_219 : decode cX12_machine 219 = .ok (.iastore, 1) := by decide +kernel
theorem dX12_machine_220 : decode cX12_machine 220 = .ok (.iinc 4 1, 3) := by decide +kernel
theorem dX12_machine_223 : decode cX12_machine 223 = .ok (.goto (-44), 3) := by decide +kernel
theorem dX12_machine_226 : decode cX12_machine 226 = .ok (.iinc 3 1, 3) := by decide +kernel
theorem dX12_machine_229 : decode cX12_machine 229 = .ok (.goto (-70), 3) := by decide +kernel
theorem dX12_machine_232 : decode cX12_machine 232 = .ok (.aload_n 0, 1) := by decide +kernel
theorem dX12_machine_233 : decode cX12_machine 233 = .ok (.iconst 0, 1) := by decide +kernel
theorem dX12_machine_234 : decode cX12_machine 234 = .ok (.aload_n 0, 1) := by decide +kernel
theorem dX12_machine_235 : decode cX12_machine 235 = .ok (.getfield 314, 3) := by decide +kernel
theorem dX12_machine_238 : decode cX12_machine 238 = .ok (.invokevirtual 175, 3) := by decide +kernel
theorem dX12_machine_241 : decode cX12_machine 241 = .ok (.iload_n 1, 1) := by decide +kernel
theorem dX12_machine_242 : decode cX12_machine 242 = .ok (.ireturn, 1) := by decide +kernel
theorem dX12_draw_0 : decode cX12_draw 0 = .ok (.aload_n 0, 1) := by decide +kernel
theorem dX12_draw_1 : decode cX12_draw 1 = .ok (.aload_n 0, 1) := by decide +kernel
theorem dX12_draw_2 : decode cX12_draw 2 = .ok (.getfield 317, 3) := by decide +kernel
theorem dX12_draw_5 : decode cX12_draw 5 = .ok (.ldc_w 320, 3) := by decide +kernel
theorem dX12_draw_8 : decode cX12_draw 8 = .ok (.imul, 1) := by decide +kernel
theorem dX12_draw_9 : decode cX12_draw 9 = .ok (.sipush 12345, 3) := by decide +kernel
theorem dX12_draw_12 : decode cX12_draw 12 = .ok (.iadd, 1) := by decide +kernel
theorem dX12_draw_13 : decode cX12_draw 13 = .ok (.putfield 317, 3) := by decide +kernel
theorem dX12_draw_16 : decode cX12_draw 16 = .ok (.aload_n 0, 1) := by decide +kernel
theorem dX12_draw_17 : decode cX12_draw 17 = .ok (.getfield 317, 3) := by decide +kernel
theorem dX12_draw_20 : decode cX12_draw 20 = .ok (.bipush 16, 2) := by decide +kernel
theorem dX12_draw_22 : decode cX12_draw 22 = .ok (.iushr, 1) := by decide +kernel
theorem dX12_draw_23 : decode cX12_draw 23 = .ok (.iload_n 1, 1) := by decide +kernel
theorem dX12_draw_24 : decode cX12_draw 24 = .ok (.irem, 1) := by decide +kernel
theorem dX12_draw_25 : decode cX12_draw 25 = .ok (.ireturn, 1) := by decide +kernel
theorem dX12_draws_0 : decode cX12_draws 0 = .ok (.aload_n 0, 1) := by decide +kernel
theorem dX12_draws_1 : decode cX12_draws 1 = .ok (.iconst 0, 1) := by decide +kernel
theorem dX12_draws_2 : decode cX12_draws 2 = .ok (.putfield 1, 3) := by decide +kernel
theorem dX12_draws_5 : decode cX12_draws 5 = .ok (.iload_n 2, 1) := by decide +kernel
theorem dX12_draws_6 : decode cX12_draws 6 = .ok (.i2l, 1) := by decide +kernel
theorem dX12_draws_7 : decode cX12_draws 7 = .ok (.lconst 1, 1) := by decide +kernel
theorem dX12_draws_8 : decode cX12_draws 8 = .ok (.ldc2_w 321, 3) := by decide +kernel
theorem dX12_draws_11 : decode cX12_draws 11 = .ok (.invokestatic 24, 3) := by decide +kernel
theorem dX12_draws_14 : decode cX12_draws 14 = .ok (.ifCond .eq 28, 3) := by decide +kernel
theorem dX12_draws_17 : decode cX12_draws 17 = .ok (.iload_n 3, 1) := by decide +kernel
theorem dX12_draws_18 : decode cX12_draws 18 = .ok (.i2l, 1) := by decide +kernel
theorem dX12_draws_19 : decode cX12_draws 19 = .ok (.lconst 1, 1) := by decide +kernel
theorem dX12_draws_20 : decode cX12_draws 20 = .ok (.ldc2_w 28, 3) := by decide +kernel
theorem dX12_draws_23 : decode cX12_draws 23 = .ok (.invokestatic 24, 3) := by decide +kernel
theorem dX12_draws_26 : decode cX12_draws 26 = .ok (.ifCond .eq 16, 3) := by decide +kernel
theorem dX12_draws_29 : decode cX12_draws 29 = .ok (.iload 4, 2) := by decide +kernel
theorem dX12_draws_31 : decode cX12_draws 31 = .ok (.i2l, 1) := by decide +kernel
theorem dX12_draws_32 : decode cX12_draws 32 = .ok (.lconst 1, 1) := by decide +kernel
theorem dX12_draws_33 : decode cX12_draws 33 = .ok (.ldc2_w 37, 3) := by decide +kernel
theorem dX12_draws_36 : decode cX12_draws 36 = .ok (.invokestatic 24, 3) := by decide +kernel
theorem dX12_draws_39 : decode cX12_draws 39 = .ok (.ifCond .ne 5, 3) := by decide +kernel
theorem dX12_draws_42 : decode cX12_draws 42 = .ok (.iconst (-1), 1) := by decide +kernel
theorem dX12_draws_43 : decode cX12_draws 43 = .ok (.ireturn, 1) := by decide +kernel
theorem dX12_draws_44 : decode cX12_draws 44 = .ok (.aload_n 0, 1) := by decide +kernel
theorem dX12_draws_45 : decode cX12_draws 45 = .ok (.iload_n 1, 1) := by decide +kernel
theorem dX12_draws_46 : decode cX12_draws 46 = .ok (.putfield 317, 3) := by decide +kernel
theorem dX12_draws_49 : decode cX12_draws 49 = .ok (.aload_n 0, 1) := by decide +kernel
theorem dX12_draws_50 : decode cX12_draws 50 = .ok (.iload_n 3, 1) := by decide +kernel
theorem dX12_draws_51 : decode cX12_draws 51 = .ok (.putfield 30, 3) := by decide +kernel
theorem dX12_draws_54 : decode cX12_draws 54 = .ok (.aload_n 0, 1) := by decide +kernel
theorem dX12_draws_55 : decode cX12_draws 55 = .ok (.getfield 21, 3) := by decide +kernel
theorem dX12_draws_58 : decode cX12_draws 58 = .ok (.iconst 0, 1) := by decide +kernel
theorem dX12_draws_59 : decode cX12_draws 59 = .ok (.iload_n 2, 1) := by decide +kernel
theorem dX12_draws_60 : decode cX12_draws 60 = .ok (.iastore, 1) := by decide +kernel
theorem dX12_draws_61 : decode cX12_draws 61 = .ok (.iconst 0, 1) := by decide +kernel
theorem dX12_draws_62 : decode cX12_draws 62 = .ok (.istore 5, 2) := by decide +kernel
theorem dX12_draws_64 : decode cX12_draws 64 = .ok (.iload 5, 2) := by decide +kernel
theorem dX12_draws_66 : decode cX12_draws 66 = .ok (.iload_n 2, 1) := by decide +kernel
theorem dX12_draws_67 : decode cX12_draws 67 = .ok (.if_icmp .ge 64, 3) := by decide +kernel
theorem dX12_draws_70 : decode cX12_draws 70 = .ok (.aload_n 0, 1) := by decide +kernel
theorem dX12_draws_71 : decode cX12_draws 71 = .ok (.getfield 14, 3) := by decide +kernel
theorem dX12_draws_74 : decode cX12_draws 74 = .ok (.iload 5, 2) := by decide +kernel
theorem dX12_draws_76 : decode cX12_draws 76 = .ok (.aload_n 0, 1) := by decide +kernel
theorem dX12_draws_77 : decode cX12_draws 77 = .ok (.iload 4, 2) := by decide +kernel
theorem dX12_draws_79 : decode cX12_draws 79 = .ok (.invokevirtual 323, 3) := by decide +kernel
theorem dX12_draws_82 : decode cX12_draws 82 = .ok (.iastore, 1) := by decide +kernel
theorem dX12_draws_83 : decode cX12_draws 83 = .ok (.iconst 0, 1) := by decide +kernel
theorem dX12_draws_84 : decode cX12_draws 84 = .ok (.istore 6, 2) := by decide +kernel
theorem dX12_draws_86 : decode cX12_draws 86 = .ok (.iload 6, 2) := by decide +kernel
theorem dX12_draws_88 : decode cX12_draws 88 = .ok (.iconst 3, 1) := by decide +kernel
theorem dX12_draws_89 : decode cX12_draws 89 = .ok (.if_icmp .ge 36, 3) := by decide +kernel
theorem dX12_draws_92 : decode cX12_draws 92 = .ok (.aload_n 0, 1) := by decide +kernel
theorem dX12_draws_93 : decode cX12_draws 93 = .ok (.getfield 18, 3) := by decide +kernel
theorem dX12_draws_96 : decode cX12_draws 96 = .ok (.iconst 3, 1) := by decide +kernel
theorem dX12_draws_97 : decode cX12_draws 97 = .ok (.iload 5, 2) := by decide +kernel
theorem dX12_draws_99 : decode cX12_draws 99 = .ok (.imul, 1) := by decide +kernel
theorem dX12_draws_100 : decode cX12_draws 100 = .ok (.iload 6, 2) := by decide +kernel
theorem dX12_draws_102 : decode cX12_draws 102 = .ok (.iadd, 1) := by decide +kernel
theorem dX12_draws_103 : decode cX12_draws 103 = .ok (.iload 6, 2) := by decide +kernel
theorem dX12_draws_105 : decode cX12_draws 105 = .ok (.iload_n 3, 1) := by decide +kernel
theorem dX12_draws_106 : decode cX12_draws 106 = .ok (.if_icmp .ge 11, 3) := by decide +kernel
theorem dX12_draws_109 : decode cX12_draws 109 = .ok (.aload_n 0, 1) := by decide +kernel
theorem dX12_draws_110 : decode cX12_draws 110 = .ok (.iload_n 2, 1) := by decide +kernel
theorem dX12_draws_111 : decode cX12_draws 111 = .ok (.invokevirtual 323, 3) := by decide +kernel
theorem dX12_draws_114 : decode cX12_draws 114 = .ok (.goto 4, 3) := by decide +kernel
theorem dX12_draws_117 : decode cX12_draws 117 = .ok (.iconst 0, 1) := by decide +kernel
theorem dX12_draws_118 : decode cX12_draws 118 = .ok (.iastore, 1) := by decide +kernel
theorem dX12_draws_119 : decode cX12_draws 119 = .ok (.iinc 6 1, 3) := by decide +kernel
theorem dX12_draws_122 : decode cX12_draws 122 = .ok (.goto (-36), 3) := by decide +kernel
theorem dX12_draws_125 : decode cX12_draws 125 = .ok (.iinc 5 1, 3) := by decide +kernel
theorem dX12_draws_128 : decode cX12_draws 128 = .ok (.goto (-64), 3) := by decide +kernel
theorem dX12_draws_131 : decode cX12_draws 131 = .ok (.aload_n 0, 1) := by decide +kernel
theorem dX12_draws_132 : decode cX12_draws 132 = .ok (.iconst 0, 1) := by decide +kernel
theorem dX12_draws_133 : decode cX12_draws 133 = .ok (.aload_n 0, 1) := by decide +kernel
theorem dX12_draws_134 : decode cX12_draws 134 = .ok (.getfield 314, 3) := by decide +kernel
theorem dX12_draws_137 : decode cX12_draws 137 = .ok (.invokevirtual 175, 3) := by decide +kernel
theorem dX12_draws_140 : decode cX12_draws 140 = .ok (.aload_n 0, 1) := by decide +kernel
theorem dX12_draws_141 : decode cX12_draws 141 = .ok (.invokevirtual 326, 3) := by decide +kernel
theorem dX12_draws_144 : decode cX12_draws 144 = .ok (.ireturn, 1) := by decide +kernel
theorem dX12_state_0 : decode cX12_state 0 = .ok (.aload_n 0, 1) := by decide +kernel
theorem dX12_state_1 : decode cX12_state 1 = .ok (.iconst 0, 1) := by decide +kernel
theorem dX12_state_2 : decode cX12_state 2 = .ok (.putfield 1, 3) := by decide +kernel
theorem dX12_state_5 : decode cX12_state 5 = .ok (.aload_n 0, 1) := by decide +kernel
theorem dX12_state_6 : decode cX12_state 6 = .ok (.iconst 0, 1) := by decide +kernel
theorem dX12_state_7 : decode cX12_state 7 = .ok (.iload_n 1, 1) := by decide +kernel
theorem dX12_state_8 : decode cX12_state 8 = .ok (.invokevirtual 330, 3) := by decide +kernel
theorem dX12_state_11 : decode cX12_state 11 = .ok (.ifCond .eq 17, 3) := by decide +kernel
theorem dX12_state_14 : decode cX12_state 14 = .ok (.iload_n 2, 1) := by decide +kernel
theorem dX12_state_15 : decode cX12_state 15 = .ok (.i2l, 1) := by decide +kernel
theorem dX12_state_16 : decode cX12_state 16 = .ok (.lconst 0, 1) := by decide +kernel
theorem dX12_state_17 : decode cX12_state 17 = .ok (.aload_n 0, 1) := by decide +kernel
theorem dX12_state_18 : decode cX12_state 18 = .ok (.getfield 30, 3) := by decide +kernel
theorem dX12_state_21 : decode cX12_state 21 = .ok (.i2l, 1) := by decide +kernel
theorem dX12_state_22 : decode cX12_state 22 = .ok (.invokestatic 24, 3) := by decide +kernel
theorem dX12_state_25 : decode cX12_state 25 = .ok (.ifCond .ne 5, 3) := by decide +kernel
theorem dX12_state_28 : decode cX12_state 28 = .ok (.iconst (-1), 1) := by decide +kernel
theorem dX12_state_29 : decode cX12_state 29 = .ok (.ireturn, 1) := by decide +kernel
theorem dX12_state_30 : decode cX12_state 30 = .ok (.iload_n 2, 1) := by decide +kernel
theorem dX12_state_31 : decode cX12_state 31 = .ok (.ifCond .ne 12, 3) := by decide +kernel
theorem dX12_state_34 : decode cX12_state 34 = .ok (.aload_n 0, 1) := by decide +kernel
theorem dX12_state_35 : decode cX12_state 35 = .ok (.iconst 0, 1) := by decide +kernel
theorem dX12_state_36 : decode cX12_state 36 = .ok (.iload_n 1, 1) := by decide +kernel
theorem dX12_state_37 : decode cX12_state 37 = .ok (.invokevirtual 51, 3) := by decide +kernel
theorem dX12_state_40 : decode cX12_state 40 = .ok (.goto 12, 3) := by decide +kernel
theorem dX12_state_43 : decode cX12_state 43 = .ok (.aload_n 0, 1) := by decide +kernel
theorem dX12_state_44 : decode cX12_state 44 = .ok (.iconst 0, 1) := by decide +kernel
theorem dX12_state_45 : decode cX12_state 45 = .ok (.iload_n 1, 1) := by decide +kernel
theorem dX12_state_46 : decode cX12_state 46 = .ok (.iload_n 2, 1) := by decide +kernel
theorem dX12_state_47 : decode cX12_state 47 = .ok (.iconst 1, 1) := by decide +kernel
theorem dX12_state_48 : decode cX12_state 48 = .ok (.isub, 1) := by decide +kernel
theorem dX12_state_49 : decode cX12_state 49 = .ok (.invokevirtual 43, 3) := by decide +kernel
theorem dX12_state_52 : decode cX12_state 52 = .ok (.ireturn, 1) := by decide +kernel
theorem dX12_prices_0 : decode cX12_prices 0 = .ok (.aload_n 0, 1) := by decide +kernel
theorem dX12_prices_1 : decode cX12_prices 1 = .ok (.iconst 0, 1) := by decide +kernel
theorem dX12_prices_2 : decode cX12_prices 2 = .ok (.putfield 1, 3) := by decide +kernel
theorem dX12_prices_5 : decode cX12_prices 5 = .ok (.iload_n 1, 1) := by decide +kernel
theorem dX12_prices_6 : decode cX12_prices 6 = .ok (.i2l, 1) := by decide +kernel
theorem dX12_prices_7 : decode cX12_prices 7 = .ok (.lconst 0, 1) := by decide +kernel
theorem dX12_prices_8 : decode cX12_prices 8 = .ok (.ldc2_w 334, 3) := by decide +kernel
theorem dX12_prices_11 : decode cX12_prices 11 = .ok (.invokestatic 24, 3) := by decide +kernel
theorem dX12_prices_14 : decode cX12_prices 14 = .ok (.ifCond .eq 15, 3) := by decide +kernel
theorem dX12_prices_17 : decode cX12_prices 17 = .ok (.iload_n 2, 1) := by decide +kernel
theorem dX12_prices_18 : decode cX12_prices 18 = .ok (.i2l, 1) := by decide +kernel
theorem dX12_prices_19 : decode cX12_prices 19 = .ok (.lconst 0, 1) := by decide +kernel
theorem dX12_prices_20 : decode cX12_prices 20 = .ok (.ldc2_w 334, 3) := by decide +kernel
theorem dX12_prices_23 : decode cX12_prices 23 = .ok (.invokestatic 24, 3) := by decide +kernel
theorem dX12_prices_26 : decode cX12_prices 26 = .ok (.ifCond .ne 5, 3) := by decide +kernel
theorem dX12_prices_29 : decode cX12_prices 29 = .ok (.iconst 0, 1) := by decide +kernel
theorem dX12_prices_30 : decode cX12_prices 30 = .ok (.ireturn, 1) := by decide +kernel
theorem dX12_prices_31 : decode cX12_prices 31 = .ok (.aload_n 0, 1) := by decide +kernel
theorem dX12_prices_32 : decode cX12_prices 32 = .ok (.iload_n 1, 1) := by decide +kernel
theorem dX12_prices_33 : decode cX12_prices 33 = .ok (.putfield 89, 3) := by decide +kernel
theorem dX12_prices_36 : decode cX12_prices 36 = .ok (.aload_n 0, 1) := by decide +kernel
theorem dX12_prices_37 : decode cX12_prices 37 = .ok (.iload_n 2, 1) := by decide +kernel
theorem dX12_prices_38 : decode cX12_prices 38 = .ok (.putfield 92, 3) := by decide +kernel
theorem dX12_prices_41 : decode cX12_prices 41 = .ok (.iconst 1, 1) := by decide +kernel
theorem dX12_prices_42 : decode cX12_prices 42 = .ok (.ireturn, 1) := by decide +kernel
theorem dX12_method_0 : decode cX12_method 0 = .ok (.aload_n 0, 1) := by decide +kernel
theorem dX12_method_1 : decode cX12_method 1 = .ok (.iconst 0, 1) := by decide +kernel
theorem dX12_method_2 : decode cX12_method 2 = .ok (.putfield 1, 3) := by decide +kernel
theorem dX12_method_5 : decode cX12_method 5 = .ok (.iload_n 1, 1) := by decide +kernel
theorem dX12_method_6 : decode cX12_method 6 = .ok (.i2l, 1) := by decide +kernel
theorem dX12_method_7 : decode cX12_method 7 = .ok (.lconst 0, 1) := by decide +kernel
theorem dX12_method_8 : decode cX12_method 8 = .ok (.ldc2_w 28, 3) := by decide +kernel
theorem dX12_method_11 : decode cX12_method 11 = .ok (.invokestatic 24, 3) := by decide +kernel
theorem dX12_method_14 : decode cX12_method 14 = .ok (.ifCond .ne 5, 3) := by decide +kernel
theorem dX12_method_17 : decode cX12_method 17 = .ok (.iconst (-1), 1) := by decide +kernel
theorem dX12_method_18 : decode cX12_method 18 = .ok (.ireturn, 1) := by decide +kernel
theorem dX12_method_19 : decode cX12_method 19 = .ok (.aload_n 0, 1) := by decide +kernel
theorem dX12_method_20 : decode cX12_method 20 = .ok (.getfield 314, 3) := by decide +kernel
theorem dX12_method_23 : decode cX12_method 23 = .ok (.istore_n 2, 1) := by decide +kernel
theorem dX12_method_24 : decode cX12_method 24 = .ok (.aload_n 0, 1) := by decide +kernel
theorem dX12_method_25 : decode cX12_method 25 = .ok (.iload_n 1, 1) := by decide +kernel
theorem dX12_method_26 : decode cX12_method 26 = .ok (.putfield 314, 3) := by decide +kernel
theorem dX12_method_29 : decode cX12_method 29 = .ok (.aload_n 0, 1) := by decide +kernel
theorem dX12_method_30 : decode cX12_method 30 = .ok (.iconst 0, 1) := by decide +kernel
theorem dX12_method_31 : decode cX12_method 31 = .ok (.iload_n 1, 1) := by decide +kernel
theorem dX12_method_32 : decode cX12_method 32 = .ok (.invokevirtual 175, 3) := by decide +kernel
theorem dX12_method_35 : decode cX12_method 35 = .ok (.iload_n 2, 1) := by decide +kernel
theorem dX12_method_36 : decode cX12_method 36 = .ok (.ireturn, 1) := by decide +kernel
theorem dX12_asks_0 : decode cX12_asks 0 = .ok (.aload_n 0, 1) := by decide +kernel
theorem dX12_asks_1 : decode cX12_asks 1 = .ok (.iconst 0, 1) := by decide +kernel
theorem dX12_asks_2 : decode cX12_asks 2 = .ok (.putfield 1, 3) := by decide +kernel
theorem dX12_asks_5 : decode cX12_asks 5 = .ok (.aload_n 0, 1) := by decide +kernel
theorem dX12_asks_6 : decode cX12_asks 6 = .ok (.lload_n 1, 1) := by decide +kernel
theorem dX12_asks_7 : decode cX12_asks 7 = .ok (.invokevirtual 55, 3) := by decide +kernel
theorem dX12_asks_10 : decode cX12_asks 10 = .ok (.ifCond .eq 12, 3) := by decide +kernel
theorem dX12_asks_13 : decode cX12_asks 13 = .ok (.aload_n 0, 1) := by decide +kernel
theorem dX12_asks_14 : decode cX12_asks 14 = .ok (.iconst 0, 1) := by decide +kernel
theorem dX12_asks_15 : decode cX12_asks 15 = .ok (.lload_n 1, 1) := by decide +kernel
theorem dX12_asks_16 : decode cX12_asks 16 = .ok (.invokevirtual 195, 3) := by decide +kernel
theorem dX12_asks_19 : decode cX12_asks 19 = .ok (.goto 4, 3) := by decide +kernel
theorem dX12_asks_22 : decode cX12_asks 22 = .ok (.iconst (-1), 1) := by decide +kernel
theorem dX12_asks_23 : decode cX12_asks 23 = .ok (.ireturn, 1) := by decide +kernel
theorem dX12_known_0 : decode cX12_known 0 = .ok (.aload_n 0, 1) := by decide +kernel
theorem dX12_known_1 : decode cX12_known 1 = .ok (.iconst 0, 1) := by decide +kernel
theorem dX12_known_2 : decode cX12_known 2 = .ok (.putfield 1, 3) := by decide +kernel
theorem dX12_known_5 : decode cX12_known 5 = .ok (.aload_n 0, 1) := by decide +kernel
theorem dX12_known_6 : decode cX12_known 6 = .ok (.lload_n 1, 1) := by decide +kernel
theorem dX12_known_7 : decode cX12_known 7 = .ok (.invokevirtual 55, 3) := by decide +kernel
theorem dX12_known_10 : decode cX12_known 10 = .ok (.ifCond .eq 15, 3) := by decide +kernel
theorem dX12_known_13 : decode cX12_known 13 = .ok (.aload_n 0, 1) := by decide +kernel
theorem dX12_known_14 : decode cX12_known 14 = .ok (.iconst 0, 1) := by decide +kernel
theorem dX12_known_15 : decode cX12_known 15 = .ok (.lload_n 1, 1) := by decide +kernel
theorem dX12_known_16 : decode cX12_known 16 = .ok (.invokevirtual 336, 3) := by decide +kernel
theorem dX12_known_19 : decode cX12_known 19 = .ok (.invokestatic 339, 3) := by decide +kernel
theorem dX12_known_22 : decode cX12_known 22 = .ok (.goto 4, 3) := by decide +kernel
theorem dX12_known_25 : decode cX12_known 25 = .ok (.iconst (-1), 1) := by decide +kernel
theorem dX12_known_26 : decode cX12_known 26 = .ok (.ireturn, 1) := by decide +kernel
theorem dX12_step_0 : decode cX12_step 0 = .ok (.aload_n 0, 1) := by decide +kernel
theorem dX12_step_1 : decode cX12_step 1 = .ok (.iconst 0, 1) := by decide +kernel
theorem dX12_step_2 : decode cX12_step 2 = .ok (.putfield 1, 3) := by decide +kernel
theorem dX12_step_5 : decode cX12_step 5 = .ok (.aload_n 0, 1) := by decide +kernel
theorem dX12_step_6 : decode cX12_step 6 = .ok (.getfield 126, 3) := by decide +kernel
theorem dX12_step_9 : decode cX12_step 9 = .ok (.iconst 0, 1) := by decide +kernel
theorem dX12_step_10 : decode cX12_step 10 = .ok (.baload, 1) := by decide +kernel
theorem dX12_step_11 : decode cX12_step 11 = .ok (.ifCond .eq 6, 3) := by decide +kernel
theorem dX12_step_14 : decode cX12_step 14 = .ok (.bipush (-2), 2) := by decide +kernel
theorem dX12_step_16 : decode cX12_step 16 = .ok (.ireturn, 1) := by decide +kernel
theorem dX12_step_17 : decode cX12_step 17 = .ok (.aload_n 0, 1) := by decide +kernel
theorem dX12_step_18 : decode cX12_step 18 = .ok (.getfield 117, 3) := by decide +kernel
theorem dX12_step_21 : decode cX12_step 21 = .ok (.iconst 0, 1) := by decide +kernel
theorem dX12_step_22 : decode cX12_step 22 = .ok (.iaload, 1) := by decide +kernel
theorem dX12_step_23 : decode cX12_step 23 = .ok (.istore_n 1, 1) := by decide +kernel
theorem dX12_step_24 : decode cX12_step 24 = .ok (.aload_n 0, 1) := by decide +kernel
theorem dX12_step_25 : decode cX12_step 25 = .ok (.iconst 0, 1) := by decide +kernel
theorem dX12_step_26 : decode cX12_step 26 = .ok (.invokevirtual 251, 3) := by decide +kernel
theorem dX12_step_29 : decode cX12_step 29 = .ok (.istore_n 2, 1) := by decide +kernel
theorem dX12_step_30 : decode cX12_step 30 = .ok (.aload_n 0, 1) := by decide +kernel
theorem dX12_step_31 : decode cX12_step 31 = .ok (.iconst 0, 1) := by decide +kernel
theorem dX12_step_32 : decode cX12_step 32 = .ok (.putfield 11, 3) := by decide +kernel
theorem dX12_step_35 : decode cX12_step 35 = .ok (.aload_n 0, 1) := by decide +kernel
theorem dX12_step_36 : decode cX12_step 36 = .ok (.aload_n 0, 1) := by decide +kernel
theorem dX12_step_37 : decode cX12_step 37 = .ok (.getfield 117, 3) := by decide +kernel
theorem dX12_step_40 : decode cX12_step 40 = .ok (.iconst 0, 1) := by decide +kernel
theorem dX12_step_41 : decode cX12_step 41 = .ok (.iaload, 1) := by decide +kernel
theorem dX12_step_42 : decode cX12_step 42 = .ok (.iload_n 1, 1) := by decide +kernel
theorem dX12_step_43 : decode cX12_step 43 = .ok (.isub, 1) := by decide +kernel
theorem dX12_step_44 : decode cX12_step 44 = .ok (.i2l, 1) := by decide +kernel
theorem dX12_step_45 : decode cX12_step 45 = .ok (.invokevirtual 343, 3) := by decide +kernel
theorem dX12_step_48 : decode cX12_step 48 = .ok (.iload_n 2, 1) := by decide +kernel
theorem dX12_step_49 : decode cX12_step 49 = .ok (.ifCond .le 11, 3) := by decide +kernel
theorem dX12_step_52 : decode cX12_step 52 = .ok (.aload_n 0, 1) := by decide +kernel
theorem dX12_step_53 : decode cX12_step 53 = .ok (.aload_n 0, 1) := by decide +kernel
theorem dX12_step_54 : decode cX12_step 54 = .ok (.getfield 212, 3) := by decide +kernel
theorem dX12_step_57 : decode cX12_step 57 = .ok (.invokevirtual 343, 3) := by decide +kernel
theorem dX12_step_60 : decode cX12_step 60 = .ok (.iload_n 2, 1) := by decide +kernel
theorem dX12_step_61 : decode cX12_step 61 = .ok (.ireturn, 1) := by decide +kernel
theorem dX12_guess_0 : decode cX12_guess 0 = .ok (.aload_n 0, 1) := by decide +kernel
theorem dX12_guess_1 : decode cX12_guess 1 = .ok (.iconst 0, 1) := by decide +kernel
theorem dX12_guess_2 : decode cX12_guess 2 = .ok (.putfield 1, 3) := by decide +kernel
theorem dX12_guess_5 : decode cX12_guess 5 = .ok (.aload_n 0, 1) := by decide +kernel
theorem dX12_guess_6 : decode cX12_guess 6 = .ok (.iconst 0, 1) := by decide +kernel
theorem dX12_guess_7 : decode cX12_guess 7 = .ok (.invokevirtual 280, 3) := by decide +kernel
theorem dX12_guess_10 : decode cX12_guess 10 = .ok (.istore_n 1, 1) := by decide +kernel
theorem dX12_guess_11 : decode cX12_guess 11 = .ok (.aload_n 0, 1) := by decide +kernel
theorem dX12_guess_12 : decode cX12_guess 12 = .ok (.iconst 0, 1) := by decide +kernel
theorem dX12_guess_13 : decode cX12_guess 13 = .ok (.putfield 11, 3) := by decide +kernel
theorem dX12_guess_16 : decode cX12_guess 16 = .ok (.aload_n 0, 1) := by decide +kernel
theorem dX12_guess_17 : decode cX12_guess 17 = .ok (.iload_n 1, 1) := by decide +kernel
theorem dX12_guess_18 : decode cX12_guess 18 = .ok (.i2l, 1) := by decide +kernel
theorem dX12_guess_19 : decode cX12_guess 19 = .ok (.invokevirtual 343, 3) := by decide +kernel
theorem dX12_guess_22 : decode cX12_guess 22 = .ok (.aload_n 0, 1) := by decide +kernel
theorem dX12_guess_23 : decode cX12_guess 23 = .ok (.getfield 21, 3) := by decide +kernel
theorem dX12_guess_26 : decode cX12_guess 26 = .ok (.iconst 1, 1) := by decide +kernel
theorem dX12_guess_27 : decode cX12_guess 27 = .ok (.iaload, 1) := by decide +kernel
theorem dX12_guess_28 : decode cX12_guess 28 = .ok (.ireturn, 1) := by decide +kernel
theorem dX12_tells_0 : decode cX12_tells 0 = .ok (.aload_n 0, 1) := by decide +kernel
theorem dX12_tells_1 : decode cX12_tells 1 = .ok (.iconst 0, 1) := by decide +kernel
theorem dX12_tells_2 : decode cX12_tells 2 = .ok (.putfield 1, 3) := by decide +kernel
theorem dX12_tells_5 : decode cX12_tells 5 = .ok (.aload_n 0, 1) := by decide +kernel
theorem dX12_tells_6 : decode cX12_tells 6 = .ok (.lload_n 1, 1) := by decide +kernel
theorem dX12_tells_7 : decode cX12_tells 7 = .ok (.invokevirtual 55, 3) := by decide +kernel
theorem dX12_tells_10 : decode cX12_tells 10 = .ok (.ifCond .eq 12, 3) := by decide +kernel
theorem dX12_tells_13 : decode cX12_tells 13 = .ok (.lload_n 1, 1) := by decide +kernel
theorem dX12_tells_14 : decode cX12_tells 14 = .ok (.invokestatic 33, 3) := by decide +kernel
theorem dX12_tells_17 : decode cX12_tells 17 = .ok (.bipush 14, 2) := by decide +kernel
theorem dX12_tells_19 : decode cX12_tells 19 = .ok (.if_icmp .le 5, 3) := by decide +kernel
theorem dX12_tells_22 : decode cX12_tells 22 = .ok (.iconst (-1), 1) := by decide +kernel
theorem dX12_tells_23 : decode cX12_tells 23 = .ok (.ireturn, 1) := by decide +kernel
theorem dX12_tells_24 : decode cX12_tells 24 = .ok (.aload_n 0, 1) := by decide +kernel
theorem dX12_tells_25 : decode cX12_tells 25 = .ok (.getfield 126, 3) := by decide +kernel
theorem dX12_tells_28 : decode cX12_tells 28 = .ok (.iconst 0, 1) := by decide +kernel
theorem dX12_tells_29 : decode cX12_tells 29 = .ok (.baload, 1) := by decide +kernel
theorem dX12_tells_30 : decode cX12_tells 30 = .ok (.ifCond .ne 6, 3) := by decide +kernel
theorem dX12_tells_33 : decode cX12_tells 33 = .ok (.bipush (-2), 2) := by decide +kernel
theorem dX12_tells_35 : decode cX12_tells 35 = .ok (.ireturn, 1) := by decide +kernel
theorem dX12_tells_36 : decode cX12_tells 36 = .ok (.aload_n 0, 1) := by decide +kernel
theorem dX12_tells_37 : decode cX12_tells 37 = .ok (.iconst 1, 1) := by decide +kernel
theorem dX12_tells_38 : decode cX12_tells 38 = .ok (.lload_n 1, 1) := by decide +kernel
theorem dX12_tells_39 : decode cX12_tells 39 = .ok (.invokevirtual 185, 3) := by decide +kernel
theorem dX12_tells_42 : decode cX12_tells 42 = .ok (.aload_n 0, 1) := by decide +kernel
theorem dX12_tells_43 : decode cX12_tells 43 = .ok (.iconst 0, 1) := by decide +kernel
theorem dX12_tells_44 : decode cX12_tells 44 = .ok (.lload_n 1, 1) := by decide +kernel
theorem dX12_tells_45 : decode cX12_tells 45 = .ok (.invokevirtual 185, 3) := by decide +kernel
theorem dX12_tells_48 : decode cX12_tells 48 = .ok (.if_icmp .ne 6, 3) := by decide +kernel
theorem dX12_tells_51 : decode cX12_tells 51 = .ok (.bipush (-3), 2) := by decide +kernel
theorem dX12_tells_53 : decode cX12_tells 53 = .ok (.ireturn, 1) := by decide +kernel
theorem dX12_tells_54 : decode cX12_tells 54 = .ok (.aload_n 0, 1) := by decide +kernel
theorem dX12_tells_55 : decode cX12_tells 55 = .ok (.iconst 0, 1) := by decide +kernel
theorem dX12_tells_56 : decode cX12_tells 56 = .ok (.lload_n 1, 1) := by decide +kernel
theorem dX12_tells_57 : decode cX12_tells 57 = .ok (.invokevirtual 287, 3) := by decide +kernel
theorem dX12_tells_60 : decode cX12_tells 60 = .ok (.ireturn, 1) := by decide +kernel
theorem dX12_learns_0 : decode cX12_learns 0 = .ok (.aload_n 0, 1) := by decide +kernel
theorem dX12_learns_1 : decode cX12_learns 1 = .ok (.iconst 0, 1) := by decide +kernel
theorem dX12_learns_2 : decode cX12_learns 2 = .ok (.putfield 1, 3) := by decide +kernel
theorem dX12_learns_5 : decode cX12_learns 5 = .ok (.aload_n 0, 1) := by decide +kernel
theorem dX12_learns_6 : decode cX12_learns 6 = .ok (.iconst 0, 1) := by decide +kernel
theorem dX12_learns_7 : decode cX12_learns 7 = .ok (.invokevirtual 347, 3) := by decide +kernel
theorem dX12_learns_10 : decode cX12_learns 10 = .ok (.istore_n 1, 1) := by decide +kernel
theorem dX12_learns_11 : decode cX12_learns 11 = .ok (.aload_n 0, 1) := by decide +kernel
theorem dX12_learns_12 : decode cX12_learns 12 = .ok (.iconst 0, 1) := by decide +kernel
theorem dX12_learns_13 : decode cX12_learns 13 = .ok (.putfield 11, 3) := by decide +kernel
theorem dX12_learns_16 : decode cX12_learns 16 = .ok (.aload_n 0, 1) := by decide +kernel
theorem dX12_learns_17 : decode cX12_learns 17 = .ok (.iload_n 1, 1) := by decide +kernel
theorem dX12_learns_18 : decode cX12_learns 18 = .ok (.i2l, 1) := by decide +kernel
theorem dX12_learns_19 : decode cX12_learns 19 = .ok (.invokevirtual 343, 3) := by decide +kernel
theorem dX12_learns_22 : decode cX12_learns 22 = .ok (.aload_n 0, 1) := by decide +kernel
theorem dX12_learns_23 : decode cX12_learns 23 = .ok (.aload_n 0, 1) := by decide +kernel
theorem dX12_learns_24 : decode cX12_learns 24 = .ok (.getfield 123, 3) := by decide +kernel
theorem dX12_learns_27 : decode cX12_learns 27 = .ok (.iconst 0, 1) := by decide +kernel
theorem dX12_learns_28 : decode cX12_learns 28 = .ok (.iaload, 1) := by decide +kernel
theorem dX12_learns_29 : decode cX12_learns 29 = .ok (.i2l, 1) := by decide +kernel
theorem dX12_learns_30 : decode cX12_learns 30 = .ok (.invokevirtual 343, 3) := by decide +kernel
theorem dX12_learns_33 : decode cX12_learns 33 = .ok (.aload_n 0, 1) := by decide +kernel
theorem dX12_learns_34 : decode cX12_learns 34 = .ok (.getfield 21, 3) := by decide +kernel
theorem dX12_learns_37 : decode cX12_learns 37 = .ok (.iconst 1, 1) := by decide +kernel
theorem dX12_learns_38 : decode cX12_learns 38 = .ok (.iaload, 1) := by decide +kernel
theorem dX12_learns_39 : decode cX12_learns 39 = .ok (.ireturn, 1) := by decide +kernel
theorem dX12_head_0 : decode cX12_head 0 = .ok (.aload_n 0, 1) := by decide +kernel
theorem dX12_head_1 : decode cX12_head 1 = .ok (.iconst 0, 1) := by decide +kernel
theorem dX12_head_2 : decode cX12_head 2 = .ok (.putfield 1, 3) := by decide +kernel
theorem dX12_head_5 : decode cX12_head 5 = .ok (.iload_n 1, 1) := by decide +kernel
theorem dX12_head_6 : decode cX12_head 6 = .ok (.iconst (-1), 1) := by decide +kernel
theorem dX12_head_7 : decode cX12_head 7 = .ok (.if_icmp .ne 11, 3) := by decide +kernel
theorem dX12_head_10 : decode cX12_head 10 = .ok (.aload_n 0, 1) := by decide +kernel
theorem dX12_head_11 : decode cX12_head 11 = .ok (.getfield 98, 3) := by decide +kernel
theorem dX12_head_14 : decode cX12_head 14 = .ok (.iconst 0, 1) := by decide +kernel
theorem dX12_head_15 : decode cX12_head 15 = .ok (.iaload, 1) := by decide +kernel
theorem dX12_head_16 : decode cX12_head 16 = .ok (.i2l, 1) := by decide +kernel
theorem dX12_head_17 : decode cX12_head 17 = .ok (.lreturn, 1) := by decide +kernel
theorem dX12_head_18 : decode cX12_head 18 = .ok (.iload_n 1, 1) := by decide +kernel
theorem dX12_head_19 : decode cX12_head 19 = .ok (.i2l, 1) := by decide +kernel
theorem dX12_head_20 : decode cX12_head 20 = .ok (.lconst 0, 1) := by decide +kernel
theorem dX12_head_21 : decode cX12_head 21 = .ok (.aload_n 0, 1) := by decide +kernel
theorem dX12_head_22 : decode cX12_head 22 = .ok (.getfield 98, 3) := by decide +kernel
theorem dX12_head_25 : decode cX12_head 25 = .ok (.iconst 0, 1) := by decide +kernel
theorem dX12_head_26 : decode cX12_head 26 = .ok (.iaload, 1) := by decide +kernel
theorem dX12_head_27 : decode cX12_head 27 = .ok (.iconst 1, 1) := by decide +kernel
theorem dX12_head_28 : decode cX12_head 28 = .ok (.isub, 1) := by decide +kernel
theorem dX12_head_29 : decode cX12_head 29 = .ok (.i2l, 1) := by decide +kernel
theorem dX12_head_30 : decode cX12_head 30 = .ok (.invokestatic 24, 3) := by decide +kernel
theorem dX12_head_33 : decode cX12_head 33 = .ok (.ifCond .eq 12, 3) := by decide +kernel
theorem dX12_head_36 : decode cX12_head 36 = .ok (.aload_n 0, 1) := by decide +kernel
theorem dX12_head_37 : decode cX12_head 37 = .ok (.iconst 0, 1) := by decide +kernel
theorem dX12_head_38 : decode cX12_head 38 = .ok (.iload_n 1, 1) := by decide +kernel
theorem dX12_head_39 : decode cX12_head 39 = .ok (.invokevirtual 206, 3) := by decide +kernel
theorem dX12_head_42 : decode cX12_head 42 = .ok (.goto 6, 3) := by decide +kernel
theorem dX12_head_45 : decode cX12_head 45 = .ok (.ldc2_w 59, 3) := by decide +kernel
theorem dX12_head_48 : decode cX12_head 48 = .ok (.lreturn, 1) := by decide +kernel
theorem dX12_tail_0 : decode cX12_tail 0 = .ok (.aload_n 0, 1) := by decide +kernel
theorem dX12_tail_1 : decode cX12_tail 1 = .ok (.iconst 0, 1) := by decide +kernel
theorem dX12_tail_2 : decode cX12_tail 2 = .ok (.putfield 1, 3) := by decide +kernel
theorem dX12_tail_5 : decode cX12_tail 5 = .ok (.iload_n 1, 1) := by decide +kernel
theorem dX12_tail_6 : decode cX12_tail 6 = .ok (.iconst (-1), 1) := by decide +kernel
theorem dX12_tail_7 : decode cX12_tail 7 = .ok (.if_icmp .ne 11, 3) := by decide +kernel
theorem dX12_tail_10 : decode cX12_tail 10 = .ok (.aload_n 0, 1) := by decide +kernel
theorem dX12_tail_11 : decode cX12_tail 11 = .ok (.getfield 101, 3) := by decide +kernel
theorem dX12_tail_14 : decode cX12_tail 14 = .ok (.iconst 0, 1) := by decide +kernel
theorem dX12_tail_15 : decode cX12_tail 15 = .ok (.iaload, 1) := by decide +kernel
theorem dX12_tail_16 : decode cX12_tail 16 = .ok (.i2l, 1) := by decide +kernel
theorem dX12_tail_17 : decode cX12_tail 17 = .ok (.lreturn, 1) := by decide +kernel
theorem dX12_tail_18 : decode cX12_tail 18 = .ok (.iload_n 1, 1) := by decide +kernel
theorem dX12_tail_19 : decode cX12_tail 19 = .ok (.i2l, 1) := by decide +kernel
theorem dX12_tail_20 : decode cX12_tail 20 = .ok (.lconst 0, 1) := by decide +kernel
theorem dX12_tail_21 : decode cX12_tail 21 = .ok (.aload_n 0, 1) := by decide +kernel
theorem dX12_tail_22 : decode cX12_tail 22 = .ok (.getfield 101, 3) := by decide +kernel
theorem dX12_tail_25 : decode cX12_tail 25 = .ok (.iconst 0, 1) := by decide +kernel
theorem dX12_tail_26 : decode cX12_tail 26 = .ok (.iaload, 1) := by decide +kernel
theorem dX12_tail_27 : decode cX12_tail 27 = .ok (.iconst 1, 1) := by decide +kernel
theorem dX12_tail_28 : decode cX12_tail 28 = .ok (.isub, 1) := by decide +kernel
theorem dX12_tail_29 : decode cX12_tail 29 = .ok (.i2l, 1) := by decide +kernel
theorem dX12_tail_30 : decode cX12_tail 30 = .ok (.invokestatic 24, 3) := by decide +kernel
theorem dX12_tail_33 : decode cX12_tail 33 = .ok (.ifCond .eq 12, 3) := by decide +kernel
theorem dX12_tail_36 : decode cX12_tail 36 = .ok (.aload_n 0, 1) := by decide +kernel
theorem dX12_tail_37 : decode cX12_tail 37 = .ok (.iconst 0, 1) := by decide +kernel
theorem dX12_tail_38 : decode cX12_tail 38 = .ok (.iload_n 1, 1) := by decide +kernel
theorem dX12_tail_39 : decode cX12_tail 39 = .ok (.invokevirtual 198, 3) := by decide +kernel
theorem dX12_tail_42 : decode cX12_tail 42 = .ok (.goto 6, 3) := by decide +kernel
theorem dX12_tail_45 : decode cX12_tail 45 = .ok (.ldc2_w 59, 3) := by decide +kernel
theorem dX12_tail_48 : decode cX12_tail 48 = .ok (.lreturn, 1) := by decide +kernel
theorem dX12_cell_0 : decode cX12_cell 0 = .ok (.aload_n 0, 1) := by decide +kernel
theorem dX12_cell_1 : decode cX12_cell 1 = .ok (.iconst 0, 1) := by decide +kernel
theorem dX12_cell_2 : decode cX12_cell 2 = .ok (.putfield 1, 3) := by decide +kernel
theorem dX12_cell_5 : decode cX12_cell 5 = .ok (.iload_n 1, 1) := by decide +kernel
theorem dX12_cell_6 : decode cX12_cell 6 = .ok (.i2l, 1) := by decide +kernel
theorem dX12_cell_7 : decode cX12_cell 7 = .ok (.lconst 0, 1) := by decide +kernel
theorem dX12_cell_8 : decode cX12_cell 8 = .ok (.aload_n 0, 1) := by decide +kernel
theorem dX12_cell_9 : decode cX12_cell 9 = .ok (.getfield 98, 3) := by decide +kernel
theorem dX12_cell_12 : decode cX12_cell 12 = .ok (.iconst 0, 1) := by decide +kernel
theorem dX12_cell_13 : decode cX12_cell 13 = .ok (.iaload, 1) := by decide +kernel
theorem dX12_cell_14 : decode cX12_cell 14 = .ok (.iconst 1, 1) := by decide +kernel
theorem dX12_cell_15 : decode cX12_cell 15 = .ok (.isub, 1) := by decide +kernel
theorem dX12_cell_16 : decode cX12_cell 16 = .ok (.i2l, 1) := by decide +kernel
theorem dX12_cell_17 : decode cX12_cell 17 = .ok (.invokestatic 24, 3) := by decide +kernel
theorem dX12_cell_20 : decode cX12_cell 20 = .ok (.ifCond .eq 39, 3) := by decide +kernel
theorem dX12_cell_23 : decode cX12_cell 23 = .ok (.iload_n 2, 1) := by decide +kernel
theorem dX12_cell_24 : decode cX12_cell 24 = .ok (.i2l, 1) := by decide +kernel
theorem dX12_cell_25 : decode cX12_cell 25 = .ok (.ldc2_w 59, 3) := by decide +kernel
theorem dX12_cell_28 : decode cX12_cell 28 = .ok (.aload_n 0, 1) := by decide +kernel
theorem dX12_cell_29 : decode cX12_cell 29 = .ok (.getfield 30, 3) := by decide +kernel
theorem dX12_cell_32 : decode cX12_cell 32 = .ok (.iconst 1, 1) := by decide +kernel
theorem dX12_cell_33 : decode cX12_cell 33 = .ok (.isub, 1) := by decide +kernel
theorem dX12_cell_34 : decode cX12_cell 34 = .ok (.i2l, 1) := by decide +kernel
theorem dX12_cell_35 : decode cX12_cell 35 = .ok (.invokestatic 24, 3) := by decide +kernel
theorem dX12_cell_38 : decode cX12_cell 38 = .ok (.ifCond .eq 21, 3) := by decide +kernel
theorem dX12_cell_41 : decode cX12_cell 41 = .ok (.iload_n 3, 1) := by decide +kernel
theorem dX12_cell_42 : decode cX12_cell 42 = .ok (.i2l, 1) := by decide +kernel
theorem dX12_cell_43 : decode cX12_cell 43 = .ok (.lconst 0, 1) := by decide +kernel
theorem dX12_cell_44 : decode cX12_cell 44 = .ok (.aload_n 0, 1) := by decide +kernel
theorem dX12_cell_45 : decode cX12_cell 45 = .ok (.getfield 101, 3) := by decide +kernel
theorem dX12_cell_48 : decode cX12_cell 48 = .ok (.iconst 0, 1) := by decide +kernel
theorem dX12_cell_49 : decode cX12_cell 49 = .ok (.iaload, 1) := by decide +kernel
theorem dX12_cell_50 : decode cX12_cell 50 = .ok (.iconst 1, 1) := by decide +kernel
theorem dX12_cell_51 : decode cX12_cell 51 = .ok (.isub, 1) := by decide +kernel
theorem dX12_cell_52 : decode cX12_cell 52 = .ok (.i2l, 1) := by decide +kernel
theorem dX12_cell_53 : decode cX12_cell 53 = .ok (.invokestatic 24, 3) := by decide +kernel
theorem dX12_cell_56 : decode cX12_cell 56 = .ok (.ifCond .ne 5, 3) := by decide +kernel
theorem dX12_cell_59 : decode cX12_cell 59 = .ok (.iconst (-1), 1) := by decide +kernel
theorem dX12_cell_60 : decode cX12_cell 60 = .ok (.ireturn, 1) := by decide +kernel
theorem dX12_cell_61 : decode cX12_cell 61 = .ok (.aload_n 0, 1) := by decide +kernel
theorem dX12_cell_62 : decode cX12_cell 62 = .ok (.getfield 314, 3) := by decide +kernel
theorem dX12_cell_65 : decode cX12_cell 65 = .ok (.iconst 3, 1) := by decide +kernel
theorem dX12_cell_66 : decode cX12_cell 66 = .ok (.if_icmp .ne 6, 3) := by decide +kernel
theorem dX12_cell_69 : decode cX12_cell 69 = .ok (.bipush (-2), 2) := by decide +kernel
theorem dX12_cell_71 : decode cX12_cell 71 = .ok (.ireturn, 1) := by decide +kernel
theorem dX12_cell_72 : decode cX12_cell 72 = .ok (.iload_n 2, 1) := by decide +kernel
theorem dX12_cell_73 : decode cX12_cell 73 = .ok (.iconst (-1), 1) := by decide +kernel
theorem dX12_cell_74 : decode cX12_cell 74 = .ok (.if_icmp .ne 12, 3) := by decide +kernel
theorem dX12_cell_77 : decode cX12_cell 77 = .ok (.aload_n 0, 1) := by decide +kernel
theorem dX12_cell_78 : decode cX12_cell 78 = .ok (.iconst 0, 1) := by decide +kernel
theorem dX12_cell_79 : decode cX12_cell 79 = .ok (.iload_n 1, 1) := by decide +kernel
theorem dX12_cell_80 : decode cX12_cell 80 = .ok (.invokevirtual 206, 3) := by decide +kernel
theorem dX12_cell_83 : decode cX12_cell 83 = .ok (.goto 13, 3) := by decide +kernel
theorem dX12_cell_86 : decode cX12_cell 86 = .ok (.aload_n 0, 1) := by decide +kernel
theorem dX12_cell_87 : decode cX12_cell 87 = .ok (.iconst 0, 1) := by decide +kernel
theorem dX12_cell_88 : decode cX12_cell 88 = .ok (.iload_n 1, 1) := by decide +kernel
theorem dX12_cell_89 : decode cX12_cell 89 = .ok (.invokevirtual 206, 3) := by decide +kernel
theorem dX12_cell_92 : decode cX12_cell 92 = .ok (.iload_n 2, 1) := by decide +kernel
theorem dX12_cell_93 : decode cX12_cell 93 = .ok (.invokestatic 80, 3) := by decide +kernel
theorem dX12_cell_96 : decode cX12_cell 96 = .ok (.lstore 4, 2) := by decide +kernel
theorem dX12_cell_98 : decode cX12_cell 98 = .ok (.lload 4, 2) := by decide +kernel
theorem dX12_cell_100 : decode cX12_cell 100 = .ok (.aload_n 0, 1) := by decide +kernel
theorem dX12_cell_101 : decode cX12_cell 101 = .ok (.iconst 0, 1) := by decide +kernel
theorem dX12_cell_102 : decode cX12_cell 102 = .ok (.iload_n 3, 1) := by decide +kernel
theorem dX12_cell_103 : decode cX12_cell 103 = .ok (.invokevirtual 198, 3) := by decide +kernel
theorem dX12_cell_106 : decode cX12_cell 106 = .ok (.invokestatic 61, 3) := by decide +kernel
theorem dX12_cell_109 : decode cX12_cell 109 = .ok (.lstore 6, 2) := by decide +kernel
theorem dX12_cell_111 : decode cX12_cell 111 = .ok (.aload_n 0, 1) := by decide +kernel
theorem dX12_cell_112 : decode cX12_cell 112 = .ok (.iconst 0, 1) := by decide +kernel
theorem dX12_cell_113 : decode cX12_cell 113 = .ok (.lload 6, 2) := by decide +kernel
theorem dX12_cell_115 : decode cX12_cell 115 = .ok (.invokevirtual 336, 3) := by decide +kernel
theorem dX12_cell_118 : decode cX12_cell 118 = .ok (.ifCond .eq 13, 3) := by decide +kernel
theorem dX12_cell_121 : decode cX12_cell 121 = .ok (.aload_n 0, 1) := by decide +kernel
theorem dX12_cell_122 : decode cX12_cell 122 = .ok (.iconst 0, 1) := by decide +kernel
theorem dX12_cell_123 : decode cX12_cell 123 = .ok (.lload 6, 2) := by decide +kernel
theorem dX12_cell_125 : decode cX12_cell 125 = .ok (.invokevirtual 185, 3) := by decide +kernel
theorem dX12_cell_128 : decode cX12_cell 128 = .ok (.goto 5, 3) := by decide +kernel
theorem dX12_cell_131 : decode cX12_cell 131 = .ok (.bipush (-3), 2) := by decide +kernel
theorem dX12_cell_133 : decode cX12_cell 133 = .ok (.ireturn, 1) := by decide +kernel
theorem dX12_areAllAsked_0 : decode cX12_areAllAsked 0 = .ok (.iconst 1, 1) := by decide +kernel
theorem dX12_areAllAsked_1 : decode cX12_areAllAsked 1 = .ok (.istore_n 1, 1) := by decide +kernel
theorem dX12_areAllAsked_2 : decode cX12_areAllAsked 2 = .ok (.iconst 0, 1) := by decide +kernel
theorem dX12_areAllAsked_3 : decode cX12_areAllAsked 3 = .ok (.istore_n 2, 1) := by decide +kernel
theorem dX12_areAllAsked_4 : decode cX12_areAllAsked 4 = .ok (.iload_n 2, 1) := by decide +kernel
theorem dX12_areAllAsked_5 : decode cX12_areAllAsked 5 = .ok (.aload_n 0, 1) := by decide +kernel
theorem dX12_areAllAsked_6 : decode cX12_areAllAsked 6 = .ok (.getfield 98, 3) := by decide +kernel
theorem dX12_areAllAsked_9 : decode cX12_areAllAsked 9 = .ok (.iconst 0, 1) := by decide +kernel
theorem dX12_areAllAsked_10 : decode cX12_areAllAsked 10 = .ok (.iaload, 1) := by decide +kernel
theorem dX12_areAllAsked_11 : decode cX12_areAllAsked 11 = .ok (.if_icmp .ge 116, 3) := by decide +kernel
theorem dX12_areAllAsked_14 : decode cX12_areAllAsked 14 = .ok (.iconst 0, 1) := by decide +kernel
theorem dX12_areAllAsked_15 : decode cX12_areAllAsked 15 = .ok (.istore_n 3, 1) := by decide +kernel
theorem dX12_areAllAsked_16 : decode cX12_areAllAsked 16 = .ok (.iload_n 3, 1) := by decide +kernel
theorem dX12_areAllAsked_17 : decode cX12_areAllAsked 17 = .ok (.aload_n 0, 1) := by decide +kernel
theorem dX12_areAllAsked_18 : decode cX12_areAllAsked 18 = .ok (.getfield 101, 3) := by decide +kernel
theorem dX12_areAllAsked_21 : decode cX12_areAllAsked 21 = .ok (.iconst 0, 1) := by decide +kernel
theorem dX12_areAllAsked_22 : decode cX12_areAllAsked 22 = .ok (.iaload, 1) := by decide +kernel
theorem dX12_areAllAsked_23 : decode cX12_areAllAsked 23 = .ok (.if_icmp .ge 98, 3) := by decide +kernel
theorem dX12_areAllAsked_26 : decode cX12_areAllAsked 26 = .ok (.iload_n 1, 1) := by decide +kernel
theorem dX12_areAllAsked_27 : decode cX12_areAllAsked 27 = .ok (.ifCond .eq 30, 3) := by decide +kernel
theorem dX12_areAllAsked_30 : decode cX12_areAllAsked 30 = .ok (.aload_n 0, 1) := by decide +kernel
theorem dX12_areAllAsked_31 : decode cX12_areAllAsked 31 = .ok (.iconst 0, 1) := by decide +kernel
theorem dX12_areAllAsked_32 : decode cX12_areAllAsked 32 = .ok (.aload_n 0, 1) := by decide +kernel
theorem dX12_areAllAsked_33 : decode cX12_areAllAsked 33 = .ok (.iconst 0, 1) := by decide +kernel
theorem dX12_areAllAsked_34 : decode cX12_areAllAsked 34 = .ok (.iload_n 2, 1) := by decide +kernel
theorem dX12_areAllAsked_35 : decode cX12_areAllAsked 35 = .ok (.invokevirtual 206, 3) := by decide +kernel
theorem dX12_areAllAsked_38 : decode cX12_areAllAsked 38 = .ok (.aload_n 0, 1) := by decide +kernel
theorem dX12_areAllAsked_39 : decode cX12_areAllAsked 39 = .ok (.iconst 0, 1) := by decide +kernel
theorem dX12_areAllAsked_40 : decode cX12_areAllAsked 40 = .ok (.iload_n 3, 1) := by decide +kernel
theorem dX12_areAllAsked_41 : decode cX12_areAllAsked 41 = .ok (.invokevirtual 198, 3) := by decide +kernel
theorem dX12_areAllAsked_44 : decode cX12_areAllAsked 44 = .ok (.invokestatic 61, 3) := by decide +kernel
theorem dX12_areAllAsked_47 : decode cX12_areAllAsked 47 = .ok (.invokevirtual 336, 3) := by decide +kernel
theorem dX12_areAllAsked_50 : decode cX12_areAllAsked 50 = .ok (.ifCond .eq 7, 3) := by decide +kernel
theorem dX12_areAllAsked_53 : decode cX12_areAllAsked 53 = .ok (.iconst 1, 1) := by decide +kernel
theorem dX12_areAllAsked_54 : decode cX12_areAllAsked 54 = .ok (.goto 4, 3) := by decide +kernel
theorem dX12_areAllAsked_57 : decode cX12_areAllAsked 57 = .ok (.iconst 0, 1) := by decide +kernel
theorem dX12_areAllAsked_58 : decode cX12_areAllAsked 58 = .ok (.istore_n 1, 1) := by decide +kernel
theorem dX12_areAllAsked_59 : decode cX12_areAllAsked 59 = .ok (.iconst 0, 1) := by decide +kernel
theorem dX12_areAllAsked_60 : decode cX12_areAllAsked 60 = .ok (.istore 4, 2) := by decide +kernel
theorem dX12_areAllAsked_62 : decode cX12_areAllAsked 62 = .ok (.iload 4, 2) := by decide +kernel
theorem dX12_areAllAsked_64 : decode cX12_areAllAsked 64 = .ok (.aload_n 0, 1) := by decide +kernel
theorem dX12_areAllAsked_65 : decode cX12_areAllAsked 65 = .ok (.getfield 30, 3) := by decide +kernel
theorem dX12_areAllAsked_68 : decode cX12_areAllAsked 68 = .ok (.if_icmp .ge 47, 3) := by decide +kernel
theorem dX12_areAllAsked_71 : decode cX12_areAllAsked 71 = .ok (.iload_n 1, 1) := by decide +kernel
theorem dX12_areAllAsked_72 : decode cX12_areAllAsked 72 = .ok (.ifCond .eq 35, 3) := by decide +kernel
theorem dX12_areAllAsked_75 : decode cX12_areAllAsked 75 = .ok (.aload_n 0, 1) := by decide +kernel
theorem dX12_areAllAsked_76 : decode cX12_areAllAsked 76 = .ok (.iconst 0, 1) := by decide +kernel
theorem dX12_areAllAsked_77 : decode cX12_areAllAsked 77 = .ok (.aload_n 0, 1) := by decide +kernel
theorem dX12_areAllAsked_78 : decode cX12_areAllAsked 78 = .ok (.iconst 0, 1) := by decide +kernel
theorem dX12_areAllAsked_79 : decode cX12_areAllAsked 79 = .ok (.iload_n 2, 1) := by decide +kernel
theorem dX12_areAllAsked_80 : decode cX12_areAllAsked 80 = .ok (.invokevirtual 206, 3) := by decide +kernel
theorem dX12_areAllAsked_83 : decode cX12_areAllAsked 83 = .ok (.iload 4, 2) := by decide +kernel
theorem dX12_areAllAsked_85 : decode cX12_areAllAsked 85 = .ok (.invokestatic 80, 3) := by decide +kernel
theorem dX12_areAllAsked_88 : decode cX12_areAllAsked 88 = .ok (.aload_n 0, 1) := by decide +kernel
theorem dX12_areAllAsked_89 : decode cX12_areAllAsked 89 = .ok (.iconst 0, 1) := by decide +kernel
theorem dX12_areAllAsked_90 : decode cX12_areAllAsked 90 = .ok (.iload_n 3, 1) := by decide +kernel
theorem dX12_areAllAsked_91 : decode cX12_areAllAsked 91 = .ok (.invokevirtual 198, 3) := by decide +kernel
theorem dX12_areAllAsked_94 : decode cX12_areAllAsked 94 = .ok (.invokestatic 61, 3) := by decide +kernel
theorem dX12_areAllAsked_97 : decode cX12_areAllAsked 97 = .ok (.invokevirtual 336, 3) := by decide +kernel
theorem dX12_areAllAsked_100 : decode cX12_areAllAsked 100 = .ok (.ifCond .eq 7, 3) := by decide +kernel
theorem dX12_areAllAsked_103 : decode cX12_areAllAsked 103 = .ok (.iconst 1, 1) := by decide +kernel
theorem dX12_areAllAsked_104 : decode cX12_areAllAsked 104 = .ok (.goto 4, 3) := by decide +kernel
theorem dX12_areAllAsked_107 : decode cX12_areAllAsked 107 = .ok (.iconst 0, 1) := by decide +kernel
theorem dX12_areAllAsked_108 : decode cX12_areAllAsked 108 = .ok (.istore_n 1, 1) := by decide +kernel
theorem dX12_areAllAsked_109 : decode cX12_areAllAsked 109 = .ok (.iinc 4 1, 3) := by decide +kernel
theorem dX12_areAllAsked_112 : decode cX12_areAllAsked 112 = .ok (.goto (-50), 3) := by decide +kernel
theorem dX12_areAllAsked_115 : decode cX12_areAllAsked 115 = .ok (.iinc 3 1, 3) := by decide +kernel
theorem dX12_areAllAsked_118 : decode cX12_areAllAsked 118 = .ok (.goto (-102), 3) := by decide +kernel
theorem dX12_areAllAsked_121 : decode cX12_areAllAsked 121 = .ok (.iinc 2 1, 3) := by decide +kernel
theorem dX12_areAllAsked_124 : decode cX12_areAllAsked 124 = .ok (.goto (-120), 3) := by decide +kernel
theorem dX12_areAllAsked_127 : decode cX12_areAllAsked 127 = .ok (.iload_n 1, 1) := by decide +kernel
theorem dX12_areAllAsked_128 : decode cX12_areAllAsked 128 = .ok (.ireturn, 1) := by decide +kernel
theorem dX12_lines_0 : decode cX12_lines 0 = .ok (.aload_n 0, 1) := by decide +kernel
theorem dX12_lines_1 : decode cX12_lines 1 = .ok (.iconst 0, 1) := by decide +kernel
theorem dX12_lines_2 : decode cX12_lines 2 = .ok (.putfield 1, 3) := by decide +kernel
theorem dX12_lines_5 : decode cX12_lines 5 = .ok (.aload_n 0, 1) := by decide +kernel
theorem dX12_lines_6 : decode cX12_lines 6 = .ok (.getfield 314, 3) := by decide +kernel
theorem dX12_lines_9 : decode cX12_lines 9 = .ok (.iconst 3, 1) := by decide +kernel
theorem dX12_lines_10 : decode cX12_lines 10 = .ok (.if_icmp .ne 6, 3) := by decide +kernel
theorem dX12_lines_13 : decode cX12_lines 13 = .ok (.bipush (-2), 2) := by decide +kernel
theorem dX12_lines_15 : decode cX12_lines 15 = .ok (.ireturn, 1) := by decide +kernel
theorem dX12_lines_16 : decode cX12_lines 16 = .ok (.aload_n 0, 1) := by decide +kernel
theorem dX12_lines_17 : decode cX12_lines 17 = .ok (.invokevirtual 350, 3) := by decide +kernel
theorem dX12_lines_20 : decode cX12_lines 20 = .ok (.ifCond .ne 6, 3) := by decide +kernel
theorem dX12_lines_23 : decode cX12_lines 23 = .ok (.bipush (-3), 2) := by decide +kernel
theorem dX12_lines_25 : decode cX12_lines 25 = .ok (.ireturn, 1) := by decide +kernel
theorem dX12_lines_26 : decode cX12_lines 26 = .ok (.iconst 0, 1) := by decide +kernel
theorem dX12_lines_27 : decode cX12_lines 27 = .ok (.istore_n 1, 1) := by decide +kernel
theorem dX12_lines_28 : decode cX12_lines 28 = .ok (.iconst 0, 1) := by decide +kernel
theorem dX12_lines_29 : decode cX12_lines 29 = .ok (.istore_n 2, 1) := by decide +kernel
theorem dX12_lines_30 : decode cX12_lines 30 = .ok (.iconst 0, 1) := by decide +kernel
theorem dX12_lines_31 : decode cX12_lines 31 = .ok (.istore_n 3, 1) := by decide +kernel
theorem dX12_lines_32 : decode cX12_lines 32 = .ok (.iload_n 3, 1) := by decide +kernel
theorem dX12_lines_33 : decode cX12_lines 33 = .ok (.aload_n 0, 1) := by decide +kernel
theorem dX12_lines_34 : decode cX12_lines 34 = .ok (.getfield 98, 3) := by decide +kernel
theorem dX12_lines_37 : decode cX12_lines 37 = .ok (.iconst 0, 1) := by decide +kernel
theorem dX12_lines_38 : decode cX12_lines 38 = .ok (.iaload, 1) := by decide +kernel
theorem dX12_lines_39 : decode cX12_lines 39 = .ok (.if_icmp .ge 117, 3) := by decide +kernel
theorem dX12_lines_42 : decode cX12_lines 42 = .ok (.iload_n 1, 1) := by decide +kernel
theorem dX12_lines_43 : decode cX12_lines 43 = .ok (.aload_n 0, 1) := by decide +kernel
theorem dX12_lines_44 : decode cX12_lines 44 = .ok (.iconst 0, 1) := by decide +kernel
theorem dX12_lines_45 : decode cX12_lines 45 = .ok (.aload_n 0, 1) := by decide +kernel
theorem dX12_lines_46 : decode cX12_lines 46 = .ok (.getfield 107, 3) := by decide +kernel
theorem dX12_lines_49 : decode cX12_lines 49 = .ok (.iload_n 3, 1) := by decide +kernel
theorem dX12_lines_50 : decode cX12_lines 50 = .ok (.iaload, 1) := by decide +kernel
theorem dX12_lines_51 : decode cX12_lines 51 = .ok (.invokevirtual 209, 3) := by decide +kernel
theorem dX12_lines_54 : decode cX12_lines 54 = .ok (.iload_n 3, 1) := by decide +kernel
theorem dX12_lines_55 : decode cX12_lines 55 = .ok (.if_icmp .ne 7, 3) := by decide +kernel
theorem dX12_lines_58 : decode cX12_lines 58 = .ok (.iconst 1, 1) := by decide +kernel
theorem dX12_lines_59 : decode cX12_lines 59 = .ok (.goto 4, 3) := by decide +kernel
theorem dX12_lines_62 : decode cX12_lines 62 = .ok (.iconst 0, 1) := by decide +kernel
theorem dX12_lines_63 : decode cX12_lines 63 = .ok (.invokestatic 339, 3) := by decide +kernel
theorem dX12_lines_66 : decode cX12_lines 66 = .ok (.iadd, 1) := by decide +kernel
theorem dX12_lines_67 : decode cX12_lines 67 = .ok (.istore_n 1, 1) := by decide +kernel
theorem dX12_lines_68 : decode cX12_lines 68 = .ok (.iconst 0, 1) := by decide +kernel
theorem dX12_lines_69 : decode cX12_lines 69 = .ok (.istore 4, 2) := by decide +kernel
theorem dX12_lines_71 : decode cX12_lines 71 = .ok (.iload 4, 2) := by decide +kernel
theorem dX12_lines_73 : decode cX12_lines 73 = .ok (.aload_n 0, 1) := by decide +kernel
theorem dX12_lines_74 : decode cX12_lines 74 = .ok (.getfield 30, 3) := by decide +kernel
theorem dX12_lines_77 : decode cX12_lines 77 = .ok (.if_icmp .ge 73, 3) := by decide +kernel
theorem dX12_lines_80 : decode cX12_lines 80 = .ok (.aload_n 0, 1) := by decide +kernel
theorem dX12_lines_81 : decode cX12_lines 81 = .ok (.iconst 0, 1) := by decide +kernel
theorem dX12_lines_82 : decode cX12_lines 82 = .ok (.aload_n 0, 1) := by decide +kernel
theorem dX12_lines_83 : decode cX12_lines 83 = .ok (.iconst 0, 1) := by decide +kernel
theorem dX12_lines_84 : decode cX12_lines 84 = .ok (.aload_n 0, 1) := by decide +kernel
theorem dX12_lines_85 : decode cX12_lines 85 = .ok (.getfield 107, 3) := by decide +kernel
theorem dX12_lines_88 : decode cX12_lines 88 = .ok (.iload_n 3, 1) := by decide +kernel
theorem dX12_lines_89 : decode cX12_lines 89 = .ok (.iaload, 1) := by decide +kernel
theorem dX12_lines_90 : decode cX12_lines 90 = .ok (.iload 4, 2) := by decide +kernel
theorem dX12_lines_92 : decode cX12_lines 92 = .ok (.invokevirtual 43, 3) := by decide +kernel
theorem dX12_lines_95 : decode cX12_lines 95 = .ok (.invokevirtual 209, 3) := by decide +kernel
theorem dX12_lines_98 : decode cX12_lines 98 = .ok (.iconst (-1), 1) := by decide +kernel
theorem dX12_lines_99 : decode cX12_lines 99 = .ok (.if_icmp .ne 7, 3) := by decide +kernel
theorem dX12_lines_102 : decode cX12_lines 102 = .ok (.iconst 1, 1) := by decide +kernel
theorem dX12_lines_103 : decode cX12_lines 103 = .ok (.goto 4, 3) := by decide +kernel
theorem dX12_lines_106 : decode cX12_lines 106 = .ok (.iconst 0, 1) := by decide +kernel
theorem dX12_lines_107 : decode cX12_lines 107 = .ok (.istore 5, 2) := by decide +kernel
theorem dX12_lines_109 : decode cX12_lines 109 = .ok (.iload_n 2, 1) := by decide +kernel
theorem dX12_lines_110 : decode cX12_lines 110 = .ok (.iload 5, 2) := by decide +kernel
theorem dX12_lines_112 : decode cX12_lines 112 = .ok (.ifCond .eq 26, 3) := by decide +kernel
theorem dX12_lines_115 : decode cX12_lines 115 = .ok (.aload_n 0, 1) := by decide +kernel
theorem dX12_lines_116 : decode cX12_lines 116 = .ok (.iconst 0, 1) := by decide +kernel
theorem dX12_lines_117 : decode cX12_lines 117 = .ok (.aload_n 0, 1) := by decide +kernel
theorem dX12_lines_118 : decode cX12_lines 118 = .ok (.iconst 0, 1) := by decide +kernel
theorem dX12_lines_119 : decode cX12_lines 119 = .ok (.iload_n 3, 1) := by decide +kernel
theorem dX12_lines_120 : decode cX12_lines 120 = .ok (.invokevirtual 206, 3) := by decide +kernel
theorem dX12_lines_123 : decode cX12_lines 123 = .ok (.iload 4, 2) := by decide +kernel
theorem dX12_lines_125 : decode cX12_lines 125 = .ok (.invokestatic 80, 3) := by decide +kernel
theorem dX12_lines_128 : decode cX12_lines 128 = .ok (.invokevirtual 261, 3) := by decide +kernel
theorem dX12_lines_131 : decode cX12_lines 131 = .ok (.ifCond .ne 7, 3) := by decide +kernel
theorem dX12_lines_134 : decode cX12_lines 134 = .ok (.iconst 1, 1) := by decide +kernel
theorem dX12_lines_135 : decode cX12_lines 135 = .ok (.goto 4, 3) := by decide +kernel
theorem dX12_lines_138 : decode cX12_lines 138 = .ok (.iconst 0, 1) := by decide +kernel
theorem dX12_lines_139 : decode cX12_lines 139 = .ok (.invokestatic 339, 3) := by decide +kernel
theorem dX12_lines_142 : decode cX12_lines 142 = .ok (.iadd, 1) := by decide +kernel
theorem dX12_lines_143 : decode cX12_lines 143 = .ok (.istore_n 2, 1) := by decide +kernel
theorem dX12_lines_144 : decode cX12_lines 144 = .ok (.iinc 4 1, 3) := by decide +kernel
theorem dX12_lines_147 : decode cX12_lines 147 = .ok (.goto (-76), 3) := by decide +kernel
theorem dX12_lines_150 : decode cX12_lines 150 = .ok (.iinc 3 1, 3) := by decide +kernel
theorem dX12_lines_153 : decode cX12_lines 153 = .ok (.goto (-121), 3) := by decide +kernel
theorem dX12_lines_156 : decode cX12_lines 156 = .ok (.aload_n 0, 1) := by decide +kernel
theorem dX12_lines_157 : decode cX12_lines 157 = .ok (.iconst 0, 1) := by decide +kernel
theorem dX12_lines_158 : decode cX12_lines 158 = .ok (.putfield 11, 3) := by decide +kernel
theorem dX12_lines_161 : decode cX12_lines 161 = .ok (.aload_n 0, 1) := by decide +kernel
theorem dX12_lines_162 : decode cX12_lines 162 = .ok (.aload_n 0, 1) := by decide +kernel
theorem dX12_lines_163 : decode cX12_lines 163 = .ok (.getfield 98, 3) := by decide +kernel
theorem dX12_lines_166 : decode cX12_lines 166 = .ok (.iconst 0, 1) := by decide +kernel
theorem dX12_lines_167 : decode cX12_lines 167 = .ok (.iaload, 1) := by decide +kernel
theorem dX12_lines_168 : decode cX12_lines 168 = .ok (.iload_n 1, 1) := by decide +kernel
theorem dX12_lines_169 : decode cX12_lines 169 = .ok (.isub, 1) := by decide +kernel
theorem dX12_lines_170 : decode cX12_lines 170 = .ok (.i2l, 1) := by decide +kernel
theorem dX12_lines_171 : decode cX12_lines 171 = .ok (.invokevirtual 343, 3) := by decide +kernel
theorem dX12_lines_174 : decode cX12_lines 174 = .ok (.aload_n 0, 1) := by decide +kernel
theorem dX12_lines_175 : decode cX12_lines 175 = .ok (.iload_n 2, 1) := by decide +kernel
theorem dX12_lines_176 : decode cX12_lines 176 = .ok (.i2l, 1) := by decide +kernel
theorem dX12_lines_177 : decode cX12_lines 177 = .ok (.invokevirtual 343, 3) := by decide +kernel
theorem dX12_lines_180 : decode cX12_lines 180 = .ok (.iload_n 1, 1) := by decide +kernel
theorem dX12_lines_181 : decode cX12_lines 181 = .ok (.ireturn, 1) := by decide +kernel
theorem dX12_knot_0 : decode cX12_knot 0 = .ok (.aload_n 0, 1) := by decide +kernel
theorem dX12_knot_1 : decode cX12_knot 1 = .ok (.iconst 0, 1) := by decide +kernel
theorem dX12_knot_2 : decode cX12_knot 2 = .ok (.putfield 1, 3) := by decide +kernel
theorem dX12_knot_5 : decode cX12_knot 5 = .ok (.iload_n 2, 1) := by decide +kernel
theorem dX12_knot_6 : decode cX12_knot 6 = .ok (.i2l, 1) := by decide +kernel
theorem dX12_knot_7 : decode cX12_knot 7 = .ok (.lconst 0, 1) := by decide +kernel
theorem dX12_knot_8 : decode cX12_knot 8 = .ok (.ldc2_w 28, 3) := by decide +kernel
theorem dX12_knot_11 : decode cX12_knot 11 = .ok (.invokestatic 24, 3) := by decide +kernel
theorem dX12_knot_14 : decode cX12_knot 14 = .ok (.ifCond .ne 5, 3) := by decide +kernel
theorem dX12_knot_17 : decode cX12_knot 17 = .ok (.iconst (-1), 1) := by decide +kernel
theorem dX12_knot_18 : decode cX12_knot 18 = .ok (.ireturn, 1) := by decide +kernel
theorem dX12_knot_19 : decode cX12_knot 19 = .ok (.aload_n 0, 1) := by decide +kernel
theorem dX12_knot_20 : decode cX12_knot 20 = .ok (.getfield 314, 3) := by decide +kernel
theorem dX12_knot_23 : decode cX12_knot 23 = .ok (.iconst 3, 1) := by decide +kernel
theorem dX12_knot_24 : decode cX12_knot 24 = .ok (.if_icmp .eq 6, 3) := by decide +kernel
theorem dX12_knot_27 : decode cX12_knot 27 = .ok (.bipush (-2), 2) := by decide +kernel
theorem dX12_knot_29 : decode cX12_knot 29 = .ok (.ireturn, 1) := by decide +kernel
theorem dX12_knot_30 : decode cX12_knot 30 = .ok (.iload_n 1, 1) := by decide +kernel
theorem dX12_knot_31 : decode cX12_knot 31 = .ok (.i2l, 1) := by decide +kernel
theorem dX12_knot_32 : decode cX12_knot 32 = .ok (.lconst 0, 1) := by decide +kernel
theorem dX12_knot_33 : decode cX12_knot 33 = .ok (.aload_n 0, 1) := by decide +kernel
theorem dX12_knot_34 : decode cX12_knot 34 = .ok (.getfield 101, 3) := by decide +kernel
theorem dX12_knot_37 : decode cX12_knot 37 = .ok (.iconst 0, 1) := by decide +kernel
theorem dX12_knot_38 : decode cX12_knot 38 = .ok (.iaload, 1) := by decide +kernel
theorem dX12_knot_39 : decode cX12_knot 39 = .ok (.iconst 1, 1) := by decide +kernel
theorem dX12_knot_40 : decode cX12_knot 40 = .ok (.isub, 1) := by decide +kernel
theorem dX12_knot_41 : decode cX12_knot 41 = .ok (.i2l, 1) := by decide +kernel
theorem dX12_knot_42 : decode cX12_knot 42 = .ok (.invokestatic 24, 3) := by decide +kernel
theorem dX12_knot_45 : decode cX12_knot 45 = .ok (.ifCond .ne 5, 3) := by decide +kernel
theorem dX12_knot_48 : decode cX12_knot 48 = .ok (.iconst (-1), 1) := by decide +kernel
theorem dX12_knot_49 : decode cX12_knot 49 = .ok (.ireturn, 1) := by decide +kernel
theorem dX12_knot_50 : decode cX12_knot 50 = .ok (.aload_n 0, 1) := by decide +kernel
theorem dX12_knot_51 : decode cX12_knot 51 = .ok (.getfield 133, 3) := by decide +kernel
theorem dX12_knot_54 : decode cX12_knot 54 = .ok (.iconst 4, 1) := by decide +kernel
theorem dX12_knot_55 : decode cX12_knot 55 = .ok (.iload_n 1, 1) := by decide +kernel
theorem dX12_knot_56 : decode cX12_knot 56 = .ok (.imul, 1) := by decide +kernel
theorem dX12_knot_57 : decode cX12_knot 57 = .ok (.iload_n 2, 1) := by decide +kernel
theorem dX12_knot_58 : decode cX12_knot 58 = .ok (.iadd, 1) := by decide +kernel
theorem dX12_knot_59 : decode cX12_knot 59 = .ok (.iaload, 1) := by decide +kernel
theorem dX12_knot_60 : decode cX12_knot 60 = .ok (.istore_n 3, 1) := by decide +kernel
theorem dX12_knot_61 : decode cX12_knot 61 = .ok (.iload_n 3, 1) := by decide +kernel
theorem dX12_knot_62 : decode cX12_knot 62 = .ok (.ifCond .ne 8, 3) := by decide +kernel
theorem dX12_knot_65 : decode cX12_knot 65 = .ok (.bipush (-3), 2) := by decide +kernel
theorem dX12_knot_67 : decode cX12_knot 67 = .ok (.goto 16, 3) := by decide +kernel
theorem dX12_knot_70 : decode cX12_knot 70 = .ok (.iload_n 3, 1) := by decide +kernel
theorem dX12_knot_71 : decode cX12_knot 71 = .ok (.bipush 100, 2) := by decide +kernel
theorem dX12_knot_73 : decode cX12_knot 73 = .ok (.if_icmp .ge 9, 3) := by decide +kernel
theorem dX12_knot_76 : decode cX12_knot 76 = .ok (.iload_n 3, 1) := by decide +kernel
theorem dX12_knot_77 : decode cX12_knot 77 = .ok (.iconst 1, 1) := by decide +kernel
theorem dX12_knot_78 : decode cX12_knot 78 = .ok (.isub, 1) := by decide +kernel
theorem dX12_knot_79 : decode cX12_knot 79 = .ok (.goto 4, 3) := by decide +kernel
theorem dX12_knot_82 : decode cX12_knot 82 = .ok (.iload_n 3, 1) := by decide +kernel
theorem dX12_knot_83 : decode cX12_knot 83 = .ok (.ireturn, 1) := by decide +kernel
theorem dX12_sift_0 : decode cX12_sift 0 = .ok (.aload_n 0, 1) := by decide +kernel
theorem dX12_sift_1 : decode cX12_sift 1 = .ok (.iconst 0, 1) := by decide +kernel
theorem dX12_sift_2 : decode cX12_sift 2 = .ok (.putfield 1, 3) := by decide +kernel
theorem dX12_sift_5 : decode cX12_sift 5 = .ok (.aload_n 0, 1) := by decide +kernel
theorem dX12_sift_6 : decode cX12_sift 6 = .ok (.lload_n 1, 1) := by decide +kernel
theorem dX12_sift_7 : decode cX12_sift 7 = .ok (.invokevirtual 55, 3) := by decide +kernel
theorem dX12_sift_10 : decode cX12_sift 10 = .ok (.ifCond .eq 12, 3) := by decide +kernel
theorem dX12_sift_13 : decode cX12_sift 13 = .ok (.lload_n 1, 1) := by decide +kernel
theorem dX12_sift_14 : decode cX12_sift 14 = .ok (.invokestatic 33, 3) := by decide +kernel
theorem dX12_sift_17 : decode cX12_sift 17 = .ok (.bipush 15, 2) := by decide +kernel
theorem dX12_sift_19 : decode cX12_sift 19 = .ok (.if_icmp .le 5, 3) := by decide +kernel
theorem dX12_sift_22 : decode cX12_sift 22 = .ok (.iconst (-1), 1) := by decide +kernel
theorem dX12_sift_23 : decode cX12_sift 23 = .ok (.ireturn, 1) := by decide +kernel
theorem dX12_sift_24 : decode cX12_sift 24 = .ok (.aload_n 0, 1) := by decide +kernel
theorem dX12_sift_25 : decode cX12_sift 25 = .ok (.getfield 314, 3) := by decide +kernel
theorem dX12_sift_28 : decode cX12_sift 28 = .ok (.iconst 3, 1) := by decide +kernel
theorem dX12_sift_29 : decode cX12_sift 29 = .ok (.if_icmp .eq 6, 3) := by decide +kernel
theorem dX12_sift_32 : decode cX12_sift 32 = .ok (.bipush (-2), 2) := by decide +kernel
theorem dX12_sift_34 : decode cX12_sift 34 = .ok (.ireturn, 1) := by decide +kernel
theorem dX12_sift_35 : decode cX12_sift 35 = .ok (.aload_n 0, 1) := by decide +kernel
theorem dX12_sift_36 : decode cX12_sift 36 = .ok (.iconst 0, 1) := by decide +kernel
theorem dX12_sift_37 : decode cX12_sift 37 = .ok (.lload_n 1, 1) := by decide +kernel
theorem dX12_sift_38 : decode cX12_sift 38 = .ok (.invokevirtual 228, 3) := by decide +kernel
theorem dX12_sift_41 : decode cX12_sift 41 = .ok (.istore_n 3, 1) := by decide +kernel
theorem dX12_sift_42 : decode cX12_sift 42 = .ok (.iload_n 3, 1) := by decide +kernel
theorem dX12_sift_43 : decode cX12_sift 43 = .ok (.iconst (-1), 1) := by decide +kernel
theorem dX12_sift_44 : decode cX12_sift 44 = .ok (.if_icmp .ne 6, 3) := by decide +kernel
theorem dX12_sift_47 : decode cX12_sift 47 = .ok (.bipush (-3), 2) := by decide +kernel
theorem dX12_sift_49 : decode cX12_sift 49 = .ok (.ireturn, 1) := by decide +kernel
theorem dX12_sift_50 : decode cX12_sift 50 = .ok (.aload_n 0, 1) := by decide +kernel
theorem dX12_sift_51 : decode cX12_sift 51 = .ok (.iconst 0, 1) := by decide +kernel
theorem dX12_sift_52 : decode cX12_sift 52 = .ok (.putfield 11, 3) := by decide +kernel
theorem dX12_sift_55 : decode cX12_sift 55 = .ok (.aload_n 0, 1) := by decide +kernel
theorem dX12_sift_56 : decode cX12_sift 56 = .ok (.aload_n 0, 1) := by decide +kernel
theorem dX12_sift_57 : decode cX12_sift 57 = .ok (.getfield 222, 3) := by decide +kernel
theorem dX12_sift_60 : decode cX12_sift 60 = .ok (.i2l, 1) := by decide +kernel
theorem dX12_sift_61 : decode cX12_sift 61 = .ok (.invokevirtual 343, 3) := by decide +kernel
theorem dX12_sift_64 : decode cX12_sift 64 = .ok (.iload_n 3, 1) := by decide +kernel
theorem dX12_sift_65 : decode cX12_sift 65 = .ok (.ireturn, 1) := by decide +kernel
theorem dX12_why_0 : decode cX12_why 0 = .ok (.iload_n 1, 1) := by decide +kernel
theorem dX12_why_1 : decode cX12_why 1 = .ok (.i2l, 1) := by decide +kernel
theorem dX12_why_2 : decode cX12_why 2 = .ok (.lconst 0, 1) := by decide +kernel
theorem dX12_why_3 : decode cX12_why 3 = .ok (.ldc2_w 354, 3) := by decide +kernel
theorem dX12_why_6 : decode cX12_why 6 = .ok (.invokestatic 24, 3) := by decide +kernel
theorem dX12_why_9 : decode cX12_why 9 = .ok (.ifCond .ne 5, 3) := by decide +kernel
theorem dX12_why_12 : decode cX12_why 12 = .ok (.iconst (-1), 1) := by decide +kernel
theorem dX12_why_13 : decode cX12_why 13 = .ok (.ireturn, 1) := by decide +kernel
theorem dX12_why_14 : decode cX12_why 14 = .ok (.aload_n 0, 1) := by decide +kernel
theorem dX12_why_15 : decode cX12_why 15 = .ok (.getfield 126, 3) := by decide +kernel
theorem dX12_why_18 : decode cX12_why 18 = .ok (.iconst 0, 1) := by decide +kernel
theorem dX12_why_19 : decode cX12_why 19 = .ok (.baload, 1) := by decide +kernel
theorem dX12_why_20 : decode cX12_why 20 = .ok (.ifCond .ne 8, 3) := by decide +kernel
theorem dX12_why_23 : decode cX12_why 23 = .ok (.bipush (-2), 2) := by decide +kernel
theorem dX12_why_25 : decode cX12_why 25 = .ok (.goto 17, 3) := by decide +kernel
theorem dX12_why_28 : decode cX12_why 28 = .ok (.aload_n 0, 1) := by decide +kernel
theorem dX12_why_29 : decode cX12_why 29 = .ok (.iconst 1, 1) := by decide +kernel
theorem dX12_why_30 : decode cX12_why 30 = .ok (.iload_n 1, 1) := by decide +kernel
theorem dX12_why_31 : decode cX12_why 31 = .ok (.invokevirtual 330, 3) := by decide +kernel
theorem dX12_why_34 : decode cX12_why 34 = .ok (.ifCond .eq 7, 3) := by decide +kernel
theorem dX12_why_37 : decode cX12_why 37 = .ok (.iconst 0, 1) := by decide +kernel
theorem dX12_why_38 : decode cX12_why 38 = .ok (.goto 4, 3) := by decide +kernel
theorem dX12_why_41 : decode cX12_why 41 = .ok (.iconst (-1), 1) := by decide +kernel
theorem dX12_why_42 : decode cX12_why 42 = .ok (.ireturn, 1) := by decide +kernel
theorem dX12_guessed_0 : decode cX12_guessed 0 = .ok (.aload_n 0, 1) := by decide +kernel
theorem dX12_guessed_1 : decode cX12_guessed 1 = .ok (.iconst 0, 1) := by decide +kernel
theorem dX12_guessed_2 : decode cX12_guessed 2 = .ok (.putfield 1, 3) := by decide +kernel
theorem dX12_guessed_5 : decode cX12_guessed 5 = .ok (.iload_n 2, 1) := by decide +kernel
theorem dX12_guessed_6 : decode cX12_guessed 6 = .ok (.i2l, 1) := by decide +kernel
theorem dX12_guessed_7 : decode cX12_guessed 7 = .ok (.lconst 0, 1) := by decide +kernel
theorem dX12_guessed_8 : decode cX12_guessed 8 = .ok (.aload_n 0, 1) := by decide +kernel
theorem dX12_guessed_9 : decode cX12_guessed 9 = .ok (.getfield 30, 3) := by decide +kernel
theorem dX12_guessed_12 : decode cX12_guessed 12 = .ok (.i2l, 1) := by decide +kernel
theorem dX12_guessed_13 : decode cX12_guessed 13 = .ok (.invokestatic 24, 3) := by decide +kernel
theorem dX12_guessed_16 : decode cX12_guessed 16 = .ok (.ifCond .eq 12, 3) := by decide +kernel
theorem dX12_guessed_19 : decode cX12_guessed 19 = .ok (.aload_n 0, 1) := by decide +kernel
theorem dX12_guessed_20 : decode cX12_guessed 20 = .ok (.iload_n 1, 1) := by decide +kernel
theorem dX12_guessed_21 : decode cX12_guessed 21 = .ok (.invokevirtual 356, 3) := by decide +kernel
theorem dX12_guessed_24 : decode cX12_guessed 24 = .ok (.iconst (-1), 1) := by decide +kernel
theorem dX12_guessed_25 : decode cX12_guessed 25 = .ok (.if_icmp .ne 5, 3) := by decide +kernel
theorem dX12_guessed_28 : decode cX12_guessed 28 = .ok (.iconst (-1), 1) := by decide +kernel
theorem dX12_guessed_29 : decode cX12_guessed 29 = .ok (.ireturn, 1) := by decide +kernel
theorem dX12_guessed_30 : decode cX12_guessed 30 = .ok (.aload_n 0, 1) := by decide +kernel
theorem dX12_guessed_31 : decode cX12_guessed 31 = .ok (.iload_n 1, 1) := by decide +kernel
theorem dX12_guessed_32 : decode cX12_guessed 32 = .ok (.invokevirtual 356, 3) := by decide +kernel
theorem dX12_guessed_35 : decode cX12_guessed 35 = .ok (.ifCond .eq 6, 3) := by decide +kernel
theorem dX12_guessed_38 : decode cX12_guessed 38 = .ok (.bipush (-2), 2) := by decide +kernel
theorem dX12_guessed_40 : decode cX12_guessed 40 = .ok (.ireturn, 1) := by decide +kernel
theorem dX12_guessed_41 : decode cX12_guessed 41 = .ok (.iload_n 2, 1) := by decide +kernel
theorem dX12_guessed_42 : decode cX12_guessed 42 = .ok (.ifCond .ne 12, 3) := by decide +kernel
theorem dX12_guessed_45 : decode cX12_guessed 45 = .ok (.aload_n 0, 1) := by decide +kernel
theorem dX12_guessed_46 : decode cX12_guessed 46 = .ok (.iconst 1, 1) := by decide +kernel
theorem dX12_guessed_47 : decode cX12_guessed 47 = .ok (.iload_n 1, 1) := by decide +kernel
theorem dX12_guessed_48 : decode cX12_guessed 48 = .ok (.invokevirtual 51, 3) := by decide +kernel
theorem dX12_guessed_51 : decode cX12_guessed 51 = .ok (.goto 12, 3) := by decide +kernel
theorem dX12_guessed_54 : decode cX12_guessed 54 = .ok (.aload_n 0, 1) := by decide +kernel
theorem dX12_guessed_55 : decode cX12_guessed 55 = .ok (.iconst 1, 1) := by decide +kernel
theorem dX12_guessed_56 : decode cX12_guessed 56 = .ok (.iload_n 1, 1) := by decide +kernel
theorem dX12_guessed_57 : decode cX12_guessed 57 = .ok (.iload_n 2, 1) := by decide +kernel
theorem dX12_guessed_58 : decode cX12_guessed 58 = .ok (.iconst 1, 1) := by decide +kernel
theorem dX12_guessed_59 : decode cX12_guessed 59 = .ok (.isub, 1) := by decide +kernel
theorem dX12_guessed_60 : decode cX12_guessed 60 = .ok (.invokevirtual 43, 3) := by decide +kernel
theorem dX12_guessed_63 : decode cX12_guessed 63 = .ok (.ireturn, 1) := by decide +kernel
theorem dX12_access_0 : decode cX12_access 0 = .ok (.aload_n 0, 1) := by decide +kernel
theorem dX12_access_1 : decode cX12_access 1 = .ok (.iconst 0, 1) := by decide +kernel
theorem dX12_access_2 : decode cX12_access 2 = .ok (.putfield 1, 3) := by decide +kernel
theorem dX12_access_5 : decode cX12_access 5 = .ok (.aload_n 0, 1) := by decide +kernel
theorem dX12_access_6 : decode cX12_access 6 = .ok (.iload_n 1, 1) := by decide +kernel
theorem dX12_access_7 : decode cX12_access 7 = .ok (.invokevirtual 356, 3) := by decide +kernel
theorem dX12_access_10 : decode cX12_access 10 = .ok (.ifCond .eq 12, 3) := by decide +kernel
theorem dX12_access_13 : decode cX12_access 13 = .ok (.aload_n 0, 1) := by decide +kernel
theorem dX12_access_14 : decode cX12_access 14 = .ok (.iload_n 1, 1) := by decide +kernel
theorem dX12_access_15 : decode cX12_access 15 = .ok (.invokevirtual 356, 3) := by decide +kernel
theorem dX12_access_18 : decode cX12_access 18 = .ok (.i2l, 1) := by decide +kernel
theorem dX12_access_19 : decode cX12_access 19 = .ok (.goto 9, 3) := by decide +kernel
theorem dX12_access_22 : decode cX12_access 22 = .ok (.aload_n 0, 1) := by decide +kernel
theorem dX12_access_23 : decode cX12_access 23 = .ok (.getfield 130, 3) := by decide +kernel
theorem dX12_access_26 : decode cX12_access 26 = .ok (.iload_n 1, 1) := by decide +kernel
theorem dX12_access_27 : decode cX12_access 27 = .ok (.laload, 1) := by decide +kernel
theorem dX12_access_28 : decode cX12_access 28 = .ok (.lreturn, 1) := by decide +kernel
theorem dX12_reads_0 : decode cX12_reads 0 = .ok (.aload_n 0, 1) := by decide +kernel
theorem dX12_reads_1 : decode cX12_reads 1 = .ok (.iconst 0, 1) := by decide +kernel
theorem dX12_reads_2 : decode cX12_reads 2 = .ok (.putfield 1, 3) := by decide +kernel
theorem dX12_reads_5 : decode cX12_reads 5 = .ok (.aload_n 0, 1) := by decide +kernel
theorem dX12_reads_6 : decode cX12_reads 6 = .ok (.lload_n 1, 1) := by decide +kernel
theorem dX12_reads_7 : decode cX12_reads 7 = .ok (.invokevirtual 55, 3) := by decide +kernel
theorem dX12_reads_10 : decode cX12_reads 10 = .ok (.ifCond .ne 5, 3) := by decide +kernel
theorem dX12_reads_13 : decode cX12_reads 13 = .ok (.iconst (-1), 1) := by decide +kernel
theorem dX12_reads_14 : decode cX12_reads 14 = .ok (.ireturn, 1) := by decide +kernel
theorem dX12_reads_15 : decode cX12_reads 15 = .ok (.aload_n 0, 1) := by decide +kernel
theorem dX12_reads_16 : decode cX12_reads 16 = .ok (.getfield 126, 3) := by decide +kernel
theorem dX12_reads_19 : decode cX12_reads 19 = .ok (.iconst 0, 1) := by decide +kernel
theorem dX12_reads_20 : decode cX12_reads 20 = .ok (.baload, 1) := by decide +kernel
theorem dX12_reads_21 : decode cX12_reads 21 = .ok (.ifCond .ne 6, 3) := by decide +kernel
theorem dX12_reads_24 : decode cX12_reads 24 = .ok (.bipush (-2), 2) := by decide +kernel
theorem dX12_reads_26 : decode cX12_reads 26 = .ok (.ireturn, 1) := by decide +kernel
theorem dX12_reads_27 : decode cX12_reads 27 = .ok (.aload_n 0, 1) := by decide +kernel
theorem dX12_reads_28 : decode cX12_reads 28 = .ok (.iconst 0, 1) := by decide +kernel
theorem dX12_reads_29 : decode cX12_reads 29 = .ok (.putfield 11, 3) := by decide +kernel
theorem dX12_reads_32 : decode cX12_reads 32 = .ok (.aload_n 0, 1) := by decide +kernel
theorem dX12_reads_33 : decode cX12_reads 33 = .ok (.aload_n 0, 1) := by decide +kernel
theorem dX12_reads_34 : decode cX12_reads 34 = .ok (.iconst 1, 1) := by decide +kernel
theorem dX12_reads_35 : decode cX12_reads 35 = .ok (.lload_n 1, 1) := by decide +kernel
theorem dX12_reads_36 : decode cX12_reads 36 = .ok (.invokevirtual 185, 3) := by decide +kernel
theorem dX12_reads_39 : decode cX12_reads 39 = .ok (.i2l, 1) := by decide +kernel
theorem dX12_reads_40 : decode cX12_reads 40 = .ok (.invokevirtual 343, 3) := by decide +kernel
theorem dX12_reads_43 : decode cX12_reads 43 = .ok (.aload_n 0, 1) := by decide +kernel
theorem dX12_reads_44 : decode cX12_reads 44 = .ok (.iconst 0, 1) := by decide +kernel
theorem dX12_reads_45 : decode cX12_reads 45 = .ok (.lload_n 1, 1) := by decide +kernel
theorem dX12_reads_46 : decode cX12_reads 46 = .ok (.invokevirtual 255, 3) := by decide +kernel
theorem dX12_reads_49 : decode cX12_reads 49 = .ok (.ireturn, 1) := by decide +kernel
theorem dX12_errs_0 : decode cX12_errs 0 = .ok (.aload_n 0, 1) := by decide +kernel
theorem dX12_errs_1 : decode cX12_errs 1 = .ok (.iconst 0, 1) := by decide +kernel
theorem dX12_errs_2 : decode cX12_errs 2 = .ok (.putfield 1, 3) := by decide +kernel
theorem dX12_errs_5 : decode cX12_errs 5 = .ok (.aload_n 0, 1) := by decide +kernel
theorem dX12_errs_6 : decode cX12_errs 6 = .ok (.getfield 126, 3) := by decide +kernel
theorem dX12_errs_9 : decode cX12_errs 9 = .ok (.iconst 0, 1) := by decide +kernel
theorem dX12_errs_10 : decode cX12_errs 10 = .ok (.baload, 1) := by decide +kernel
theorem dX12_errs_11 : decode cX12_errs 11 = .ok (.ifCond .eq 11, 3) := by decide +kernel
theorem dX12_errs_14 : decode cX12_errs 14 = .ok (.aload_n 0, 1) := by decide +kernel
theorem dX12_errs_15 : decode cX12_errs 15 = .ok (.iconst 0, 1) := by decide +kernel
theorem dX12_errs_16 : decode cX12_errs 16 = .ok (.invokevirtual 283, 3) := by decide +kernel
theorem dX12_errs_19 : decode cX12_errs 19 = .ok (.goto 6, 3) := by decide +kernel
theorem dX12_errs_22 : decode cX12_errs 22 = .ok (.ldc2_w 359, 3) := by decide +kernel
theorem dX12_errs_25 : decode cX12_errs 25 = .ok (.lreturn, 1) := by decide +kernel
theorem dX12_goesOn_0 : decode cX12_goesOn 0 = .ok (.iconst 0, 1) := by decide +kernel
theorem dX12_goesOn_1 : decode cX12_goesOn 1 = .ok (.istore_n 1, 1) := by decide +kernel
theorem dX12_goesOn_2 : decode cX12_goesOn 2 = .ok (.iload_n 1, 1) := by decide +kernel
theorem dX12_goesOn_3 : decode cX12_goesOn 3 = .ok (.bipush 64, 2) := by decide +kernel
theorem dX12_goesOn_5 : decode cX12_goesOn 5 = .ok (.if_icmp .ge 16, 3) := by decide +kernel
theorem dX12_goesOn_8 : decode cX12_goesOn 8 = .ok (.aload_n 0, 1) := by decide +kernel
theorem dX12_goesOn_9 : decode cX12_goesOn 9 = .ok (.getfield 157, 3) := by decide +kernel
theorem dX12_goesOn_12 : decode cX12_goesOn 12 = .ok (.iload_n 1, 1) := by decide +kernel
theorem dX12_goesOn_13 : decode cX12_goesOn 13 = .ok (.iconst 0, 1) := by decide +kernel
theorem dX12_goesOn_14 : decode cX12_goesOn 14 = .ok (.iastore, 1) := by decide +kernel
theorem dX12_goesOn_15 : decode cX12_goesOn 15 = .ok (.iinc 1 1, 3) := by decide +kernel
theorem dX12_goesOn_18 : decode cX12_goesOn 18 = .ok (.goto (-16), 3) := by decide +kernel
theorem dX12_goesOn_21 : decode cX12_goesOn 21 = .ok (.iconst 0, 1) := by decide +kernel
theorem dX12_goesOn_22 : decode cX12_goesOn 22 = .ok (.istore_n 1, 1) := by decide +kernel
theorem dX12_goesOn_23 : decode cX12_goesOn 23 = .ok (.iload_n 1, 1) := by decide +kernel
theorem dX12_goesOn_24 : decode cX12_goesOn 24 = .ok (.bipush 64, 2) := by decide +kernel
theorem dX12_goesOn_26 : decode cX12_goesOn 26 = .ok (.if_icmp .ge 72, 3) := by decide +kernel
theorem dX12_goesOn_29 : decode cX12_goesOn 29 = .ok (.iconst 0, 1) := by decide +kernel
theorem dX12_goesOn_30 : decode cX12_goesOn 30 = .ok (.istore_n 2, 1) := by decide +kernel
theorem dX12_goesOn_31 : decode cX12_goesOn 31 = .ok (.iload_n 2, 1) := by decide +kernel
theorem dX12_goesOn_32 : decode cX12_goesOn 32 = .ok (.aload_n 0, 1) := by decide +kernel
theorem dX12_goesOn_33 : decode cX12_goesOn 33 = .ok (.getfield 30, 3) := by decide +kernel
theorem dX12_goesOn_36 : decode cX12_goesOn 36 = .ok (.if_icmp .ge 56, 3) := by decide +kernel
theorem dX12_goesOn_39 : decode cX12_goesOn 39 = .ok (.aload_n 0, 1) := by decide +kernel
theorem dX12_goesOn_40 : decode cX12_goesOn 40 = .ok (.getfield 154, 3) := by decide +kernel
theorem dX12_goesOn_43 : decode cX12_goesOn 43 = .ok (.iload_n 1, 1) := by decide +kernel
theorem dX12_goesOn_44 : decode cX12_goesOn 44 = .ok (.iaload, 1) := by decide +kernel
theorem dX12_goesOn_45 : decode cX12_goesOn 45 = .ok (.ifCond .le 47, 3) := by decide +kernel
theorem dX12_goesOn_48 : decode cX12_goesOn 48 = .ok (.aload_n 0, 1) := by decide +kernel
theorem dX12_goesOn_49 : decode cX12_goesOn 49 = .ok (.getfield 157, 3) := by decide +kernel
theorem dX12_goesOn_52 : decode cX12_goesOn 52 = .ok (.bipush 8, 2) := by decide +kernel
theorem dX12_goesOn_54 : decode cX12_goesOn 54 = .ok (.aload_n 0, 1) := by decide +kernel
theorem dX12_goesOn_55 : decode cX12_goesOn 55 = .ok (.iconst 1, 1) := by decide +kernel
theorem dX12_goesOn_56 : decode cX12_goesOn 56 = .ok (.iload_n 1, 1) := by decide +kernel
theorem dX12_goesOn_57 : decode cX12_goesOn 57 = .ok (.bipush 8, 2) := by decide +kernel
theorem dX12_goesOn_59 : decode cX12_goesOn 59 = .ok (.idiv, 1) := by decide +kernel
theorem dX12_goesOn_60 : decode cX12_goesOn 60 = .ok (.iload_n 2, 1) := by decide +kernel
theorem dX12_goesOn_61 : decode cX12_goesOn 61 = .ok (.invokevirtual 43, 3) := by decide +kernel
theorem dX12_goesOn_64 : decode cX12_goesOn 64 = .ok (.imul, 1) := by decide +kernel
theorem dX12_goesOn_65 : decode cX12_goesOn 65 = .ok (.aload_n 0, 1) := by decide +kernel
theorem dX12_goesOn_66 : decode cX12_goesOn 66 = .ok (.iconst 0, 1) := by decide +kernel
theorem dX12_goesOn_67 : decode cX12_goesOn 67 = .ok (.iload_n 1, 1) := by decide +kernel
theorem dX12_goesOn_68 : decode cX12_goesOn 68 = .ok (.bipush 8, 2) := by decide +kernel
theorem dX12_goesOn_70 : decode cX12_goesOn 70 = .ok (.irem, 1) := by decide +kernel
theorem dX12_goesOn_71 : decode cX12_goesOn 71 = .ok (.iload_n 2, 1) := by decide +kernel
theorem dX12_goesOn_72 : decode cX12_goesOn 72 = .ok (.invokevirtual 43, 3) := by decide +kernel
theorem dX12_goesOn_75 : decode cX12_goesOn 75 = .ok (.iadd, 1) := by decide +kernel
theorem dX12_goesOn_76 : decode cX12_goesOn 76 = .ok (.dup2, 1) := by decide +kernel
theorem dX12_goesOn_77 : decode cX12_goesOn 77 = .ok (.iaload, 1) := by decide +kernel
theorem dX12_goesOn_78 : decode cX12_goesOn 78 = .ok (.aload_n 0, 1) := by decide +kernel
theorem dX12_goesOn_79 : decode cX12_goesOn 79 = .ok (.getfield 154, 3) := by decide +kernel
theorem dX12_goesOn_82 : decode cX12_goesOn 82 = .ok (.iload_n 1, 1) := by decide +kernel
theorem dX12_goesOn_83 : decode cX12_goesOn 83 = .ok (.iaload, 1) := by decide +kernel
theorem dX12_goesOn_84 : decode cX12_goesOn 84 = .ok (.iadd, 1) := by decide +kernel
theorem dX12_goesOn_85 : decode cX12_goesOn 85 = .ok (.iastore, 1) := by decide +kernel
theorem dX12_goesOn_86 : decode cX12_goesOn 86 = .ok (.iinc 2 1, 3) := by decide +kernel
theorem dX12_goesOn_89 : decode cX12_goesOn 89 = .ok (.goto (-58), 3) := by decide +kernel
theorem dX12_goesOn_92 : decode cX12_goesOn 92 = .ok (.iinc 1 1, 3) := by decide +kernel
theorem dX12_goesOn_95 : decode cX12_goesOn 95 = .ok (.goto (-72), 3) := by decide +kernel
theorem dX12_goesOn_98 : decode cX12_goesOn 98 = .ok (.iconst 0, 1) := by decide +kernel
theorem dX12_goesOn_99 : decode cX12_goesOn 99 = .ok (.istore_n 1, 1) := by decide +kernel
theorem dX12_goesOn_100 : decode cX12_goesOn 100 = .ok (.iload_n 1, 1) := by decide +kernel
theorem dX12_goesOn_101 : decode cX12_goesOn 101 = .ok (.bipush 64, 2) := by decide +kernel
theorem dX12_goesOn_103 : decode cX12_goesOn 103 = .ok (.if_icmp .ge 21, 3) := by decide +kernel
theorem dX12_goesOn_106 : decode cX12_goesOn 106 = .ok (.aload_n 0, 1) := by decide +kernel
theorem dX12_goesOn_107 : decode cX12_goesOn 107 = .ok (.getfield 154, 3) := by decide +kernel
theorem dX12_goesOn_110 : decode cX12_goesOn 110 = .ok (.iload_n 1, 1) := by decide +kernel
theorem dX12_goesOn_111 : decode cX12_goesOn 111 = .ok (.aload_n 0, 1) := by decide +kernel
theorem dX12_goesOn_112 : decode cX12_goesOn 112 = .ok (.getfield 157, 3) := by decide +kernel
theorem dX12_goesOn_115 : decode cX12_goesOn 115 = .ok (.iload_n 1, 1) := by decide +kernel
theorem dX12_goesOn_116 : decode cX12_goesOn 116 = .ok (.iaload, 1) := by decide +kernel
theorem dX12_goesOn_117 : decode cX12_goesOn 117 = .ok (.iastore, 1) := by decide +kernel
theorem dX12_goesOn_118 : decode cX12_goesOn 118 = .ok (.iinc 1 1, 3) := by decide +kernel
theorem dX12_goesOn_121 : decode cX12_goesOn 121 = .ok (.goto (-21), 3) := by decide +kernel
theorem dX12_goesOn_124 : decode cX12_goesOn 124 = .ok (.return_, 1) := by decide +kernel
theorem dX12_wrong_0 : decode cX12_wrong 0 = .ok (.aload_n 0, 1) := by decide +kernel
theorem dX12_wrong_1 : decode cX12_wrong 1 = .ok (.iconst 0, 1) := by decide +kernel
theorem dX12_wrong_2 : decode cX12_wrong 2 = .ok (.putfield 1, 3) := by decide +kernel
theorem dX12_wrong_5 : decode cX12_wrong 5 = .ok (.iload_n 1, 1) := by decide +kernel
theorem dX12_wrong_6 : decode cX12_wrong 6 = .ok (.i2l, 1) := by decide +kernel
theorem dX12_wrong_7 : decode cX12_wrong 7 = .ok (.lconst 0, 1) := by decide +kernel
theorem dX12_wrong_8 : decode cX12_wrong 8 = .ok (.ldc2_w 321, 3) := by decide +kernel
theorem dX12_wrong_11 : decode cX12_wrong 11 = .ok (.invokestatic 24, 3) := by decide +kernel
theorem dX12_wrong_14 : decode cX12_wrong 14 = .ok (.ifCond .ne 5, 3) := by decide +kernel
theorem dX12_wrong_17 : decode cX12_wrong 17 = .ok (.iconst (-1), 1) := by decide +kernel
theorem dX12_wrong_18 : decode cX12_wrong 18 = .ok (.ireturn, 1) := by decide +kernel
theorem dX12_wrong_19 : decode cX12_wrong 19 = .ok (.aload_n 0, 1) := by decide +kernel
theorem dX12_wrong_20 : decode cX12_wrong 20 = .ok (.getfield 126, 3) := by decide +kernel
theorem dX12_wrong_23 : decode cX12_wrong 23 = .ok (.iconst 0, 1) := by decide +kernel
theorem dX12_wrong_24 : decode cX12_wrong 24 = .ok (.baload, 1) := by decide +kernel
theorem dX12_wrong_25 : decode cX12_wrong 25 = .ok (.ifCond .ne 6, 3) := by decide +kernel
theorem dX12_wrong_28 : decode cX12_wrong 28 = .ok (.bipush (-2), 2) := by decide +kernel
theorem dX12_wrong_30 : decode cX12_wrong 30 = .ok (.ireturn, 1) := by decide +kernel
theorem dX12_wrong_31 : decode cX12_wrong 31 = .ok (.iconst 0, 1) := by decide +kernel
theorem dX12_wrong_32 : decode cX12_wrong 32 = .ok (.istore_n 2, 1) := by decide +kernel
theorem dX12_wrong_33 : decode cX12_wrong 33 = .ok (.iload_n 2, 1) := by decide +kernel
theorem dX12_wrong_34 : decode cX12_wrong 34 = .ok (.bipush 64, 2) := by decide +kernel
theorem dX12_wrong_36 : decode cX12_wrong 36 = .ok (.if_icmp .ge 27, 3) := by decide +kernel
theorem dX12_wrong_39 : decode cX12_wrong 39 = .ok (.aload_n 0, 1) := by decide +kernel
theorem dX12_wrong_40 : decode cX12_wrong 40 = .ok (.getfield 154, 3) := by decide +kernel
theorem dX12_wrong_43 : decode cX12_wrong 43 = .ok (.iload_n 2, 1) := by decide +kernel
theorem dX12_wrong_44 : decode cX12_wrong 44 = .ok (.iload_n 2, 1) := by decide +kernel
theorem dX12_wrong_45 : decode cX12_wrong 45 = .ok (.ifCond .ne 7, 3) := by decide +kernel
theorem dX12_wrong_48 : decode cX12_wrong 48 = .ok (.iconst 1, 1) := by decide +kernel
theorem dX12_wrong_49 : decode cX12_wrong 49 = .ok (.goto 4, 3) := by decide +kernel
theorem dX12_wrong_52 : decode cX12_wrong 52 = .ok (.iconst 0, 1) := by decide +kernel
theorem dX12_wrong_53 : decode cX12_wrong 53 = .ok (.invokestatic 339, 3) := by decide +kernel
theorem dX12_wrong_56 : decode cX12_wrong 56 = .ok (.iastore, 1) := by decide +kernel
theorem dX12_wrong_57 : decode cX12_wrong 57 = .ok (.iinc 2 1, 3) := by decide +kernel
theorem dX12_wrong_60 : decode cX12_wrong 60 = .ok (.goto (-27), 3) := by decide +kernel
theorem dX12_wrong_63 : decode cX12_wrong 63 = .ok (.iconst 0, 1) := by decide +kernel
theorem dX12_wrong_64 : decode cX12_wrong 64 = .ok (.istore_n 2, 1) := by decide +kernel
theorem dX12_wrong_65 : decode cX12_wrong 65 = .ok (.iconst 0, 1) := by decide +kernel
theorem dX12_wrong_66 : decode cX12_wrong 66 = .ok (.istore_n 3, 1) := by decide +kernel
theorem dX12_wrong_67 : decode cX12_wrong 67 = .ok (.iconst 0, 1) := by decide +kernel
theorem dX12_wrong_68 : decode cX12_wrong 68 = .ok (.istore 4, 2) := by decide +kernel
theorem dX12_wrong_70 : decode cX12_wrong 70 = .ok (.iload 4, 2) := by decide +kernel
theorem dX12_wrong_72 : decode cX12_wrong 72 = .ok (.iload_n 1, 1) := by decide +kernel
theorem dX12_wrong_73 : decode cX12_wrong 73 = .ok (.if_icmp .gt 82, 3) := by decide +kernel
theorem dX12_wrong_76 : decode cX12_wrong 76 = .ok (.iconst 0, 1) := by decide +kernel
theorem dX12_wrong_77 : decode cX12_wrong 77 = .ok (.istore 5, 2) := by decide +kernel
theorem dX12_wrong_79 : decode cX12_wrong 79 = .ok (.iload 5, 2) := by decide +kernel
theorem dX12_wrong_81 : decode cX12_wrong 81 = .ok (.bipush 64, 2) := by decide +kernel
theorem dX12_wrong_83 : decode cX12_wrong 83 = .ok (.if_icmp .ge 62, 3) := by decide +kernel
theorem dX12_wrong_86 : decode cX12_wrong 86 = .ok (.iload_n 3, 1) := by decide +kernel
theorem dX12_wrong_87 : decode cX12_wrong 87 = .ok (.aload_n 0, 1) := by decide +kernel
theorem dX12_wrong_88 : decode cX12_wrong 88 = .ok (.getfield 154, 3) := by decide +kernel
theorem dX12_wrong_91 : decode cX12_wrong 91 = .ok (.iload 5, 2) := by decide +kernel
theorem dX12_wrong_93 : decode cX12_wrong 93 = .ok (.iaload, 1) := by decide +kernel
theorem dX12_wrong_94 : decode cX12_wrong 94 = .ok (.iadd, 1) := by decide +kernel
theorem dX12_wrong_95 : decode cX12_wrong 95 = .ok (.istore_n 3, 1) := by decide +kernel
theorem dX12_wrong_96 : decode cX12_wrong 96 = .ok (.aload_n 0, 1) := by decide +kernel
theorem dX12_wrong_97 : decode cX12_wrong 97 = .ok (.getfield 154, 3) := by decide +kernel
theorem dX12_wrong_100 : decode cX12_wrong 100 = .ok (.iload 5, 2) := by decide +kernel
theorem dX12_wrong_102 : decode cX12_wrong 102 = .ok (.iaload, 1) := by decide +kernel
theorem dX12_wrong_103 : decode cX12_wrong 103 = .ok (.ifCond .le 36, 3) := by decide +kernel
theorem dX12_wrong_106 : decode cX12_wrong 106 = .ok (.aload_n 0, 1) := by decide +kernel
theorem dX12_wrong_107 : decode cX12_wrong 107 = .ok (.iconst 1, 1) := by decide +kernel
theorem dX12_wrong_108 : decode cX12_wrong 108 = .ok (.iload 5, 2) := by decide +kernel
theorem dX12_wrong_110 : decode cX12_wrong 110 = .ok (.bipush 8, 2) := by decide +kernel
theorem dX12_wrong_112 : decode cX12_wrong 112 = .ok (.idiv, 1) := by decide +kernel
theorem dX12_wrong_113 : decode cX12_wrong 113 = .ok (.invokevirtual 51, 3) := by decide +kernel
theorem dX12_wrong_116 : decode cX12_wrong 116 = .ok (.aload_n 0, 1) := by decide +kernel
theorem dX12_wrong_117 : decode cX12_wrong 117 = .ok (.iconst 0, 1) := by decide +kernel
theorem dX12_wrong_118 : decode cX12_wrong 118 = .ok (.iload 5, 2) := by decide +kernel
theorem dX12_wrong_120 : decode cX12_wrong 120 = .ok (.bipush 8, 2) := by decide +kernel
theorem dX12_wrong_122 : decode cX12_wrong 122 = .ok (.irem, 1) := by decide +kernel
theorem dX12_wrong_123 : decode cX12_wrong 123 = .ok (.invokevirtual 51, 3) := by decide +kernel
theorem dX12_wrong_126 : decode cX12_wrong 126 = .ok (.if_icmp .eq 13, 3) := by decide +kernel
theorem dX12_wrong_129 : decode cX12_wrong 129 = .ok (.iload_n 2, 1) := by decide +kernel
theorem dX12_wrong_130 : decode cX12_wrong 130 = .ok (.aload_n 0, 1) := by decide +kernel
theorem dX12_wrong_131 : decode cX12_wrong 131 = .ok (.getfield 154, 3) := by decide +kernel
theorem dX12_wrong_134 : decode cX12_wrong 134 = .ok (.iload 5, 2) := by decide +kernel
theorem dX12_wrong_136 : decode cX12_wrong 136 = .ok (.iaload, 1) := by decide +kernel
theorem dX12_wrong_137 : decode cX12_wrong 137 = .ok (.iadd, 1) := by decide +kernel
theorem dX12_wrong_138 : decode cX12_wrong 138 = .ok (.istore_n 2, 1) := by decide +kernel
theorem dX12_wrong_139 : decode cX12_wrong 139 = .ok (.iinc 5 1, 3) := by decide +kernel
theorem dX12_wrong_142 : decode cX12_wrong 142 = .ok (.goto (-63), 3) := by decide +kernel
theorem dX12_wrong_145 : decode cX12_wrong 145 = .ok (.aload_n 0, 1) := by decide +kernel
theorem dX12_wrong_146 : decode cX12_wrong 146 = .ok (.invokevirtual 361, 3) := by decide +kernel
theorem dX12_wrong_149 : decode cX12_wrong 149 = .ok (.iinc 4 1, 3) := by decide +kernel
theorem dX12_wrong_152 : decode cX12_wrong 152 = .ok (.goto (-82), 3) := by decide +kernel
theorem dX12_wrong_155 : decode cX12_wrong 155 = .ok (.aload_n 0, 1) := by decide +kernel
theorem dX12_wrong_156 : decode cX12_wrong 156 = .ok (.iconst 0, 1) := by decide +kernel
theorem dX12_wrong_157 : decode cX12_wrong 157 = .ok (.putfield 11, 3) := by decide +kernel
theorem dX12_wrong_160 : decode cX12_wrong 160 = .ok (.aload_n 0, 1) := by decide +kernel
theorem dX12_wrong_161 : decode cX12_wrong 161 = .ok (.iload_n 3, 1) := by decide +kernel
theorem dX12_wrong_162 : decode cX12_wrong 162 = .ok (.i2l, 1) := by decide +kernel
theorem dX12_wrong_163 : decode cX12_wrong 163 = .ok (.invokevirtual 343, 3) := by decide +kernel
theorem dX12_wrong_166 : decode cX12_wrong 166 = .ok (.iload_n 2, 1) := by decide +kernel
theorem dX12_wrong_167 : decode cX12_wrong 167 = .ok (.ireturn, 1) := by decide +kernel
theorem dX12_laysReaching_0 : decode cX12_laysReaching 0 = .ok (.iconst 0, 1) := by decide +kernel
theorem dX12_laysReaching_1 : decode cX12_laysReaching 1 = .ok (.istore_n 2, 1) := by decide +kernel
theorem dX12_laysReaching_2 : decode cX12_laysReaching 2 = .ok (.iload_n 2, 1) := by decide +kernel
theorem dX12_laysReaching_3 : decode cX12_laysReaching 3 = .ok (.bipush 8, 2) := by decide +kernel
theorem dX12_laysReaching_5 : decode cX12_laysReaching 5 = .ok (.if_icmp .ge 16, 3) := by decide +kernel
theorem dX12_laysReaching_8 : decode cX12_laysReaching 8 = .ok (.aload_n 0, 1) := by decide +kernel
theorem dX12_laysReaching_9 : decode cX12_laysReaching 9 = .ok (.getfield 160, 3) := by decide +kernel
theorem dX12_laysReaching_12 : decode cX12_laysReaching 12 = .ok (.iload_n 2, 1) := by decide +kernel
theorem dX12_laysReaching_13 : decode cX12_laysReaching 13 = .ok (.lconst 0, 1) := by decide +kernel
theorem dX12_laysReaching_14 : decode cX12_laysReaching 14 = .ok (.lastore, 1) := by decide +kernel
theorem dX12_laysReaching_15 : decode cX12_laysReaching 15 = .ok (.iinc 2 1, 3) := by decide +kernel
theorem dX12_laysReaching_18 : decode cX12_laysReaching 18 = .ok (.goto (-16), 3) := by decide +kernel
theorem dX12_laysReaching_21 : decode cX12_laysReaching 21 = .ok (.aload_n 0, 1) := by decide +kernel
theorem dX12_laysReaching_22 : decode cX12_laysReaching 22 = .ok (.getfield 160, 3) := by decide +kernel
theorem dX12_laysReaching_25 : decode cX12_laysReaching 25 = .ok (.iconst 0, 1) := by decide +kernel
theorem dX12_laysReaching_26 : decode cX12_laysReaching 26 = .ok (.lconst 1, 1) := by decide +kernel
theorem dX12_laysReaching_27 : decode cX12_laysReaching 27 = .ok (.lastore, 1) := by decide +kernel
theorem dX12_laysReaching_28 : decode cX12_laysReaching 28 = .ok (.aload_n 0, 1) := by decide +kernel
theorem dX12_laysReaching_29 : decode cX12_laysReaching 29 = .ok (.getfield 139, 3) := by decide +kernel
theorem dX12_laysReaching_32 : decode cX12_laysReaching 32 = .ok (.iconst 0, 1) := by decide +kernel
theorem dX12_laysReaching_33 : decode cX12_laysReaching 33 = .ok (.iconst 0, 1) := by decide +kernel
theorem dX12_laysReaching_34 : decode cX12_laysReaching 34 = .ok (.iastore, 1) := by decide +kernel
theorem dX12_laysReaching_35 : decode cX12_laysReaching 35 = .ok (.iconst 1, 1) := by decide +kernel
theorem dX12_laysReaching_36 : decode cX12_laysReaching 36 = .ok (.istore_n 2, 1) := by decide +kernel
theorem dX12_laysReaching_37 : decode cX12_laysReaching 37 = .ok (.iconst 0, 1) := by decide +kernel
theorem dX12_laysReaching_38 : decode cX12_laysReaching 38 = .ok (.istore_n 3, 1) := by decide +kernel
theorem dX12_laysReaching_39 : decode cX12_laysReaching 39 = .ok (.iload_n 3, 1) := by decide +kernel
theorem dX12_laysReaching_40 : decode cX12_laysReaching 40 = .ok (.iload_n 2, 1) := by decide +kernel
theorem dX12_laysReaching_41 : decode cX12_laysReaching 41 = .ok (.if_icmp .ge 91, 3) := by decide +kernel
theorem dX12_laysReaching_44 : decode cX12_laysReaching 44 = .ok (.aload_n 0, 1) := by decide +kernel
theorem dX12_laysReaching_45 : decode cX12_laysReaching 45 = .ok (.getfield 139, 3) := by decide +kernel
theorem dX12_laysReaching_48 : decode cX12_laysReaching 48 = .ok (.iload_n 3, 1) := by decide +kernel
theorem dX12_laysReaching_49 : decode cX12_laysReaching 49 = .ok (.iaload, 1) := by decide +kernel
theorem dX12_laysReaching_50 : decode cX12_laysReaching 50 = .ok (.istore 4, 2) := by decide +kernel
theorem dX12_laysReaching_52 : decode cX12_laysReaching 52 = .ok (.iconst 0, 1) := by decide +kernel
theorem dX12_laysReaching_53 : decode cX12_laysReaching 53 = .ok (.istore 5, 2) := by decide +kernel
theorem dX12_laysReaching_55 : decode cX12_laysReaching 55 = .ok (.iload 5, 2) := by decide +kernel
theorem dX12_laysReaching_57 : decode cX12_laysReaching 57 = .ok (.aload_n 0, 1) := by decide +kernel
theorem dX12_laysReaching_58 : decode cX12_laysReaching 58 = .ok (.getfield 30, 3) := by decide +kernel
theorem dX12_laysReaching_61 : decode cX12_laysReaching 61 = .ok (.if_icmp .ge 65, 3) := by decide +kernel
theorem dX12_laysReaching_64 : decode cX12_laysReaching 64 = .ok (.aload_n 0, 1) := by decide +kernel
theorem dX12_laysReaching_65 : decode cX12_laysReaching 65 = .ok (.iload_n 1, 1) := by decide +kernel
theorem dX12_laysReaching_66 : decode cX12_laysReaching 66 = .ok (.iload 4, 2) := by decide +kernel
theorem dX12_laysReaching_68 : decode cX12_laysReaching 68 = .ok (.iload 5, 2) := by decide +kernel
theorem dX12_laysReaching_70 : decode cX12_laysReaching 70 = .ok (.invokevirtual 43, 3) := by decide +kernel
theorem dX12_laysReaching_73 : decode cX12_laysReaching 73 = .ok (.istore 6, 2) := by decide +kernel
theorem dX12_laysReaching_75 : decode cX12_laysReaching 75 = .ok (.aload_n 0, 1) := by decide +kernel
theorem dX12_laysReaching_76 : decode cX12_laysReaching 76 = .ok (.getfield 160, 3) := by decide +kernel
theorem dX12_laysReaching_79 : decode cX12_laysReaching 79 = .ok (.iload 6, 2) := by decide +kernel
theorem dX12_laysReaching_81 : decode cX12_laysReaching 81 = .ok (.laload, 1) := by decide +kernel
theorem dX12_laysReaching_82 : decode cX12_laysReaching 82 = .ok (.lconst 0, 1) := by decide +kernel
theorem dX12_laysReaching_83 : decode cX12_laysReaching 83 = .ok (.lcmp, 1) := by decide +kernel
theorem dX12_laysReaching_84 : decode cX12_laysReaching 84 = .ok (.ifCond .eq 6, 3) := by decide +kernel
theorem dX12_laysReaching_87 : decode cX12_laysReaching 87 = .ok (.goto 33, 3) := by decide +kernel
theorem dX12_laysReaching_90 : decode cX12_laysReaching 90 = .ok (.aload_n 0, 1) := by decide +kernel
theorem dX12_laysReaching_91 : decode cX12_laysReaching 91 = .ok (.getfield 160, 3) := by decide +kernel
theorem dX12_laysReaching_94 : decode cX12_laysReaching 94 = .ok (.iload 6, 2) := by decide +kernel
theorem dX12_laysReaching_96 : decode cX12_laysReaching 96 = .ok (.aload_n 0, 1) := by decide +kernel
theorem dX12_laysReaching_97 : decode cX12_laysReaching 97 = .ok (.getfield 160, 3) := by decide +kernel
theorem dX12_laysReaching_100 : decode cX12_laysReaching 100 = .ok (.iload 4, 2) := by decide +kernel
theorem dX12_laysReaching_102 : decode cX12_laysReaching 102 = .ok (.laload, 1) := by decide +kernel
theorem dX12_laysReaching_103 : decode cX12_laysReaching 103 = .ok (.iload 5, 2) := by decide +kernel
theorem dX12_laysReaching_105 : decode cX12_laysReaching 105 = .ok (.invokestatic 80, 3) := by decide +kernel
theorem dX12_laysReaching_108 : decode cX12_laysReaching 108 = .ok (.lastore, 1) := by decide +kernel
theorem dX12_laysReaching_109 : decode cX12_laysReaching 109 = .ok (.aload_n 0, 1) := by decide +kernel
theorem dX12_laysReaching_110 : decode cX12_laysReaching 110 = .ok (.getfield 139, 3) := by decide +kernel
theorem dX12_laysReaching_113 : decode cX12_laysReaching 113 = .ok (.iload_n 2, 1) := by decide +kernel
theorem dX12_laysReaching_114 : decode cX12_laysReaching 114 = .ok (.iload 6, 2) := by decide +kernel
theorem dX12_laysReaching_116 : decode cX12_laysReaching 116 = .ok (.iastore, 1) := by decide +kernel
theorem dX12_laysReaching_117 : decode cX12_laysReaching 117 = .ok (.iinc 2 1, 3) := by decide +kernel
theorem dX12_laysReaching_120 : decode cX12_laysReaching 120 = .ok (.iinc 5 1, 3) := by decide +kernel
theorem dX12_laysReaching_123 : decode cX12_laysReaching 123 = .ok (.goto (-68), 3) := by decide +kernel
theorem dX12_laysReaching_126 : decode cX12_laysReaching 126 = .ok (.iinc 3 1, 3) := by decide +kernel
theorem dX12_laysReaching_129 : decode cX12_laysReaching 129 = .ok (.goto (-90), 3) := by decide +kernel
theorem dX12_laysReaching_132 : decode cX12_laysReaching 132 = .ok (.return_, 1) := by decide +kernel
theorem dX12_tests_0 : decode cX12_tests 0 = .ok (.lload_n 1, 1) := by decide +kernel
theorem dX12_tests_1 : decode cX12_tests 1 = .ok (.ldc2_w 179, 3) := by decide +kernel
theorem dX12_tests_4 : decode cX12_tests 4 = .ok (.lmul, 1) := by decide +kernel
theorem dX12_tests_5 : decode cX12_tests 5 = .ok (.bipush 49, 2) := by decide +kernel
theorem dX12_tests_7 : decode cX12_tests 7 = .ok (.lushr, 1) := by decide +kernel
theorem dX12_tests_8 : decode cX12_tests 8 = .ok (.l2i, 1) := by decide +kernel
theorem dX12_tests_9 : decode cX12_tests 9 = .ok (.istore_n 3, 1) := by decide +kernel
theorem dX12_tests_10 : decode cX12_tests 10 = .ok (.aload_n 0, 1) := by decide +kernel
theorem dX12_tests_11 : decode cX12_tests 11 = .ok (.getfield 163, 3) := by decide +kernel
theorem dX12_tests_14 : decode cX12_tests 14 = .ok (.iload_n 3, 1) := by decide +kernel
theorem dX12_tests_15 : decode cX12_tests 15 = .ok (.laload, 1) := by decide +kernel
theorem dX12_tests_16 : decode cX12_tests 16 = .ok (.lconst 0, 1) := by decide +kernel
theorem dX12_tests_17 : decode cX12_tests 17 = .ok (.lcmp, 1) := by decide +kernel
theorem dX12_tests_18 : decode cX12_tests 18 = .ok (.ifCond .eq 24, 3) := by decide +kernel
theorem dX12_tests_21 : decode cX12_tests 21 = .ok (.aload_n 0, 1) := by decide +kernel
theorem dX12_tests_22 : decode cX12_tests 22 = .ok (.getfield 163, 3) := by decide +kernel
theorem dX12_tests_25 : decode cX12_tests 25 = .ok (.iload_n 3, 1) := by decide +kernel
theorem dX12_tests_26 : decode cX12_tests 26 = .ok (.laload, 1) := by decide +kernel
theorem dX12_tests_27 : decode cX12_tests 27 = .ok (.lload_n 1, 1) := by decide +kernel
theorem dX12_tests_28 : decode cX12_tests 28 = .ok (.lcmp, 1) := by decide +kernel
theorem dX12_tests_29 : decode cX12_tests 29 = .ok (.ifCond .eq 13, 3) := by decide +kernel
theorem dX12_tests_32 : decode cX12_tests 32 = .ok (.iload_n 3, 1) := by decide +kernel
theorem dX12_tests_33 : decode cX12_tests 33 = .ok (.iconst 1, 1) := by decide +kernel
theorem dX12_tests_34 : decode cX12_tests 34 = .ok (.iadd, 1) := by decide +kernel
theorem dX12_tests_35 : decode cX12_tests 35 = .ok (.ldc 113, 2) := by decide +kernel
theorem dX12_tests_37 : decode cX12_tests 37 = .ok (.irem, 1) := by decide +kernel
theorem dX12_tests_38 : decode cX12_tests 38 = .ok (.istore_n 3, 1) := by decide +kernel
theorem dX12_tests_39 : decode cX12_tests 39 = .ok (.goto (-29), 3) := by decide +kernel
theorem dX12_tests_42 : decode cX12_tests 42 = .ok (.aload_n 0, 1) := by decide +kernel
theorem dX12_tests_43 : decode cX12_tests 43 = .ok (.getfield 163, 3) := by decide +kernel
theorem dX12_tests_46 : decode cX12_tests 46 = .ok (.iload_n 3, 1) := by decide +kernel
theorem dX12_tests_47 : decode cX12_tests 47 = .ok (.laload, 1) := by decide +kernel
theorem dX12_tests_48 : decode cX12_tests 48 = .ok (.lload_n 1, 1) := by decide +kernel
theorem dX12_tests_49 : decode cX12_tests 49 = .ok (.lcmp, 1) := by decide +kernel
theorem dX12_tests_50 : decode cX12_tests 50 = .ok (.ifCond .ne 4, 3) := by decide +kernel
theorem dX12_tests_53 : decode cX12_tests 53 = .ok (.return_, 1) := by decide +kernel
theorem dX12_tests_54 : decode cX12_tests 54 = .ok (.aload_n 0, 1) := by decide +kernel
theorem dX12_tests_55 : decode cX12_tests 55 = .ok (.getfield 163, 3) := by decide +kernel
theorem dX12_tests_58 : decode cX12_tests 58 = .ok (.iload_n 3, 1) := by decide +kernel
theorem dX12_tests_59 : decode cX12_tests 59 = .ok (.lload_n 1, 1) := by decide +kernel
theorem dX12_tests_60 : decode cX12_tests 60 = .ok (.lastore, 1) := by decide +kernel
theorem dX12_tests_61 : decode cX12_tests 61 = .ok (.aload_n 0, 1) := by decide +kernel
theorem dX12_tests_62 : decode cX12_tests 62 = .ok (.dup, 1) := by decide +kernel
theorem dX12_tests_63 : decode cX12_tests 63 = .ok (.getfield 364, 3) := by decide +kernel
theorem dX12_tests_66 : decode cX12_tests 66 = .ok (.iconst 1, 1) := by decide +kernel
theorem dX12_tests_67 : decode cX12_tests 67 = .ok (.iadd, 1) := by decide +kernel
theorem dX12_tests_68 : decode cX12_tests 68 = .ok (.putfield 364, 3) := by decide +kernel
theorem dX12_tests_71 : decode cX12_tests 71 = .ok (.aload_n 0, 1) := by decide +kernel
theorem dX12_tests_72 : decode cX12_tests 72 = .ok (.dup, 1) := by decide +kernel
theorem dX12_tests_73 : decode cX12_tests 73 = .ok (.getfield 367, 3) := by decide +kernel
theorem dX12_tests_76 : decode cX12_tests 76 = .ok (.lload_n 1, 1) := by decide +kernel
theorem dX12_tests_77 : decode cX12_tests 77 = .ok (.invokestatic 33, 3) := by decide +kernel
theorem dX12_tests_80 : decode cX12_tests 80 = .ok (.iadd, 1) := by decide +kernel
theorem dX12_tests_81 : decode cX12_tests 81 = .ok (.putfield 367, 3) := by decide +kernel
theorem dX12_tests_84 : decode cX12_tests 84 = .ok (.aload_n 0, 1) := by decide +kernel
theorem dX12_tests_85 : decode cX12_tests 85 = .ok (.aload_n 0, 1) := by decide +kernel
theorem dX12_tests_86 : decode cX12_tests 86 = .ok (.getfield 370, 3) := by decide +kernel
theorem dX12_tests_89 : decode cX12_tests 89 = .ok (.lload_n 1, 1) := by decide +kernel
theorem dX12_tests_90 : decode cX12_tests 90 = .ok (.invokestatic 33, 3) := by decide +kernel
theorem dX12_tests_93 : decode cX12_tests 93 = .ok (.invokestatic 373, 3) := by decide +kernel
theorem dX12_tests_96 : decode cX12_tests 96 = .ok (.putfield 370, 3) := by decide +kernel
theorem dX12_tests_99 : decode cX12_tests 99 = .ok (.aload_n 0, 1) := by decide +kernel
theorem dX12_tests_100 : decode cX12_tests 100 = .ok (.dup, 1) := by decide +kernel
theorem dX12_tests_101 : decode cX12_tests 101 = .ok (.getfield 376, 3) := by decide +kernel
theorem dX12_tests_104 : decode cX12_tests 104 = .ok (.aload_n 0, 1) := by decide +kernel
theorem dX12_tests_105 : decode cX12_tests 105 = .ok (.iconst 0, 1) := by decide +kernel
theorem dX12_tests_106 : decode cX12_tests 106 = .ok (.lload_n 1, 1) := by decide +kernel
theorem dX12_tests_107 : decode cX12_tests 107 = .ok (.invokevirtual 336, 3) := by decide +kernel
theorem dX12_tests_110 : decode cX12_tests 110 = .ok (.invokestatic 339, 3) := by decide +kernel
theorem dX12_tests_113 : decode cX12_tests 113 = .ok (.iadd, 1) := by decide +kernel
theorem dX12_tests_114 : decode cX12_tests 114 = .ok (.putfield 376, 3) := by decide +kernel
theorem dX12_tests_117 : decode cX12_tests 117 = .ok (.aload_n 0, 1) := by decide +kernel
theorem dX12_tests_118 : decode cX12_tests 118 = .ok (.iconst 0, 1) := by decide +kernel
theorem dX12_tests_119 : decode cX12_tests 119 = .ok (.lload_n 1, 1) := by decide +kernel
theorem dX12_tests_120 : decode cX12_tests 120 = .ok (.invokevirtual 185, 3) := by decide +kernel
theorem dX12_tests_123 : decode cX12_tests 123 = .ok (.aload_n 0, 1) := by decide +kernel
theorem dX12_tests_124 : decode cX12_tests 124 = .ok (.iconst 1, 1) := by decide +kernel
theorem dX12_tests_125 : decode cX12_tests 125 = .ok (.lload_n 1, 1) := by decide +kernel
theorem dX12_tests_126 : decode cX12_tests 126 = .ok (.invokevirtual 185, 3) := by decide +kernel
theorem dX12_tests_129 : decode cX12_tests 129 = .ok (.if_icmp .eq 26, 3) := by decide +kernel
theorem dX12_tests_132 : decode cX12_tests 132 = .ok (.aload_n 0, 1) := by decide +kernel
theorem dX12_tests_133 : decode cX12_tests 133 = .ok (.getfield 379, 3) := by decide +kernel
theorem dX12_tests_136 : decode cX12_tests 136 = .ok (.lconst 0, 1) := by decide +kernel
theorem dX12_tests_137 : decode cX12_tests 137 = .ok (.lcmp, 1) := by decide +kernel
theorem dX12_tests_138 : decode cX12_tests 138 = .ok (.ifCond .eq 12, 3) := by decide +kernel
theorem dX12_tests_141 : decode cX12_tests 141 = .ok (.lload_n 1, 1) := by decide +kernel
theorem dX12_tests_142 : decode cX12_tests 142 = .ok (.aload_n 0, 1) := by decide +kernel
theorem dX12_tests_143 : decode cX12_tests 143 = .ok (.getfield 379, 3) := by decide +kernel
theorem dX12_tests_146 : decode cX12_tests 146 = .ok (.lcmp, 1) := by decide +kernel
theorem dX12_tests_147 : decode cX12_tests 147 = .ok (.ifCond .ge 8, 3) := by decide +kernel
theorem dX12_tests_150 : decode cX12_tests 150 = .ok (.aload_n 0, 1) := by decide +kernel
theorem dX12_tests_151 : decode cX12_tests 151 = .ok (.lload_n 1, 1) := by decide +kernel
theorem dX12_tests_152 : decode cX12_tests 152 = .ok (.putfield 379, 3) := by decide +kernel
theorem dX12_tests_155 : decode cX12_tests 155 = .ok (.return_, 1) := by decide +kernel
theorem dX12_laysEnds_0 : decode cX12_laysEnds 0 = .ok (.aload_n 0, 1) := by decide +kernel
theorem dX12_laysEnds_1 : decode cX12_laysEnds 1 = .ok (.iconst 0, 1) := by decide +kernel
theorem dX12_laysEnds_2 : decode cX12_laysEnds 2 = .ok (.putfield 382, 3) := by decide +kernel
theorem dX12_laysEnds_5 : decode cX12_laysEnds 5 = .ok (.iconst 0, 1) := by decide +kernel
theorem dX12_laysEnds_6 : decode cX12_laysEnds 6 = .ok (.istore_n 1, 1) := by decide +kernel
theorem dX12_laysEnds_7 : decode cX12_laysEnds 7 = .ok (.iload_n 1, 1) := by decide +kernel
theorem dX12_laysEnds_8 : decode cX12_laysEnds 8 = .ok (.aload_n 0, 1) := by decide +kernel
theorem dX12_laysEnds_9 : decode cX12_laysEnds 9 = .ok (.getfield 21, 3) := by decide +kernel
theorem dX12_laysEnds_12 : decode cX12_laysEnds 12 = .ok (.iconst 1, 1) := by decide +kernel
theorem dX12_laysEnds_13 : decode cX12_laysEnds 13 = .ok (.iaload, 1) := by decide +kernel
theorem dX12_laysEnds_14 : decode cX12_laysEnds 14 = .ok (.if_icmp .ge 67, 3) := by decide +kernel
theorem dX12_laysEnds_17 : decode cX12_laysEnds 17 = .ok (.iload_n 1, 1) := by decide +kernel
theorem dX12_laysEnds_18 : decode cX12_laysEnds 18 = .ok (.iconst 1, 1) := by decide +kernel
theorem dX12_laysEnds_19 : decode cX12_laysEnds 19 = .ok (.iadd, 1) := by decide +kernel
theorem dX12_laysEnds_20 : decode cX12_laysEnds 20 = .ok (.istore_n 2, 1) := by decide +kernel
theorem dX12_laysEnds_21 : decode cX12_laysEnds 21 = .ok (.iload_n 2, 1) := by decide +kernel
theorem dX12_laysEnds_22 : decode cX12_laysEnds 22 = .ok (.aload_n 0, 1) := by decide +kernel
theorem dX12_laysEnds_23 : decode cX12_laysEnds 23 = .ok (.getfield 21, 3) := by decide +kernel
theorem dX12_laysEnds_26 : decode cX12_laysEnds 26 = .ok (.iconst 1, 1) := by decide +kernel
theorem dX12_laysEnds_27 : decode cX12_laysEnds 27 = .ok (.iaload, 1) := by decide +kernel
theorem dX12_laysEnds_28 : decode cX12_laysEnds 28 = .ok (.if_icmp .ge 47, 3) := by decide +kernel
theorem dX12_laysEnds_31 : decode cX12_laysEnds 31 = .ok (.aload_n 0, 1) := by decide +kernel
theorem dX12_laysEnds_32 : decode cX12_laysEnds 32 = .ok (.iconst 1, 1) := by decide +kernel
theorem dX12_laysEnds_33 : decode cX12_laysEnds 33 = .ok (.iload_n 1, 1) := by decide +kernel
theorem dX12_laysEnds_34 : decode cX12_laysEnds 34 = .ok (.iconst 1, 1) := by decide +kernel
theorem dX12_laysEnds_35 : decode cX12_laysEnds 35 = .ok (.iload_n 2, 1) := by decide +kernel
theorem dX12_laysEnds_36 : decode cX12_laysEnds 36 = .ok (.invokevirtual 276, 3) := by decide +kernel
theorem dX12_laysEnds_39 : decode cX12_laysEnds 39 = .ok (.lstore_n 3, 1) := by decide +kernel
theorem dX12_laysEnds_40 : decode cX12_laysEnds 40 = .ok (.lload_n 3, 1) := by decide +kernel
theorem dX12_laysEnds_41 : decode cX12_laysEnds 41 = .ok (.lconst 0, 1) := by decide +kernel
theorem dX12_laysEnds_42 : decode cX12_laysEnds 42 = .ok (.lcmp, 1) := by decide +kernel
theorem dX12_laysEnds_43 : decode cX12_laysEnds 43 = .ok (.ifCond .ne 6, 3) := by decide +kernel
theorem dX12_laysEnds_46 : decode cX12_laysEnds 46 = .ok (.goto 23, 3) := by decide +kernel
theorem dX12_laysEnds_49 : decode cX12_laysEnds 49 = .ok (.aload_n 0, 1) := by decide +kernel
theorem dX12_laysEnds_50 : decode cX12_laysEnds 50 = .ok (.getfield 166, 3) := by decide +kernel
theorem dX12_laysEnds_53 : decode cX12_laysEnds 53 = .ok (.aload_n 0, 1) := by decide +kernel
theorem dX12_laysEnds_54 : decode cX12_laysEnds 54 = .ok (.getfield 382, 3) := by decide +kernel
theorem dX12_laysEnds_57 : decode cX12_laysEnds 57 = .ok (.lload_n 3, 1) := by decide +kernel
theorem dX12_laysEnds_58 : decode cX12_laysEnds 58 = .ok (.lastore, 1) := by decide +kernel
theorem dX12_laysEnds_59 : decode cX12_laysEnds 59 = .ok (.aload_n 0, 1) := by decide +kernel
theorem dX12_laysEnds_60 : decode cX12_laysEnds 60 = .ok (.dup, 1) := by decide +kernel
theorem dX12_laysEnds_61 : decode cX12_laysEnds 61 = .ok (.getfield 382, 3) := by decide +kernel
theorem dX12_laysEnds_64 : decode cX12_laysEnds 64 = .ok (.iconst 1, 1) := by decide +kernel
theorem dX12_laysEnds_65 : decode cX12_laysEnds 65 = .ok (.iadd, 1) := by decide +kernel
theorem dX12_laysEnds_66 : decode cX12_laysEnds 66 = .ok (.putfield 382, 3) := by decide +kernel
theorem dX12_laysEnds_69 : decode cX12_laysEnds 69 = .ok (.iinc 2 1, 3) := by decide +kernel
theorem dX12_laysEnds_72 : decode cX12_laysEnds 72 = .ok (.goto (-51), 3) := by decide +kernel
theorem dX12_laysEnds_75 : decode cX12_laysEnds 75 = .ok (.iinc 1 1, 3) := by decide +kernel
theorem dX12_laysEnds_78 : decode cX12_laysEnds 78 = .ok (.goto (-71), 3) := by decide +kernel
theorem dX12_laysEnds_81 : decode cX12_laysEnds 81 = .ok (.aload_n 0, 1) := by decide +kernel
theorem dX12_laysEnds_82 : decode cX12_laysEnds 82 = .ok (.getfield 382, 3) := by decide +kernel
theorem dX12_laysEnds_85 : decode cX12_laysEnds 85 = .ok (.ifCond .ne 15, 3) := by decide +kernel
theorem dX12_laysEnds_88 : decode cX12_laysEnds 88 = .ok (.aload_n 0, 1) := by decide +kernel
theorem dX12_laysEnds_89 : decode cX12_laysEnds 89 = .ok (.getfield 166, 3) := by decide +kernel
theorem dX12_laysEnds_92 : decode cX12_laysEnds 92 = .ok (.iconst 0, 1) := by decide +kernel
theorem dX12_laysEnds_93 : decode cX12_laysEnds 93 = .ok (.lconst 1, 1) := by decide +kernel
theorem dX12_laysEnds_94 : decode cX12_laysEnds 94 = .ok (.lastore, 1) := by decide +kernel
theorem dX12_laysEnds_95 : decode cX12_laysEnds 95 = .ok (.aload_n 0, 1) := by decide +kernel
theorem dX12_laysEnds_96 : decode cX12_laysEnds 96 = .ok (.iconst 1, 1) := by decide +kernel
theorem dX12_laysEnds_97 : decode cX12_laysEnds 97 = .ok (.putfield 382, 3) := by decide +kernel
theorem dX12_laysEnds_100 : decode cX12_laysEnds 100 = .ok (.return_, 1) := by decide +kernel
theorem dX12_testsBehind_0 : decode cX12_testsBehind 0 = .ok (.iconst 0, 1) := by decide +kernel
theorem dX12_testsBehind_1 : decode cX12_testsBehind 1 = .ok (.istore 4, 2) := by decide +kernel
theorem dX12_testsBehind_3 : decode cX12_testsBehind 3 = .ok (.iload 4, 2) := by decide +kernel
theorem dX12_testsBehind_5 : decode cX12_testsBehind 5 = .ok (.aload_n 0, 1) := by decide +kernel
theorem dX12_testsBehind_6 : decode cX12_testsBehind 6 = .ok (.getfield 382, 3) := by decide +kernel
theorem dX12_testsBehind_9 : decode cX12_testsBehind 9 = .ok (.if_icmp .ge 24, 3) := by decide +kernel
theorem dX12_testsBehind_12 : decode cX12_testsBehind 12 = .ok (.aload_n 0, 1) := by decide +kernel
theorem dX12_testsBehind_13 : decode cX12_testsBehind 13 = .ok (.lload_n 1, 1) := by decide +kernel
theorem dX12_testsBehind_14 : decode cX12_testsBehind 14 = .ok (.aload_n 0, 1) := by decide +kernel
theorem dX12_testsBehind_15 : decode cX12_testsBehind 15 = .ok (.getfield 166, 3) := by decide +kernel
theorem dX12_testsBehind_18 : decode cX12_testsBehind 18 = .ok (.iload 4, 2) := by decide +kernel
theorem dX12_testsBehind_20 : decode cX12_testsBehind 20 = .ok (.laload, 1) := by decide +kernel
theorem dX12_testsBehind_21 : decode cX12_testsBehind 21 = .ok (.invokestatic 61, 3) := by decide +kernel
theorem dX12_testsBehind_24 : decode cX12_testsBehind 24 = .ok (.invokevirtual 385, 3) := by decide +kernel
theorem dX12_testsBehind_27 : decode cX12_testsBehind 27 = .ok (.iinc 4 1, 3) := by decide +kernel
theorem dX12_testsBehind_30 : decode cX12_testsBehind 30 = .ok (.goto (-27), 3) := by decide +kernel
theorem dX12_testsBehind_33 : decode cX12_testsBehind 33 = .ok (.iconst 0, 1) := by decide +kernel
theorem dX12_testsBehind_34 : decode cX12_testsBehind 34 = .ok (.istore 4, 2) := by decide +kernel
theorem dX12_testsBehind_36 : decode cX12_testsBehind 36 = .ok (.iload 4, 2) := by decide +kernel
theorem dX12_testsBehind_38 : decode cX12_testsBehind 38 = .ok (.aload_n 0, 1) := by decide +kernel
theorem dX12_testsBehind_39 : decode cX12_testsBehind 39 = .ok (.getfield 30, 3) := by decide +kernel
theorem dX12_testsBehind_42 : decode cX12_testsBehind 42 = .ok (.if_icmp .ge 26, 3) := by decide +kernel
theorem dX12_testsBehind_45 : decode cX12_testsBehind 45 = .ok (.iload_n 3, 1) := by decide +kernel
theorem dX12_testsBehind_46 : decode cX12_testsBehind 46 = .ok (.ifCond .le 22, 3) := by decide +kernel
theorem dX12_testsBehind_49 : decode cX12_testsBehind 49 = .ok (.aload_n 0, 1) := by decide +kernel
theorem dX12_testsBehind_50 : decode cX12_testsBehind 50 = .ok (.lload_n 1, 1) := by decide +kernel
theorem dX12_testsBehind_51 : decode cX12_testsBehind 51 = .ok (.iload 4, 2) := by decide +kernel
theorem dX12_testsBehind_53 : decode cX12_testsBehind 53 = .ok (.invokestatic 80, 3) := by decide +kernel
theorem dX12_testsBehind_56 : decode cX12_testsBehind 56 = .ok (.iload_n 3, 1) := by decide +kernel
theorem dX12_testsBehind_57 : decode cX12_testsBehind 57 = .ok (.iconst 1, 1) := by decide +kernel
theorem dX12_testsBehind_58 : decode cX12_testsBehind 58 = .ok (.isub, 1) := by decide +kernel
theorem dX12_testsBehind_59 : decode cX12_testsBehind 59 = .ok (.invokevirtual 388, 3) := by decide +kernel
theorem dX12_testsBehind_62 : decode cX12_testsBehind 62 = .ok (.iinc 4 1, 3) := by decide +kernel
theorem dX12_testsBehind_65 : decode cX12_testsBehind 65 = .ok (.goto (-29), 3) := by decide +kernel
theorem dX12_testsBehind_68 : decode cX12_testsBehind 68 = .ok (.return_, 1) := by decide +kernel
theorem dX12_laysTests_0 : decode cX12_laysTests 0 = .ok (.iconst 0, 1) := by decide +kernel
theorem dX12_laysTests_1 : decode cX12_laysTests 1 = .ok (.istore_n 2, 1) := by decide +kernel
theorem dX12_laysTests_2 : decode cX12_laysTests 2 = .ok (.iload_n 2, 1) := by decide +kernel
theorem dX12_laysTests_3 : decode cX12_laysTests 3 = .ok (.ldc 113, 2) := by decide +kernel
theorem dX12_laysTests_5 : decode cX12_laysTests 5 = .ok (.if_icmp .ge 16, 3) := by decide +kernel
theorem dX12_laysTests_8 : decode cX12_laysTests 8 = .ok (.aload_n 0, 1) := by decide +kernel
theorem dX12_laysTests_9 : decode cX12_laysTests 9 = .ok (.getfield 163, 3) := by decide +kernel
theorem dX12_laysTests_12 : decode cX12_laysTests 12 = .ok (.iload_n 2, 1) := by decide +kernel
theorem dX12_laysTests_13 : decode cX12_laysTests 13 = .ok (.lconst 0, 1) := by decide +kernel
theorem dX12_laysTests_14 : decode cX12_laysTests 14 = .ok (.lastore, 1) := by decide +kernel
theorem dX12_laysTests_15 : decode cX12_laysTests 15 = .ok (.iinc 2 1, 3) := by decide +kernel
theorem dX12_laysTests_18 : decode cX12_laysTests 18 = .ok (.goto (-16), 3) := by decide +kernel
theorem dX12_laysTests_21 : decode cX12_laysTests 21 = .ok (.aload_n 0, 1) := by decide +kernel
theorem dX12_laysTests_22 : decode cX12_laysTests 22 = .ok (.iconst 0, 1) := by decide +kernel
theorem dX12_laysTests_23 : decode cX12_laysTests 23 = .ok (.putfield 364, 3) := by decide +kernel
theorem dX12_laysTests_26 : decode cX12_laysTests 26 = .ok (.aload_n 0, 1) := by decide +kernel
theorem dX12_laysTests_27 : decode cX12_laysTests 27 = .ok (.iconst 0, 1) := by decide +kernel
theorem dX12_laysTests_28 : decode cX12_laysTests 28 = .ok (.putfield 367, 3) := by decide +kernel
theorem dX12_laysTests_31 : decode cX12_laysTests 31 = .ok (.aload_n 0, 1) := by decide +kernel
theorem dX12_laysTests_32 : decode cX12_laysTests 32 = .ok (.iconst 0, 1) := by decide +kernel
theorem dX12_laysTests_33 : decode cX12_laysTests 33 = .ok (.putfield 370, 3) := by decide +kernel
theorem dX12_laysTests_36 : decode cX12_laysTests 36 = .ok (.aload_n 0, 1) := by decide +kernel
theorem dX12_laysTests_37 : decode cX12_laysTests 37 = .ok (.iconst 0, 1) := by decide +kernel
theorem dX12_laysTests_38 : decode cX12_laysTests 38 = .ok (.putfield 376, 3) := by decide +kernel
theorem dX12_laysTests_41 : decode cX12_laysTests 41 = .ok (.aload_n 0, 1) := by decide +kernel
theorem dX12_laysTests_42 : decode cX12_laysTests 42 = .ok (.lconst 0, 1) := by decide +kernel
theorem dX12_laysTests_43 : decode cX12_laysTests 43 = .ok (.putfield 379, 3) := by decide +kernel
theorem dX12_laysTests_46 : decode cX12_laysTests 46 = .ok (.aload_n 0, 1) := by decide +kernel
theorem dX12_laysTests_47 : decode cX12_laysTests 47 = .ok (.invokevirtual 392, 3) := by decide +kernel
theorem dX12_laysTests_50 : decode cX12_laysTests 50 = .ok (.aload_n 0, 1) := by decide +kernel
theorem dX12_laysTests_51 : decode cX12_laysTests 51 = .ok (.iconst 1, 1) := by decide +kernel
theorem dX12_laysTests_52 : decode cX12_laysTests 52 = .ok (.invokevirtual 395, 3) := by decide +kernel
theorem dX12_laysTests_55 : decode cX12_laysTests 55 = .ok (.iconst 0, 1) := by decide +kernel
theorem dX12_laysTests_56 : decode cX12_laysTests 56 = .ok (.istore_n 2, 1) := by decide +kernel
theorem dX12_laysTests_57 : decode cX12_laysTests 57 = .ok (.iload_n 2, 1) := by decide +kernel
theorem dX12_laysTests_58 : decode cX12_laysTests 58 = .ok (.aload_n 0, 1) := by decide +kernel
theorem dX12_laysTests_59 : decode cX12_laysTests 59 = .ok (.getfield 21, 3) := by decide +kernel
theorem dX12_laysTests_62 : decode cX12_laysTests 62 = .ok (.iconst 1, 1) := by decide +kernel
theorem dX12_laysTests_63 : decode cX12_laysTests 63 = .ok (.iaload, 1) := by decide +kernel
theorem dX12_laysTests_64 : decode cX12_laysTests 64 = .ok (.if_icmp .ge 65, 3) := by decide +kernel
theorem dX12_laysTests_67 : decode cX12_laysTests 67 = .ok (.aload_n 0, 1) := by decide +kernel
theorem dX12_laysTests_68 : decode cX12_laysTests 68 = .ok (.getfield 160, 3) := by decide +kernel
theorem dX12_laysTests_71 : decode cX12_laysTests 71 = .ok (.iload_n 2, 1) := by decide +kernel
theorem dX12_laysTests_72 : decode cX12_laysTests 72 = .ok (.laload, 1) := by decide +kernel
theorem dX12_laysTests_73 : decode cX12_laysTests 73 = .ok (.lconst 0, 1) := by decide +kernel
theorem dX12_laysTests_74 : decode cX12_laysTests 74 = .ok (.lcmp, 1) := by decide +kernel
theorem dX12_laysTests_75 : decode cX12_laysTests 75 = .ok (.ifCond .ne 6, 3) := by decide +kernel
theorem dX12_laysTests_78 : decode cX12_laysTests 78 = .ok (.goto 45, 3) := by decide +kernel
theorem dX12_laysTests_81 : decode cX12_laysTests 81 = .ok (.aload_n 0, 1) := by decide +kernel
theorem dX12_laysTests_82 : decode cX12_laysTests 82 = .ok (.aload_n 0, 1) := by decide +kernel
theorem dX12_laysTests_83 : decode cX12_laysTests 83 = .ok (.getfield 160, 3) := by decide +kernel
theorem dX12_laysTests_86 : decode cX12_laysTests 86 = .ok (.iload_n 2, 1) := by decide +kernel
theorem dX12_laysTests_87 : decode cX12_laysTests 87 = .ok (.laload, 1) := by decide +kernel
theorem dX12_laysTests_88 : decode cX12_laysTests 88 = .ok (.iload_n 1, 1) := by decide +kernel
theorem dX12_laysTests_89 : decode cX12_laysTests 89 = .ok (.invokevirtual 388, 3) := by decide +kernel
theorem dX12_laysTests_92 : decode cX12_laysTests 92 = .ok (.iconst 0, 1) := by decide +kernel
theorem dX12_laysTests_93 : decode cX12_laysTests 93 = .ok (.istore_n 3, 1) := by decide +kernel
theorem dX12_laysTests_94 : decode cX12_laysTests 94 = .ok (.iload_n 3, 1) := by decide +kernel
theorem dX12_laysTests_95 : decode cX12_laysTests 95 = .ok (.aload_n 0, 1) := by decide +kernel
theorem dX12_laysTests_96 : decode cX12_laysTests 96 = .ok (.getfield 30, 3) := by decide +kernel
theorem dX12_laysTests_99 : decode cX12_laysTests 99 = .ok (.if_icmp .ge 24, 3) := by decide +kernel
theorem dX12_laysTests_102 : decode cX12_laysTests 102 = .ok (.aload_n 0, 1) := by decide +kernel
theorem dX12_laysTests_103 : decode cX12_laysTests 103 = .ok (.aload_n 0, 1) := by decide +kernel
theorem dX12_laysTests_104 : decode cX12_laysTests 104 = .ok (.getfield 160, 3) := by decide +kernel
theorem dX12_laysTests_107 : decode cX12_laysTests 107 = .ok (.iload_n 2, 1) := by decide +kernel
theorem dX12_laysTests_108 : decode cX12_laysTests 108 = .ok (.laload, 1) := by decide +kernel
theorem dX12_laysTests_109 : decode cX12_laysTests 109 = .ok (.iload_n 3, 1) := by decide +kernel
theorem dX12_laysTests_110 : decode cX12_laysTests 110 = .ok (.invokestatic 80, 3) := by decide +kernel
theorem dX12_laysTests_113 : decode cX12_laysTests 113 = .ok (.iload_n 1, 1) := by decide +kernel
theorem dX12_laysTests_114 : decode cX12_laysTests 114 = .ok (.invokevirtual 388, 3) := by decide +kernel
theorem dX12_laysTests_117 : decode cX12_laysTests 117 = .ok (.iinc 3 1, 3) := by decide +kernel
theorem dX12_laysTests_120 : decode cX12_laysTests 120 = .ok (.goto (-26), 3) := by decide +kernel
theorem dX12_laysTests_123 : decode cX12_laysTests 123 = .ok (.iinc 2 1, 3) := by decide +kernel
theorem dX12_laysTests_126 : decode cX12_laysTests 126 = .ok (.goto (-69), 3) := by decide +kernel
theorem dX12_laysTests_129 : decode cX12_laysTests 129 = .ok (.return_, 1) := by decide +kernel
theorem dX12_tests__0 : decode cX12_tests_ 0 = .ok (.aload_n 0, 1) := by decide +kernel
theorem dX12_tests__1 : decode cX12_tests_ 1 = .ok (.iconst 0, 1) := by decide +kernel
theorem dX12_tests__2 : decode cX12_tests_ 2 = .ok (.putfield 1, 3) := by decide +kernel
theorem dX12_tests__5 : decode cX12_tests_ 5 = .ok (.iload_n 1, 1) := by decide +kernel
theorem dX12_tests__6 : decode cX12_tests_ 6 = .ok (.i2l, 1) := by decide +kernel
theorem dX12_tests__7 : decode cX12_tests_ 7 = .ok (.lconst 0, 1) := by decide +kernel
theorem dX12_tests__8 : decode cX12_tests_ 8 = .ok (.ldc2_w 398, 3) := by decide +kernel
theorem dX12_tests__11 : decode cX12_tests_ 11 = .ok (.invokestatic 24, 3) := by decide +kernel
theorem dX12_tests__14 : decode cX12_tests_ 14 = .ok (.ifCond .ne 5, 3) := by decide +kernel
theorem dX12_tests__17 : decode cX12_tests_ 17 = .ok (.iconst (-1), 1) := by decide +kernel
theorem dX12_tests__18 : decode cX12_tests_ 18 = .ok (.ireturn, 1) := by decide +kernel
theorem dX12_tests__19 : decode cX12_tests_ 19 = .ok (.aload_n 0, 1) := by decide +kernel
theorem dX12_tests__20 : decode cX12_tests_ 20 = .ok (.getfield 126, 3) := by decide +kernel
theorem dX12_tests__23 : decode cX12_tests_ 23 = .ok (.iconst 0, 1) := by decide +kernel
theorem dX12_tests__24 : decode cX12_tests_ 24 = .ok (.baload, 1) := by decide +kernel
theorem dX12_tests__25 : decode cX12_tests_ 25 = .ok (.ifCond .ne 6, 3) := by decide +kernel
theorem dX12_tests__28 : decode cX12_tests_ 28 = .ok (.bipush (-2), 2) := by decide +kernel
theorem dX12_tests__30 : decode cX12_tests_ 30 = .ok (.ireturn, 1) := by decide +kernel
theorem dX12_tests__31 : decode cX12_tests_ 31 = .ok (.aload_n 0, 1) := by decide +kernel
theorem dX12_tests__32 : decode cX12_tests_ 32 = .ok (.iload_n 1, 1) := by decide +kernel
theorem dX12_tests__33 : decode cX12_tests_ 33 = .ok (.invokevirtual 400, 3) := by decide +kernel
theorem dX12_tests__36 : decode cX12_tests_ 36 = .ok (.aload_n 0, 1) := by decide +kernel
theorem dX12_tests__37 : decode cX12_tests_ 37 = .ok (.iconst 0, 1) := by decide +kernel
theorem dX12_tests__38 : decode cX12_tests_ 38 = .ok (.putfield 11, 3) := by decide +kernel
theorem dX12_tests__41 : decode cX12_tests_ 41 = .ok (.aload_n 0, 1) := by decide +kernel
theorem dX12_tests__42 : decode cX12_tests_ 42 = .ok (.aload_n 0, 1) := by decide +kernel
theorem dX12_tests__43 : decode cX12_tests_ 43 = .ok (.getfield 367, 3) := by decide +kernel
theorem dX12_tests__46 : decode cX12_tests_ 46 = .ok (.i2l, 1) := by decide +kernel
theorem dX12_tests__47 : decode cX12_tests_ 47 = .ok (.invokevirtual 343, 3) := by decide +kernel
theorem dX12_tests__50 : decode cX12_tests_ 50 = .ok (.aload_n 0, 1) := by decide +kernel
theorem dX12_tests__51 : decode cX12_tests_ 51 = .ok (.aload_n 0, 1) := by decide +kernel
theorem dX12_tests__52 : decode cX12_tests_ 52 = .ok (.getfield 370, 3) := by decide +kernel
theorem dX12_tests__55 : decode cX12_tests_ 55 = .ok (.i2l, 1) := by decide +kernel
theorem dX12_tests__56 : decode cX12_tests_ 56 = .ok (.invokevirtual 343, 3) := by decide +kernel
theorem dX12_tests__59 : decode cX12_tests_ 59 = .ok (.aload_n 0, 1) := by decide +kernel
theorem dX12_tests__60 : decode cX12_tests_ 60 = .ok (.aload_n 0, 1) := by decide +kernel
theorem dX12_tests__61 : decode cX12_tests_ 61 = .ok (.getfield 376, 3) := by decide +kernel
theorem dX12_tests__64 : decode cX12_tests_ 64 = .ok (.i2l, 1) := by decide +kernel
theorem dX12_tests__65 : decode cX12_tests_ 65 = .ok (.invokevirtual 343, 3) := by decide +kernel
theorem dX12_tests__68 : decode cX12_tests_ 68 = .ok (.aload_n 0, 1) := by decide +kernel
theorem dX12_tests__69 : decode cX12_tests_ 69 = .ok (.getfield 364, 3) := by decide +kernel
theorem dX12_tests__72 : decode cX12_tests_ 72 = .ok (.ireturn, 1) := by decide +kernel
theorem dX12_passes_0 : decode cX12_passes 0 = .ok (.aload_n 0, 1) := by decide +kernel
theorem dX12_passes_1 : decode cX12_passes 1 = .ok (.iconst 0, 1) := by decide +kernel
theorem dX12_passes_2 : decode cX12_passes 2 = .ok (.putfield 1, 3) := by decide +kernel
theorem dX12_passes_5 : decode cX12_passes 5 = .ok (.iload_n 1, 1) := by decide +kernel
theorem dX12_passes_6 : decode cX12_passes 6 = .ok (.i2l, 1) := by decide +kernel
theorem dX12_passes_7 : decode cX12_passes 7 = .ok (.lconst 0, 1) := by decide +kernel
theorem dX12_passes_8 : decode cX12_passes 8 = .ok (.ldc2_w 398, 3) := by decide +kernel
theorem dX12_passes_11 : decode cX12_passes 11 = .ok (.invokestatic 24, 3) := by decide +kernel
theorem dX12_passes_14 : decode cX12_passes 14 = .ok (.ifCond .ne 7, 3) := by decide +kernel
theorem dX12_passes_17 : decode cX12_passes 17 = .ok (.ldc2_w 59, 3) := by decide +kernel
theorem dX12_passes_20 : decode cX12_passes 20 = .ok (.lreturn, 1) := by decide +kernel
theorem dX12_passes_21 : decode cX12_passes 21 = .ok (.aload_n 0, 1) := by decide +kernel
theorem dX12_passes_22 : decode cX12_passes 22 = .ok (.getfield 126, 3) := by decide +kernel
theorem dX12_passes_25 : decode cX12_passes 25 = .ok (.iconst 0, 1) := by decide +kernel
theorem dX12_passes_26 : decode cX12_passes 26 = .ok (.baload, 1) := by decide +kernel
theorem dX12_passes_27 : decode cX12_passes 27 = .ok (.ifCond .ne 7, 3) := by decide +kernel
theorem dX12_passes_30 : decode cX12_passes 30 = .ok (.ldc2_w 359, 3) := by decide +kernel
theorem dX12_passes_33 : decode cX12_passes 33 = .ok (.lreturn, 1) := by decide +kernel
theorem dX12_passes_34 : decode cX12_passes 34 = .ok (.aload_n 0, 1) := by decide +kernel
theorem dX12_passes_35 : decode cX12_passes 35 = .ok (.iload_n 1, 1) := by decide +kernel
theorem dX12_passes_36 : decode cX12_passes 36 = .ok (.invokevirtual 400, 3) := by decide +kernel
theorem dX12_passes_39 : decode cX12_passes 39 = .ok (.aload_n 0, 1) := by decide +kernel
theorem dX12_passes_40 : decode cX12_passes 40 = .ok (.getfield 379, 3) := by decide +kernel
theorem dX12_passes_43 : decode cX12_passes 43 = .ok (.lreturn, 1) := by decide +kernel
theorem dX12_parted_0 : decode cX12_parted 0 = .ok (.aload_n 0, 1) := by decide +kernel
theorem dX12_parted_1 : decode cX12_parted 1 = .ok (.iconst 0, 1) := by decide +kernel
theorem dX12_parted_2 : decode cX12_parted 2 = .ok (.putfield 1, 3) := by decide +kernel
theorem dX12_parted_5 : decode cX12_parted 5 = .ok (.aload_n 0, 1) := by decide +kernel
theorem dX12_parted_6 : decode cX12_parted 6 = .ok (.iload_n 1, 1) := by decide +kernel
theorem dX12_parted_7 : decode cX12_parted 7 = .ok (.invokevirtual 356, 3) := by decide +kernel
theorem dX12_parted_10 : decode cX12_parted 10 = .ok (.iconst (-1), 1) := by decide +kernel
theorem dX12_parted_11 : decode cX12_parted 11 = .ok (.if_icmp .eq 12, 3) := by decide +kernel
theorem dX12_parted_14 : decode cX12_parted 14 = .ok (.aload_n 0, 1) := by decide +kernel
theorem dX12_parted_15 : decode cX12_parted 15 = .ok (.iload_n 2, 1) := by decide +kernel
theorem dX12_parted_16 : decode cX12_parted 16 = .ok (.invokevirtual 356, 3) := by decide +kernel
theorem dX12_parted_19 : decode cX12_parted 19 = .ok (.iconst (-1), 1) := by decide +kernel
theorem dX12_parted_20 : decode cX12_parted 20 = .ok (.if_icmp .ne 7, 3) := by decide +kernel
theorem dX12_parted_23 : decode cX12_parted 23 = .ok (.ldc2_w 59, 3) := by decide +kernel
theorem dX12_parted_26 : decode cX12_parted 26 = .ok (.lreturn, 1) := by decide +kernel
theorem dX12_parted_27 : decode cX12_parted 27 = .ok (.aload_n 0, 1) := by decide +kernel
theorem dX12_parted_28 : decode cX12_parted 28 = .ok (.getfield 126, 3) := by decide +kernel
theorem dX12_parted_31 : decode cX12_parted 31 = .ok (.iconst 0, 1) := by decide +kernel
theorem dX12_parted_32 : decode cX12_parted 32 = .ok (.baload, 1) := by decide +kernel
theorem dX12_parted_33 : decode cX12_parted 33 = .ok (.ifCond .eq 14, 3) := by decide +kernel
theorem dX12_parted_36 : decode cX12_parted 36 = .ok (.aload_n 0, 1) := by decide +kernel
theorem dX12_parted_37 : decode cX12_parted 37 = .ok (.iconst 1, 1) := by decide +kernel
theorem dX12_parted_38 : decode cX12_parted 38 = .ok (.iload_n 1, 1) := by decide +kernel
theorem dX12_parted_39 : decode cX12_parted 39 = .ok (.iconst 1, 1) := by decide +kernel
theorem dX12_parted_40 : decode cX12_parted 40 = .ok (.iload_n 2, 1) := by decide +kernel
theorem dX12_parted_41 : decode cX12_parted 41 = .ok (.invokevirtual 276, 3) := by decide +kernel
theorem dX12_parted_44 : decode cX12_parted 44 = .ok (.goto 6, 3) := by decide +kernel
theorem dX12_parted_47 : decode cX12_parted 47 = .ok (.ldc2_w 359, 3) := by decide +kernel
theorem dX12_parted_50 : decode cX12_parted 50 = .ok (.lreturn, 1) := by decide +kernel
theorem dX12_like_0 : decode cX12_like 0 = .ok (.aload_n 0, 1) := by decide +kernel
theorem dX12_like_1 : decode cX12_like 1 = .ok (.iconst 0, 1) := by decide +kernel
theorem dX12_like_2 : decode cX12_like 2 = .ok (.putfield 1, 3) := by decide +kernel
theorem dX12_like_5 : decode cX12_like 5 = .ok (.aload_n 0, 1) := by decide +kernel
theorem dX12_like_6 : decode cX12_like 6 = .ok (.iconst 0, 1) := by decide +kernel
theorem dX12_like_7 : decode cX12_like 7 = .ok (.iload_n 1, 1) := by decide +kernel
theorem dX12_like_8 : decode cX12_like 8 = .ok (.invokevirtual 330, 3) := by decide +kernel
theorem dX12_like_11 : decode cX12_like 11 = .ok (.ifCond .eq 23, 3) := by decide +kernel
theorem dX12_like_14 : decode cX12_like 14 = .ok (.aload_n 0, 1) := by decide +kernel
theorem dX12_like_15 : decode cX12_like 15 = .ok (.iconst 0, 1) := by decide +kernel
theorem dX12_like_16 : decode cX12_like 16 = .ok (.iload_n 2, 1) := by decide +kernel
theorem dX12_like_17 : decode cX12_like 17 = .ok (.invokevirtual 330, 3) := by decide +kernel
theorem dX12_like_20 : decode cX12_like 20 = .ok (.ifCond .eq 14, 3) := by decide +kernel
theorem dX12_like_23 : decode cX12_like 23 = .ok (.aload_n 0, 1) := by decide +kernel
theorem dX12_like_24 : decode cX12_like 24 = .ok (.iconst 0, 1) := by decide +kernel
theorem dX12_like_25 : decode cX12_like 25 = .ok (.iload_n 1, 1) := by decide +kernel
theorem dX12_like_26 : decode cX12_like 26 = .ok (.iconst 0, 1) := by decide +kernel
theorem dX12_like_27 : decode cX12_like 27 = .ok (.iload_n 2, 1) := by decide +kernel
theorem dX12_like_28 : decode cX12_like 28 = .ok (.invokevirtual 276, 3) := by decide +kernel
theorem dX12_like_31 : decode cX12_like 31 = .ok (.goto 6, 3) := by decide +kernel
theorem dX12_like_34 : decode cX12_like 34 = .ok (.ldc2_w 59, 3) := by decide +kernel
theorem dX12_like_37 : decode cX12_like 37 = .ok (.lreturn, 1) := by decide +kernel
theorem dX12_leastLike_0 : decode cX12_leastLike 0 = .ok (.iconst 0, 1) := by decide +kernel
theorem dX12_leastLike_1 : decode cX12_leastLike 1 = .ok (.istore_n 3, 1) := by decide +kernel
theorem dX12_leastLike_2 : decode cX12_leastLike 2 = .ok (.iload_n 3, 1) := by decide +kernel
theorem dX12_leastLike_3 : decode cX12_leastLike 3 = .ok (.iload_n 1, 1) := by decide +kernel
theorem dX12_leastLike_4 : decode cX12_leastLike 4 = .ok (.if_icmp .ge 39, 3) := by decide +kernel
theorem dX12_leastLike_7 : decode cX12_leastLike 7 = .ok (.iload_n 2, 1) := by decide +kernel
theorem dX12_leastLike_8 : decode cX12_leastLike 8 = .ok (.ifCond .eq 14, 3) := by decide +kernel
theorem dX12_leastLike_11 : decode cX12_leastLike 11 = .ok (.aload_n 0, 1) := by decide +kernel
theorem dX12_leastLike_12 : decode cX12_leastLike 12 = .ok (.getfield 160, 3) := by decide +kernel
theorem dX12_leastLike_15 : decode cX12_leastLike 15 = .ok (.iload_n 3, 1) := by decide +kernel
theorem dX12_leastLike_16 : decode cX12_leastLike 16 = .ok (.laload, 1) := by decide +kernel
theorem dX12_leastLike_17 : decode cX12_leastLike 17 = .ok (.lconst 0, 1) := by decide +kernel
theorem dX12_leastLike_18 : decode cX12_leastLike 18 = .ok (.lcmp, 1) := by decide +kernel
theorem dX12_leastLike_19 : decode cX12_leastLike 19 = .ok (.ifCond .eq 18, 3) := by decide +kernel
theorem dX12_leastLike_22 : decode cX12_leastLike 22 = .ok (.aload_n 0, 1) := by decide +kernel
theorem dX12_leastLike_23 : decode cX12_leastLike 23 = .ok (.iconst 0, 1) := by decide +kernel
theorem dX12_leastLike_24 : decode cX12_leastLike 24 = .ok (.iload_n 1, 1) := by decide +kernel
theorem dX12_leastLike_25 : decode cX12_leastLike 25 = .ok (.iconst 0, 1) := by decide +kernel
theorem dX12_leastLike_26 : decode cX12_leastLike 26 = .ok (.iload_n 3, 1) := by decide +kernel
theorem dX12_leastLike_27 : decode cX12_leastLike 27 = .ok (.invokevirtual 276, 3) := by decide +kernel
theorem dX12_leastLike_30 : decode cX12_leastLike 30 = .ok (.lconst 0, 1) := by decide +kernel
theorem dX12_leastLike_31 : decode cX12_leastLike 31 = .ok (.lcmp, 1) := by decide +kernel
theorem dX12_leastLike_32 : decode cX12_leastLike 32 = .ok (.ifCond .ne 5, 3) := by decide +kernel
theorem dX12_leastLike_35 : decode cX12_leastLike 35 = .ok (.iload_n 3, 1) := by decide +kernel
theorem dX12_leastLike_36 : decode cX12_leastLike 36 = .ok (.ireturn, 1) := by decide +kernel
theorem dX12_leastLike_37 : decode cX12_leastLike 37 = .ok (.iinc 3 1, 3) := by decide +kernel
theorem dX12_leastLike_40 : decode cX12_leastLike 40 = .ok (.goto (-38), 3) := by decide +kernel
theorem dX12_leastLike_43 : decode cX12_leastLike 43 = .ok (.iload_n 1, 1) := by decide +kernel
theorem dX12_leastLike_44 : decode cX12_leastLike 44 = .ok (.ireturn, 1) := by decide +kernel
theorem dX12_unlikeMany_0 : decode cX12_unlikeMany 0 = .ok (.aload_n 0, 1) := by decide +kernel
theorem dX12_unlikeMany_1 : decode cX12_unlikeMany 1 = .ok (.iconst 0, 1) := by decide +kernel
theorem dX12_unlikeMany_2 : decode cX12_unlikeMany 2 = .ok (.invokevirtual 395, 3) := by decide +kernel
theorem dX12_unlikeMany_5 : decode cX12_unlikeMany 5 = .ok (.iconst 0, 1) := by decide +kernel
theorem dX12_unlikeMany_6 : decode cX12_unlikeMany 6 = .ok (.istore_n 1, 1) := by decide +kernel
theorem dX12_unlikeMany_7 : decode cX12_unlikeMany 7 = .ok (.iconst 0, 1) := by decide +kernel
theorem dX12_unlikeMany_8 : decode cX12_unlikeMany 8 = .ok (.istore_n 2, 1) := by decide +kernel
theorem dX12_unlikeMany_9 : decode cX12_unlikeMany 9 = .ok (.iload_n 2, 1) := by decide +kernel
theorem dX12_unlikeMany_10 : decode cX12_unlikeMany 10 = .ok (.aload_n 0, 1) := by decide +kernel
theorem dX12_unlikeMany_11 : decode cX12_unlikeMany 11 = .ok (.getfield 21, 3) := by decide +kernel
theorem dX12_unlikeMany_14 : decode cX12_unlikeMany 14 = .ok (.iconst 0, 1) := by decide +kernel
theorem dX12_unlikeMany_15 : decode cX12_unlikeMany 15 = .ok (.iaload, 1) := by decide +kernel
theorem dX12_unlikeMany_16 : decode cX12_unlikeMany 16 = .ok (.if_icmp .ge 41, 3) := by decide +kernel
theorem dX12_unlikeMany_19 : decode cX12_unlikeMany 19 = .ok (.iload_n 1, 1) := by decide +kernel
theorem dX12_unlikeMany_20 : decode cX12_unlikeMany 20 = .ok (.aload_n 0, 1) := by decide +kernel
theorem dX12_unlikeMany_21 : decode cX12_unlikeMany 21 = .ok (.getfield 160, 3) := by decide +kernel
theorem dX12_unlikeMany_24 : decode cX12_unlikeMany 24 = .ok (.iload_n 2, 1) := by decide +kernel
theorem dX12_unlikeMany_25 : decode cX12_unlikeMany 25 = .ok (.laload, 1) := by decide +kernel
theorem dX12_unlikeMany_26 : decode cX12_unlikeMany 26 = .ok (.lconst 0, 1) := by decide +kernel
theorem dX12_unlikeMany_27 : decode cX12_unlikeMany 27 = .ok (.lcmp, 1) := by decide +kernel
theorem dX12_unlikeMany_28 : decode cX12_unlikeMany 28 = .ok (.ifCond .eq 17, 3) := by decide +kernel
theorem dX12_unlikeMany_31 : decode cX12_unlikeMany 31 = .ok (.aload_n 0, 1) := by decide +kernel
theorem dX12_unlikeMany_32 : decode cX12_unlikeMany 32 = .ok (.iload_n 2, 1) := by decide +kernel
theorem dX12_unlikeMany_33 : decode cX12_unlikeMany 33 = .ok (.iconst 1, 1) := by decide +kernel
theorem dX12_unlikeMany_34 : decode cX12_unlikeMany 34 = .ok (.invokevirtual 403, 3) := by decide +kernel
theorem dX12_unlikeMany_37 : decode cX12_unlikeMany 37 = .ok (.iload_n 2, 1) := by decide +kernel
theorem dX12_unlikeMany_38 : decode cX12_unlikeMany 38 = .ok (.if_icmp .ne 7, 3) := by decide +kernel
theorem dX12_unlikeMany_41 : decode cX12_unlikeMany 41 = .ok (.iconst 1, 1) := by decide +kernel
theorem dX12_unlikeMany_42 : decode cX12_unlikeMany 42 = .ok (.goto 4, 3) := by decide +kernel
theorem dX12_unlikeMany_45 : decode cX12_unlikeMany 45 = .ok (.iconst 0, 1) := by decide +kernel
theorem dX12_unlikeMany_46 : decode cX12_unlikeMany 46 = .ok (.invokestatic 339, 3) := by decide +kernel
theorem dX12_unlikeMany_49 : decode cX12_unlikeMany 49 = .ok (.iadd, 1) := by decide +kernel
theorem dX12_unlikeMany_50 : decode cX12_unlikeMany 50 = .ok (.istore_n 1, 1) := by decide +kernel
theorem dX12_unlikeMany_51 : decode cX12_unlikeMany 51 = .ok (.iinc 2 1, 3) := by decide +kernel
theorem dX12_unlikeMany_54 : decode cX12_unlikeMany 54 = .ok (.goto (-45), 3) := by decide +kernel
theorem dX12_unlikeMany_57 : decode cX12_unlikeMany 57 = .ok (.iload_n 1, 1) := by decide +kernel
theorem dX12_unlikeMany_58 : decode cX12_unlikeMany 58 = .ok (.ireturn, 1) := by decide +kernel
theorem dX12_least_0 : decode cX12_least 0 = .ok (.aload_n 0, 1) := by decide +kernel
theorem dX12_least_1 : decode cX12_least 1 = .ok (.iconst 0, 1) := by decide +kernel
theorem dX12_least_2 : decode cX12_least 2 = .ok (.putfield 1, 3) := by decide +kernel
theorem dX12_least_5 : decode cX12_least 5 = .ok (.aload_n 0, 1) := by decide +kernel
theorem dX12_least_6 : decode cX12_least 6 = .ok (.iconst 0, 1) := by decide +kernel
theorem dX12_least_7 : decode cX12_least 7 = .ok (.putfield 11, 3) := by decide +kernel
theorem dX12_least_10 : decode cX12_least 10 = .ok (.iconst 0, 1) := by decide +kernel
theorem dX12_least_11 : decode cX12_least 11 = .ok (.istore_n 1, 1) := by decide +kernel
theorem dX12_least_12 : decode cX12_least 12 = .ok (.iload_n 1, 1) := by decide +kernel
theorem dX12_least_13 : decode cX12_least 13 = .ok (.aload_n 0, 1) := by decide +kernel
theorem dX12_least_14 : decode cX12_least 14 = .ok (.getfield 21, 3) := by decide +kernel
theorem dX12_least_17 : decode cX12_least 17 = .ok (.iconst 0, 1) := by decide +kernel
theorem dX12_least_18 : decode cX12_least 18 = .ok (.iaload, 1) := by decide +kernel
theorem dX12_least_19 : decode cX12_least 19 = .ok (.if_icmp .ge 20, 3) := by decide +kernel
theorem dX12_least_22 : decode cX12_least 22 = .ok (.aload_n 0, 1) := by decide +kernel
theorem dX12_least_23 : decode cX12_least 23 = .ok (.aload_n 0, 1) := by decide +kernel
theorem dX12_least_24 : decode cX12_least 24 = .ok (.iload_n 1, 1) := by decide +kernel
theorem dX12_least_25 : decode cX12_least 25 = .ok (.iconst 0, 1) := by decide +kernel
theorem dX12_least_26 : decode cX12_least 26 = .ok (.invokevirtual 403, 3) := by decide +kernel
theorem dX12_least_29 : decode cX12_least 29 = .ok (.i2l, 1) := by decide +kernel
theorem dX12_least_30 : decode cX12_least 30 = .ok (.invokevirtual 343, 3) := by decide +kernel
theorem dX12_least_33 : decode cX12_least 33 = .ok (.iinc 1 1, 3) := by decide +kernel
theorem dX12_least_36 : decode cX12_least 36 = .ok (.goto (-24), 3) := by decide +kernel
theorem dX12_least_39 : decode cX12_least 39 = .ok (.aload_n 0, 1) := by decide +kernel
theorem dX12_least_40 : decode cX12_least 40 = .ok (.invokevirtual 326, 3) := by decide +kernel
theorem dX12_least_43 : decode cX12_least 43 = .ok (.ireturn, 1) := by decide +kernel
theorem dX12_reach_0 : decode cX12_reach 0 = .ok (.aload_n 0, 1) := by decide +kernel
theorem dX12_reach_1 : decode cX12_reach 1 = .ok (.iconst 0, 1) := by decide +kernel
theorem dX12_reach_2 : decode cX12_reach 2 = .ok (.putfield 1, 3) := by decide +kernel
theorem dX12_reach_5 : decode cX12_reach 5 = .ok (.aload_n 0, 1) := by decide +kernel
theorem dX12_reach_6 : decode cX12_reach 6 = .ok (.iconst 0, 1) := by decide +kernel
theorem dX12_reach_7 : decode cX12_reach 7 = .ok (.iload_n 1, 1) := by decide +kernel
theorem dX12_reach_8 : decode cX12_reach 8 = .ok (.invokevirtual 330, 3) := by decide +kernel
theorem dX12_reach_11 : decode cX12_reach 11 = .ok (.ifCond .ne 7, 3) := by decide +kernel
theorem dX12_reach_14 : decode cX12_reach 14 = .ok (.ldc2_w 59, 3) := by decide +kernel
theorem dX12_reach_17 : decode cX12_reach 17 = .ok (.lreturn, 1) := by decide +kernel
theorem dX12_reach_18 : decode cX12_reach 18 = .ok (.aload_n 0, 1) := by decide +kernel
theorem dX12_reach_19 : decode cX12_reach 19 = .ok (.iconst 0, 1) := by decide +kernel
theorem dX12_reach_20 : decode cX12_reach 20 = .ok (.invokevirtual 395, 3) := by decide +kernel
theorem dX12_reach_23 : decode cX12_reach 23 = .ok (.aload_n 0, 1) := by decide +kernel
theorem dX12_reach_24 : decode cX12_reach 24 = .ok (.getfield 160, 3) := by decide +kernel
theorem dX12_reach_27 : decode cX12_reach 27 = .ok (.iload_n 1, 1) := by decide +kernel
theorem dX12_reach_28 : decode cX12_reach 28 = .ok (.laload, 1) := by decide +kernel
theorem dX12_reach_29 : decode cX12_reach 29 = .ok (.lreturn, 1) := by decide +kernel
theorem dX12_staysTogether_0 : decode cX12_staysTogether 0 = .ok (.aload_n 0, 1) := by decide +kernel
theorem dX12_staysTogether_1 : decode cX12_staysTogether 1 = .ok (.getfield 169, 3) := by decide +kernel
theorem dX12_staysTogether_4 : decode cX12_staysTogether 4 = .ok (.iload_n 1, 1) := by decide +kernel
theorem dX12_staysTogether_5 : decode cX12_staysTogether 5 = .ok (.iaload, 1) := by decide +kernel
theorem dX12_staysTogether_6 : decode cX12_staysTogether 6 = .ok (.aload_n 0, 1) := by decide +kernel
theorem dX12_staysTogether_7 : decode cX12_staysTogether 7 = .ok (.getfield 169, 3) := by decide +kernel
theorem dX12_staysTogether_10 : decode cX12_staysTogether 10 = .ok (.iload_n 2, 1) := by decide +kernel
theorem dX12_staysTogether_11 : decode cX12_staysTogether 11 = .ok (.iaload, 1) := by decide +kernel
theorem dX12_staysTogether_12 : decode cX12_staysTogether 12 = .ok (.if_icmp .ne 7, 3) := by decide +kernel
theorem dX12_staysTogether_15 : decode cX12_staysTogether 15 = .ok (.iconst 1, 1) := by decide +kernel
theorem dX12_staysTogether_16 : decode cX12_staysTogether 16 = .ok (.goto 4, 3) := by decide +kernel
theorem dX12_staysTogether_19 : decode cX12_staysTogether 19 = .ok (.iconst 0, 1) := by decide +kernel
theorem dX12_staysTogether_20 : decode cX12_staysTogether 20 = .ok (.istore_n 3, 1) := by decide +kernel
theorem dX12_staysTogether_21 : decode cX12_staysTogether 21 = .ok (.iconst 0, 1) := by decide +kernel
theorem dX12_staysTogether_22 : decode cX12_staysTogether 22 = .ok (.istore 4, 2) := by decide +kernel
theorem dX12_staysTogether_24 : decode cX12_staysTogether 24 = .ok (.iload 4, 2) := by decide +kernel
theorem dX12_staysTogether_26 : decode cX12_staysTogether 26 = .ok (.aload_n 0, 1) := by decide +kernel
theorem dX12_staysTogether_27 : decode cX12_staysTogether 27 = .ok (.getfield 30, 3) := by decide +kernel
theorem dX12_staysTogether_30 : decode cX12_staysTogether 30 = .ok (.if_icmp .ge 48, 3) := by decide +kernel
theorem dX12_staysTogether_33 : decode cX12_staysTogether 33 = .ok (.iload_n 3, 1) := by decide +kernel
theorem dX12_staysTogether_34 : decode cX12_staysTogether 34 = .ok (.ifCond .eq 36, 3) := by decide +kernel
theorem dX12_staysTogether_37 : decode cX12_staysTogether 37 = .ok (.aload_n 0, 1) := by decide +kernel
theorem dX12_staysTogether_38 : decode cX12_staysTogether 38 = .ok (.getfield 169, 3) := by decide +kernel
theorem dX12_staysTogether_41 : decode cX12_staysTogether 41 = .ok (.aload_n 0, 1) := by decide +kernel
theorem dX12_staysTogether_42 : decode cX12_staysTogether 42 = .ok (.iconst 0, 1) := by decide +kernel
theorem dX12_staysTogether_43 : decode cX12_staysTogether 43 = .ok (.iload_n 1, 1) := by decide +kernel
theorem dX12_staysTogether_44 : decode cX12_staysTogether 44 = .ok (.iload 4, 2) := by decide +kernel
theorem dX12_staysTogether_46 : decode cX12_staysTogether 46 = .ok (.invokevirtual 43, 3) := by decide +kernel
theorem dX12_staysTogether_49 : decode cX12_staysTogether 49 = .ok (.iaload, 1) := by decide +kernel
theorem dX12_staysTogether_50 : decode cX12_staysTogether 50 = .ok (.aload_n 0, 1) := by decide +kernel
theorem dX12_staysTogether_51 : decode cX12_staysTogether 51 = .ok (.getfield 169, 3) := by decide +kernel
theorem dX12_staysTogether_54 : decode cX12_staysTogether 54 = .ok (.aload_n 0, 1) := by decide +kernel
theorem dX12_staysTogether_55 : decode cX12_staysTogether 55 = .ok (.iconst 0, 1) := by decide +kernel
theorem dX12_staysTogether_56 : decode cX12_staysTogether 56 = .ok (.iload_n 2, 1) := by decide +kernel
theorem dX12_staysTogether_57 : decode cX12_staysTogether 57 = .ok (.iload 4, 2) := by decide +kernel
theorem dX12_staysTogether_59 : decode cX12_staysTogether 59 = .ok (.invokevirtual 43, 3) := by decide +kernel
theorem dX12_staysTogether_62 : decode cX12_staysTogether 62 = .ok (.iaload, 1) := by decide +kernel
theorem dX12_staysTogether_63 : decode cX12_staysTogether 63 = .ok (.if_icmp .ne 7, 3) := by decide +kernel
theorem dX12_staysTogether_66 : decode cX12_staysTogether 66 = .ok (.iconst 1, 1) := by decide +kernel
theorem dX12_staysTogether_67 : decode cX12_staysTogether 67 = .ok (.goto 4, 3) := by decide +kernel
theorem dX12_staysTogether_70 : decode cX12_staysTogether 70 = .ok (.iconst 0, 1) := by decide +kernel
theorem dX12_staysTogether_71 : decode cX12_staysTogether 71 = .ok (.istore_n 3, 1) := by decide +kernel
theorem dX12_staysTogether_72 : decode cX12_staysTogether 72 = .ok (.iinc 4 1, 3) := by decide +kernel
theorem dX12_staysTogether_75 : decode cX12_staysTogether 75 = .ok (.goto (-51), 3) := by decide +kernel
theorem dX12_staysTogether_78 : decode cX12_staysTogether 78 = .ok (.iload_n 3, 1) := by decide +kernel
theorem dX12_staysTogether_79 : decode cX12_staysTogether 79 = .ok (.ireturn, 1) := by decide +kernel
theorem dX12_regroups_0 : decode cX12_regroups 0 = .ok (.iconst 0, 1) := by decide +kernel
theorem dX12_regroups_1 : decode cX12_regroups 1 = .ok (.istore_n 2, 1) := by decide +kernel
theorem dX12_regroups_2 : decode cX12_regroups 2 = .ok (.iload_n 2, 1) := by decide +kernel
theorem dX12_regroups_3 : decode cX12_regroups 3 = .ok (.aload_n 0, 1) := by decide +kernel
theorem dX12_regroups_4 : decode cX12_regroups 4 = .ok (.getfield 21, 3) := by decide +kernel
theorem dX12_regroups_7 : decode cX12_regroups 7 = .ok (.iconst 0, 1) := by decide +kernel
theorem dX12_regroups_8 : decode cX12_regroups 8 = .ok (.iaload, 1) := by decide +kernel
theorem dX12_regroups_9 : decode cX12_regroups 9 = .ok (.if_icmp .ge 74, 3) := by decide +kernel
theorem dX12_regroups_12 : decode cX12_regroups 12 = .ok (.iload_n 2, 1) := by decide +kernel
theorem dX12_regroups_13 : decode cX12_regroups 13 = .ok (.istore_n 3, 1) := by decide +kernel
theorem dX12_regroups_14 : decode cX12_regroups 14 = .ok (.iload_n 2, 1) := by decide +kernel
theorem dX12_regroups_15 : decode cX12_regroups 15 = .ok (.iconst 1, 1) := by decide +kernel
theorem dX12_regroups_16 : decode cX12_regroups 16 = .ok (.isub, 1) := by decide +kernel
theorem dX12_regroups_17 : decode cX12_regroups 17 = .ok (.istore 4, 2) := by decide +kernel
theorem dX12_regroups_19 : decode cX12_regroups 19 = .ok (.iload 4, 2) := by decide +kernel
theorem dX12_regroups_21 : decode cX12_regroups 21 = .ok (.ifCond .lt 49, 3) := by decide +kernel
theorem dX12_regroups_24 : decode cX12_regroups 24 = .ok (.iload_n 1, 1) := by decide +kernel
theorem dX12_regroups_25 : decode cX12_regroups 25 = .ok (.ifCond .eq 22, 3) := by decide +kernel
theorem dX12_regroups_28 : decode cX12_regroups 28 = .ok (.aload_n 0, 1) := by decide +kernel
theorem dX12_regroups_29 : decode cX12_regroups 29 = .ok (.iconst 0, 1) := by decide +kernel
theorem dX12_regroups_30 : decode cX12_regroups 30 = .ok (.iload_n 2, 1) := by decide +kernel
theorem dX12_regroups_31 : decode cX12_regroups 31 = .ok (.invokevirtual 51, 3) := by decide +kernel
theorem dX12_regroups_34 : decode cX12_regroups 34 = .ok (.aload_n 0, 1) := by decide +kernel
theorem dX12_regroups_35 : decode cX12_regroups 35 = .ok (.iconst 0, 1) := by decide +kernel
theorem dX12_regroups_36 : decode cX12_regroups 36 = .ok (.iload 4, 2) := by decide +kernel
theorem dX12_regroups_38 : decode cX12_regroups 38 = .ok (.invokevirtual 51, 3) := by decide +kernel
theorem dX12_regroups_41 : decode cX12_regroups 41 = .ok (.if_icmp .ne 21, 3) := by decide +kernel
theorem dX12_regroups_44 : decode cX12_regroups 44 = .ok (.goto 13, 3) := by decide +kernel
theorem dX12_regroups_47 : decode cX12_regroups 47 = .ok (.aload_n 0, 1) := by decide +kernel
theorem dX12_regroups_48 : decode cX12_regroups 48 = .ok (.iload_n 2, 1) := by decide +kernel
theorem dX12_regroups_49 : decode cX12_regroups 49 = .ok (.iload 4, 2) := by decide +kernel
theorem dX12_regroups_51 : decode cX12_regroups 51 = .ok (.invokevirtual 407, 3) := by decide +kernel
theorem dX12_regroups_54 : decode cX12_regroups 54 = .ok (.ifCond .eq 8, 3) := by decide +kernel
theorem dX12_regroups_57 : decode cX12_regroups 57 = .ok (.iload 4, 2) := by decide +kernel
theorem dX12_regroups_59 : decode cX12_regroups 59 = .ok (.goto 4, 3) := by decide +kernel
theorem dX12_regroups_62 : decode cX12_regroups 62 = .ok (.iload_n 3, 1) := by decide +kernel
theorem dX12_regroups_63 : decode cX12_regroups 63 = .ok (.istore_n 3, 1) := by decide +kernel
theorem dX12_regroups_64 : decode cX12_regroups 64 = .ok (.iinc 4 (-1), 3) := by decide +kernel
theorem dX12_regroups_67 : decode cX12_regroups 67 = .ok (.goto (-48), 3) := by decide +kernel
theorem dX12_regroups_70 : decode cX12_regroups 70 = .ok (.aload_n 0, 1) := by decide +kernel
theorem dX12_regroups_71 : decode cX12_regroups 71 = .ok (.getfield 172, 3) := by decide +kernel
theorem dX12_regroups_74 : decode cX12_regroups 74 = .ok (.iload_n 2, 1) := by decide +kernel
theorem dX12_regroups_75 : decode cX12_regroups 75 = .ok (.iload_n 3, 1) := by decide +kernel
theorem dX12_regroups_76 : decode cX12_regroups 76 = .ok (.iastore, 1) := by decide +kernel
theorem dX12_regroups_77 : decode cX12_regroups 77 = .ok (.iinc 2 1, 3) := by decide +kernel
theorem dX12_regroups_80 : decode cX12_regroups 80 = .ok (.goto (-78), 3) := by decide +kernel
theorem dX12_regroups_83 : decode cX12_regroups 83 = .ok (.iconst 0, 1) := by decide +kernel
theorem dX12_regroups_84 : decode cX12_regroups 84 = .ok (.istore_n 2, 1) := by decide +kernel
theorem dX12_regroups_85 : decode cX12_regroups 85 = .ok (.iload_n 2, 1) := by decide +kernel
theorem dX12_regroups_86 : decode cX12_regroups 86 = .ok (.aload_n 0, 1) := by decide +kernel
theorem dX12_regroups_87 : decode cX12_regroups 87 = .ok (.getfield 21, 3) := by decide +kernel
theorem dX12_regroups_90 : decode cX12_regroups 90 = .ok (.iconst 0, 1) := by decide +kernel
theorem dX12_regroups_91 : decode cX12_regroups 91 = .ok (.iaload, 1) := by decide +kernel
theorem dX12_regroups_92 : decode cX12_regroups 92 = .ok (.if_icmp .ge 21, 3) := by decide +kernel
theorem dX12_regroups_95 : decode cX12_regroups 95 = .ok (.aload_n 0, 1) := by decide +kernel
theorem dX12_regroups_96 : decode cX12_regroups 96 = .ok (.getfield 169, 3) := by decide +kernel
theorem dX12_regroups_99 : decode cX12_regroups 99 = .ok (.iload_n 2, 1) := by decide +kernel
theorem dX12_regroups_100 : decode cX12_regroups 100 = .ok (.aload_n 0, 1) := by decide +kernel
theorem dX12_regroups_101 : decode cX12_regroups 101 = .ok (.getfield 172, 3) := by decide +kernel
theorem dX12_regroups_104 : decode cX12_regroups 104 = .ok (.iload_n 2, 1) := by decide +kernel
theorem dX12_regroups_105 : decode cX12_regroups 105 = .ok (.iaload, 1) := by decide +kernel
theorem dX12_regroups_106 : decode cX12_regroups 106 = .ok (.iastore, 1) := by decide +kernel
theorem dX12_regroups_107 : decode cX12_regroups 107 = .ok (.iinc 2 1, 3) := by decide +kernel
theorem dX12_regroups_110 : decode cX12_regroups 110 = .ok (.goto (-25), 3) := by decide +kernel
theorem dX12_regroups_113 : decode cX12_regroups 113 = .ok (.return_, 1) := by decide +kernel
theorem dX12_groups_0 : decode cX12_groups 0 = .ok (.aload_n 0, 1) := by decide +kernel
theorem dX12_groups_1 : decode cX12_groups 1 = .ok (.iconst 0, 1) := by decide +kernel
theorem dX12_groups_2 : decode cX12_groups 2 = .ok (.putfield 1, 3) := by decide +kernel
theorem dX12_groups_5 : decode cX12_groups 5 = .ok (.iload_n 1, 1) := by decide +kernel
theorem dX12_groups_6 : decode cX12_groups 6 = .ok (.i2l, 1) := by decide +kernel
theorem dX12_groups_7 : decode cX12_groups 7 = .ok (.lconst 0, 1) := by decide +kernel
theorem dX12_groups_8 : decode cX12_groups 8 = .ok (.ldc2_w 354, 3) := by decide +kernel
theorem dX12_groups_11 : decode cX12_groups 11 = .ok (.invokestatic 24, 3) := by decide +kernel
theorem dX12_groups_14 : decode cX12_groups 14 = .ok (.ifCond .ne 5, 3) := by decide +kernel
theorem dX12_groups_17 : decode cX12_groups 17 = .ok (.iconst (-1), 1) := by decide +kernel
theorem dX12_groups_18 : decode cX12_groups 18 = .ok (.ireturn, 1) := by decide +kernel
theorem dX12_groups_19 : decode cX12_groups 19 = .ok (.aload_n 0, 1) := by decide +kernel
theorem dX12_groups_20 : decode cX12_groups 20 = .ok (.iconst 1, 1) := by decide +kernel
theorem dX12_groups_21 : decode cX12_groups 21 = .ok (.invokevirtual 410, 3) := by decide +kernel
theorem dX12_groups_24 : decode cX12_groups 24 = .ok (.iconst 0, 1) := by decide +kernel
theorem dX12_groups_25 : decode cX12_groups 25 = .ok (.istore_n 2, 1) := by decide +kernel
theorem dX12_groups_26 : decode cX12_groups 26 = .ok (.iload_n 2, 1) := by decide +kernel
theorem dX12_groups_27 : decode cX12_groups 27 = .ok (.iload_n 1, 1) := by decide +kernel
theorem dX12_groups_28 : decode cX12_groups 28 = .ok (.if_icmp .ge 14, 3) := by decide +kernel
theorem dX12_groups_31 : decode cX12_groups 31 = .ok (.aload_n 0, 1) := by decide +kernel
theorem dX12_groups_32 : decode cX12_groups 32 = .ok (.iconst 0, 1) := by decide +kernel
theorem dX12_groups_33 : decode cX12_groups 33 = .ok (.invokevirtual 410, 3) := by decide +kernel
theorem dX12_groups_36 : decode cX12_groups 36 = .ok (.iinc 2 1, 3) := by decide +kernel
theorem dX12_groups_39 : decode cX12_groups 39 = .ok (.goto (-13), 3) := by decide +kernel
theorem dX12_groups_42 : decode cX12_groups 42 = .ok (.iconst 0, 1) := by decide +kernel
theorem dX12_groups_43 : decode cX12_groups 43 = .ok (.istore_n 2, 1) := by decide +kernel
theorem dX12_groups_44 : decode cX12_groups 44 = .ok (.aload_n 0, 1) := by decide +kernel
theorem dX12_groups_45 : decode cX12_groups 45 = .ok (.iconst 0, 1) := by decide +kernel
theorem dX12_groups_46 : decode cX12_groups 46 = .ok (.putfield 11, 3) := by decide +kernel
theorem dX12_groups_49 : decode cX12_groups 49 = .ok (.iconst 0, 1) := by decide +kernel
theorem dX12_groups_50 : decode cX12_groups 50 = .ok (.istore_n 3, 1) := by decide +kernel
theorem dX12_groups_51 : decode cX12_groups 51 = .ok (.iload_n 3, 1) := by decide +kernel
theorem dX12_groups_52 : decode cX12_groups 52 = .ok (.aload_n 0, 1) := by decide +kernel
theorem dX12_groups_53 : decode cX12_groups 53 = .ok (.getfield 21, 3) := by decide +kernel
theorem dX12_groups_56 : decode cX12_groups 56 = .ok (.iconst 0, 1) := by decide +kernel
theorem dX12_groups_57 : decode cX12_groups 57 = .ok (.iaload, 1) := by decide +kernel
theorem dX12_groups_58 : decode cX12_groups 58 = .ok (.if_icmp .ge 41, 3) := by decide +kernel
theorem dX12_groups_61 : decode cX12_groups 61 = .ok (.iload_n 2, 1) := by decide +kernel
theorem dX12_groups_62 : decode cX12_groups 62 = .ok (.aload_n 0, 1) := by decide +kernel
theorem dX12_groups_63 : decode cX12_groups 63 = .ok (.getfield 169, 3) := by decide +kernel
theorem dX12_groups_66 : decode cX12_groups 66 = .ok (.iload_n 3, 1) := by decide +kernel
theorem dX12_groups_67 : decode cX12_groups 67 = .ok (.iaload, 1) := by decide +kernel
theorem dX12_groups_68 : decode cX12_groups 68 = .ok (.iload_n 3, 1) := by decide +kernel
theorem dX12_groups_69 : decode cX12_groups 69 = .ok (.if_icmp .ne 7, 3) := by decide +kernel
theorem dX12_groups_72 : decode cX12_groups 72 = .ok (.iconst 1, 1) := by decide +kernel
theorem dX12_groups_73 : decode cX12_groups 73 = .ok (.goto 4, 3) := by decide +kernel
theorem dX12_groups_76 : decode cX12_groups 76 = .ok (.iconst 0, 1) := by decide +kernel
theorem dX12_groups_77 : decode cX12_groups 77 = .ok (.invokestatic 339, 3) := by decide +kernel
theorem dX12_groups_80 : decode cX12_groups 80 = .ok (.iadd, 1) := by decide +kernel
theorem dX12_groups_81 : decode cX12_groups 81 = .ok (.istore_n 2, 1) := by decide +kernel
theorem dX12_groups_82 : decode cX12_groups 82 = .ok (.aload_n 0, 1) := by decide +kernel
theorem dX12_groups_83 : decode cX12_groups 83 = .ok (.aload_n 0, 1) := by decide +kernel
theorem dX12_groups_84 : decode cX12_groups 84 = .ok (.getfield 169, 3) := by decide +kernel
theorem dX12_groups_87 : decode cX12_groups 87 = .ok (.iload_n 3, 1) := by decide +kernel
theorem dX12_groups_88 : decode cX12_groups 88 = .ok (.iaload, 1) := by decide +kernel
theorem dX12_groups_89 : decode cX12_groups 89 = .ok (.i2l, 1) := by decide +kernel
theorem dX12_groups_90 : decode cX12_groups 90 = .ok (.invokevirtual 343, 3) := by decide +kernel
theorem dX12_groups_93 : decode cX12_groups 93 = .ok (.iinc 3 1, 3) := by decide +kernel
theorem dX12_groups_96 : decode cX12_groups 96 = .ok (.goto (-45), 3) := by decide +kernel
theorem dX12_groups_99 : decode cX12_groups 99 = .ok (.iload_n 2, 1) := by decide +kernel
theorem dX12_groups_100 : decode cX12_groups 100 = .ok (.ireturn, 1) := by decide +kernel
theorem dX12_stepsInThought_0 : decode cX12_stepsInThought 0 = .ok (.aload_n 0, 1) := by decide +kernel
theorem dX12_stepsInThought_1 : decode cX12_stepsInThought 1 = .ok (.iconst 1, 1) := by decide +kernel
theorem dX12_stepsInThought_2 : decode cX12_stepsInThought 2 = .ok (.iload_n 1, 1) := by decide +kernel
theorem dX12_stepsInThought_3 : decode cX12_stepsInThought 3 = .ok (.invokevirtual 175, 3) := by decide +kernel
theorem dX12_stepsInThought_6 : decode cX12_stepsInThought 6 = .ok (.aload_n 0, 1) := by decide +kernel
theorem dX12_stepsInThought_7 : decode cX12_stepsInThought 7 = .ok (.iconst 1, 1) := by decide +kernel
theorem dX12_stepsInThought_8 : decode cX12_stepsInThought 8 = .ok (.invokevirtual 347, 3) := by decide +kernel
theorem dX12_stepsInThought_11 : decode cX12_stepsInThought 11 = .ok (.ireturn, 1) := by decide +kernel
theorem dX12_costs_0 : decode cX12_costs 0 = .ok (.aload_n 0, 1) := by decide +kernel
theorem dX12_costs_1 : decode cX12_costs 1 = .ok (.iconst 0, 1) := by decide +kernel
theorem dX12_costs_2 : decode cX12_costs 2 = .ok (.putfield 1, 3) := by decide +kernel
theorem dX12_costs_5 : decode cX12_costs 5 = .ok (.iload_n 1, 1) := by decide +kernel
theorem dX12_costs_6 : decode cX12_costs 6 = .ok (.i2l, 1) := by decide +kernel
theorem dX12_costs_7 : decode cX12_costs 7 = .ok (.lconst 0, 1) := by decide +kernel
theorem dX12_costs_8 : decode cX12_costs 8 = .ok (.ldc2_w 28, 3) := by decide +kernel
theorem dX12_costs_11 : decode cX12_costs 11 = .ok (.invokestatic 24, 3) := by decide +kernel
theorem dX12_costs_14 : decode cX12_costs 14 = .ok (.ifCond .ne 5, 3) := by decide +kernel
theorem dX12_costs_17 : decode cX12_costs 17 = .ok (.iconst (-1), 1) := by decide +kernel
theorem dX12_costs_18 : decode cX12_costs 18 = .ok (.ireturn, 1) := by decide +kernel
theorem dX12_costs_19 : decode cX12_costs 19 = .ok (.aload_n 0, 1) := by decide +kernel
theorem dX12_costs_20 : decode cX12_costs 20 = .ok (.iload_n 1, 1) := by decide +kernel
theorem dX12_costs_21 : decode cX12_costs 21 = .ok (.invokevirtual 414, 3) := by decide +kernel
theorem dX12_costs_24 : decode cX12_costs 24 = .ok (.istore_n 2, 1) := by decide +kernel
theorem dX12_costs_25 : decode cX12_costs 25 = .ok (.aload_n 0, 1) := by decide +kernel
theorem dX12_costs_26 : decode cX12_costs 26 = .ok (.iconst 0, 1) := by decide +kernel
theorem dX12_costs_27 : decode cX12_costs 27 = .ok (.putfield 11, 3) := by decide +kernel
theorem dX12_costs_30 : decode cX12_costs 30 = .ok (.aload_n 0, 1) := by decide +kernel
theorem dX12_costs_31 : decode cX12_costs 31 = .ok (.aload_n 0, 1) := by decide +kernel
theorem dX12_costs_32 : decode cX12_costs 32 = .ok (.getfield 117, 3) := by decide +kernel
theorem dX12_costs_35 : decode cX12_costs 35 = .ok (.iconst 1, 1) := by decide +kernel
theorem dX12_costs_36 : decode cX12_costs 36 = .ok (.iaload, 1) := by decide +kernel
theorem dX12_costs_37 : decode cX12_costs 37 = .ok (.i2l, 1) := by decide +kernel
theorem dX12_costs_38 : decode cX12_costs 38 = .ok (.invokevirtual 343, 3) := by decide +kernel
theorem dX12_costs_41 : decode cX12_costs 41 = .ok (.aload_n 0, 1) := by decide +kernel
theorem dX12_costs_42 : decode cX12_costs 42 = .ok (.aload_n 0, 1) := by decide +kernel
theorem dX12_costs_43 : decode cX12_costs 43 = .ok (.getfield 123, 3) := by decide +kernel
theorem dX12_costs_46 : decode cX12_costs 46 = .ok (.iconst 1, 1) := by decide +kernel
theorem dX12_costs_47 : decode cX12_costs 47 = .ok (.iaload, 1) := by decide +kernel
theorem dX12_costs_48 : decode cX12_costs 48 = .ok (.i2l, 1) := by decide +kernel
theorem dX12_costs_49 : decode cX12_costs 49 = .ok (.invokevirtual 343, 3) := by decide +kernel
theorem dX12_costs_52 : decode cX12_costs 52 = .ok (.aload_n 0, 1) := by decide +kernel
theorem dX12_costs_53 : decode cX12_costs 53 = .ok (.iload_n 2, 1) := by decide +kernel
theorem dX12_costs_54 : decode cX12_costs 54 = .ok (.i2l, 1) := by decide +kernel
theorem dX12_costs_55 : decode cX12_costs 55 = .ok (.invokevirtual 343, 3) := by decide +kernel
theorem dX12_costs_58 : decode cX12_costs 58 = .ok (.aload_n 0, 1) := by decide +kernel
theorem dX12_costs_59 : decode cX12_costs 59 = .ok (.aload_n 0, 1) := by decide +kernel
theorem dX12_costs_60 : decode cX12_costs 60 = .ok (.getfield 98, 3) := by decide +kernel
theorem dX12_costs_63 : decode cX12_costs 63 = .ok (.iconst 1, 1) := by decide +kernel
theorem dX12_costs_64 : decode cX12_costs 64 = .ok (.iaload, 1) := by decide +kernel
theorem dX12_costs_65 : decode cX12_costs 65 = .ok (.i2l, 1) := by decide +kernel
theorem dX12_costs_66 : decode cX12_costs 66 = .ok (.invokevirtual 343, 3) := by decide +kernel
theorem dX12_costs_69 : decode cX12_costs 69 = .ok (.aload_n 0, 1) := by decide +kernel
theorem dX12_costs_70 : decode cX12_costs 70 = .ok (.aload_n 0, 1) := by decide +kernel
theorem dX12_costs_71 : decode cX12_costs 71 = .ok (.getfield 101, 3) := by decide +kernel
theorem dX12_costs_74 : decode cX12_costs 74 = .ok (.iconst 1, 1) := by decide +kernel
theorem dX12_costs_75 : decode cX12_costs 75 = .ok (.iaload, 1) := by decide +kernel
theorem dX12_costs_76 : decode cX12_costs 76 = .ok (.i2l, 1) := by decide +kernel
theorem dX12_costs_77 : decode cX12_costs 77 = .ok (.invokevirtual 343, 3) := by decide +kernel
theorem dX12_costs_80 : decode cX12_costs 80 = .ok (.aload_n 0, 1) := by decide +kernel
theorem dX12_costs_81 : decode cX12_costs 81 = .ok (.getfield 120, 3) := by decide +kernel
theorem dX12_costs_84 : decode cX12_costs 84 = .ok (.iconst 1, 1) := by decide +kernel
theorem dX12_costs_85 : decode cX12_costs 85 = .ok (.iaload, 1) := by decide +kernel
theorem dX12_costs_86 : decode cX12_costs 86 = .ok (.ireturn, 1) := by decide +kernel
theorem dX12_cheapest_0 : decode cX12_cheapest 0 = .ok (.aload_n 0, 1) := by decide +kernel
theorem dX12_cheapest_1 : decode cX12_cheapest 1 = .ok (.iconst 0, 1) := by decide +kernel
theorem dX12_cheapest_2 : decode cX12_cheapest 2 = .ok (.putfield 1, 3) := by decide +kernel
theorem dX12_cheapest_5 : decode cX12_cheapest 5 = .ok (.iconst 0, 1) := by decide +kernel
theorem dX12_cheapest_6 : decode cX12_cheapest 6 = .ok (.istore_n 1, 1) := by decide +kernel
theorem dX12_cheapest_7 : decode cX12_cheapest 7 = .ok (.iconst 0, 1) := by decide +kernel
theorem dX12_cheapest_8 : decode cX12_cheapest 8 = .ok (.istore_n 2, 1) := by decide +kernel
theorem dX12_cheapest_9 : decode cX12_cheapest 9 = .ok (.aload_n 0, 1) := by decide +kernel
theorem dX12_cheapest_10 : decode cX12_cheapest 10 = .ok (.iconst 0, 1) := by decide +kernel
theorem dX12_cheapest_11 : decode cX12_cheapest 11 = .ok (.putfield 11, 3) := by decide +kernel
theorem dX12_cheapest_14 : decode cX12_cheapest 14 = .ok (.iconst 0, 1) := by decide +kernel
theorem dX12_cheapest_15 : decode cX12_cheapest 15 = .ok (.istore_n 3, 1) := by decide +kernel
theorem dX12_cheapest_16 : decode cX12_cheapest 16 = .ok (.iload_n 3, 1) := by decide +kernel
theorem dX12_cheapest_17 : decode cX12_cheapest 17 = .ok (.iconst 3, 1) := by decide +kernel
theorem dX12_cheapest_18 : decode cX12_cheapest 18 = .ok (.if_icmp .gt 52, 3) := by decide +kernel
theorem dX12_cheapest_21 : decode cX12_cheapest 21 = .ok (.aload_n 0, 1) := by decide +kernel
theorem dX12_cheapest_22 : decode cX12_cheapest 22 = .ok (.iload_n 3, 1) := by decide +kernel
theorem dX12_cheapest_23 : decode cX12_cheapest 23 = .ok (.invokevirtual 414, 3) := by decide +kernel
theorem dX12_cheapest_26 : decode cX12_cheapest 26 = .ok (.pop, 1) := by decide +kernel
theorem dX12_cheapest_27 : decode cX12_cheapest 27 = .ok (.aload_n 0, 1) := by decide +kernel
theorem dX12_cheapest_28 : decode cX12_cheapest 28 = .ok (.aload_n 0, 1) := by decide +kernel
theorem dX12_cheapest_29 : decode cX12_cheapest 29 = .ok (.getfield 120, 3) := by decide +kernel
theorem dX12_cheapest_32 : decode cX12_cheapest 32 = .ok (.iconst 1, 1) := by decide +kernel
theorem dX12_cheapest_33 : decode cX12_cheapest 33 = .ok (.iaload, 1) := by decide +kernel
theorem dX12_cheapest_34 : decode cX12_cheapest 34 = .ok (.i2l, 1) := by decide +kernel
theorem dX12_cheapest_35 : decode cX12_cheapest 35 = .ok (.invokevirtual 343, 3) := by decide +kernel
theorem dX12_cheapest_38 : decode cX12_cheapest 38 = .ok (.iload_n 3, 1) := by decide +kernel
theorem dX12_cheapest_39 : decode cX12_cheapest 39 = .ok (.ifCond .le 16, 3) := by decide +kernel
theorem dX12_cheapest_42 : decode cX12_cheapest 42 = .ok (.aload_n 0, 1) := by decide +kernel
theorem dX12_cheapest_43 : decode cX12_cheapest 43 = .ok (.getfield 120, 3) := by decide +kernel
theorem dX12_cheapest_46 : decode cX12_cheapest 46 = .ok (.iconst 1, 1) := by decide +kernel
theorem dX12_cheapest_47 : decode cX12_cheapest 47 = .ok (.iaload, 1) := by decide +kernel
theorem dX12_cheapest_48 : decode cX12_cheapest 48 = .ok (.iload_n 2, 1) := by decide +kernel
theorem dX12_cheapest_49 : decode cX12_cheapest 49 = .ok (.if_icmp .lt 6, 3) := by decide +kernel
theorem dX12_cheapest_52 : decode cX12_cheapest 52 = .ok (.goto 12, 3) := by decide +kernel
theorem dX12_cheapest_55 : decode cX12_cheapest 55 = .ok (.iload_n 3, 1) := by decide +kernel
theorem dX12_cheapest_56 : decode cX12_cheapest 56 = .ok (.istore_n 1, 1) := by decide +kernel
theorem dX12_cheapest_57 : decode cX12_cheapest 57 = .ok (.aload_n 0, 1) := by decide +kernel
theorem dX12_cheapest_58 : decode cX12_cheapest 58 = .ok (.getfield 120, 3) := by decide +kernel
theorem dX12_cheapest_61 : decode cX12_cheapest 61 = .ok (.iconst 1, 1) := by decide +kernel
theorem dX12_cheapest_62 : decode cX12_cheapest 62 = .ok (.iaload, 1) := by decide +kernel
theorem dX12_cheapest_63 : decode cX12_cheapest 63 = .ok (.istore_n 2, 1) := by decide +kernel
theorem dX12_cheapest_64 : decode cX12_cheapest 64 = .ok (.iinc 3 1, 3) := by decide +kernel
theorem dX12_cheapest_67 : decode cX12_cheapest 67 = .ok (.goto (-51), 3) := by decide +kernel
theorem dX12_cheapest_70 : decode cX12_cheapest 70 = .ok (.iload_n 1, 1) := by decide +kernel
theorem dX12_cheapest_71 : decode cX12_cheapest 71 = .ok (.ireturn, 1) := by decide +kernel
theorem dX12_count_0 : decode cX12_count 0 = .ok (.aload_n 0, 1) := by decide +kernel
theorem dX12_count_1 : decode cX12_count 1 = .ok (.iconst 0, 1) := by decide +kernel
theorem dX12_count_2 : decode cX12_count 2 = .ok (.putfield 1, 3) := by decide +kernel
theorem dX12_count_5 : decode cX12_count 5 = .ok (.iload_n 1, 1) := by decide +kernel
theorem dX12_count_6 : decode cX12_count 6 = .ok (.tableswitch 136 0 10 #[58, 63, 68, 75, 82, 89, 96, 116, 121, 126, 131], 58) := by decide +kernel
theorem dX12_count_64 : decode cX12_count 64 = .ok (.aload_n 0, 1) := by decide +kernel
theorem dX12_count_65 : decode cX12_count 65 = .ok (.getfield 314, 3) := by decide +kernel
theorem dX12_count_68 : decode cX12_count 68 = .ok (.ireturn, 1) := by decide +kernel
theorem dX12_count_69 : decode cX12_count 69 = .ok (.aload_n 0, 1) := by decide +kernel
theorem dX12_count_70 : decode cX12_count 70 = .ok (.getfield 30, 3) := by decide +kernel
theorem dX12_count_73 : decode cX12_count 73 = .ok (.ireturn, 1) := by decide +kernel
theorem dX12_count_74 : decode cX12_count 74 = .ok (.aload_n 0, 1) := by decide +kernel
theorem dX12_count_75 : decode cX12_count 75 = .ok (.getfield 21, 3) := by decide +kernel
theorem dX12_count_78 : decode cX12_count 78 = .ok (.iconst 0, 1) := by decide +kernel
theorem dX12_count_79 : decode cX12_count 79 = .ok (.iaload, 1) := by decide +kernel
theorem dX12_count_80 : decode cX12_count 80 = .ok (.ireturn, 1) := by decide +kernel
theorem dX12_count_81 : decode cX12_count 81 = .ok (.aload_n 0, 1) := by decide +kernel
theorem dX12_count_82 : decode cX12_count 82 = .ok (.getfield 117, 3) := by decide +kernel
theorem dX12_count_85 : decode cX12_count 85 = .ok (.iconst 0, 1) := by decide +kernel
theorem dX12_count_86 : decode cX12_count 86 = .ok (.iaload, 1) := by decide +kernel
theorem dX12_count_87 : decode cX12_count 87 = .ok (.ireturn, 1) := by decide +kernel
theorem dX12_count_88 : decode cX12_count 88 = .ok (.aload_n 0, 1) := by decide +kernel
theorem dX12_count_89 : decode cX12_count 89 = .ok (.getfield 120, 3) := by decide +kernel
theorem dX12_count_92 : decode cX12_count 92 = .ok (.iconst 0, 1) := by decide +kernel
theorem dX12_count_93 : decode cX12_count 93 = .ok (.iaload, 1) := by decide +kernel
theorem dX12_count_94 : decode cX12_count 94 = .ok (.ireturn, 1) := by decide +kernel
theorem dX12_count_95 : decode cX12_count 95 = .ok (.aload_n 0, 1) := by decide +kernel
theorem dX12_count_96 : decode cX12_count 96 = .ok (.getfield 123, 3) := by decide +kernel
theorem dX12_count_99 : decode cX12_count 99 = .ok (.iconst 0, 1) := by decide +kernel
theorem dX12_count_100 : decode cX12_count 100 = .ok (.iaload, 1) := by decide +kernel
theorem dX12_count_101 : decode cX12_count 101 = .ok (.ireturn, 1) := by decide +kernel
theorem dX12_count_102 : decode cX12_count 102 = .ok (.aload_n 0, 1) := by decide +kernel
theorem dX12_count_103 : decode cX12_count 103 = .ok (.getfield 126, 3) := by decide +kernel
theorem dX12_count_106 : decode cX12_count 106 = .ok (.iconst 0, 1) := by decide +kernel
theorem dX12_count_107 : decode cX12_count 107 = .ok (.baload, 1) := by decide +kernel
theorem dX12_count_108 : decode cX12_count 108 = .ok (.ifCond .eq 12, 3) := by decide +kernel
theorem dX12_count_111 : decode cX12_count 111 = .ok (.aload_n 0, 1) := by decide +kernel
theorem dX12_count_112 : decode cX12_count 112 = .ok (.getfield 21, 3) := by decide +kernel
theorem dX12_count_115 : decode cX12_count 115 = .ok (.iconst 1, 1) := by decide +kernel
theorem dX12_count_116 : decode cX12_count 116 = .ok (.iaload, 1) := by decide +kernel
theorem dX12_count_117 : decode cX12_count 117 = .ok (.goto 4, 3) := by decide +kernel
theorem dX12_count_120 : decode cX12_count 120 = .ok (.iconst (-1), 1) := by decide +kernel
theorem dX12_count_121 : decode cX12_count 121 = .ok (.ireturn, 1) := by decide +kernel
theorem dX12_count_122 : decode cX12_count 122 = .ok (.aload_n 0, 1) := by decide +kernel
theorem dX12_count_123 : decode cX12_count 123 = .ok (.getfield 11, 3) := by decide +kernel
theorem dX12_count_126 : decode cX12_count 126 = .ok (.ireturn, 1) := by decide +kernel
theorem dX12_count_127 : decode cX12_count 127 = .ok (.aload_n 0, 1) := by decide +kernel
theorem dX12_count_128 : decode cX12_count 128 = .ok (.getfield 290, 3) := by decide +kernel
theorem dX12_count_131 : decode cX12_count 131 = .ok (.ireturn, 1) := by decide +kernel
theorem dX12_count_132 : decode cX12_count 132 = .ok (.aload_n 0, 1) := by decide +kernel
theorem dX12_count_133 : decode cX12_count 133 = .ok (.getfield 89, 3) := by decide +kernel
theorem dX12_count_136 : decode cX12_count 136 = .ok (.ireturn, 1) := by decide +kernel
theorem dX12_count_137 : decode cX12_count 137 = .ok (.aload_n 0, 1) := by decide +kernel
theorem dX12_count_138 : decode cX12_count 138 = .ok (.getfield 92, 3) := by decide +kernel
theorem dX12_count_141 : decode cX12_count 141 = .ok (.ireturn, 1) := by decide +kernel
theorem dX12_count_142 : decode cX12_count 142 = .ok (.iconst (-1), 1) := by decide +kernel
theorem dX12_count_143 : decode cX12_count 143 = .ok (.ireturn, 1) := by decide +kernel
theorem dX12_row_0 : decode cX12_row 0 = .ok (.aload_n 0, 1) := by decide +kernel
theorem dX12_row_1 : decode cX12_row 1 = .ok (.iload_n 1, 1) := by decide +kernel
theorem dX12_row_2 : decode cX12_row 2 = .ok (.i2l, 1) := by decide +kernel
theorem dX12_row_3 : decode cX12_row 3 = .ok (.lconst 0, 1) := by decide +kernel
theorem dX12_row_4 : decode cX12_row 4 = .ok (.aload_n 0, 1) := by decide +kernel
theorem dX12_row_5 : decode cX12_row 5 = .ok (.getfield 11, 3) := by decide +kernel
theorem dX12_row_8 : decode cX12_row 8 = .ok (.iconst 1, 1) := by decide +kernel
theorem dX12_row_9 : decode cX12_row 9 = .ok (.isub, 1) := by decide +kernel
theorem dX12_row_10 : decode cX12_row 10 = .ok (.i2l, 1) := by decide +kernel
theorem dX12_row_11 : decode cX12_row 11 = .ok (.invokestatic 24, 3) := by decide +kernel
theorem dX12_row_14 : decode cX12_row 14 = .ok (.ifCond .ne 7, 3) := by decide +kernel
theorem dX12_row_17 : decode cX12_row 17 = .ok (.iconst 1, 1) := by decide +kernel
theorem dX12_row_18 : decode cX12_row 18 = .ok (.goto 4, 3) := by decide +kernel
theorem dX12_row_21 : decode cX12_row 21 = .ok (.iconst 0, 1) := by decide +kernel
theorem dX12_row_22 : decode cX12_row 22 = .ok (.invokestatic 339, 3) := by decide +kernel
theorem dX12_row_25 : decode cX12_row 25 = .ok (.putfield 1, 3) := by decide +kernel
theorem dX12_row_28 : decode cX12_row 28 = .ok (.aload_n 0, 1) := by decide +kernel
theorem dX12_row_29 : decode cX12_row 29 = .ok (.getfield 1, 3) := by decide +kernel
theorem dX12_row_32 : decode cX12_row 32 = .ok (.iconst 1, 1) := by decide +kernel
theorem dX12_row_33 : decode cX12_row 33 = .ok (.if_icmp .ne 7, 3) := by decide +kernel
theorem dX12_row_36 : decode cX12_row 36 = .ok (.lconst 0, 1) := by decide +kernel
theorem dX12_row_37 : decode cX12_row 37 = .ok (.goto 9, 3) := by decide +kernel
theorem dX12_row_40 : decode cX12_row 40 = .ok (.aload_n 0, 1) := by decide +kernel
theorem dX12_row_41 : decode cX12_row 41 = .ok (.getfield 7, 3) := by decide +kernel
theorem dX12_row_44 : decode cX12_row 44 = .ok (.iload_n 1, 1) := by decide +kernel
theorem dX12_row_45 : decode cX12_row 45 = .ok (.laload, 1) := by decide +kernel
theorem dX12_row_46 : decode cX12_row 46 = .ok (.lreturn, 1) := by decide +kernel
