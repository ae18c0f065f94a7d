-- X12_thrown
theorem gX12_thrown_0 {d : Nat} {Q : Option Value → Mem → Prop} {M : Mem} {a0 : Nat} (k0 : mK M a0 = 14) (pq0 : Q (some (.int (mI M a0 0))) M) : Wp d mdX12_thrown 0 [(0, .ref a0)] [] M Q := by
  refine r_aload_n dX12_thrown_0 rfl 0 rfl ?_
  refine r_getI ck10 dX12_thrown_1 flX12_1 rfl k0 ?_
  exact r_ret (some (.int (mI M a0 0))) dX12_thrown_4 rfl pq0
-- X12_in
theorem gX12_in_0 {d : Nat} {Q : Option Value → Mem → Prop} {M : Mem} {w0 : Int64} {w2 : Int64} {w4 : Int64}  (pq0 : w0 < w2 → Q (some (.int (nI 0))) M) (pq1 : ¬ w0 < w2 → w4 < w0 → Q (some (.int (nI 0))) M) (pq2 : ¬ w0 < w2 → ¬ w4 < w0 → Q (some (.int (nI 1))) M) : Wp d mdX12_in 0 [(0, .long w0), (2, .long w2), (4, .long w4)] [] M Q := by
  refine r_lload_n dX12_in_0 rfl 0 rfl ?_
  refine r_lload_n dX12_in_1 rfl 1 rfl ?_
  refine r_lif_lt (tgt := 17) dX12_in_2 dX12_in_3 (by decide) (fun c0 => ?_) (fun c0 => ?_)
  · skip
    refine r_iconst (v := (nI 0)) dX12_in_17 rfl ?_
    exact r_ret (some (.int (nI 0))) dX12_in_18 rfl (pq0 c0)
  · skip
    refine r_lload_n dX12_in_6 rfl 0 rfl ?_
    refine r_lload dX12_in_7 2 rfl ?_
    refine r_lif_gt (tgt := 17) dX12_in_9 dX12_in_10 (by decide) (fun c1 => ?_) (fun c1 => ?_)
    · skip
      refine r_iconst (v := (nI 0)) dX12_in_17 rfl ?_
      exact r_ret (some (.int (nI 0))) dX12_in_18 rfl (pq1 c0 c1)
    · skip
      refine r_iconst (v := (nI 1)) dX12_in_13 rfl ?_
      refine r_goto (tgt := 18) dX12_in_14 (by decide) ?_
      exact r_ret (some (.int (nI 1))) dX12_in_18 rfl (pq2 c0 c1)
-- X12_flag
theorem gX12_flag_0 {d : Nat} {Q : Option Value → Mem → Prop} {M : Mem} {x0 : Int32}  (pq0 : x0 = 0 → Q (some (.int (nI 0))) M) (pq1 : ¬ x0 = 0 → Q (some (.int (nI 1))) M) : Wp d mdX12_flag 0 [(0, .int x0)] [] M Q := by
  refine r_iload_n dX12_flag_0 rfl 0 rfl ?_
  refine r_if_eq (tgt := 8) dX12_flag_1 (by decide) (fun c0 => ?_) (fun c0 => ?_)
  · skip
    refine r_iconst (v := (nI 0)) dX12_flag_8 rfl ?_
    exact r_ret (some (.int (nI 0))) dX12_flag_9 rfl (pq0 c0)
  · skip
    refine r_iconst (v := (nI 1)) dX12_flag_4 rfl ?_
    refine r_goto (tgt := 9) dX12_flag_5 (by decide) ?_
    exact r_ret (some (.int (nI 1))) dX12_flag_9 rfl (pq1 c0)
-- X12_enters
theorem gX12_enters_0 {d : Nat} {Q : Option Value → Mem → Prop} {M : Mem} {a0 : Nat} {w1 : Int64} (k0 : mK M a0 = 14) (k1 : mK M (mR M a0 2) = 2) (pb0 : vp_in (mI M a0 1) (mN M (mR M a0 2))) (pq1 : Q none (sI (sJ M (mR M a0 2) (mI M a0 1).toNatClampNeg w1) a0 1 ((mI (sJ M (mR M a0 2) (mI M a0 1).toNatClampNeg w1) a0 1) + (nI 1)))) : Wp d mdX12_enters 0 [(0, .ref a0), (1, .long w1)] [] M Q := by
  refine r_aload_n dX12_enters_0 rfl 0 rfl ?_
  refine r_getR ck10 dX12_enters_1 flX12_7 rfl k0 ?_
  refine r_aload_n dX12_enters_4 rfl 0 rfl ?_
  refine r_getI ck10 dX12_enters_5 flX12_11 rfl k0 ?_
  refine r_lload_n dX12_enters_8 rfl 1 rfl ?_
  refine r_last dX12_enters_9 k1 pb0 ?_
  refine r_aload_n dX12_enters_10 rfl 0 rfl ?_
  refine r_dup dX12_enters_11 rfl ?_
  refine r_getI ck10 dX12_enters_12 flX12_11 rfl k0 ?_
  refine r_iconst (v := (nI 1)) dX12_enters_15 rfl ?_
  refine r_iadd dX12_enters_16 ?_
  refine r_putI ck10 dX12_enters_17 flX12_11 rfl (Or.inl rfl) k0 ?_
  exact r_ret none dX12_enters_20 rfl pq1
-- X12_shown
theorem gX12_shown_0 {d : Nat} {Q : Option Value → Mem → Prop} {M : Mem} {a0 : Nat} {x1 : Int32} {x2 : Int32} (k0 : mK M a0 = 14) (k1 : mK M (mR M a0 5) = 1) (pb0 : vp_in (((nI 8) * x1) + x2) (mN M (mR M a0 5))) (pq1 : Q (some (.int (mI M (mR M a0 5) (((nI 8) * x1) + x2).toNatClampNeg))) M) : Wp d mdX12_shown 0 [(0, .ref a0), (1, .int x1), (2, .int x2)] [] M Q := by
  refine r_aload_n dX12_shown_0 rfl 0 rfl ?_
  refine r_getR ck10 dX12_shown_1 flX12_14 rfl k0 ?_
  refine r_bipush (v := (nI 8)) dX12_shown_4 rfl ?_
  refine r_iload_n dX12_shown_6 rfl 1 rfl ?_
  refine r_imul dX12_shown_7 ?_
  refine r_iload_n dX12_shown_8 rfl 2 rfl ?_
  refine r_iadd dX12_shown_9 ?_
  refine r_iald dX12_shown_10 k1 pb0 ?_
  exact r_ret (some (.int (mI M (mR M a0 5) (((nI 8) * x1) + x2).toNatClampNeg))) dX12_shown_11 rfl pq1
-- X12_comes
theorem gX12_comes_0 {d : Nat} {Q : Option Value → Mem → Prop} {M : Mem} {a0 : Nat} {x1 : Int32} {x2 : Int32} {x3 : Int32} (k0 : mK M a0 = 14) (k1 : mK M (mR M a0 6) = 1) (pb0 : vp_in (((nI 3) * (((nI 8) * x1) + x2)) + x3) (mN M (mR M a0 6))) (pq1 : Q (some (.int (mI M (mR M a0 6) (((nI 3) * (((nI 8) * x1) + x2)) + x3).toNatClampNeg))) M) : Wp d mdX12_comes 0 [(0, .ref a0), (1, .int x1), (2, .int x2), (3, .int x3)] [] M Q := by
  refine r_aload_n dX12_comes_0 rfl 0 rfl ?_
  refine r_getR ck10 dX12_comes_1 flX12_18 rfl k0 ?_
  refine r_iconst (v := (nI 3)) dX12_comes_4 rfl ?_
  refine r_bipush (v := (nI 8)) dX12_comes_5 rfl ?_
  refine r_iload_n dX12_comes_7 rfl 1 rfl ?_
  refine r_imul dX12_comes_8 ?_
  refine r_iload_n dX12_comes_9 rfl 2 rfl ?_
  refine r_iadd dX12_comes_10 ?_
  refine r_imul dX12_comes_11 ?_
  refine r_iload_n dX12_comes_12 rfl 3 rfl ?_
  refine r_iadd dX12_comes_13 ?_
  refine r_iald dX12_comes_14 k1 pb0 ?_
  exact r_ret (some (.int (mI M (mR M a0 6) (((nI 3) * (((nI 8) * x1) + x2)) + x3).toNatClampNeg))) dX12_comes_15 rfl pq1
-- X12_isState
theorem gX12_isState_0 {d : Nat} {Q : Option Value → Mem → Prop} {M : Mem} {a0 : Nat} {x1 : Int32} {x2 : Int32} (k0 : mK M a0 = 14) (k1 : mK M (mR M a0 4) = 1) (pb0 : vp_in x1 (mN M (mR M a0 4))) (pf1 : ClD d mdX12_in [.long x2.toInt64, .long (lN 0), .long (((mI M (mR M a0 4) x1.toNatClampNeg) - (nI 1)).toInt64)] M (fun r1 M1 => Wp d mdX12_isState 15 [] (r1.toList ++ []) M1 Q)) : Wp d mdX12_isState 0 [(0, .ref a0), (1, .int x1), (2, .int x2)] [] M Q := by
  refine r_iload_n dX12_isState_0 rfl 2 rfl ?_
  refine r_i2l dX12_isState_1 ?_
  refine r_lconst (v := (lN 0)) dX12_isState_2 rfl ?_
  refine r_aload_n dX12_isState_3 rfl 0 rfl ?_
  refine r_getR ck10 dX12_isState_4 flX12_21 rfl k0 ?_
  refine r_iload_n dX12_isState_7 rfl 1 rfl ?_
  refine r_iald dX12_isState_8 k1 pb0 ?_
  refine r_iconst (v := (nI 1)) dX12_isState_9 rfl ?_
  refine r_isub dX12_isState_10 ?_
  refine r_i2l dX12_isState_11 ?_
  refine r_sub [] (ls' := []) rfl ?_
  obtain ⟨e9, hlt, h9⟩ := pf1
  exact r_callS (As := [.long x2.toInt64, .long (lN 0), .long (((mI M (mR M a0 4) x1.toNatClampNeg) - (nI 1)).toInt64)]) (rest := []) moX12_in dX12_isState_12 mlX12_24 saX12_in rfl hlt (Nat.le_of_ble_eq_true rfl) h9
theorem gX12_isState_15 {d : Nat} {Q : Option Value → Mem → Prop} {M : Mem} {sx0 : Int32}  (pq0 : Q (some (.int sx0)) M) : Wp d mdX12_isState 15 [] [.int sx0] M Q := by
  exact r_ret (some (.int sx0)) dX12_isState_15 rfl pq0
-- X12_lengthOf
theorem gX12_lengthOf_0 {d : Nat} {Q : Option Value → Mem → Prop} {M : Mem} {w0 : Int64}  (pw0 : Wp d mdX12_lengthOf 4 [(2, .int (nI 0)), (3, .long w0)] [] M Q) : Wp d mdX12_lengthOf 0 [(0, .long w0)] [] M Q := by
  refine r_iconst (v := (nI 0)) dX12_lengthOf_0 rfl ?_
  refine r_istore_n dX12_lengthOf_1 rfl (by decide) (ls' := [(2, .int (nI 0)), (0, .long w0)]) rfl ?_
  refine r_lload_n dX12_lengthOf_2 rfl 1 rfl ?_
  refine r_lstore_n dX12_lengthOf_3 rfl (by decide) (ls' := [(3, .long w0), (2, .int (nI 0)), (0, .long w0)]) rfl ?_
  refine r_sub [1, 0] (ls' := [(2, .int (nI 0)), (3, .long w0)]) rfl ?_
  exact pw0
theorem gX12_lengthOf_4 {d : Nat} {Q : Option Value → Mem → Prop} {M : Mem} {x2 : Int32} {w3 : Int64}  (pq0 : w3 ≤ (lN 3) → Q (some (.int x2)) M) (pw1 : ¬ w3 ≤ (lN 3) → Wp d mdX12_lengthOf 4 [(2, .int (x2 + (nI 1))), (3, .long (w3 >>> ((nI 2).toInt64 &&& 63)))] [] M Q) : Wp d mdX12_lengthOf 4 [(2, .int x2), (3, .long w3)] [] M Q := by
  refine r_lload_n dX12_lengthOf_4 rfl 1 rfl ?_
  refine r_ldc2 dX12_lengthOf_5 kwX12_28 ?_
  refine r_lif_le (tgt := 22) dX12_lengthOf_8 dX12_lengthOf_9 (by decide) (fun c0 => ?_) (fun c0 => ?_)
  · skip
    refine r_iload_n dX12_lengthOf_22 rfl 0 rfl ?_
    exact r_ret (some (.int x2)) dX12_lengthOf_23 rfl (pq0 c0)
  · skip
    refine r_iinc dX12_lengthOf_12 0 rfl (v := x2 + (nI 1)) rfl (by decide) (ls' := [(2, .int (x2 + (nI 1))), (3, .long w3)]) rfl ?_
    refine r_lload_n dX12_lengthOf_15 rfl 1 rfl ?_
    refine r_iconst (v := (nI 2)) dX12_lengthOf_16 rfl ?_
    refine r_lshr dX12_lengthOf_17 ?_
    refine r_lstore_n dX12_lengthOf_18 rfl (by decide) (ls' := [(3, .long (w3 >>> ((nI 2).toInt64 &&& 63))), (2, .int (x2 + (nI 1)))]) rfl ?_
    refine r_goto (tgt := 4) dX12_lengthOf_19 (by decide) ?_
    refine r_sub [1, 0] (ls' := [(2, .int (x2 + (nI 1))), (3, .long (w3 >>> ((nI 2).toInt64 &&& 63)))]) rfl ?_
    exact (pw1 c0)
-- X12_letterOf
theorem gX12_letterOf_0 {d : Nat} {Q : Option Value → Mem → Prop} {M : Mem} {w0 : Int64} {x2 : Int32} {x3 : Int32}  (pq0 : Q (some (.int (((w0 >>> (((nI 2) * ((x2 - (nI 1)) - x3)).toInt64 &&& 63)) &&& (lN 3)).toInt32))) M) : Wp d mdX12_letterOf 0 [(0, .long w0), (2, .int x2), (3, .int x3)] [] M Q := by
  refine r_lload_n dX12_letterOf_0 rfl 0 rfl ?_
  refine r_iconst (v := (nI 2)) dX12_letterOf_1 rfl ?_
  refine r_iload_n dX12_letterOf_2 rfl 1 rfl ?_
  refine r_iconst (v := (nI 1)) dX12_letterOf_3 rfl ?_
  refine r_isub dX12_letterOf_4 ?_
  refine r_iload_n dX12_letterOf_5 rfl 2 rfl ?_
  refine r_isub dX12_letterOf_6 ?_
  refine r_imul dX12_letterOf_7 ?_
  refine r_lshr dX12_letterOf_8 ?_
  refine r_ldc2 dX12_letterOf_9 kwX12_28 ?_
  refine r_land dX12_letterOf_12 ?_
  refine r_l2i dX12_letterOf_13 ?_
  exact r_ret (some (.int (((w0 >>> (((nI 2) * ((x2 - (nI 1)) - x3)).toInt64 &&& 63)) &&& (lN 3)).toInt32))) dX12_letterOf_14 rfl pq0
-- X12_isWord
theorem gX12_isWord_0 {d : Nat} {Q : Option Value → Mem → Prop} {M : Mem} {a0 : Nat} {w1 : Int64}  (pw0 : (lN 1) ≤ w1 → Wp d mdX12_isWord 13 [(0, .ref a0), (3, .int (nI 0)), (4, .long w1)] [] M Q) (pq1 : ¬ (lN 1) ≤ w1 → Q (some (.int (nI 0))) M) : Wp d mdX12_isWord 0 [(0, .ref a0), (1, .long w1)] [] M Q := by
  refine r_lload_n dX12_isWord_0 rfl 1 rfl ?_
  refine r_lconst (v := (lN 1)) dX12_isWord_1 rfl ?_
  refine r_lif_ge (tgt := 8) dX12_isWord_2 dX12_isWord_3 (by decide) (fun c0 => ?_) (fun c0 => ?_)
  · skip
    refine r_iconst (v := (nI 0)) dX12_isWord_8 rfl ?_
    refine r_istore_n dX12_isWord_9 rfl (by decide) (ls' := [(3, .int (nI 0)), (0, .ref a0), (1, .long w1)]) rfl ?_
    refine r_lload_n dX12_isWord_10 rfl 2 rfl ?_
    refine r_lstore dX12_isWord_11 (by decide) (ls' := [(4, .long w1), (3, .int (nI 0)), (0, .ref a0), (1, .long w1)]) rfl ?_
    refine r_sub [2, 1, 0] (ls' := [(0, .ref a0), (3, .int (nI 0)), (4, .long w1)]) rfl ?_
    exact (pw0 c0)
  · skip
    refine r_iconst (v := (nI 0)) dX12_isWord_6 rfl ?_
    exact r_ret (some (.int (nI 0))) dX12_isWord_7 rfl (pq1 c0)
theorem gX12_isWord_13 {d : Nat} {Q : Option Value → Mem → Prop} {M : Mem} {a0 : Nat} {x3 : Int32} {w4 : Int64} (k0 : mK M a0 = 14) (pq0 : w4 ≤ (lN 3) → ¬ w4 = (lN 1) → Q (some (.int (nI 0))) M) (pq1 : w4 ≤ (lN 3) → w4 = (lN 1) → (nI 30) < x3 → Q (some (.int (nI 0))) M) (pq2 : w4 ≤ (lN 3) → w4 = (lN 1) → ¬ (nI 30) < x3 → Q (some (.int (nI 1))) M) (pw3 : ¬ w4 ≤ (lN 3) → (w4 &&& (lN 3)) < ((mI M a0 3).toInt64) → Wp d mdX12_isWord 13 [(0, .ref a0), (3, .int (x3 + (nI 1))), (4, .long (w4 >>> ((nI 2).toInt64 &&& 63)))] [] M Q) (pq4 : ¬ w4 ≤ (lN 3) → ¬ (w4 &&& (lN 3)) < ((mI M a0 3).toInt64) → Q (some (.int (nI 0))) M) : Wp d mdX12_isWord 13 [(0, .ref a0), (3, .int x3), (4, .long w4)] [] M Q := by
  refine r_lload dX12_isWord_13 2 rfl ?_
  refine r_ldc2 dX12_isWord_15 kwX12_28 ?_
  refine r_lif_le (tgt := 51) dX12_isWord_18 dX12_isWord_19 (by decide) (fun c0 => ?_) (fun c0 => ?_)
  · skip
    refine r_lload dX12_isWord_51 2 rfl ?_
    refine r_lconst (v := (lN 1)) dX12_isWord_53 rfl ?_
    refine r_lif_ne (tgt := 68) dX12_isWord_54 dX12_isWord_55 (by decide) (fun c1 => ?_) (fun c1 => ?_)
    · skip
      refine r_iconst (v := (nI 0)) dX12_isWord_68 rfl ?_
      exact r_ret (some (.int (nI 0))) dX12_isWord_69 rfl (pq0 c0 c1)
    · skip
      refine r_iload_n dX12_isWord_58 rfl 1 rfl ?_
      refine r_bipush (v := (nI 30)) dX12_isWord_59 rfl ?_
      refine r_icmp_gt (tgt := 68) dX12_isWord_61 (by decide) (fun c2 => ?_) (fun c2 => ?_)
      · skip
        refine r_iconst (v := (nI 0)) dX12_isWord_68 rfl ?_
        exact r_ret (some (.int (nI 0))) dX12_isWord_69 rfl (pq1 c0 c1 c2)
      · skip
        refine r_iconst (v := (nI 1)) dX12_isWord_64 rfl ?_
        refine r_goto (tgt := 69) dX12_isWord_65 (by decide) ?_
        exact r_ret (some (.int (nI 1))) dX12_isWord_69 rfl (pq2 c0 c1 c2)
  · skip
    refine r_lload dX12_isWord_22 2 rfl ?_
    refine r_ldc2 dX12_isWord_24 kwX12_28 ?_
    refine r_land dX12_isWord_27 ?_
    refine r_aload_n dX12_isWord_28 rfl 0 rfl ?_
    refine r_getI ck10 dX12_isWord_29 flX12_30 rfl k0 ?_
    refine r_i2l dX12_isWord_32 ?_
    refine r_lif_lt (tgt := 39) dX12_isWord_33 dX12_isWord_34 (by decide) (fun c1 => ?_) (fun c1 => ?_)
    · skip
      refine r_lload dX12_isWord_39 2 rfl ?_
      refine r_iconst (v := (nI 2)) dX12_isWord_41 rfl ?_
      refine r_lshr dX12_isWord_42 ?_
      refine r_lstore dX12_isWord_43 (by decide) (ls' := [(4, .long (w4 >>> ((nI 2).toInt64 &&& 63))), (0, .ref a0), (3, .int x3)]) rfl ?_
      refine r_iinc dX12_isWord_45 2 rfl (v := x3 + (nI 1)) rfl (by decide) (ls' := [(3, .int (x3 + (nI 1))), (4, .long (w4 >>> ((nI 2).toInt64 &&& 63))), (0, .ref a0)]) rfl ?_
      refine r_goto (tgt := 13) dX12_isWord_48 (by decide) ?_
      refine r_sub [2, 0, 1] (ls' := [(0, .ref a0), (3, .int (x3 + (nI 1))), (4, .long (w4 >>> ((nI 2).toInt64 &&& 63)))]) rfl ?_
      exact (pw3 c0 c1)
    · skip
      refine r_iconst (v := (nI 0)) dX12_isWord_37 rfl ?_
      exact r_ret (some (.int (nI 0))) dX12_isWord_38 rfl (pq4 c0 c1)
-- X12_both
theorem gX12_both_0 {d : Nat} {Q : Option Value → Mem → Prop} {M : Mem} {w0 : Int64} {w2 : Int64}  (pf0 : ClD d mdX12_lengthOf [.long w2] M (fun r1 M1 => Wp d mdX12_both 4 [(0, .long w0), (2, .long w2)] (r1.toList ++ []) M1 Q)) : Wp d mdX12_both 0 [(0, .long w0), (2, .long w2)] [] M Q := by
  refine r_lload_n dX12_both_0 rfl 1 rfl ?_
  obtain ⟨e9, hlt, h9⟩ := pf0
  exact r_callS (As := [.long w2]) (rest := []) moX12_lengthOf dX12_both_1 mlX12_33 saX12_lengthOf rfl hlt (Nat.le_of_ble_eq_true rfl) h9
theorem gX12_both_4 {d : Nat} {Q : Option Value → Mem → Prop} {M : Mem} {w0 : Int64} {w2 : Int64} {sx0 : Int32}  (pq0 : Q (some (.long ((w0 <<< (((nI 2) * sx0).toInt64 &&& 63)) + (w2 - ((lN 1) <<< (((nI 2) * sx0).toInt64 &&& 63)))))) M) : Wp d mdX12_both 4 [(0, .long w0), (2, .long w2)] [.int sx0] M Q := by
  refine r_istore dX12_both_4 (by decide) (ls' := [(4, .int sx0), (0, .long w0), (2, .long w2)]) rfl ?_
  refine r_lload_n dX12_both_6 rfl 1 rfl ?_
  refine r_iconst (v := (nI 2)) dX12_both_7 rfl ?_
  refine r_iload dX12_both_8 0 rfl ?_
  refine r_imul dX12_both_10 ?_
  refine r_lshl dX12_both_11 ?_
  refine r_lload_n dX12_both_12 rfl 2 rfl ?_
  refine r_lconst (v := (lN 1)) dX12_both_13 rfl ?_
  refine r_iconst (v := (nI 2)) dX12_both_14 rfl ?_
  refine r_iload dX12_both_15 0 rfl ?_
  refine r_imul dX12_both_17 ?_
  refine r_lshl dX12_both_18 ?_
  refine r_lsub dX12_both_19 ?_
  refine r_ladd dX12_both_20 ?_
  exact r_ret (some (.long ((w0 <<< (((nI 2) * sx0).toInt64 &&& 63)) + (w2 - ((lN 1) <<< (((nI 2) * sx0).toInt64 &&& 63)))))) dX12_both_21 rfl pq0
-- X12_longer
theorem gX12_longer_0 {d : Nat} {Q : Option Value → Mem → Prop} {M : Mem} {w0 : Int64} {x2 : Int32}  (pq0 : Q (some (.long (((lN 4) * w0) + x2.toInt64))) M) : Wp d mdX12_longer 0 [(0, .long w0), (2, .int x2)] [] M Q := by
  refine r_ldc2 dX12_longer_0 kwX12_37 ?_
  refine r_lload_n dX12_longer_3 rfl 0 rfl ?_
  refine r_lmul dX12_longer_4 ?_
  refine r_iload_n dX12_longer_5 rfl 1 rfl ?_
  refine r_i2l dX12_longer_6 ?_
  refine r_ladd dX12_longer_7 ?_
  exact r_ret (some (.long (((lN 4) * w0) + x2.toInt64))) dX12_longer_8 rfl pq0
-- X12_firstOf
theorem gX12_firstOf_0 {d : Nat} {Q : Option Value → Mem → Prop} {M : Mem} {w0 : Int64} {x2 : Int32}  (pf0 : ClD d mdX12_lengthOf [.long w0] M (fun r1 M1 => Wp d mdX12_firstOf 6 [(2, .int x2)] (r1.toList ++ [.int (nI 2), .long w0]) M1 Q)) : Wp d mdX12_firstOf 0 [(0, .long w0), (2, .int x2)] [] M Q := by
  refine r_lload_n dX12_firstOf_0 rfl 0 rfl ?_
  refine r_iconst (v := (nI 2)) dX12_firstOf_1 rfl ?_
  refine r_lload_n dX12_firstOf_2 rfl 0 rfl ?_
  refine r_sub [1] (ls' := [(2, .int x2)]) rfl ?_
  obtain ⟨e9, hlt, h9⟩ := pf0
  exact r_callS (As := [.long w0]) (rest := [.int (nI 2), .long w0]) moX12_lengthOf dX12_firstOf_3 mlX12_33 saX12_lengthOf rfl hlt (Nat.le_of_ble_eq_true rfl) h9
theorem gX12_firstOf_6 {d : Nat} {Q : Option Value → Mem → Prop} {M : Mem} {x2 : Int32} {sx0 : Int32} {sx1 : Int32} {sw2 : Int64}  (pq0 : Q (some (.long (sw2 >>> ((sx1 * (sx0 - x2)).toInt64 &&& 63)))) M) : Wp d mdX12_firstOf 6 [(2, .int x2)] [.int sx0, .int sx1, .long sw2] M Q := by
  refine r_iload_n dX12_firstOf_6 rfl 0 rfl ?_
  refine r_isub dX12_firstOf_7 ?_
  refine r_imul dX12_firstOf_8 ?_
  refine r_lshr dX12_firstOf_9 ?_
  exact r_ret (some (.long (sw2 >>> ((sx1 * (sx0 - x2)).toInt64 &&& 63)))) dX12_firstOf_10 rfl pq0
-- X12_behind
theorem gX12_behind_0 {d : Nat} {Q : Option Value → Mem → Prop} {M : Mem} {w0 : Int64} {x2 : Int32}  (pf0 : ClD d mdX12_lengthOf [.long w0] M (fun r1 M1 => Wp d mdX12_behind 4 [(0, .long w0), (2, .int x2)] (r1.toList ++ []) M1 Q)) : Wp d mdX12_behind 0 [(0, .long w0), (2, .int x2)] [] M Q := by
  refine r_lload_n dX12_behind_0 rfl 0 rfl ?_
  obtain ⟨e9, hlt, h9⟩ := pf0
  exact r_callS (As := [.long w0]) (rest := []) moX12_lengthOf dX12_behind_1 mlX12_33 saX12_lengthOf rfl hlt (Nat.le_of_ble_eq_true rfl) h9
theorem gX12_behind_4 {d : Nat} {Q : Option Value → Mem → Prop} {M : Mem} {w0 : Int64} {x2 : Int32} {sx0 : Int32}  (pq0 : Q (some (.long ((w0 &&& (((lN 1) <<< (((nI 2) * (sx0 - x2)).toInt64 &&& 63)) - (lN 1))) + ((lN 1) <<< (((nI 2) * (sx0 - x2)).toInt64 &&& 63))))) M) : Wp d mdX12_behind 4 [(0, .long w0), (2, .int x2)] [.int sx0] M Q := by
  refine r_iload_n dX12_behind_4 rfl 1 rfl ?_
  refine r_isub dX12_behind_5 ?_
  refine r_istore_n dX12_behind_6 rfl (by decide) (ls' := [(3, .int (sx0 - x2)), (0, .long w0), (2, .int x2)]) rfl ?_
  refine r_lload_n dX12_behind_7 rfl 1 rfl ?_
  refine r_lconst (v := (lN 1)) dX12_behind_8 rfl ?_
  refine r_iconst (v := (nI 2)) dX12_behind_9 rfl ?_
  refine r_iload_n dX12_behind_10 rfl 0 rfl ?_
  refine r_imul dX12_behind_11 ?_
  refine r_lshl dX12_behind_12 ?_
  refine r_lconst (v := (lN 1)) dX12_behind_13 rfl ?_
  refine r_lsub dX12_behind_14 ?_
  refine r_land dX12_behind_15 ?_
  refine r_lconst (v := (lN 1)) dX12_behind_16 rfl ?_
  refine r_iconst (v := (nI 2)) dX12_behind_17 rfl ?_
  refine r_iload_n dX12_behind_18 rfl 0 rfl ?_
  refine r_imul dX12_behind_19 ?_
  refine r_lshl dX12_behind_20 ?_
  refine r_ladd dX12_behind_21 ?_
  exact r_ret (some (.long ((w0 &&& (((lN 1) <<< (((nI 2) * (sx0 - x2)).toInt64 &&& 63)) - (lN 1))) + ((lN 1) <<< (((nI 2) * (sx0 - x2)).toInt64 &&& 63))))) dX12_behind_22 rfl pq0
-- X12_endFrom
theorem gX12_endFrom_0 {d : Nat} {Q : Option Value → Mem → Prop} {M : Mem} {a0 : Nat} {x1 : Int32} {x2 : Int32} {w3 : Int64}  (pf0 : ClD d mdX12_lengthOf [.long w3] M (fun r1 M1 => Wp d mdX12_endFrom 4 [(0, .ref a0), (1, .int x1), (2, .int x2), (3, .long w3)] (r1.toList ++ []) M1 Q)) : Wp d mdX12_endFrom 0 [(0, .ref a0), (1, .int x1), (2, .int x2), (3, .long w3)] [] M Q := by
  refine r_lload_n dX12_endFrom_0 rfl 3 rfl ?_
  obtain ⟨e9, hlt, h9⟩ := pf0
  exact r_callS (As := [.long w3]) (rest := []) moX12_lengthOf dX12_endFrom_1 mlX12_33 saX12_lengthOf rfl hlt (Nat.le_of_ble_eq_true rfl) h9
theorem gX12_endFrom_4 {d : Nat} {Q : Option Value → Mem → Prop} {M : Mem} {a0 : Nat} {x1 : Int32} {x2 : Int32} {w3 : Int64} {sx0 : Int32}  (pw0 : Wp d mdX12_endFrom 12 [(0, .ref a0), (1, .int x1), (3, .long w3), (5, .int sx0), (6, .int x2), (7, .int (nI 0))] [] M Q) : Wp d mdX12_endFrom 4 [(0, .ref a0), (1, .int x1), (2, .int x2), (3, .long w3)] [.int sx0] M Q := by
  refine r_istore dX12_endFrom_4 (by decide) (ls' := [(5, .int sx0), (0, .ref a0), (1, .int x1), (2, .int x2), (3, .long w3)]) rfl ?_
  refine r_iload_n dX12_endFrom_6 rfl 3 rfl ?_
  refine r_istore dX12_endFrom_7 (by decide) (ls' := [(6, .int x2), (5, .int sx0), (0, .ref a0), (1, .int x1), (2, .int x2), (3, .long w3)]) rfl ?_
  refine r_iconst (v := (nI 0)) dX12_endFrom_9 rfl ?_
  refine r_istore dX12_endFrom_10 (by decide) (ls' := [(7, .int (nI 0)), (6, .int x2), (5, .int sx0), (0, .ref a0), (1, .int x1), (2, .int x2), (3, .long w3)]) rfl ?_
  refine r_sub [3, 4, 6, 2, 1, 0] (ls' := [(0, .ref a0), (1, .int x1), (3, .long w3), (5, .int sx0), (6, .int x2), (7, .int (nI 0))]) rfl ?_
  exact pw0
theorem gX12_endFrom_12 {d : Nat} {Q : Option Value → Mem → Prop} {M : Mem} {a0 : Nat} {x1 : Int32} {w3 : Int64} {x5 : Int32} {x6 : Int32} {x7 : Int32}  (pq0 : x5 ≤ x7 → Q (some (.int x6)) M) (pf1 : ¬ x5 ≤ x7 → ClD d mdX12_letterOf [.long w3, .int x5, .int x7] M (fun r1 M1 => Wp d mdX12_endFrom 31 [(0, .ref a0), (1, .int x1), (3, .long w3), (5, .int x5), (7, .int x7)] (r1.toList ++ [.int x6, .int x1, .ref a0]) M1 Q)) : Wp d mdX12_endFrom 12 [(0, .ref a0), (1, .int x1), (3, .long w3), (5, .int x5), (6, .int x6), (7, .int x7)] [] M Q := by
  refine r_iload dX12_endFrom_12 5 rfl ?_
  refine r_iload dX12_endFrom_14 3 rfl ?_
  refine r_icmp_ge (tgt := 42) dX12_endFrom_16 (by decide) (fun c0 => ?_) (fun c0 => ?_)
  · skip
    refine r_iload dX12_endFrom_42 4 rfl ?_
    exact r_ret (some (.int x6)) dX12_endFrom_44 rfl (pq0 c0)
  · skip
    refine r_aload_n dX12_endFrom_19 rfl 0 rfl ?_
    refine r_iload_n dX12_endFrom_20 rfl 1 rfl ?_
    refine r_iload dX12_endFrom_21 4 rfl ?_
    refine r_lload_n dX12_endFrom_23 rfl 2 rfl ?_
    refine r_iload dX12_endFrom_24 3 rfl ?_
    refine r_iload dX12_endFrom_26 5 rfl ?_
    refine r_sub [0, 1, 2, 3, 5] (ls' := [(0, .ref a0), (1, .int x1), (3, .long w3), (5, .int x5), (7, .int x7)]) rfl ?_
    obtain ⟨e9, hlt, h9⟩ := (pf1 c0)
    exact r_callS (As := [.long w3, .int x5, .int x7]) (rest := [.int x6, .int x1, .ref a0]) moX12_letterOf dX12_endFrom_28 mlX12_39 saX12_letterOf rfl hlt (Nat.le_of_ble_eq_true rfl) h9
theorem gX12_endFrom_31 {d : Nat} {Q : Option Value → Mem → Prop} {M : Mem} {a0 : Nat} {x1 : Int32} {w3 : Int64} {x5 : Int32} {x7 : Int32} {sx0 : Int32} {sx1 : Int32} {sx2 : Int32} {sa3 : Nat} (k0 : mK M sa3 = 14) (pf0 : ClD d mdX12_comes [.ref sa3, .int sx2, .int sx1, .int sx0] M (fun r1 M1 => Wp d mdX12_endFrom 34 [(0, .ref a0), (1, .int x1), (3, .long w3), (5, .int x5), (7, .int x7)] (r1.toList ++ []) M1 Q)) : Wp d mdX12_endFrom 31 [(0, .ref a0), (1, .int x1), (3, .long w3), (5, .int x5), (7, .int x7)] [.int sx0, .int sx1, .int sx2, .ref sa3] M Q := by
  obtain ⟨e9, hlt, h9⟩ := pf0
  exact r_callV (As := [.int sx2, .int sx1, .int sx0]) (rest := []) (ci := 10) moX12_comes dX12_endFrom_31 mlX12_43 imX12_comes seX12_comes k0 rfl hlt (Nat.le_of_ble_eq_true rfl) h9
theorem gX12_endFrom_34 {d : Nat} {Q : Option Value → Mem → Prop} {M : Mem} {a0 : Nat} {x1 : Int32} {w3 : Int64} {x5 : Int32} {x7 : Int32} {sx0 : Int32}  (pw0 : Wp d mdX12_endFrom 12 [(0, .ref a0), (1, .int x1), (3, .long w3), (5, .int x5), (6, .int sx0), (7, .int (x7 + (nI 1)))] [] M Q) : Wp d mdX12_endFrom 34 [(0, .ref a0), (1, .int x1), (3, .long w3), (5, .int x5), (7, .int x7)] [.int sx0] M Q := by
  refine r_istore dX12_endFrom_34 (by decide) (ls' := [(6, .int sx0), (0, .ref a0), (1, .int x1), (3, .long w3), (5, .int x5), (7, .int x7)]) rfl ?_
  refine r_iinc dX12_endFrom_36 5 rfl (v := x7 + (nI 1)) rfl (by decide) (ls' := [(7, .int (x7 + (nI 1))), (6, .int sx0), (0, .ref a0), (1, .int x1), (3, .long w3), (5, .int x5)]) rfl ?_
  refine r_goto (tgt := 12) dX12_endFrom_39 (by decide) ?_
  refine r_sub [2, 3, 4, 5, 1, 0] (ls' := [(0, .ref a0), (1, .int x1), (3, .long w3), (5, .int x5), (6, .int sx0), (7, .int (x7 + (nI 1)))]) rfl ?_
  exact pw0
-- X12_answer
theorem gX12_answer_0 {d : Nat} {Q : Option Value → Mem → Prop} {M : Mem} {a0 : Nat} {x1 : Int32} {w2 : Int64} (k0 : mK M a0 = 14) (pf0 : ClD d mdX12_endFrom [.ref a0, .int x1, .int (nI 0), .long w2] M (fun r1 M1 => Wp d mdX12_answer 9 [] (r1.toList ++ [.int x1, .ref a0]) M1 Q)) : Wp d mdX12_answer 0 [(0, .ref a0), (1, .int x1), (2, .long w2)] [] M Q := by
  refine r_aload_n dX12_answer_0 rfl 0 rfl ?_
  refine r_iload_n dX12_answer_1 rfl 1 rfl ?_
  refine r_aload_n dX12_answer_2 rfl 0 rfl ?_
  refine r_iload_n dX12_answer_3 rfl 1 rfl ?_
  refine r_iconst (v := (nI 0)) dX12_answer_4 rfl ?_
  refine r_lload_n dX12_answer_5 rfl 2 rfl ?_
  refine r_sub [] (ls' := []) rfl ?_
  obtain ⟨e9, hlt, h9⟩ := pf0
  exact r_callV (As := [.int x1, .int (nI 0), .long w2]) (rest := [.int x1, .ref a0]) (ci := 10) moX12_endFrom dX12_answer_6 mlX12_47 imX12_endFrom seX12_endFrom k0 rfl hlt (Nat.le_of_ble_eq_true rfl) h9
theorem gX12_answer_9 {d : Nat} {Q : Option Value → Mem → Prop} {M : Mem} {sx0 : Int32} {sx1 : Int32} {sa2 : Nat} (k0 : mK M sa2 = 14) (pf0 : ClD d mdX12_shown [.ref sa2, .int sx1, .int sx0] M (fun r1 M1 => Wp d mdX12_answer 12 [] (r1.toList ++ []) M1 Q)) : Wp d mdX12_answer 9 [] [.int sx0, .int sx1, .ref sa2] M Q := by
  obtain ⟨e9, hlt, h9⟩ := pf0
  exact r_callV (As := [.int sx1, .int sx0]) (rest := []) (ci := 10) moX12_shown dX12_answer_9 mlX12_51 imX12_shown seX12_shown k0 rfl hlt (Nat.le_of_ble_eq_true rfl) h9
theorem gX12_answer_12 {d : Nat} {Q : Option Value → Mem → Prop} {M : Mem} {sx0 : Int32}  (pq0 : Q (some (.int sx0)) M) : Wp d mdX12_answer 12 [] [.int sx0] M Q := by
  exact r_ret (some (.int sx0)) dX12_answer_12 rfl pq0
-- X12_run
theorem gX12_run_0 {d : Nat} {Q : Option Value → Mem → Prop} {M : Mem} {a0 : Nat} {w1 : Int64} (k0 : mK M a0 = 14) (pf0 : ClD d mdX12_isWord [.ref a0, .long w1] (sI M a0 0 (nI 0)) (fun r1 M1 => Wp d mdX12_run 10 [(0, .ref a0), (1, .long w1)] (r1.toList ++ []) M1 Q)) : Wp d mdX12_run 0 [(0, .ref a0), (1, .long w1)] [] M Q := by
  refine r_aload_n dX12_run_0 rfl 0 rfl ?_
  refine r_iconst (v := (nI 0)) dX12_run_1 rfl ?_
  refine r_putI ck10 dX12_run_2 flX12_1 rfl (Or.inl rfl) k0 ?_
  refine r_aload_n dX12_run_5 rfl 0 rfl ?_
  refine r_lload_n dX12_run_6 rfl 1 rfl ?_
  obtain ⟨e9, hlt, h9⟩ := pf0
  exact r_callV (As := [.long w1]) (rest := []) (ci := 10) moX12_isWord dX12_run_7 mlX12_55 imX12_isWord seX12_isWord k0 rfl hlt (Nat.le_of_ble_eq_true rfl) h9
theorem gX12_run_10 {d : Nat} {Q : Option Value → Mem → Prop} {M : Mem} {a0 : Nat} {w1 : Int64} {sx0 : Int32} (k0 : mK M a0 = 14) (pq0 : sx0 = 0 → Q (some (.int (-1 : Int32))) M) (pf1 : ¬ sx0 = 0 → ClD d mdX12_endFrom [.ref a0, .int (nI 0), .int (nI 0), .long w1] M (fun r1 M1 => Wp d mdX12_run 20 [] (r1.toList ++ []) M1 Q)) : Wp d mdX12_run 10 [(0, .ref a0), (1, .long w1)] [.int sx0] M Q := by
  refine r_if_eq (tgt := 23) dX12_run_10 (by decide) (fun c0 => ?_) (fun c0 => ?_)
  · skip
    refine r_iconst (v := (-1)) dX12_run_23 rfl ?_
    exact r_ret (some (.int (-1 : Int32))) dX12_run_24 rfl (pq0 c0)
  · skip
    refine r_aload_n dX12_run_13 rfl 0 rfl ?_
    refine r_iconst (v := (nI 0)) dX12_run_14 rfl ?_
    refine r_iconst (v := (nI 0)) dX12_run_15 rfl ?_
    refine r_lload_n dX12_run_16 rfl 1 rfl ?_
    refine r_sub [] (ls' := []) rfl ?_
    obtain ⟨e9, hlt, h9⟩ := (pf1 c0)
    exact r_callV (As := [.int (nI 0), .int (nI 0), .long w1]) (rest := []) (ci := 10) moX12_endFrom dX12_run_17 mlX12_47 imX12_endFrom seX12_endFrom k0 rfl hlt (Nat.le_of_ble_eq_true rfl) h9
theorem gX12_run_20 {d : Nat} {Q : Option Value → Mem → Prop} {M : Mem} {sx0 : Int32}  (pq0 : Q (some (.int sx0)) M) : Wp d mdX12_run 20 [] [.int sx0] M Q := by
  refine r_goto (tgt := 24) dX12_run_20 (by decide) ?_
  exact r_ret (some (.int sx0)) dX12_run_24 rfl pq0
-- X12_joins
theorem gX12_joins_0 {d : Nat} {Q : Option Value → Mem → Prop} {M : Mem} {a0 : Nat} {w1 : Int64} {w3 : Int64} (k0 : mK M a0 = 14) (pf0 : ClD d mdX12_isWord [.ref a0, .long w1] (sI M a0 0 (nI 0)) (fun r1 M1 => Wp d mdX12_joins 10 [(0, .ref a0), (1, .long w1), (3, .long w3)] (r1.toList ++ []) M1 Q)) : Wp d mdX12_joins 0 [(0, .ref a0), (1, .long w1), (3, .long w3)] [] M Q := by
  refine r_aload_n dX12_joins_0 rfl 0 rfl ?_
  refine r_iconst (v := (nI 0)) dX12_joins_1 rfl ?_
  refine r_putI ck10 dX12_joins_2 flX12_1 rfl (Or.inl rfl) k0 ?_
  refine r_aload_n dX12_joins_5 rfl 0 rfl ?_
  refine r_lload_n dX12_joins_6 rfl 1 rfl ?_
  obtain ⟨e9, hlt, h9⟩ := pf0
  exact r_callV (As := [.long w1]) (rest := []) (ci := 10) moX12_isWord dX12_joins_7 mlX12_55 imX12_isWord seX12_isWord k0 rfl hlt (Nat.le_of_ble_eq_true rfl) h9
theorem gX12_joins_10 {d : Nat} {Q : Option Value → Mem → Prop} {M : Mem} {a0 : Nat} {w1 : Int64} {w3 : Int64} {sx0 : Int32} (k0 : mK M a0 = 14) (pq0 : sx0 = 0 → Q (some (.long (-1 : Int64))) M) (pf1 : ¬ sx0 = 0 → ClD d mdX12_isWord [.ref a0, .long w3] M (fun r1 M1 => Wp d mdX12_joins 18 [(1, .long w1), (3, .long w3)] (r1.toList ++ []) M1 Q)) : Wp d mdX12_joins 10 [(0, .ref a0), (1, .long w1), (3, .long w3)] [.int sx0] M Q := by
  refine r_if_eq (tgt := 35) dX12_joins_10 (by decide) (fun c0 => ?_) (fun c0 => ?_)
  · skip
    refine r_ldc2 dX12_joins_35 kwX12_59 ?_
    exact r_ret (some (.long (-1 : Int64))) dX12_joins_38 rfl (pq0 c0)
  · skip
    refine r_aload_n dX12_joins_13 rfl 0 rfl ?_
    refine r_lload_n dX12_joins_14 rfl 2 rfl ?_
    refine r_sub [1, 2] (ls' := [(1, .long w1), (3, .long w3)]) rfl ?_
    obtain ⟨e9, hlt, h9⟩ := (pf1 c0)
    exact r_callV (As := [.long w3]) (rest := []) (ci := 10) moX12_isWord dX12_joins_15 mlX12_55 imX12_isWord seX12_isWord k0 rfl hlt (Nat.le_of_ble_eq_true rfl) h9
theorem gX12_joins_18 {d : Nat} {Q : Option Value → Mem → Prop} {M : Mem} {w1 : Int64} {w3 : Int64} {sx0 : Int32}  (pq0 : sx0 = 0 → Q (some (.long (-1 : Int64))) M) (pf1 : ¬ sx0 = 0 → ClD d mdX12_lengthOf [.long w1] M (fun r1 M1 => Wp d mdX12_joins 25 [(1, .long w1), (3, .long w3)] (r1.toList ++ []) M1 Q)) : Wp d mdX12_joins 18 [(1, .long w1), (3, .long w3)] [.int sx0] M Q := by
  refine r_if_eq (tgt := 35) dX12_joins_18 (by decide) (fun c0 => ?_) (fun c0 => ?_)
  · skip
    refine r_ldc2 dX12_joins_35 kwX12_59 ?_
    exact r_ret (some (.long (-1 : Int64))) dX12_joins_38 rfl (pq0 c0)
  · skip
    refine r_lload_n dX12_joins_21 rfl 0 rfl ?_
    obtain ⟨e9, hlt, h9⟩ := (pf1 c0)
    exact r_callS (As := [.long w1]) (rest := []) moX12_lengthOf dX12_joins_22 mlX12_33 saX12_lengthOf rfl hlt (Nat.le_of_ble_eq_true rfl) h9
theorem gX12_joins_25 {d : Nat} {Q : Option Value → Mem → Prop} {M : Mem} {w1 : Int64} {w3 : Int64} {sx0 : Int32}  (pf0 : ClD d mdX12_lengthOf [.long w3] M (fun r1 M1 => Wp d mdX12_joins 29 [(1, .long w1), (3, .long w3)] (r1.toList ++ [.int sx0]) M1 Q)) : Wp d mdX12_joins 25 [(1, .long w1), (3, .long w3)] [.int sx0] M Q := by
  refine r_lload_n dX12_joins_25 rfl 1 rfl ?_
  obtain ⟨e9, hlt, h9⟩ := pf0
  exact r_callS (As := [.long w3]) (rest := [.int sx0]) moX12_lengthOf dX12_joins_26 mlX12_33 saX12_lengthOf rfl hlt (Nat.le_of_ble_eq_true rfl) h9
theorem gX12_joins_29 {d : Nat} {Q : Option Value → Mem → Prop} {M : Mem} {w1 : Int64} {w3 : Int64} {sx0 : Int32} {sx1 : Int32}  (pf0 : (sx1 + sx0) ≤ (nI 30) → ClD d mdX12_both [.long w1, .long w3] M (fun r1 M1 => Wp d mdX12_joins 44 [] (r1.toList ++ []) M1 Q)) (pq1 : ¬ (sx1 + sx0) ≤ (nI 30) → Q (some (.long (-1 : Int64))) M) : Wp d mdX12_joins 29 [(1, .long w1), (3, .long w3)] [.int sx0, .int sx1] M Q := by
  refine r_iadd dX12_joins_29 ?_
  refine r_bipush (v := (nI 30)) dX12_joins_30 rfl ?_
  refine r_icmp_le (tgt := 39) dX12_joins_32 (by decide) (fun c0 => ?_) (fun c0 => ?_)
  · skip
    refine r_lload_n dX12_joins_39 rfl 0 rfl ?_
    refine r_lload_n dX12_joins_40 rfl 1 rfl ?_
    refine r_sub [] (ls' := []) rfl ?_
    obtain ⟨e9, hlt, h9⟩ := (pf0 c0)
    exact r_callS (As := [.long w1, .long w3]) (rest := []) moX12_both dX12_joins_41 mlX12_61 saX12_both rfl hlt (Nat.le_of_ble_eq_true rfl) h9
  · skip
    refine r_ldc2 dX12_joins_35 kwX12_59 ?_
    exact r_ret (some (.long (-1 : Int64))) dX12_joins_38 rfl (pq1 c0)
theorem gX12_joins_44 {d : Nat} {Q : Option Value → Mem → Prop} {M : Mem} {sw0 : Int64}  (pq0 : Q (some (.long sw0)) M) : Wp d mdX12_joins 44 [] [.long sw0] M Q := by
  exact r_ret (some (.long sw0)) dX12_joins_44 rfl pq0
-- X12_letter
theorem gX12_letter_0 {d : Nat} {Q : Option Value → Mem → Prop} {M : Mem} {a0 : Nat} {w1 : Int64} {x3 : Int32} (k0 : mK M a0 = 14) (pf0 : ClD d mdX12_isWord [.ref a0, .long w1] (sI M a0 0 (nI 0)) (fun r1 M1 => Wp d mdX12_letter 10 [(1, .long w1), (3, .int x3)] (r1.toList ++ []) M1 Q)) : Wp d mdX12_letter 0 [(0, .ref a0), (1, .long w1), (3, .int x3)] [] M Q := by
  refine r_aload_n dX12_letter_0 rfl 0 rfl ?_
  refine r_iconst (v := (nI 0)) dX12_letter_1 rfl ?_
  refine r_putI ck10 dX12_letter_2 flX12_1 rfl (Or.inl rfl) k0 ?_
  refine r_aload_n dX12_letter_5 rfl 0 rfl ?_
  refine r_lload_n dX12_letter_6 rfl 1 rfl ?_
  refine r_sub [1, 2] (ls' := [(1, .long w1), (3, .int x3)]) rfl ?_
  obtain ⟨e9, hlt, h9⟩ := pf0
  exact r_callV (As := [.long w1]) (rest := []) (ci := 10) moX12_isWord dX12_letter_7 mlX12_55 imX12_isWord seX12_isWord k0 rfl hlt (Nat.le_of_ble_eq_true rfl) h9
theorem gX12_letter_10 {d : Nat} {Q : Option Value → Mem → Prop} {M : Mem} {w1 : Int64} {x3 : Int32} {sx0 : Int32}  (pf0 : ¬ sx0 = 0 → ClD d mdX12_lengthOf [.long w1] M (fun r1 M1 => Wp d mdX12_letter 19 [(1, .long w1), (3, .int x3)] (r1.toList ++ []) M1 Q)) (pq1 : sx0 = 0 → Q (some (.int (-1 : Int32))) M) : Wp d mdX12_letter 10 [(1, .long w1), (3, .int x3)] [.int sx0] M Q := by
  refine r_if_ne (tgt := 15) dX12_letter_10 (by decide) (fun c0 => ?_) (fun c0 => ?_)
  · skip
    refine r_lload_n dX12_letter_15 rfl 0 rfl ?_
    obtain ⟨e9, hlt, h9⟩ := (pf0 c0)
    exact r_callS (As := [.long w1]) (rest := []) moX12_lengthOf dX12_letter_16 mlX12_33 saX12_lengthOf rfl hlt (Nat.le_of_ble_eq_true rfl) h9
  · skip
    refine r_iconst (v := (-1)) dX12_letter_13 rfl ?_
    exact r_ret (some (.int (-1 : Int32))) dX12_letter_14 rfl (pq1 c0)
theorem gX12_letter_19 {d : Nat} {Q : Option Value → Mem → Prop} {M : Mem} {w1 : Int64} {x3 : Int32} {sx0 : Int32}  (pf0 : ¬ x3 = (-1 : Int32) → ClD d mdX12_in [.long x3.toInt64, .long (lN 0), .long ((sx0 - (nI 1)).toInt64)] M (fun r1 M1 => Wp d mdX12_letter 40 [(1, .long w1), (3, .int x3), (4, .int sx0)] (r1.toList ++ []) M1 Q)) (pq1 : x3 = (-1 : Int32) → Q (some (.int sx0)) M) : Wp d mdX12_letter 19 [(1, .long w1), (3, .int x3)] [.int sx0] M Q := by
  refine r_istore dX12_letter_19 (by decide) (ls' := [(4, .int sx0), (1, .long w1), (3, .int x3)]) rfl ?_
  refine r_iload_n dX12_letter_21 rfl 2 rfl ?_
  refine r_iconst (v := (-1)) dX12_letter_22 rfl ?_
  refine r_icmp_ne (tgt := 29) dX12_letter_23 (by decide) (fun c0 => ?_) (fun c0 => ?_)
  · skip
    refine r_iload_n dX12_letter_29 rfl 2 rfl ?_
    refine r_i2l dX12_letter_30 ?_
    refine r_lconst (v := (lN 0)) dX12_letter_31 rfl ?_
    refine r_iload dX12_letter_32 0 rfl ?_
    refine r_iconst (v := (nI 1)) dX12_letter_34 rfl ?_
    refine r_isub dX12_letter_35 ?_
    refine r_i2l dX12_letter_36 ?_
    refine r_sub [1, 2, 0] (ls' := [(1, .long w1), (3, .int x3), (4, .int sx0)]) rfl ?_
    obtain ⟨e9, hlt, h9⟩ := (pf0 c0)
    exact r_callS (As := [.long x3.toInt64, .long (lN 0), .long ((sx0 - (nI 1)).toInt64)]) (rest := []) moX12_in dX12_letter_37 mlX12_24 saX12_in rfl hlt (Nat.le_of_ble_eq_true rfl) h9
  · skip
    refine r_iload dX12_letter_26 0 rfl ?_
    exact r_ret (some (.int sx0)) dX12_letter_28 rfl (pq1 c0)
theorem gX12_letter_40 {d : Nat} {Q : Option Value → Mem → Prop} {M : Mem} {w1 : Int64} {x3 : Int32} {x4 : Int32} {sx0 : Int32}  (pq0 : sx0 = 0 → Q (some (.int (-1 : Int32))) M) (pf1 : ¬ sx0 = 0 → ClD d mdX12_letterOf [.long w1, .int x4, .int x3] M (fun r1 M1 => Wp d mdX12_letter 50 [] (r1.toList ++ []) M1 Q)) : Wp d mdX12_letter 40 [(1, .long w1), (3, .int x3), (4, .int x4)] [.int sx0] M Q := by
  refine r_if_eq (tgt := 53) dX12_letter_40 (by decide) (fun c0 => ?_) (fun c0 => ?_)
  · skip
    refine r_iconst (v := (-1)) dX12_letter_53 rfl ?_
    exact r_ret (some (.int (-1 : Int32))) dX12_letter_54 rfl (pq0 c0)
  · skip
    refine r_lload_n dX12_letter_43 rfl 0 rfl ?_
    refine r_iload dX12_letter_44 2 rfl ?_
    refine r_iload_n dX12_letter_46 rfl 1 rfl ?_
    refine r_sub [] (ls' := []) rfl ?_
    obtain ⟨e9, hlt, h9⟩ := (pf1 c0)
    exact r_callS (As := [.long w1, .int x4, .int x3]) (rest := []) moX12_letterOf dX12_letter_47 mlX12_39 saX12_letterOf rfl hlt (Nat.le_of_ble_eq_true rfl) h9
theorem gX12_letter_50 {d : Nat} {Q : Option Value → Mem → Prop} {M : Mem} {sx0 : Int32}  (pq0 : Q (some (.int sx0)) M) : Wp d mdX12_letter 50 [] [.int sx0] M Q := by
  refine r_goto (tgt := 54) dX12_letter_50 (by decide) ?_
  exact r_ret (some (.int sx0)) dX12_letter_54 rfl pq0
-- X12_cut
theorem gX12_cut_0 {d : Nat} {Q : Option Value → Mem → Prop} {M : Mem} {a0 : Nat} {w1 : Int64} {x3 : Int32} (k0 : mK M a0 = 14) (pf0 : ClD d mdX12_isWord [.ref a0, .long w1] (sI M a0 0 (nI 0)) (fun r1 M1 => Wp d mdX12_cut 10 [(1, .long w1), (3, .int x3)] (r1.toList ++ []) M1 Q)) : Wp d mdX12_cut 0 [(0, .ref a0), (1, .long w1), (3, .int x3)] [] M Q := by
  refine r_aload_n dX12_cut_0 rfl 0 rfl ?_
  refine r_iconst (v := (nI 0)) dX12_cut_1 rfl ?_
  refine r_putI ck10 dX12_cut_2 flX12_1 rfl (Or.inl rfl) k0 ?_
  refine r_aload_n dX12_cut_5 rfl 0 rfl ?_
  refine r_lload_n dX12_cut_6 rfl 1 rfl ?_
  refine r_sub [1, 2] (ls' := [(1, .long w1), (3, .int x3)]) rfl ?_
  obtain ⟨e9, hlt, h9⟩ := pf0
  exact r_callV (As := [.long w1]) (rest := []) (ci := 10) moX12_isWord dX12_cut_7 mlX12_55 imX12_isWord seX12_isWord k0 rfl hlt (Nat.le_of_ble_eq_true rfl) h9
theorem gX12_cut_10 {d : Nat} {Q : Option Value → Mem → Prop} {M : Mem} {w1 : Int64} {x3 : Int32} {sx0 : Int32} (hd1 : 1 ≤ d)  (pq0 : sx0 = 0 → Q (some (.long (-1 : Int64))) M) (pf1 : ¬ sx0 = 0 → ClD d mdX12_lengthOf [.long w1] M (fun r1 M1 => Wp d mdX12_cut 22 [(1, .long w1), (3, .int x3)] (r1.toList ++ [.long (jabs x3.toInt64)]) M1 Q)) : Wp d mdX12_cut 10 [(1, .long w1), (3, .int x3)] [.int sx0] M Q := by
  refine r_if_eq (tgt := 27) dX12_cut_10 (by decide) (fun c0 => ?_) (fun c0 => ?_)
  · skip
    refine r_ldc2 dX12_cut_27 kwX12_59 ?_
    exact r_ret (some (.long (-1 : Int64))) dX12_cut_30 rfl (pq0 c0)
  · skip
    refine r_iload_n dX12_cut_13 rfl 1 rfl ?_
    refine r_i2l dX12_cut_14 ?_
    refine r_math_abs dX12_cut_15 mlX12_65 hd1 (Nat.le_of_ble_eq_true rfl) ?_
    refine r_lload_n dX12_cut_18 rfl 0 rfl ?_
    obtain ⟨e9, hlt, h9⟩ := (pf1 c0)
    exact r_callS (As := [.long w1]) (rest := [.long (jabs x3.toInt64)]) moX12_lengthOf dX12_cut_19 mlX12_33 saX12_lengthOf rfl hlt (Nat.le_of_ble_eq_true rfl) h9
theorem gX12_cut_22 {d : Nat} {Q : Option Value → Mem → Prop} {M : Mem} {w1 : Int64} {x3 : Int32} {sx0 : Int32} {sw1 : Int64}  (pf0 : sw1 ≤ sx0.toInt64 → x3 < 0 → ClD d mdX12_behind [.long w1, .int (-x3)] M (fun r1 M1 => Wp d mdX12_cut 49 [] (r1.toList ++ []) M1 Q)) (pf1 : sw1 ≤ sx0.toInt64 → ¬ x3 < 0 → ClD d mdX12_firstOf [.long w1, .int x3] M (fun r1 M1 => Wp d mdX12_cut 40 [] (r1.toList ++ []) M1 Q)) (pq2 : ¬ sw1 ≤ sx0.toInt64 → Q (some (.long (-1 : Int64))) M) : Wp d mdX12_cut 22 [(1, .long w1), (3, .int x3)] [.int sx0, .long sw1] M Q := by
  refine r_i2l dX12_cut_22 ?_
  refine r_lif_le (tgt := 31) dX12_cut_23 dX12_cut_24 (by decide) (fun c0 => ?_) (fun c0 => ?_)
  · skip
    refine r_iload_n dX12_cut_31 rfl 1 rfl ?_
    refine r_if_lt (tgt := 43) dX12_cut_32 (by decide) (fun c1 => ?_) (fun c1 => ?_)
    · skip
      refine r_lload_n dX12_cut_43 rfl 0 rfl ?_
      refine r_iload_n dX12_cut_44 rfl 1 rfl ?_
      refine r_ineg dX12_cut_45 ?_
      refine r_sub [] (ls' := []) rfl ?_
      obtain ⟨e9, hlt, h9⟩ := (pf0 c0 c1)
      exact r_callS (As := [.long w1, .int (-x3)]) (rest := []) moX12_behind dX12_cut_46 mlX12_75 saX12_behind rfl hlt (Nat.le_of_ble_eq_true rfl) h9
    · skip
      refine r_lload_n dX12_cut_35 rfl 0 rfl ?_
      refine r_iload_n dX12_cut_36 rfl 1 rfl ?_
      refine r_sub [] (ls' := []) rfl ?_
      obtain ⟨e9, hlt, h9⟩ := (pf1 c0 c1)
      exact r_callS (As := [.long w1, .int x3]) (rest := []) moX12_firstOf dX12_cut_37 mlX12_71 saX12_firstOf rfl hlt (Nat.le_of_ble_eq_true rfl) h9
  · skip
    refine r_ldc2 dX12_cut_27 kwX12_59 ?_
    exact r_ret (some (.long (-1 : Int64))) dX12_cut_30 rfl (pq2 c0)
theorem gX12_cut_40 {d : Nat} {Q : Option Value → Mem → Prop} {M : Mem} {sw0 : Int64}  (pw0 : Wp d mdX12_cut 49 [] [.long sw0] M Q) : Wp d mdX12_cut 40 [] [.long sw0] M Q := by
  refine r_goto (tgt := 49) dX12_cut_40 (by decide) ?_
  exact pw0
theorem gX12_cut_49 {d : Nat} {Q : Option Value → Mem → Prop} {M : Mem} {sw0 : Int64}  (pq0 : Q (some (.long sw0)) M) : Wp d mdX12_cut 49 [] [.long sw0] M Q := by
  exact r_ret (some (.long sw0)) dX12_cut_49 rfl pq0
-- X12_word
theorem gX12_word_0 {d : Nat} {Q : Option Value → Mem → Prop} {M : Mem} {a0 : Nat} {x1 : Int32} (k0 : mK M a0 = 14) (pf0 : ClD d mdX12_in [.long x1.toInt64, .long (lN 0), .long (lN 1000000)] (sI M a0 0 (nI 0)) (fun r1 M1 => Wp d mdX12_word 14 [(0, .ref a0), (1, .int x1)] (r1.toList ++ []) M1 Q)) : Wp d mdX12_word 0 [(0, .ref a0), (1, .int x1)] [] M Q := by
  refine r_aload_n dX12_word_0 rfl 0 rfl ?_
  refine r_iconst (v := (nI 0)) dX12_word_1 rfl ?_
  refine r_putI ck10 dX12_word_2 flX12_1 rfl (Or.inl rfl) k0 ?_
  refine r_iload_n dX12_word_5 rfl 1 rfl ?_
  refine r_i2l dX12_word_6 ?_
  refine r_lconst (v := (lN 0)) dX12_word_7 rfl ?_
  refine r_ldc2 dX12_word_8 kwX12_78 ?_
  obtain ⟨e9, hlt, h9⟩ := pf0
  exact r_callS (As := [.long x1.toInt64, .long (lN 0), .long (lN 1000000)]) (rest := []) moX12_in dX12_word_11 mlX12_24 saX12_in rfl hlt (Nat.le_of_ble_eq_true rfl) h9
theorem gX12_word_14 {d : Nat} {Q : Option Value → Mem → Prop} {M : Mem} {a0 : Nat} {x1 : Int32} {sx0 : Int32}  (pw0 : ¬ sx0 = 0 → Wp d mdX12_word 28 [(0, .ref a0), (2, .int x1), (3, .int (nI 1)), (4, .int (nI 0))] [] M Q) (pq1 : sx0 = 0 → Q (some (.long (-1 : Int64))) M) : Wp d mdX12_word 14 [(0, .ref a0), (1, .int x1)] [.int sx0] M Q := by
  refine r_if_ne (tgt := 21) dX12_word_14 (by decide) (fun c0 => ?_) (fun c0 => ?_)
  · skip
    refine r_iload_n dX12_word_21 rfl 1 rfl ?_
    refine r_istore_n dX12_word_22 rfl (by decide) (ls' := [(2, .int x1), (0, .ref a0), (1, .int x1)]) rfl ?_
    refine r_iconst (v := (nI 1)) dX12_word_23 rfl ?_
    refine r_istore_n dX12_word_24 rfl (by decide) (ls' := [(3, .int (nI 1)), (2, .int x1), (0, .ref a0), (1, .int x1)]) rfl ?_
    refine r_iconst (v := (nI 0)) dX12_word_25 rfl ?_
    refine r_istore dX12_word_26 (by decide) (ls' := [(4, .int (nI 0)), (3, .int (nI 1)), (2, .int x1), (0, .ref a0), (1, .int x1)]) rfl ?_
    refine r_sub [3, 2, 1, 0] (ls' := [(0, .ref a0), (2, .int x1), (3, .int (nI 1)), (4, .int (nI 0))]) rfl ?_
    exact (pw0 c0)
  · skip
    refine r_ldc2 dX12_word_17 kwX12_59 ?_
    exact r_ret (some (.long (-1 : Int64))) dX12_word_20 rfl (pq1 c0)
theorem gX12_word_28 {d : Nat} {Q : Option Value → Mem → Prop} {M : Mem} {a0 : Nat} {x2 : Int32} {x3 : Int32} {x4 : Int32} (k0 : mK M a0 = 14) (pw0 : x2 < x3 → Wp d mdX12_word 67 [(0, .ref a0), (2, .int x2), (4, .int x4), (5, .long (lN 1)), (7, .int x3), (8, .int (nI 0))] [] M Q) (pw1 : ¬ x2 < x3 → (x4 + (nI 1)) ≤ (nI 30) → Wp d mdX12_word 28 [(0, .ref a0), (2, .int (x2 - x3)), (3, .int (x3 * (mI M a0 3))), (4, .int (x4 + (nI 1)))] [] M Q) (pq2 : ¬ x2 < x3 → ¬ (x4 + (nI 1)) ≤ (nI 30) → Q (some (.long (-1 : Int64))) M) : Wp d mdX12_word 28 [(0, .ref a0), (2, .int x2), (3, .int x3), (4, .int x4)] [] M Q := by
  refine r_iload_n dX12_word_28 rfl 1 rfl ?_
  refine r_iload_n dX12_word_29 rfl 2 rfl ?_
  refine r_icmp_lt (tgt := 58) dX12_word_30 (by decide) (fun c0 => ?_) (fun c0 => ?_)
  · skip
    refine r_lconst (v := (lN 1)) dX12_word_58 rfl ?_
    refine r_lstore dX12_word_59 (by decide) (ls' := [(5, .long (lN 1)), (0, .ref a0), (2, .int x2), (3, .int x3), (4, .int x4)]) rfl ?_
    refine r_iload_n dX12_word_61 rfl 3 rfl ?_
    refine r_istore dX12_word_62 (by decide) (ls' := [(7, .int x3), (5, .long (lN 1)), (0, .ref a0), (2, .int x2), (3, .int x3), (4, .int x4)]) rfl ?_
    refine r_iconst (v := (nI 0)) dX12_word_64 rfl ?_
    refine r_istore dX12_word_65 (by decide) (ls' := [(8, .int (nI 0)), (7, .int x3), (5, .long (lN 1)), (0, .ref a0), (2, .int x2), (3, .int x3), (4, .int x4)]) rfl ?_
    refine r_sub [3, 4, 6, 2, 1, 0] (ls' := [(0, .ref a0), (2, .int x2), (4, .int x4), (5, .long (lN 1)), (7, .int x3), (8, .int (nI 0))]) rfl ?_
    exact (pw0 c0)
  · skip
    refine r_iload_n dX12_word_33 rfl 1 rfl ?_
    refine r_iload_n dX12_word_34 rfl 2 rfl ?_
    refine r_isub dX12_word_35 ?_
    refine r_istore_n dX12_word_36 rfl (by decide) (ls' := [(2, .int (x2 - x3)), (0, .ref a0), (3, .int x3), (4, .int x4)]) rfl ?_
    refine r_iload_n dX12_word_37 rfl 2 rfl ?_
    refine r_aload_n dX12_word_38 rfl 1 rfl ?_
    refine r_getI ck10 dX12_word_39 flX12_30 rfl k0 ?_
    refine r_imul dX12_word_42 ?_
    refine r_istore_n dX12_word_43 rfl (by decide) (ls' := [(3, .int (x3 * (mI M a0 3))), (2, .int (x2 - x3)), (0, .ref a0), (4, .int x4)]) rfl ?_
    refine r_iinc dX12_word_44 3 rfl (v := x4 + (nI 1)) rfl (by decide) (ls' := [(4, .int (x4 + (nI 1))), (3, .int (x3 * (mI M a0 3))), (2, .int (x2 - x3)), (0, .ref a0)]) rfl ?_
    refine r_iload dX12_word_47 0 rfl ?_
    refine r_bipush (v := (nI 30)) dX12_word_49 rfl ?_
    refine r_icmp_le (tgt := 28) dX12_word_51 (by decide) (fun c1 => ?_) (fun c1 => ?_)
    · skip
      refine r_sub [3, 2, 1, 0] (ls' := [(0, .ref a0), (2, .int (x2 - x3)), (3, .int (x3 * (mI M a0 3))), (4, .int (x4 + (nI 1)))]) rfl ?_
      exact (pw1 c0 c1)
    · skip
      refine r_ldc2 dX12_word_54 kwX12_59 ?_
      exact r_ret (some (.long (-1 : Int64))) dX12_word_57 rfl (pq2 c0 c1)
theorem gX12_word_67 {d : Nat} {Q : Option Value → Mem → Prop} {M : Mem} {a0 : Nat} {x2 : Int32} {x4 : Int32} {w5 : Int64} {x7 : Int32} {x8 : Int32} (k0 : mK M a0 = 14) (pq0 : x4 ≤ x8 → Q (some (.long w5)) M) (pz1 : ¬ x4 ≤ x8 → ¬ (mI M a0 3) = 0) (pz2 : ¬ x4 ≤ x8 → ¬ (x7 / (mI M a0 3)) = 0) (pf3 : ¬ x4 ≤ x8 → ClD d mdX12_longer [.long w5, .int (x2 / (x7 / (mI M a0 3)))] M (fun r1 M1 => Wp d mdX12_word 92 [(0, .ref a0), (2, .int x2), (4, .int x4), (7, .int (x7 / (mI M a0 3))), (8, .int x8)] (r1.toList ++ []) M1 Q)) : Wp d mdX12_word 67 [(0, .ref a0), (2, .int x2), (4, .int x4), (5, .long w5), (7, .int x7), (8, .int x8)] [] M Q := by
  refine r_iload dX12_word_67 5 rfl ?_
  refine r_iload dX12_word_69 2 rfl ?_
  refine r_icmp_ge (tgt := 105) dX12_word_71 (by decide) (fun c0 => ?_) (fun c0 => ?_)
  · skip
    refine r_lload dX12_word_105 3 rfl ?_
    exact r_ret (some (.long w5)) dX12_word_107 rfl (pq0 c0)
  · skip
    refine r_iload dX12_word_74 4 rfl ?_
    refine r_aload_n dX12_word_76 rfl 0 rfl ?_
    refine r_getI ck10 dX12_word_77 flX12_30 rfl k0 ?_
    refine r_idiv dX12_word_80 (pz1 c0) ?_
    refine r_istore dX12_word_81 (by decide) (ls' := [(7, .int (x7 / (mI M a0 3))), (0, .ref a0), (2, .int x2), (4, .int x4), (5, .long w5), (8, .int x8)]) rfl ?_
    refine r_lload dX12_word_83 4 rfl ?_
    refine r_iload_n dX12_word_85 rfl 2 rfl ?_
    refine r_iload dX12_word_86 0 rfl ?_
    refine r_idiv dX12_word_88 (pz2 c0) ?_
    refine r_sub [1, 2, 3, 0, 5] (ls' := [(0, .ref a0), (2, .int x2), (4, .int x4), (7, .int (x7 / (mI M a0 3))), (8, .int x8)]) rfl ?_
    obtain ⟨e9, hlt, h9⟩ := (pf3 c0)
    exact r_callS (As := [.long w5, .int (x2 / (x7 / (mI M a0 3)))]) (rest := []) moX12_longer dX12_word_89 mlX12_80 saX12_longer rfl hlt (Nat.le_of_ble_eq_true rfl) h9
theorem gX12_word_92 {d : Nat} {Q : Option Value → Mem → Prop} {M : Mem} {a0 : Nat} {x2 : Int32} {x4 : Int32} {x7 : Int32} {x8 : Int32} {sw0 : Int64}  (pz0 : ¬ x7 = 0) (pw1 : Wp d mdX12_word 67 [(0, .ref a0), (2, .int (x2 - x2 / x7 * x7)), (4, .int x4), (5, .long sw0), (7, .int x7), (8, .int (x8 + (nI 1)))] [] M Q) : Wp d mdX12_word 92 [(0, .ref a0), (2, .int x2), (4, .int x4), (7, .int x7), (8, .int x8)] [.long sw0] M Q := by
  refine r_lstore dX12_word_92 (by decide) (ls' := [(5, .long sw0), (0, .ref a0), (2, .int x2), (4, .int x4), (7, .int x7), (8, .int x8)]) rfl ?_
  refine r_iload_n dX12_word_94 rfl 2 rfl ?_
  refine r_iload dX12_word_95 4 rfl ?_
  refine r_irem dX12_word_97 pz0 ?_
  refine r_istore_n dX12_word_98 rfl (by decide) (ls' := [(2, .int (x2 - x2 / x7 * x7)), (5, .long sw0), (0, .ref a0), (4, .int x4), (7, .int x7), (8, .int x8)]) rfl ?_
  refine r_iinc dX12_word_99 5 rfl (v := x8 + (nI 1)) rfl (by decide) (ls' := [(8, .int (x8 + (nI 1))), (2, .int (x2 - x2 / x7 * x7)), (5, .long sw0), (0, .ref a0), (4, .int x4), (7, .int x7)]) rfl ?_
  refine r_goto (tgt := 67) dX12_word_102 (by decide) ?_
  refine r_sub [3, 1, 4, 2, 5, 0] (ls' := [(0, .ref a0), (2, .int (x2 - x2 / x7 * x7)), (4, .int x4), (5, .long sw0), (7, .int x7), (8, .int (x8 + (nI 1)))]) rfl ?_
  exact pw1
-- X12_init
theorem gX12_init_0 {d : Nat} {Q : Option Value → Mem → Prop} {M : Mem} {a0 : Nat} (hd1 : 1 ≤ d) (k0 : mK M a0 = 14) (pw0 : Wp d mdX12_init 9 [(0, .ref a0)] [.ref (mC M + 2), .ref a0] (nwC M 2 16) Q) : Wp d mdX12_init 0 [(0, .ref a0)] [] M Q := by
  refine r_aload_n dX12_init_0 rfl 0 rfl ?_
  refine r_objI (ci := 10) dX12_init_1 mlX12_83 obI_i obI_c k0 hd1 (Nat.le_of_ble_eq_true rfl) ?_
  refine r_aload_n dX12_init_4 rfl 0 rfl ?_
  refine r_bipush (v := (nI 16)) dX12_init_5 rfl ?_
  refine r_newa dX12_init_7 (Or.inr (Or.inl rfl)) ac_long (by decide) (N := 16) (by decide) (by decide) ?_
  exact pw0
theorem gX12_init_9 {d : Nat} {Q : Option Value → Mem → Prop} {M : Mem} {a0 : Nat} {sa0 : Nat} {sa1 : Nat} (k0 : mK M sa1 = 14) (k1 : mK M a0 = 14) (pw0 : Wp d mdX12_init 21 [(0, .ref a0)] [.ref (mC (sI (sR M sa1 2 sa0) a0 3 (nI 1)) + 2), .ref a0] (nwC (sI (sR M sa1 2 sa0) a0 3 (nI 1)) 1 3) Q) : Wp d mdX12_init 9 [(0, .ref a0)] [.ref sa0, .ref sa1] M Q := by
  refine r_putR ck10 dX12_init_9 flX12_7 rfl rfl (Or.inr ⟨rfl, rfl, rfl⟩) k0 ?_
  refine r_aload_n dX12_init_12 rfl 0 rfl ?_
  refine r_iconst (v := (nI 1)) dX12_init_13 rfl ?_
  refine r_putI ck10 dX12_init_14 flX12_30 rfl (Or.inl rfl) k1 ?_
  refine r_aload_n dX12_init_17 rfl 0 rfl ?_
  refine r_iconst (v := (nI 3)) dX12_init_18 rfl ?_
  refine r_newa dX12_init_19 (Or.inl rfl) ac_int (by decide) (N := 3) (by decide) (by decide) ?_
  exact pw0
theorem gX12_init_21 {d : Nat} {Q : Option Value → Mem → Prop} {M : Mem} {a0 : Nat} {sa0 : Nat} {sa1 : Nat} (k0 : mK M sa0 = 1) (k1 : mK M sa1 = 14) (pb0 : vp_in (nI 0) (mN M sa0)) (pb1 : vp_in (nI 1) (mN (sI M sa0 (nI 0).toNatClampNeg (nI 1)) sa0)) (pb2 : vp_in (nI 2) (mN (sI (sI M sa0 (nI 0).toNatClampNeg (nI 1)) sa0 (nI 1).toNatClampNeg (nI 0)) sa0)) (pw3 : Wp d mdX12_init 41 [(0, .ref a0)] [.ref (mC (sR (sI (sI (sI M sa0 (nI 0).toNatClampNeg (nI 1)) sa0 (nI 1).toNatClampNeg (nI 0)) sa0 (nI 2).toNatClampNeg (nI 0)) sa1 4 sa0) + 2), .ref a0] (nwC (sR (sI (sI (sI M sa0 (nI 0).toNatClampNeg (nI 1)) sa0 (nI 1).toNatClampNeg (nI 0)) sa0 (nI 2).toNatClampNeg (nI 0)) sa1 4 sa0) 1 24) Q) : Wp d mdX12_init 21 [(0, .ref a0)] [.ref sa0, .ref sa1] M Q := by
  refine r_dup dX12_init_21 rfl ?_
  refine r_iconst (v := (nI 0)) dX12_init_22 rfl ?_
  refine r_iconst (v := (nI 1)) dX12_init_23 rfl ?_
  refine r_iast dX12_init_24 k0 pb0 ?_
  refine r_dup dX12_init_25 rfl ?_
  refine r_iconst (v := (nI 1)) dX12_init_26 rfl ?_
  refine r_iconst (v := (nI 0)) dX12_init_27 rfl ?_
  refine r_iast dX12_init_28 k0 pb1 ?_
  refine r_dup dX12_init_29 rfl ?_
  refine r_iconst (v := (nI 2)) dX12_init_30 rfl ?_
  refine r_iconst (v := (nI 0)) dX12_init_31 rfl ?_
  refine r_iast dX12_init_32 k0 pb2 ?_
  refine r_putR ck10 dX12_init_33 flX12_21 rfl rfl (Or.inr ⟨rfl, rfl, rfl⟩) k1 ?_
  refine r_aload_n dX12_init_36 rfl 0 rfl ?_
  refine r_bipush (v := (nI 24)) dX12_init_37 rfl ?_
  refine r_newa dX12_init_39 (Or.inl rfl) ac_int (by decide) (N := 24) (by decide) (by decide) ?_
  exact pw3
theorem gX12_init_41 {d : Nat} {Q : Option Value → Mem → Prop} {M : Mem} {a0 : Nat} {sa0 : Nat} {sa1 : Nat} (k0 : mK M sa1 = 14) (pw0 : Wp d mdX12_init 49 [(0, .ref a0)] [.ref (mC (sR M sa1 5 sa0) + 2), .ref a0] (nwC (sR M sa1 5 sa0) 1 72) Q) : Wp d mdX12_init 41 [(0, .ref a0)] [.ref sa0, .ref sa1] M Q := by
  refine r_putR ck10 dX12_init_41 flX12_14 rfl rfl (Or.inr ⟨rfl, rfl, rfl⟩) k0 ?_
  refine r_aload_n dX12_init_44 rfl 0 rfl ?_
  refine r_bipush (v := (nI 72)) dX12_init_45 rfl ?_
  refine r_newa dX12_init_47 (Or.inl rfl) ac_int (by decide) (N := 72) (by decide) (by decide) ?_
  exact pw0
theorem gX12_init_49 {d : Nat} {Q : Option Value → Mem → Prop} {M : Mem} {a0 : Nat} {sa0 : Nat} {sa1 : Nat} (k0 : mK M sa1 = 14) (k1 : mK M a0 = 14) (pw0 : Wp d mdX12_init 66 [(0, .ref a0)] [.ref (mC (sI (sI (sR M sa1 6 sa0) a0 8 (nI 1)) a0 9 (nI 1)) + 2), .ref a0] (nwC (sI (sI (sR M sa1 6 sa0) a0 8 (nI 1)) a0 9 (nI 1)) 1 2) Q) : Wp d mdX12_init 49 [(0, .ref a0)] [.ref sa0, .ref sa1] M Q := by
  refine r_putR ck10 dX12_init_49 flX12_18 rfl rfl (Or.inr ⟨rfl, rfl, rfl⟩) k0 ?_
  refine r_aload_n dX12_init_52 rfl 0 rfl ?_
  refine r_iconst (v := (nI 1)) dX12_init_53 rfl ?_
  refine r_putI ck10 dX12_init_54 flX12_89 rfl (Or.inl rfl) k1 ?_
  refine r_aload_n dX12_init_57 rfl 0 rfl ?_
  refine r_iconst (v := (nI 1)) dX12_init_58 rfl ?_
  refine r_putI ck10 dX12_init_59 flX12_92 rfl (Or.inl rfl) k1 ?_
  refine r_aload_n dX12_init_62 rfl 0 rfl ?_
  refine r_iconst (v := (nI 2)) dX12_init_63 rfl ?_
  refine r_newa dX12_init_64 (Or.inl rfl) ac_int (by decide) (N := 2) (by decide) (by decide) ?_
  exact pw0
theorem gX12_init_66 {d : Nat} {Q : Option Value → Mem → Prop} {M : Mem} {a0 : Nat} {sa0 : Nat} {sa1 : Nat} (k0 : mK M sa1 = 14) (pw0 : Wp d mdX12_init 73 [(0, .ref a0)] [.ref (mC (sR M sa1 10 sa0) + 2), .ref a0] (nwC (sR M sa1 10 sa0) 1 2) Q) : Wp d mdX12_init 66 [(0, .ref a0)] [.ref sa0, .ref sa1] M Q := by
  refine r_putR ck10 dX12_init_66 flX12_95 rfl rfl (Or.inr ⟨rfl, rfl, rfl⟩) k0 ?_
  refine r_aload_n dX12_init_69 rfl 0 rfl ?_
  refine r_iconst (v := (nI 2)) dX12_init_70 rfl ?_
  refine r_newa dX12_init_71 (Or.inl rfl) ac_int (by decide) (N := 2) (by decide) (by decide) ?_
  exact pw0
theorem gX12_init_73 {d : Nat} {Q : Option Value → Mem → Prop} {M : Mem} {a0 : Nat} {sa0 : Nat} {sa1 : Nat} (k0 : mK M sa1 = 14) (pw0 : Wp d mdX12_init 80 [(0, .ref a0)] [.ref (mC (sR M sa1 11 sa0) + 2), .ref a0] (nwC (sR M sa1 11 sa0) 1 2) Q) : Wp d mdX12_init 73 [(0, .ref a0)] [.ref sa0, .ref sa1] M Q := by
  refine r_putR ck10 dX12_init_73 flX12_98 rfl rfl (Or.inr ⟨rfl, rfl, rfl⟩) k0 ?_
  refine r_aload_n dX12_init_76 rfl 0 rfl ?_
  refine r_iconst (v := (nI 2)) dX12_init_77 rfl ?_
  refine r_newa dX12_init_78 (Or.inl rfl) ac_int (by decide) (N := 2) (by decide) (by decide) ?_
  exact pw0
theorem gX12_init_80 {d : Nat} {Q : Option Value → Mem → Prop} {M : Mem} {a0 : Nat} {sa0 : Nat} {sa1 : Nat} (k0 : mK M sa1 = 14) (pw0 : Wp d mdX12_init 89 [(0, .ref a0)] [.ref (mC (sR M sa1 12 sa0) + 2), .ref a0] (nwC (sR M sa1 12 sa0) 2 320) Q) : Wp d mdX12_init 80 [(0, .ref a0)] [.ref sa0, .ref sa1] M Q := by
  refine r_putR ck10 dX12_init_80 flX12_101 rfl rfl (Or.inr ⟨rfl, rfl, rfl⟩) k0 ?_
  refine r_aload_n dX12_init_83 rfl 0 rfl ?_
  refine r_sipush (v := (nI 320)) dX12_init_84 rfl ?_
  refine r_newa dX12_init_87 (Or.inr (Or.inl rfl)) ac_long (by decide) (N := 320) (by decide) (by decide) ?_
  exact pw0
theorem gX12_init_89 {d : Nat} {Q : Option Value → Mem → Prop} {M : Mem} {a0 : Nat} {sa0 : Nat} {sa1 : Nat} (k0 : mK M sa1 = 14) (pw0 : Wp d mdX12_init 98 [(0, .ref a0)] [.ref (mC (sR M sa1 13 sa0) + 2), .ref a0] (nwC (sR M sa1 13 sa0) 1 320) Q) : Wp d mdX12_init 89 [(0, .ref a0)] [.ref sa0, .ref sa1] M Q := by
  refine r_putR ck10 dX12_init_89 flX12_104 rfl rfl (Or.inr ⟨rfl, rfl, rfl⟩) k0 ?_
  refine r_aload_n dX12_init_92 rfl 0 rfl ?_
  refine r_sipush (v := (nI 320)) dX12_init_93 rfl ?_
  refine r_newa dX12_init_96 (Or.inl rfl) ac_int (by decide) (N := 320) (by decide) (by decide) ?_
  exact pw0
theorem gX12_init_98 {d : Nat} {Q : Option Value → Mem → Prop} {M : Mem} {a0 : Nat} {sa0 : Nat} {sa1 : Nat} (k0 : mK M sa1 = 14) (pw0 : Wp d mdX12_init 107 [(0, .ref a0)] [.ref (mC (sR M sa1 14 sa0) + 2), .ref a0] (nwC (sR M sa1 14 sa0) 2 256) Q) : Wp d mdX12_init 98 [(0, .ref a0)] [.ref sa0, .ref sa1] M Q := by
  refine r_putR ck10 dX12_init_98 flX12_107 rfl rfl (Or.inr ⟨rfl, rfl, rfl⟩) k0 ?_
  refine r_aload_n dX12_init_101 rfl 0 rfl ?_
  refine r_sipush (v := (nI 256)) dX12_init_102 rfl ?_
  refine r_newa dX12_init_105 (Or.inr (Or.inl rfl)) ac_long (by decide) (N := 256) (by decide) (by decide) ?_
  exact pw0
theorem gX12_init_107 {d : Nat} {Q : Option Value → Mem → Prop} {M : Mem} {a0 : Nat} {sa0 : Nat} {sa1 : Nat} (k0 : mK M sa1 = 14) (pw0 : Wp d mdX12_init 115 [(0, .ref a0)] [.ref (mC (sR M sa1 15 sa0) + 2), .ref a0] (nwC (sR M sa1 15 sa0) 2 32768) Q) : Wp d mdX12_init 107 [(0, .ref a0)] [.ref sa0, .ref sa1] M Q := by
  refine r_putR ck10 dX12_init_107 flX12_110 rfl rfl (Or.inr ⟨rfl, rfl, rfl⟩) k0 ?_
  refine r_aload_n dX12_init_110 rfl 0 rfl ?_
  refine r_ldc dX12_init_111 kwX12_113 ?_
  refine r_newa dX12_init_113 (Or.inr (Or.inl rfl)) ac_long (by decide) (N := 32768) (by decide) (by decide) ?_
  exact pw0
theorem gX12_init_115 {d : Nat} {Q : Option Value → Mem → Prop} {M : Mem} {a0 : Nat} {sa0 : Nat} {sa1 : Nat} (k0 : mK M sa1 = 14) (pw0 : Wp d mdX12_init 122 [(0, .ref a0)] [.ref (mC (sR M sa1 16 sa0) + 2), .ref a0] (nwC (sR M sa1 16 sa0) 1 2) Q) : Wp d mdX12_init 115 [(0, .ref a0)] [.ref sa0, .ref sa1] M Q := by
  refine r_putR ck10 dX12_init_115 flX12_114 rfl rfl (Or.inr ⟨rfl, rfl, rfl⟩) k0 ?_
  refine r_aload_n dX12_init_118 rfl 0 rfl ?_
  refine r_iconst (v := (nI 2)) dX12_init_119 rfl ?_
  refine r_newa dX12_init_120 (Or.inl rfl) ac_int (by decide) (N := 2) (by decide) (by decide) ?_
  exact pw0
theorem gX12_init_122 {d : Nat} {Q : Option Value → Mem → Prop} {M : Mem} {a0 : Nat} {sa0 : Nat} {sa1 : Nat} (k0 : mK M sa1 = 14) (pw0 : Wp d mdX12_init 129 [(0, .ref a0)] [.ref (mC (sR M sa1 17 sa0) + 2), .ref a0] (nwC (sR M sa1 17 sa0) 1 2) Q) : Wp d mdX12_init 122 [(0, .ref a0)] [.ref sa0, .ref sa1] M Q := by
  refine r_putR ck10 dX12_init_122 flX12_117 rfl rfl (Or.inr ⟨rfl, rfl, rfl⟩) k0 ?_
  refine r_aload_n dX12_init_125 rfl 0 rfl ?_
  refine r_iconst (v := (nI 2)) dX12_init_126 rfl ?_
  refine r_newa dX12_init_127 (Or.inl rfl) ac_int (by decide) (N := 2) (by decide) (by decide) ?_
  exact pw0
theorem gX12_init_129 {d : Nat} {Q : Option Value → Mem → Prop} {M : Mem} {a0 : Nat} {sa0 : Nat} {sa1 : Nat} (k0 : mK M sa1 = 14) (pw0 : Wp d mdX12_init 136 [(0, .ref a0)] [.ref (mC (sR M sa1 18 sa0) + 2), .ref a0] (nwC (sR M sa1 18 sa0) 1 2) Q) : Wp d mdX12_init 129 [(0, .ref a0)] [.ref sa0, .ref sa1] M Q := by
  refine r_putR ck10 dX12_init_129 flX12_120 rfl rfl (Or.inr ⟨rfl, rfl, rfl⟩) k0 ?_
  refine r_aload_n dX12_init_132 rfl 0 rfl ?_
  refine r_iconst (v := (nI 2)) dX12_init_133 rfl ?_
  refine r_newa dX12_init_134 (Or.inl rfl) ac_int (by decide) (N := 2) (by decide) (by decide) ?_
  exact pw0
theorem gX12_init_136 {d : Nat} {Q : Option Value → Mem → Prop} {M : Mem} {a0 : Nat} {sa0 : Nat} {sa1 : Nat} (k0 : mK M sa1 = 14) (pw0 : Wp d mdX12_init 143 [(0, .ref a0)] [.ref (mC (sR M sa1 19 sa0) + 2), .ref a0] (nwC (sR M sa1 19 sa0) 3 2) Q) : Wp d mdX12_init 136 [(0, .ref a0)] [.ref sa0, .ref sa1] M Q := by
  refine r_putR ck10 dX12_init_136 flX12_123 rfl rfl (Or.inr ⟨rfl, rfl, rfl⟩) k0 ?_
  refine r_aload_n dX12_init_139 rfl 0 rfl ?_
  refine r_iconst (v := (nI 2)) dX12_init_140 rfl ?_
  refine r_newa dX12_init_141 (Or.inr (Or.inr rfl)) ac_boolean (by decide) (N := 2) (by decide) (by decide) ?_
  exact pw0
theorem gX12_init_143 {d : Nat} {Q : Option Value → Mem → Prop} {M : Mem} {a0 : Nat} {sa0 : Nat} {sa1 : Nat} (k0 : mK M sa1 = 14) (pw0 : Wp d mdX12_init 151 [(0, .ref a0)] [.ref (mC (sR M sa1 20 sa0) + 2), .ref a0] (nwC (sR M sa1 20 sa0) 2 16) Q) : Wp d mdX12_init 143 [(0, .ref a0)] [.ref sa0, .ref sa1] M Q := by
  refine r_putR ck10 dX12_init_143 flX12_126 rfl rfl (Or.inr ⟨rfl, rfl, rfl⟩) k0 ?_
  refine r_aload_n dX12_init_146 rfl 0 rfl ?_
  refine r_bipush (v := (nI 16)) dX12_init_147 rfl ?_
  refine r_newa dX12_init_149 (Or.inr (Or.inl rfl)) ac_long (by decide) (N := 16) (by decide) (by decide) ?_
  exact pw0
theorem gX12_init_151 {d : Nat} {Q : Option Value → Mem → Prop} {M : Mem} {a0 : Nat} {sa0 : Nat} {sa1 : Nat} (k0 : mK M sa1 = 14) (pw0 : Wp d mdX12_init 160 [(0, .ref a0)] [.ref (mC (sR M sa1 21 sa0) + 2), .ref a0] (nwC (sR M sa1 21 sa0) 1 1024) Q) : Wp d mdX12_init 151 [(0, .ref a0)] [.ref sa0, .ref sa1] M Q := by
  refine r_putR ck10 dX12_init_151 flX12_130 rfl rfl (Or.inr ⟨rfl, rfl, rfl⟩) k0 ?_
  refine r_aload_n dX12_init_154 rfl 0 rfl ?_
  refine r_sipush (v := (nI 1024)) dX12_init_155 rfl ?_
  refine r_newa dX12_init_158 (Or.inl rfl) ac_int (by decide) (N := 1024) (by decide) (by decide) ?_
  exact pw0
theorem gX12_init_160 {d : Nat} {Q : Option Value → Mem → Prop} {M : Mem} {a0 : Nat} {sa0 : Nat} {sa1 : Nat} (k0 : mK M sa1 = 14) (pw0 : Wp d mdX12_init 168 [(0, .ref a0)] [.ref (mC (sR M sa1 22 sa0) + 2), .ref a0] (nwC (sR M sa1 22 sa0) 3 64) Q) : Wp d mdX12_init 160 [(0, .ref a0)] [.ref sa0, .ref sa1] M Q := by
  refine r_putR ck10 dX12_init_160 flX12_133 rfl rfl (Or.inr ⟨rfl, rfl, rfl⟩) k0 ?_
  refine r_aload_n dX12_init_163 rfl 0 rfl ?_
  refine r_bipush (v := (nI 64)) dX12_init_164 rfl ?_
  refine r_newa dX12_init_166 (Or.inr (Or.inr rfl)) ac_boolean (by decide) (N := 64) (by decide) (by decide) ?_
  exact pw0
theorem gX12_init_168 {d : Nat} {Q : Option Value → Mem → Prop} {M : Mem} {a0 : Nat} {sa0 : Nat} {sa1 : Nat} (k0 : mK M sa1 = 14) (pw0 : Wp d mdX12_init 176 [(0, .ref a0)] [.ref (mC (sR M sa1 26 sa0) + 2), .ref a0] (nwC (sR M sa1 26 sa0) 1 64) Q) : Wp d mdX12_init 168 [(0, .ref a0)] [.ref sa0, .ref sa1] M Q := by
  refine r_putR ck10 dX12_init_168 flX12_136 rfl rfl (Or.inr ⟨rfl, rfl, rfl⟩) k0 ?_
  refine r_aload_n dX12_init_171 rfl 0 rfl ?_
  refine r_bipush (v := (nI 64)) dX12_init_172 rfl ?_
  refine r_newa dX12_init_174 (Or.inl rfl) ac_int (by decide) (N := 64) (by decide) (by decide) ?_
  exact pw0
theorem gX12_init_176 {d : Nat} {Q : Option Value → Mem → Prop} {M : Mem} {a0 : Nat} {sa0 : Nat} {sa1 : Nat} (k0 : mK M sa1 = 14) (pw0 : Wp d mdX12_init 184 [(0, .ref a0)] [.ref (mC (sR M sa1 27 sa0) + 2), .ref a0] (nwC (sR M sa1 27 sa0) 2 64) Q) : Wp d mdX12_init 176 [(0, .ref a0)] [.ref sa0, .ref sa1] M Q := by
  refine r_putR ck10 dX12_init_176 flX12_139 rfl rfl (Or.inr ⟨rfl, rfl, rfl⟩) k0 ?_
  refine r_aload_n dX12_init_179 rfl 0 rfl ?_
  refine r_bipush (v := (nI 64)) dX12_init_180 rfl ?_
  refine r_newa dX12_init_182 (Or.inr (Or.inl rfl)) ac_long (by decide) (N := 64) (by decide) (by decide) ?_
  exact pw0
theorem gX12_init_184 {d : Nat} {Q : Option Value → Mem → Prop} {M : Mem} {a0 : Nat} {sa0 : Nat} {sa1 : Nat} (k0 : mK M sa1 = 14) (pw0 : Wp d mdX12_init 192 [(0, .ref a0)] [.ref (mC (sR M sa1 28 sa0) + 2), .ref a0] (nwC (sR M sa1 28 sa0) 1 64) Q) : Wp d mdX12_init 184 [(0, .ref a0)] [.ref sa0, .ref sa1] M Q := by
  refine r_putR ck10 dX12_init_184 flX12_142 rfl rfl (Or.inr ⟨rfl, rfl, rfl⟩) k0 ?_
  refine r_aload_n dX12_init_187 rfl 0 rfl ?_
  refine r_bipush (v := (nI 64)) dX12_init_188 rfl ?_
  refine r_newa dX12_init_190 (Or.inl rfl) ac_int (by decide) (N := 64) (by decide) (by decide) ?_
  exact pw0
theorem gX12_init_192 {d : Nat} {Q : Option Value → Mem → Prop} {M : Mem} {a0 : Nat} {sa0 : Nat} {sa1 : Nat} (k0 : mK M sa1 = 14) (pw0 : Wp d mdX12_init 200 [(0, .ref a0)] [.ref (mC (sR M sa1 29 sa0) + 2), .ref a0] (nwC (sR M sa1 29 sa0) 1 8) Q) : Wp d mdX12_init 192 [(0, .ref a0)] [.ref sa0, .ref sa1] M Q := by
  refine r_putR ck10 dX12_init_192 flX12_145 rfl rfl (Or.inr ⟨rfl, rfl, rfl⟩) k0 ?_
  refine r_aload_n dX12_init_195 rfl 0 rfl ?_
  refine r_bipush (v := (nI 8)) dX12_init_196 rfl ?_
  refine r_newa dX12_init_198 (Or.inl rfl) ac_int (by decide) (N := 8) (by decide) (by decide) ?_
  exact pw0
theorem gX12_init_200 {d : Nat} {Q : Option Value → Mem → Prop} {M : Mem} {a0 : Nat} {sa0 : Nat} {sa1 : Nat} (k0 : mK M sa1 = 14) (pw0 : Wp d mdX12_init 208 [(0, .ref a0)] [.ref (mC (sR M sa1 34 sa0) + 2), .ref a0] (nwC (sR M sa1 34 sa0) 1 24) Q) : Wp d mdX12_init 200 [(0, .ref a0)] [.ref sa0, .ref sa1] M Q := by
  refine r_putR ck10 dX12_init_200 flX12_148 rfl rfl (Or.inr ⟨rfl, rfl, rfl⟩) k0 ?_
  refine r_aload_n dX12_init_203 rfl 0 rfl ?_
  refine r_bipush (v := (nI 24)) dX12_init_204 rfl ?_
  refine r_newa dX12_init_206 (Or.inl rfl) ac_int (by decide) (N := 24) (by decide) (by decide) ?_
  exact pw0
theorem gX12_init_208 {d : Nat} {Q : Option Value → Mem → Prop} {M : Mem} {a0 : Nat} {sa0 : Nat} {sa1 : Nat} (k0 : mK M sa1 = 14) (pw0 : Wp d mdX12_init 216 [(0, .ref a0)] [.ref (mC (sR M sa1 35 sa0) + 2), .ref a0] (nwC (sR M sa1 35 sa0) 1 64) Q) : Wp d mdX12_init 208 [(0, .ref a0)] [.ref sa0, .ref sa1] M Q := by
  refine r_putR ck10 dX12_init_208 flX12_151 rfl rfl (Or.inr ⟨rfl, rfl, rfl⟩) k0 ?_
  refine r_aload_n dX12_init_211 rfl 0 rfl ?_
  refine r_bipush (v := (nI 64)) dX12_init_212 rfl ?_
  refine r_newa dX12_init_214 (Or.inl rfl) ac_int (by decide) (N := 64) (by decide) (by decide) ?_
  exact pw0
theorem gX12_init_216 {d : Nat} {Q : Option Value → Mem → Prop} {M : Mem} {a0 : Nat} {sa0 : Nat} {sa1 : Nat} (k0 : mK M sa1 = 14) (pw0 : Wp d mdX12_init 224 [(0, .ref a0)] [.ref (mC (sR M sa1 38 sa0) + 2), .ref a0] (nwC (sR M sa1 38 sa0) 1 64) Q) : Wp d mdX12_init 216 [(0, .ref a0)] [.ref sa0, .ref sa1] M Q := by
  refine r_putR ck10 dX12_init_216 flX12_154 rfl rfl (Or.inr ⟨rfl, rfl, rfl⟩) k0 ?_
  refine r_aload_n dX12_init_219 rfl 0 rfl ?_
  refine r_bipush (v := (nI 64)) dX12_init_220 rfl ?_
  refine r_newa dX12_init_222 (Or.inl rfl) ac_int (by decide) (N := 64) (by decide) (by decide) ?_
  exact pw0
theorem gX12_init_224 {d : Nat} {Q : Option Value → Mem → Prop} {M : Mem} {a0 : Nat} {sa0 : Nat} {sa1 : Nat} (k0 : mK M sa1 = 14) (pw0 : Wp d mdX12_init 232 [(0, .ref a0)] [.ref (mC (sR M sa1 39 sa0) + 2), .ref a0] (nwC (sR M sa1 39 sa0) 2 8) Q) : Wp d mdX12_init 224 [(0, .ref a0)] [.ref sa0, .ref sa1] M Q := by
  refine r_putR ck10 dX12_init_224 flX12_157 rfl rfl (Or.inr ⟨rfl, rfl, rfl⟩) k0 ?_
  refine r_aload_n dX12_init_227 rfl 0 rfl ?_
  refine r_bipush (v := (nI 8)) dX12_init_228 rfl ?_
  refine r_newa dX12_init_230 (Or.inr (Or.inl rfl)) ac_long (by decide) (N := 8) (by decide) (by decide) ?_
  exact pw0
theorem gX12_init_232 {d : Nat} {Q : Option Value → Mem → Prop} {M : Mem} {a0 : Nat} {sa0 : Nat} {sa1 : Nat} (k0 : mK M sa1 = 14) (pw0 : Wp d mdX12_init 240 [(0, .ref a0)] [.ref (mC (sR M sa1 40 sa0) + 2), .ref a0] (nwC (sR M sa1 40 sa0) 2 32768) Q) : Wp d mdX12_init 232 [(0, .ref a0)] [.ref sa0, .ref sa1] M Q := by
  refine r_putR ck10 dX12_init_232 flX12_160 rfl rfl (Or.inr ⟨rfl, rfl, rfl⟩) k0 ?_
  refine r_aload_n dX12_init_235 rfl 0 rfl ?_
  refine r_ldc dX12_init_236 kwX12_113 ?_
  refine r_newa dX12_init_238 (Or.inr (Or.inl rfl)) ac_long (by decide) (N := 32768) (by decide) (by decide) ?_
  exact pw0
theorem gX12_init_240 {d : Nat} {Q : Option Value → Mem → Prop} {M : Mem} {a0 : Nat} {sa0 : Nat} {sa1 : Nat} (k0 : mK M sa1 = 14) (pw0 : Wp d mdX12_init 248 [(0, .ref a0)] [.ref (mC (sR M sa1 41 sa0) + 2), .ref a0] (nwC (sR M sa1 41 sa0) 2 64) Q) : Wp d mdX12_init 240 [(0, .ref a0)] [.ref sa0, .ref sa1] M Q := by
  refine r_putR ck10 dX12_init_240 flX12_163 rfl rfl (Or.inr ⟨rfl, rfl, rfl⟩) k0 ?_
  refine r_aload_n dX12_init_243 rfl 0 rfl ?_
  refine r_bipush (v := (nI 64)) dX12_init_244 rfl ?_
  refine r_newa dX12_init_246 (Or.inr (Or.inl rfl)) ac_long (by decide) (N := 64) (by decide) (by decide) ?_
  exact pw0
theorem gX12_init_248 {d : Nat} {Q : Option Value → Mem → Prop} {M : Mem} {a0 : Nat} {sa0 : Nat} {sa1 : Nat} (k0 : mK M sa1 = 14) (pw0 : Wp d mdX12_init 256 [(0, .ref a0)] [.ref (mC (sR M sa1 47 sa0) + 2), .ref a0] (nwC (sR M sa1 47 sa0) 1 8) Q) : Wp d mdX12_init 248 [(0, .ref a0)] [.ref sa0, .ref sa1] M Q := by
  refine r_putR ck10 dX12_init_248 flX12_166 rfl rfl (Or.inr ⟨rfl, rfl, rfl⟩) k0 ?_
  refine r_aload_n dX12_init_251 rfl 0 rfl ?_
  refine r_bipush (v := (nI 8)) dX12_init_252 rfl ?_
  refine r_newa dX12_init_254 (Or.inl rfl) ac_int (by decide) (N := 8) (by decide) (by decide) ?_
  exact pw0
theorem gX12_init_256 {d : Nat} {Q : Option Value → Mem → Prop} {M : Mem} {a0 : Nat} {sa0 : Nat} {sa1 : Nat} (k0 : mK M sa1 = 14) (pw0 : Wp d mdX12_init 264 [(0, .ref a0)] [.ref (mC (sR M sa1 49 sa0) + 2), .ref a0] (nwC (sR M sa1 49 sa0) 1 8) Q) : Wp d mdX12_init 256 [(0, .ref a0)] [.ref sa0, .ref sa1] M Q := by
  refine r_putR ck10 dX12_init_256 flX12_169 rfl rfl (Or.inr ⟨rfl, rfl, rfl⟩) k0 ?_
  refine r_aload_n dX12_init_259 rfl 0 rfl ?_
  refine r_bipush (v := (nI 8)) dX12_init_260 rfl ?_
  refine r_newa dX12_init_262 (Or.inl rfl) ac_int (by decide) (N := 8) (by decide) (by decide) ?_
  exact pw0
theorem gX12_init_264 {d : Nat} {Q : Option Value → Mem → Prop} {M : Mem} {a0 : Nat} {sa0 : Nat} {sa1 : Nat} (k0 : mK M sa1 = 14) (k1 : mK M a0 = 14) (pf0 : ClD d mdX12_fresh [.ref a0, .int (nI 0), .int (nI 0)] (sR M sa1 50 sa0) (fun r1 M1 => Wp d mdX12_init 273 [] (r1.toList ++ []) M1 Q)) : Wp d mdX12_init 264 [(0, .ref a0)] [.ref sa0, .ref sa1] M Q := by
  refine r_putR ck10 dX12_init_264 flX12_172 rfl rfl (Or.inr ⟨rfl, rfl, rfl⟩) k0 ?_
  refine r_aload_n dX12_init_267 rfl 0 rfl ?_
  refine r_iconst (v := (nI 0)) dX12_init_268 rfl ?_
  refine r_iconst (v := (nI 0)) dX12_init_269 rfl ?_
  refine r_sub [] (ls' := []) rfl ?_
  obtain ⟨e9, hlt, h9⟩ := pf0
  exact r_callV (As := [.int (nI 0), .int (nI 0)]) (rest := []) (ci := 10) moX12_fresh dX12_init_270 mlX12_175 imX12_fresh seX12_fresh k1 rfl hlt (Nat.le_of_ble_eq_true rfl) h9
theorem gX12_init_273 {d : Nat} {Q : Option Value → Mem → Prop} {M : Mem}  (pq0 : Q none M) : Wp d mdX12_init 273 [] [] M Q := by
  exact r_ret none dX12_init_273 rfl pq0
-- X12_slotOf
theorem gX12_slotOf_0 {d : Nat} {Q : Option Value → Mem → Prop} {M : Mem} {a0 : Nat} {x1 : Int32} {w2 : Int64}  (pw0 : Wp d mdX12_slotOf 15 [(0, .ref a0), (1, .int x1), (2, .long w2), (6, .int ((((w2 * (-7046029254386353131 : Int64)).toUInt64 >>> ((nI 50).toInt64.toUInt64 &&& Int64.toUInt64 63)).toInt64).toInt32))] [] M Q) : Wp d mdX12_slotOf 0 [(0, .ref a0), (1, .int x1), (2, .long w2)] [] M Q := by
  refine r_lload_n dX12_slotOf_0 rfl 2 rfl ?_
  refine r_ldc2 dX12_slotOf_1 kwX12_179 ?_
  refine r_lmul dX12_slotOf_4 ?_
  refine r_lstore dX12_slotOf_5 (by decide) (ls' := [(4, .long (w2 * (-7046029254386353131 : Int64))), (0, .ref a0), (1, .int x1), (2, .long w2)]) rfl ?_
  refine r_lload dX12_slotOf_7 0 rfl ?_
  refine r_bipush (v := (nI 50)) dX12_slotOf_9 rfl ?_
  refine r_lushr dX12_slotOf_11 ?_
  refine r_l2i dX12_slotOf_12 ?_
  refine r_istore dX12_slotOf_13 (by decide) (ls' := [(6, .int ((((w2 * (-7046029254386353131 : Int64)).toUInt64 >>> ((nI 50).toInt64.toUInt64 &&& Int64.toUInt64 63)).toInt64).toInt32)), (4, .long (w2 * (-7046029254386353131 : Int64))), (0, .ref a0), (1, .int x1), (2, .long w2)]) rfl ?_
  refine r_sub [2, 3, 4, 0] (ls' := [(0, .ref a0), (1, .int x1), (2, .long w2), (6, .int ((((w2 * (-7046029254386353131 : Int64)).toUInt64 >>> ((nI 50).toInt64.toUInt64 &&& Int64.toUInt64 63)).toInt64).toInt32))]) rfl ?_
  exact pw0
theorem gX12_slotOf_15 {d : Nat} {Q : Option Value → Mem → Prop} {M : Mem} {a0 : Nat} {x1 : Int32} {w2 : Int64} {x6 : Int32} (k0 : mK M a0 = 14) (k1 : mK M (mR M a0 16) = 2) (pb0 : vp_in (((nI 16384) * x1) + x6) (mN M (mR M a0 16))) (pw1 : (mJ M (mR M a0 16) (((nI 16384) * x1) + x6).toNatClampNeg) = (lN 0) → Wp d mdX12_slotOf 64 [(1, .int x1), (6, .int x6)] [] M Q) (pb2 : ¬ (mJ M (mR M a0 16) (((nI 16384) * x1) + x6).toNatClampNeg) = (lN 0) → vp_in (((nI 16384) * x1) + x6) (mN M (mR M a0 16))) (pw3 : ¬ (mJ M (mR M a0 16) (((nI 16384) * x1) + x6).toNatClampNeg) = (lN 0) → (mJ M (mR M a0 16) (((nI 16384) * x1) + x6).toNatClampNeg) = w2 → Wp d mdX12_slotOf 64 [(1, .int x1), (6, .int x6)] [] M Q) (pw4 : ¬ (mJ M (mR M a0 16) (((nI 16384) * x1) + x6).toNatClampNeg) = (lN 0) → ¬ (mJ M (mR M a0 16) (((nI 16384) * x1) + x6).toNatClampNeg) = w2 → Wp d mdX12_slotOf 15 [(0, .ref a0), (1, .int x1), (2, .long w2), (6, .int ((x6 + (nI 1)) - (x6 + (nI 1)) / (nI 16384) * (nI 16384)))] [] M Q) : Wp d mdX12_slotOf 15 [(0, .ref a0), (1, .int x1), (2, .long w2), (6, .int x6)] [] M Q := by
  refine r_aload_n dX12_slotOf_15 rfl 0 rfl ?_
  refine r_getR ck10 dX12_slotOf_16 flX12_114 rfl k0 ?_
  refine r_sipush (v := (nI 16384)) dX12_slotOf_19 rfl ?_
  refine r_iload_n dX12_slotOf_22 rfl 1 rfl ?_
  refine r_imul dX12_slotOf_23 ?_
  refine r_iload dX12_slotOf_24 3 rfl ?_
  refine r_iadd dX12_slotOf_26 ?_
  refine r_lald dX12_slotOf_27 k1 pb0 ?_
  refine r_lconst (v := (lN 0)) dX12_slotOf_28 rfl ?_
  refine r_lif_eq (tgt := 64) dX12_slotOf_29 dX12_slotOf_30 (by decide) (fun c0 => ?_) (fun c0 => ?_)
  · skip
    refine r_sub [1, 3] (ls' := [(1, .int x1), (6, .int x6)]) rfl ?_
    exact (pw1 c0)
  · skip
    refine r_aload_n dX12_slotOf_33 rfl 0 rfl ?_
    refine r_getR ck10 dX12_slotOf_34 flX12_114 rfl k0 ?_
    refine r_sipush (v := (nI 16384)) dX12_slotOf_37 rfl ?_
    refine r_iload_n dX12_slotOf_40 rfl 1 rfl ?_
    refine r_imul dX12_slotOf_41 ?_
    refine r_iload dX12_slotOf_42 3 rfl ?_
    refine r_iadd dX12_slotOf_44 ?_
    refine r_lald dX12_slotOf_45 k1 (pb2 c0) ?_
    refine r_lload_n dX12_slotOf_46 rfl 2 rfl ?_
    refine r_lif_eq (tgt := 64) dX12_slotOf_47 dX12_slotOf_48 (by decide) (fun c1 => ?_) (fun c1 => ?_)
    · skip
      refine r_sub [1, 3] (ls' := [(1, .int x1), (6, .int x6)]) rfl ?_
      exact (pw3 c0 c1)
    · skip
      refine r_iload dX12_slotOf_51 3 rfl ?_
      refine r_iconst (v := (nI 1)) dX12_slotOf_53 rfl ?_
      refine r_iadd dX12_slotOf_54 ?_
      refine r_sipush (v := (nI 16384)) dX12_slotOf_55 rfl ?_
      refine r_irem dX12_slotOf_58 (by decide) ?_
      refine r_istore dX12_slotOf_59 (by decide) (ls' := [(6, .int ((x6 + (nI 1)) - (x6 + (nI 1)) / (nI 16384) * (nI 16384))), (0, .ref a0), (1, .int x1), (2, .long w2)]) rfl ?_
      refine r_goto (tgt := 15) dX12_slotOf_61 (by decide) ?_
      refine r_sub [1, 2, 3, 0] (ls' := [(0, .ref a0), (1, .int x1), (2, .long w2), (6, .int ((x6 + (nI 1)) - (x6 + (nI 1)) / (nI 16384) * (nI 16384)))]) rfl ?_
      exact (pw4 c0 c1)
theorem gX12_slotOf_64 {d : Nat} {Q : Option Value → Mem → Prop} {M : Mem} {x1 : Int32} {x6 : Int32}  (pq0 : Q (some (.int (((nI 16384) * x1) + x6))) M) : Wp d mdX12_slotOf 64 [(1, .int x1), (6, .int x6)] [] M Q := by
  refine r_sipush (v := (nI 16384)) dX12_slotOf_64 rfl ?_
  refine r_iload_n dX12_slotOf_67 rfl 0 rfl ?_
  refine r_imul dX12_slotOf_68 ?_
  refine r_iload dX12_slotOf_69 1 rfl ?_
  refine r_iadd dX12_slotOf_71 ?_
  exact r_ret (some (.int (((nI 16384) * x1) + x6))) dX12_slotOf_72 rfl pq0
-- X12_wasAsked
theorem gX12_wasAsked_0 {d : Nat} {Q : Option Value → Mem → Prop} {M : Mem} {a0 : Nat} {x1 : Int32} {w2 : Int64} (k0 : mK M a0 = 14) (pf0 : ClD d mdX12_slotOf [.ref a0, .int x1, .long w2] M (fun r1 M1 => Wp d mdX12_wasAsked 10 [(2, .long w2)] (r1.toList ++ [.ref (mR M a0 16)]) M1 Q)) : Wp d mdX12_wasAsked 0 [(0, .ref a0), (1, .int x1), (2, .long w2)] [] M Q := by
  refine r_aload_n dX12_wasAsked_0 rfl 0 rfl ?_
  refine r_getR ck10 dX12_wasAsked_1 flX12_114 rfl k0 ?_
  refine r_aload_n dX12_wasAsked_4 rfl 0 rfl ?_
  refine r_iload_n dX12_wasAsked_5 rfl 1 rfl ?_
  refine r_lload_n dX12_wasAsked_6 rfl 2 rfl ?_
  refine r_sub [2] (ls' := [(2, .long w2)]) rfl ?_
  obtain ⟨e9, hlt, h9⟩ := pf0
  exact r_callV (As := [.int x1, .long w2]) (rest := [.ref (mR M a0 16)]) (ci := 10) moX12_slotOf dX12_wasAsked_7 mlX12_181 imX12_slotOf seX12_slotOf k0 rfl hlt (Nat.le_of_ble_eq_true rfl) h9
theorem gX12_wasAsked_10 {d : Nat} {Q : Option Value → Mem → Prop} {M : Mem} {w2 : Int64} {sx0 : Int32} {sa1 : Nat} (k0 : mK M sa1 = 2) (pb0 : vp_in sx0 (mN M sa1)) (pq1 : ¬ (mJ M sa1 sx0.toNatClampNeg) = w2 → Q (some (.int (nI 0))) M) (pq2 : (mJ M sa1 sx0.toNatClampNeg) = w2 → Q (some (.int (nI 1))) M) : Wp d mdX12_wasAsked 10 [(2, .long w2)] [.int sx0, .ref sa1] M Q := by
  refine r_lald dX12_wasAsked_10 k0 pb0 ?_
  refine r_lload_n dX12_wasAsked_11 rfl 0 rfl ?_
  refine r_lif_ne (tgt := 20) dX12_wasAsked_12 dX12_wasAsked_13 (by decide) (fun c0 => ?_) (fun c0 => ?_)
  · skip
    refine r_iconst (v := (nI 0)) dX12_wasAsked_20 rfl ?_
    exact r_ret (some (.int (nI 0))) dX12_wasAsked_21 rfl (pq1 c0)
  · skip
    refine r_iconst (v := (nI 1)) dX12_wasAsked_16 rfl ?_
    refine r_goto (tgt := 21) dX12_wasAsked_17 (by decide) ?_
    exact r_ret (some (.int (nI 1))) dX12_wasAsked_21 rfl (pq2 c0)
-- X12_ask
theorem gX12_ask_0 {d : Nat} {Q : Option Value → Mem → Prop} {M : Mem} {a0 : Nat} {x1 : Int32} {w2 : Int64} (k0 : mK M a0 = 14) (pf0 : ClD d mdX12_slotOf [.ref a0, .int x1, .long w2] M (fun r1 M1 => Wp d mdX12_ask 6 [(0, .ref a0), (1, .int x1), (2, .long w2)] (r1.toList ++ []) M1 Q)) : Wp d mdX12_ask 0 [(0, .ref a0), (1, .int x1), (2, .long w2)] [] M Q := by
  refine r_aload_n dX12_ask_0 rfl 0 rfl ?_
  refine r_iload_n dX12_ask_1 rfl 1 rfl ?_
  refine r_lload_n dX12_ask_2 rfl 2 rfl ?_
  obtain ⟨e9, hlt, h9⟩ := pf0
  exact r_callV (As := [.int x1, .long w2]) (rest := []) (ci := 10) moX12_slotOf dX12_ask_3 mlX12_181 imX12_slotOf seX12_slotOf k0 rfl hlt (Nat.le_of_ble_eq_true rfl) h9
theorem gX12_ask_6 {d : Nat} {Q : Option Value → Mem → Prop} {M : Mem} {a0 : Nat} {x1 : Int32} {w2 : Int64} {sx0 : Int32} (k0 : mK M a0 = 14) (k1 : mK M (mR M a0 16) = 2) (k2 : mK M (mR (sJ M (mR M a0 16) sx0.toNatClampNeg w2) a0 17) = 1) (k3 : mK M (mR (sI (sJ M (mR M a0 16) sx0.toNatClampNeg w2) (mR (sJ M (mR M a0 16) sx0.toNatClampNeg w2) a0 17) x1.toNatClampNeg ((mI (sJ M (mR M a0 16) sx0.toNatClampNeg w2) (mR (sJ M (mR M a0 16) sx0.toNatClampNeg w2) a0 17) x1.toNatClampNeg) + (nI 1))) a0 18) = 1) (pb0 : vp_in sx0 (mN M (mR M a0 16))) (pw1 : (mJ M (mR M a0 16) sx0.toNatClampNeg) = w2 → Wp d mdX12_ask 61 [(0, .ref a0), (2, .long w2)] [] M Q) (pb2 : ¬ (mJ M (mR M a0 16) sx0.toNatClampNeg) = w2 → vp_in sx0 (mN M (mR M a0 16))) (pb3 : ¬ (mJ M (mR M a0 16) sx0.toNatClampNeg) = w2 → vp_in x1 (mN (sJ M (mR M a0 16) sx0.toNatClampNeg w2) (mR (sJ M (mR M a0 16) sx0.toNatClampNeg w2) a0 17))) (pb4 : ¬ (mJ M (mR M a0 16) sx0.toNatClampNeg) = w2 → vp_in x1 (mN (sI (sJ M (mR M a0 16) sx0.toNatClampNeg w2) (mR (sJ M (mR M a0 16) sx0.toNatClampNeg w2) a0 17) x1.toNatClampNeg ((mI (sJ M (mR M a0 16) sx0.toNatClampNeg w2) (mR (sJ M (mR M a0 16) sx0.toNatClampNeg w2) a0 17) x1.toNatClampNeg) + (nI 1))) (mR (sI (sJ M (mR M a0 16) sx0.toNatClampNeg w2) (mR (sJ M (mR M a0 16) sx0.toNatClampNeg w2) a0 17) x1.toNatClampNeg ((mI (sJ M (mR M a0 16) sx0.toNatClampNeg w2) (mR (sJ M (mR M a0 16) sx0.toNatClampNeg w2) a0 17) x1.toNatClampNeg) + (nI 1))) a0 18))) (pf5 : ¬ (mJ M (mR M a0 16) sx0.toNatClampNeg) = w2 → ClD d mdX12_lengthOf [.long w2] (sI (sJ M (mR M a0 16) sx0.toNatClampNeg w2) (mR (sJ M (mR M a0 16) sx0.toNatClampNeg w2) a0 17) x1.toNatClampNeg ((mI (sJ M (mR M a0 16) sx0.toNatClampNeg w2) (mR (sJ M (mR M a0 16) sx0.toNatClampNeg w2) a0 17) x1.toNatClampNeg) + (nI 1))) (fun r1 M1 => Wp d mdX12_ask 57 [(0, .ref a0), (2, .long w2)] (r1.toList ++ [.int (mI (sI (sJ M (mR M a0 16) sx0.toNatClampNeg w2) (mR (sJ M (mR M a0 16) sx0.toNatClampNeg w2) a0 17) x1.toNatClampNeg ((mI (sJ M (mR M a0 16) sx0.toNatClampNeg w2) (mR (sJ M (mR M a0 16) sx0.toNatClampNeg w2) a0 17) x1.toNatClampNeg) + (nI 1))) a0 9), .int (mI (sI (sJ M (mR M a0 16) sx0.toNatClampNeg w2) (mR (sJ M (mR M a0 16) sx0.toNatClampNeg w2) a0 17) x1.toNatClampNeg ((mI (sJ M (mR M a0 16) sx0.toNatClampNeg w2) (mR (sJ M (mR M a0 16) sx0.toNatClampNeg w2) a0 17) x1.toNatClampNeg) + (nI 1))) a0 8), .int (mI (sI (sJ M (mR M a0 16) sx0.toNatClampNeg w2) (mR (sJ M (mR M a0 16) sx0.toNatClampNeg w2) a0 17) x1.toNatClampNeg ((mI (sJ M (mR M a0 16) sx0.toNatClampNeg w2) (mR (sJ M (mR M a0 16) sx0.toNatClampNeg w2) a0 17) x1.toNatClampNeg) + (nI 1))) (mR (sI (sJ M (mR M a0 16) sx0.toNatClampNeg w2) (mR (sJ M (mR M a0 16) sx0.toNatClampNeg w2) a0 17) x1.toNatClampNeg ((mI (sJ M (mR M a0 16) sx0.toNatClampNeg w2) (mR (sJ M (mR M a0 16) sx0.toNatClampNeg w2) a0 17) x1.toNatClampNeg) + (nI 1))) a0 18) x1.toNatClampNeg), .int x1, .ref (mR (sI (sJ M (mR M a0 16) sx0.toNatClampNeg w2) (mR (sJ M (mR M a0 16) sx0.toNatClampNeg w2) a0 17) x1.toNatClampNeg ((mI (sJ M (mR M a0 16) sx0.toNatClampNeg w2) (mR (sJ M (mR M a0 16) sx0.toNatClampNeg w2) a0 17) x1.toNatClampNeg) + (nI 1))) a0 18)]) M1 Q)) : Wp d mdX12_ask 6 [(0, .ref a0), (1, .int x1), (2, .long w2)] [.int sx0] M Q := by
  refine r_istore dX12_ask_6 (by decide) (ls' := [(4, .int sx0), (0, .ref a0), (1, .int x1), (2, .long w2)]) rfl ?_
  refine r_aload_n dX12_ask_8 rfl 1 rfl ?_
  refine r_getR ck10 dX12_ask_9 flX12_114 rfl k0 ?_
  refine r_iload dX12_ask_12 0 rfl ?_
  refine r_lald dX12_ask_14 k1 pb0 ?_
  refine r_lload_n dX12_ask_15 rfl 3 rfl ?_
  refine r_lif_eq (tgt := 61) dX12_ask_16 dX12_ask_17 (by decide) (fun c0 => ?_) (fun c0 => ?_)
  · skip
    refine r_sub [1, 3] (ls' := [(0, .ref a0), (2, .long w2)]) rfl ?_
    exact (pw1 c0)
  · skip
    refine r_aload_n dX12_ask_20 rfl 1 rfl ?_
    refine r_getR ck10 dX12_ask_21 flX12_114 rfl k0 ?_
    refine r_iload dX12_ask_24 0 rfl ?_
    refine r_lload_n dX12_ask_26 rfl 3 rfl ?_
    refine r_last dX12_ask_27 k1 (pb2 c0) ?_
    refine r_aload_n dX12_ask_28 rfl 1 rfl ?_
    refine r_getR ck10 dX12_ask_29 flX12_117 rfl k0 ?_
    refine r_iload_n dX12_ask_32 rfl 2 rfl ?_
    refine r_dup2 dX12_ask_33 rfl rfl ?_
    refine r_iald dX12_ask_34 k2 (pb3 c0) ?_
    refine r_iconst (v := (nI 1)) dX12_ask_35 rfl ?_
    refine r_iadd dX12_ask_36 ?_
    refine r_iast dX12_ask_37 k2 (pb3 c0) ?_
    refine r_aload_n dX12_ask_38 rfl 1 rfl ?_
    refine r_getR ck10 dX12_ask_39 flX12_120 rfl k0 ?_
    refine r_iload_n dX12_ask_42 rfl 2 rfl ?_
    refine r_dup2 dX12_ask_43 rfl rfl ?_
    refine r_iald dX12_ask_44 k3 (pb4 c0) ?_
    refine r_aload_n dX12_ask_45 rfl 1 rfl ?_
    refine r_getI ck10 dX12_ask_46 flX12_89 rfl k0 ?_
    refine r_aload_n dX12_ask_49 rfl 1 rfl ?_
    refine r_getI ck10 dX12_ask_50 flX12_92 rfl k0 ?_
    refine r_lload_n dX12_ask_53 rfl 3 rfl ?_
    refine r_sub [1, 3] (ls' := [(0, .ref a0), (2, .long w2)]) rfl ?_
    obtain ⟨e9, hlt, h9⟩ := (pf5 c0)
    exact r_callS (As := [.long w2]) (rest := [.int (mI (sI (sJ M (mR M a0 16) sx0.toNatClampNeg w2) (mR (sJ M (mR M a0 16) sx0.toNatClampNeg w2) a0 17) x1.toNatClampNeg ((mI (sJ M (mR M a0 16) sx0.toNatClampNeg w2) (mR (sJ M (mR M a0 16) sx0.toNatClampNeg w2) a0 17) x1.toNatClampNeg) + (nI 1))) a0 9), .int (mI (sI (sJ M (mR M a0 16) sx0.toNatClampNeg w2) (mR (sJ M (mR M a0 16) sx0.toNatClampNeg w2) a0 17) x1.toNatClampNeg ((mI (sJ M (mR M a0 16) sx0.toNatClampNeg w2) (mR (sJ M (mR M a0 16) sx0.toNatClampNeg w2) a0 17) x1.toNatClampNeg) + (nI 1))) a0 8), .int (mI (sI (sJ M (mR M a0 16) sx0.toNatClampNeg w2) (mR (sJ M (mR M a0 16) sx0.toNatClampNeg w2) a0 17) x1.toNatClampNeg ((mI (sJ M (mR M a0 16) sx0.toNatClampNeg w2) (mR (sJ M (mR M a0 16) sx0.toNatClampNeg w2) a0 17) x1.toNatClampNeg) + (nI 1))) (mR (sI (sJ M (mR M a0 16) sx0.toNatClampNeg w2) (mR (sJ M (mR M a0 16) sx0.toNatClampNeg w2) a0 17) x1.toNatClampNeg ((mI (sJ M (mR M a0 16) sx0.toNatClampNeg w2) (mR (sJ M (mR M a0 16) sx0.toNatClampNeg w2) a0 17) x1.toNatClampNeg) + (nI 1))) a0 18) x1.toNatClampNeg), .int x1, .ref (mR (sI (sJ M (mR M a0 16) sx0.toNatClampNeg w2) (mR (sJ M (mR M a0 16) sx0.toNatClampNeg w2) a0 17) x1.toNatClampNeg ((mI (sJ M (mR M a0 16) sx0.toNatClampNeg w2) (mR (sJ M (mR M a0 16) sx0.toNatClampNeg w2) a0 17) x1.toNatClampNeg) + (nI 1))) a0 18)]) moX12_lengthOf dX12_ask_54 mlX12_33 saX12_lengthOf rfl hlt (Nat.le_of_ble_eq_true rfl) h9
theorem gX12_ask_57 {d : Nat} {Q : Option Value → Mem → Prop} {M : Mem} {a0 : Nat} {w2 : Int64} {sx0 : Int32} {sx1 : Int32} {sx2 : Int32} {sx3 : Int32} {sx4 : Int32} {sa5 : Nat} (k0 : mK M sa5 = 1) (pb0 : vp_in sx4 (mN M sa5)) (pw1 : Wp d mdX12_ask 61 [(0, .ref a0), (2, .long w2)] [] (sI M sa5 sx4.toNatClampNeg (sx3 + (sx2 + (sx1 * sx0)))) Q) : Wp d mdX12_ask 57 [(0, .ref a0), (2, .long w2)] [.int sx0, .int sx1, .int sx2, .int sx3, .int sx4, .ref sa5] M Q := by
  refine r_imul dX12_ask_57 ?_
  refine r_iadd dX12_ask_58 ?_
  refine r_iadd dX12_ask_59 ?_
  refine r_iast dX12_ask_60 k0 pb0 ?_
  exact pw1
theorem gX12_ask_61 {d : Nat} {Q : Option Value → Mem → Prop} {M : Mem} {a0 : Nat} {w2 : Int64} (k0 : mK M a0 = 14) (pf0 : ClD d mdX12_answer [.ref a0, .int (nI 0), .long w2] M (fun r1 M1 => Wp d mdX12_ask 67 [] (r1.toList ++ []) M1 Q)) : Wp d mdX12_ask 61 [(0, .ref a0), (2, .long w2)] [] M Q := by
  refine r_aload_n dX12_ask_61 rfl 0 rfl ?_
  refine r_iconst (v := (nI 0)) dX12_ask_62 rfl ?_
  refine r_lload_n dX12_ask_63 rfl 1 rfl ?_
  refine r_sub [] (ls' := []) rfl ?_
  obtain ⟨e9, hlt, h9⟩ := pf0
  exact r_callV (As := [.int (nI 0), .long w2]) (rest := []) (ci := 10) moX12_answer dX12_ask_64 mlX12_185 imX12_answer seX12_answer k0 rfl hlt (Nat.le_of_ble_eq_true rfl) h9
theorem gX12_ask_67 {d : Nat} {Q : Option Value → Mem → Prop} {M : Mem} {sx0 : Int32}  (pq0 : Q (some (.int sx0)) M) : Wp d mdX12_ask 67 [] [.int sx0] M Q := by
  exact r_ret (some (.int sx0)) dX12_ask_67 rfl pq0
-- X12_headComes
theorem gX12_headComes_0 {d : Nat} {Q : Option Value → Mem → Prop} {M : Mem} {a0 : Nat} {x1 : Int32} {w2 : Int64} (k0 : mK M a0 = 14) (k1 : mK M (mR M a0 11) = 1) (k2 : mK M (mR M a0 13) = 2) (k3 : mK M (mR (sJ M (mR M a0 13) (((nI 160) * x1) + (mI M (mR M a0 11) x1.toNatClampNeg)).toNatClampNeg w2) a0 11) = 1) (pb0 : vp_in x1 (mN M (mR M a0 11))) (pb1 : vp_in (((nI 160) * x1) + (mI M (mR M a0 11) x1.toNatClampNeg)) (mN M (mR M a0 13))) (pb2 : vp_in x1 (mN (sJ M (mR M a0 13) (((nI 160) * x1) + (mI M (mR M a0 11) x1.toNatClampNeg)).toNatClampNeg w2) (mR (sJ M (mR M a0 13) (((nI 160) * x1) + (mI M (mR M a0 11) x1.toNatClampNeg)).toNatClampNeg w2) a0 11))) (pf3 : ClD d mdX12_endFrom [.ref a0, .int (nI 0), .int (nI 0), .long w2] (sJ M (mR M a0 13) (((nI 160) * x1) + (mI M (mR M a0 11) x1.toNatClampNeg)).toNatClampNeg w2) (fun r1 M1 => Wp d mdX12_headComes 41 [(0, .ref a0), (1, .int x1)] (r1.toList ++ [.int (((nI 160) * x1) + (mI (sJ M (mR M a0 13) (((nI 160) * x1) + (mI M (mR M a0 11) x1.toNatClampNeg)).toNatClampNeg w2) (mR (sJ M (mR M a0 13) (((nI 160) * x1) + (mI M (mR M a0 11) x1.toNatClampNeg)).toNatClampNeg w2) a0 11) x1.toNatClampNeg)), .ref (mR (sJ M (mR M a0 13) (((nI 160) * x1) + (mI M (mR M a0 11) x1.toNatClampNeg)).toNatClampNeg w2) a0 14)]) M1 Q)) : Wp d mdX12_headComes 0 [(0, .ref a0), (1, .int x1), (2, .long w2)] [] M Q := by
  refine r_aload_n dX12_headComes_0 rfl 0 rfl ?_
  refine r_getR ck10 dX12_headComes_1 flX12_104 rfl k0 ?_
  refine r_sipush (v := (nI 160)) dX12_headComes_4 rfl ?_
  refine r_iload_n dX12_headComes_7 rfl 1 rfl ?_
  refine r_imul dX12_headComes_8 ?_
  refine r_aload_n dX12_headComes_9 rfl 0 rfl ?_
  refine r_getR ck10 dX12_headComes_10 flX12_98 rfl k0 ?_
  refine r_iload_n dX12_headComes_13 rfl 1 rfl ?_
  refine r_iald dX12_headComes_14 k1 pb0 ?_
  refine r_iadd dX12_headComes_15 ?_
  refine r_lload_n dX12_headComes_16 rfl 2 rfl ?_
  refine r_last dX12_headComes_17 k2 pb1 ?_
  refine r_aload_n dX12_headComes_18 rfl 0 rfl ?_
  refine r_getR ck10 dX12_headComes_19 flX12_107 rfl k0 ?_
  refine r_sipush (v := (nI 160)) dX12_headComes_22 rfl ?_
  refine r_iload_n dX12_headComes_25 rfl 1 rfl ?_
  refine r_imul dX12_headComes_26 ?_
  refine r_aload_n dX12_headComes_27 rfl 0 rfl ?_
  refine r_getR ck10 dX12_headComes_28 flX12_98 rfl k0 ?_
  refine r_iload_n dX12_headComes_31 rfl 1 rfl ?_
  refine r_iald dX12_headComes_32 k3 pb2 ?_
  refine r_iadd dX12_headComes_33 ?_
  refine r_aload_n dX12_headComes_34 rfl 0 rfl ?_
  refine r_iconst (v := (nI 0)) dX12_headComes_35 rfl ?_
  refine r_iconst (v := (nI 0)) dX12_headComes_36 rfl ?_
  refine r_lload_n dX12_headComes_37 rfl 2 rfl ?_
  refine r_sub [0, 1] (ls' := [(0, .ref a0), (1, .int x1)]) rfl ?_
  obtain ⟨e9, hlt, h9⟩ := pf3
  exact r_callV (As := [.int (nI 0), .int (nI 0), .long w2]) (rest := [.int (((nI 160) * x1) + (mI (sJ M (mR M a0 13) (((nI 160) * x1) + (mI M (mR M a0 11) x1.toNatClampNeg)).toNatClampNeg w2) (mR (sJ M (mR M a0 13) (((nI 160) * x1) + (mI M (mR M a0 11) x1.toNatClampNeg)).toNatClampNeg w2) a0 11) x1.toNatClampNeg)), .ref (mR (sJ M (mR M a0 13) (((nI 160) * x1) + (mI M (mR M a0 11) x1.toNatClampNeg)).toNatClampNeg w2) a0 14)]) (ci := 10) moX12_endFrom dX12_headComes_38 mlX12_47 imX12_endFrom seX12_endFrom k0 rfl hlt (Nat.le_of_ble_eq_true rfl) h9
theorem gX12_headComes_41 {d : Nat} {Q : Option Value → Mem → Prop} {M : Mem} {a0 : Nat} {x1 : Int32} {sx0 : Int32} {sx1 : Int32} {sa2 : Nat} (k0 : mK M sa2 = 1) (k1 : mK M a0 = 14) (k2 : mK M (mR (sI M sa2 sx1.toNatClampNeg sx0) a0 11) = 1) (pb0 : vp_in sx1 (mN M sa2)) (pb1 : vp_in x1 (mN (sI M sa2 sx1.toNatClampNeg sx0) (mR (sI M sa2 sx1.toNatClampNeg sx0) a0 11))) (pq2 : Q none (sI (sI M sa2 sx1.toNatClampNeg sx0) (mR (sI M sa2 sx1.toNatClampNeg sx0) a0 11) x1.toNatClampNeg ((mI (sI M sa2 sx1.toNatClampNeg sx0) (mR (sI M sa2 sx1.toNatClampNeg sx0) a0 11) x1.toNatClampNeg) + (nI 1)))) : Wp d mdX12_headComes 41 [(0, .ref a0), (1, .int x1)] [.int sx0, .int sx1, .ref sa2] M Q := by
  refine r_iast dX12_headComes_41 k0 pb0 ?_
  refine r_aload_n dX12_headComes_42 rfl 0 rfl ?_
  refine r_getR ck10 dX12_headComes_43 flX12_98 rfl k1 ?_
  refine r_iload_n dX12_headComes_46 rfl 1 rfl ?_
  refine r_dup2 dX12_headComes_47 rfl rfl ?_
  refine r_iald dX12_headComes_48 k2 pb1 ?_
  refine r_iconst (v := (nI 1)) dX12_headComes_49 rfl ?_
  refine r_iadd dX12_headComes_50 ?_
  refine r_iast dX12_headComes_51 k2 pb1 ?_
  exact r_ret none dX12_headComes_52 rfl pq2
-- X12_tailComes
theorem gX12_tailComes_0 {d : Nat} {Q : Option Value → Mem → Prop} {M : Mem} {a0 : Nat} {x1 : Int32} {w2 : Int64} (k0 : mK M a0 = 14) (k1 : mK M (mR M a0 12) = 1) (k2 : mK M (mR M a0 15) = 2) (pb0 : vp_in x1 (mN M (mR M a0 12))) (pb1 : vp_in (((nI 128) * x1) + (mI M (mR M a0 12) x1.toNatClampNeg)) (mN M (mR M a0 15))) (pw2 : Wp d mdX12_tailComes 21 [(0, .ref a0), (1, .int x1), (4, .int (nI 0))] [] (sJ M (mR M a0 15) (((nI 128) * x1) + (mI M (mR M a0 12) x1.toNatClampNeg)).toNatClampNeg w2) Q) : Wp d mdX12_tailComes 0 [(0, .ref a0), (1, .int x1), (2, .long w2)] [] M Q := by
  refine r_aload_n dX12_tailComes_0 rfl 0 rfl ?_
  refine r_getR ck10 dX12_tailComes_1 flX12_110 rfl k0 ?_
  refine r_sipush (v := (nI 128)) dX12_tailComes_4 rfl ?_
  refine r_iload_n dX12_tailComes_7 rfl 1 rfl ?_
  refine r_imul dX12_tailComes_8 ?_
  refine r_aload_n dX12_tailComes_9 rfl 0 rfl ?_
  refine r_getR ck10 dX12_tailComes_10 flX12_101 rfl k0 ?_
  refine r_iload_n dX12_tailComes_13 rfl 1 rfl ?_
  refine r_iald dX12_tailComes_14 k1 pb0 ?_
  refine r_iadd dX12_tailComes_15 ?_
  refine r_lload_n dX12_tailComes_16 rfl 2 rfl ?_
  refine r_last dX12_tailComes_17 k2 pb1 ?_
  refine r_iconst (v := (nI 0)) dX12_tailComes_18 rfl ?_
  refine r_istore dX12_tailComes_19 (by decide) (ls' := [(4, .int (nI 0)), (0, .ref a0), (1, .int x1), (2, .long w2)]) rfl ?_
  refine r_sub [1, 2, 0] (ls' := [(0, .ref a0), (1, .int x1), (4, .int (nI 0))]) rfl ?_
  exact pw2
theorem gX12_tailComes_21 {d : Nat} {Q : Option Value → Mem → Prop} {M : Mem} {a0 : Nat} {x1 : Int32} {x4 : Int32} (k0 : mK M a0 = 14) (k1 : mK M (mR M a0 12) = 1) (k2 : mK M (mR M a0 22) = 1) (pb0 : (nI 4) ≤ x4 → vp_in x1 (mN M (mR M a0 12))) (pq1 : (nI 4) ≤ x4 → Q none (sI M (mR M a0 12) x1.toNatClampNeg ((mI M (mR M a0 12) x1.toNatClampNeg) + (nI 1)))) (pb2 : ¬ (nI 4) ≤ x4 → vp_in x1 (mN M (mR M a0 12))) (pb3 : ¬ (nI 4) ≤ x4 → vp_in (((nI 4) * (((nI 128) * x1) + (mI M (mR M a0 12) x1.toNatClampNeg))) + x4) (mN M (mR M a0 22))) (pw4 : ¬ (nI 4) ≤ x4 → Wp d mdX12_tailComes 21 [(0, .ref a0), (1, .int x1), (4, .int (x4 + (nI 1)))] [] (sI M (mR M a0 22) (((nI 4) * (((nI 128) * x1) + (mI M (mR M a0 12) x1.toNatClampNeg))) + x4).toNatClampNeg (nI 0)) Q) : Wp d mdX12_tailComes 21 [(0, .ref a0), (1, .int x1), (4, .int x4)] [] M Q := by
  refine r_iload dX12_tailComes_21 2 rfl ?_
  refine r_iconst (v := (nI 4)) dX12_tailComes_23 rfl ?_
  refine r_icmp_ge (tgt := 56) dX12_tailComes_24 (by decide) (fun c0 => ?_) (fun c0 => ?_)
  · skip
    refine r_aload_n dX12_tailComes_56 rfl 0 rfl ?_
    refine r_getR ck10 dX12_tailComes_57 flX12_101 rfl k0 ?_
    refine r_iload_n dX12_tailComes_60 rfl 1 rfl ?_
    refine r_dup2 dX12_tailComes_61 rfl rfl ?_
    refine r_iald dX12_tailComes_62 k1 (pb0 c0) ?_
    refine r_iconst (v := (nI 1)) dX12_tailComes_63 rfl ?_
    refine r_iadd dX12_tailComes_64 ?_
    refine r_iast dX12_tailComes_65 k1 (pb0 c0) ?_
    exact r_ret none dX12_tailComes_66 rfl (pq1 c0)
  · skip
    refine r_aload_n dX12_tailComes_27 rfl 0 rfl ?_
    refine r_getR ck10 dX12_tailComes_28 flX12_133 rfl k0 ?_
    refine r_iconst (v := (nI 4)) dX12_tailComes_31 rfl ?_
    refine r_sipush (v := (nI 128)) dX12_tailComes_32 rfl ?_
    refine r_iload_n dX12_tailComes_35 rfl 1 rfl ?_
    refine r_imul dX12_tailComes_36 ?_
    refine r_aload_n dX12_tailComes_37 rfl 0 rfl ?_
    refine r_getR ck10 dX12_tailComes_38 flX12_101 rfl k0 ?_
    refine r_iload_n dX12_tailComes_41 rfl 1 rfl ?_
    refine r_iald dX12_tailComes_42 k1 (pb2 c0) ?_
    refine r_iadd dX12_tailComes_43 ?_
    refine r_imul dX12_tailComes_44 ?_
    refine r_iload dX12_tailComes_45 2 rfl ?_
    refine r_iadd dX12_tailComes_47 ?_
    refine r_iconst (v := (nI 0)) dX12_tailComes_48 rfl ?_
    refine r_iast dX12_tailComes_49 k2 (pb3 c0) ?_
    refine r_iinc dX12_tailComes_50 2 rfl (v := x4 + (nI 1)) rfl (by decide) (ls' := [(4, .int (x4 + (nI 1))), (0, .ref a0), (1, .int x1)]) rfl ?_
    refine r_goto (tgt := 21) dX12_tailComes_53 (by decide) ?_
    refine r_sub [1, 2, 0] (ls' := [(0, .ref a0), (1, .int x1), (4, .int (x4 + (nI 1)))]) rfl ?_
    exact (pw4 c0)
-- X12_headOf
theorem gX12_headOf_0 {d : Nat} {Q : Option Value → Mem → Prop} {M : Mem} {a0 : Nat} {x1 : Int32} {x2 : Int32} (k0 : mK M a0 = 14) (k1 : mK M (mR M a0 13) = 2) (pb0 : vp_in (((nI 160) * x1) + x2) (mN M (mR M a0 13))) (pq1 : Q (some (.long (mJ M (mR M a0 13) (((nI 160) * x1) + x2).toNatClampNeg))) M) : Wp d mdX12_headOf 0 [(0, .ref a0), (1, .int x1), (2, .int x2)] [] M Q := by
  refine r_aload_n dX12_headOf_0 rfl 0 rfl ?_
  refine r_getR ck10 dX12_headOf_1 flX12_104 rfl k0 ?_
  refine r_sipush (v := (nI 160)) dX12_headOf_4 rfl ?_
  refine r_iload_n dX12_headOf_7 rfl 1 rfl ?_
  refine r_imul dX12_headOf_8 ?_
  refine r_iload_n dX12_headOf_9 rfl 2 rfl ?_
  refine r_iadd dX12_headOf_10 ?_
  refine r_lald dX12_headOf_11 k1 pb0 ?_
  exact r_ret (some (.long (mJ M (mR M a0 13) (((nI 160) * x1) + x2).toNatClampNeg))) dX12_headOf_12 rfl pq1
-- X12_tailOf
theorem gX12_tailOf_0 {d : Nat} {Q : Option Value → Mem → Prop} {M : Mem} {a0 : Nat} {x1 : Int32} {x2 : Int32} (k0 : mK M a0 = 14) (k1 : mK M (mR M a0 15) = 2) (pb0 : vp_in (((nI 128) * x1) + x2) (mN M (mR M a0 15))) (pq1 : Q (some (.long (mJ M (mR M a0 15) (((nI 128) * x1) + x2).toNatClampNeg))) M) : Wp d mdX12_tailOf 0 [(0, .ref a0), (1, .int x1), (2, .int x2)] [] M Q := by
  refine r_aload_n dX12_tailOf_0 rfl 0 rfl ?_
  refine r_getR ck10 dX12_tailOf_1 flX12_110 rfl k0 ?_
  refine r_sipush (v := (nI 128)) dX12_tailOf_4 rfl ?_
  refine r_iload_n dX12_tailOf_7 rfl 1 rfl ?_
  refine r_imul dX12_tailOf_8 ?_
  refine r_iload_n dX12_tailOf_9 rfl 2 rfl ?_
  refine r_iadd dX12_tailOf_10 ?_
  refine r_lald dX12_tailOf_11 k1 pb0 ?_
  exact r_ret (some (.long (mJ M (mR M a0 15) (((nI 128) * x1) + x2).toNatClampNeg))) dX12_tailOf_12 rfl pq1
-- X12_fresh
theorem gX12_fresh_0 {d : Nat} {Q : Option Value → Mem → Prop} {M : Mem} {a0 : Nat} {x1 : Int32} {x2 : Int32} (k0 : mK M a0 = 14) (k1 : mK M (mR M a0 10) = 1) (pb0 : vp_in x1 (mN M (mR M a0 10))) (pw1 : Wp d mdX12_fresh 9 [(0, .ref a0), (1, .int x1), (2, .int x2), (3, .int (nI 0))] [] (sI M (mR M a0 10) x1.toNatClampNeg x2) Q) : Wp d mdX12_fresh 0 [(0, .ref a0), (1, .int x1), (2, .int x2)] [] M Q := by
  refine r_aload_n dX12_fresh_0 rfl 0 rfl ?_
  refine r_getR ck10 dX12_fresh_1 flX12_95 rfl k0 ?_
  refine r_iload_n dX12_fresh_4 rfl 1 rfl ?_
  refine r_iload_n dX12_fresh_5 rfl 2 rfl ?_
  refine r_iast dX12_fresh_6 k1 pb0 ?_
  refine r_iconst (v := (nI 0)) dX12_fresh_7 rfl ?_
  refine r_istore_n dX12_fresh_8 rfl (by decide) (ls' := [(3, .int (nI 0)), (0, .ref a0), (1, .int x1), (2, .int x2)]) rfl ?_
  refine r_sub [1, 2, 3, 0] (ls' := [(0, .ref a0), (1, .int x1), (2, .int x2), (3, .int (nI 0))]) rfl ?_
  exact pw1
theorem gX12_fresh_9 {d : Nat} {Q : Option Value → Mem → Prop} {M : Mem} {a0 : Nat} {x1 : Int32} {x2 : Int32} {x3 : Int32} (k0 : mK M a0 = 14) (k1 : mK M (mR M a0 17) = 1) (k2 : mK M (mR (sI M (mR M a0 17) x1.toNatClampNeg (nI 0)) a0 18) = 1) (k3 : mK M (mR (sI (sI M (mR M a0 17) x1.toNatClampNeg (nI 0)) (mR (sI M (mR M a0 17) x1.toNatClampNeg (nI 0)) a0 18) x1.toNatClampNeg (nI 0)) a0 19) = 1) (k4 : mK M (mR (sI (sI (sI M (mR M a0 17) x1.toNatClampNeg (nI 0)) (mR (sI M (mR M a0 17) x1.toNatClampNeg (nI 0)) a0 18) x1.toNatClampNeg (nI 0)) (mR (sI (sI M (mR M a0 17) x1.toNatClampNeg (nI 0)) (mR (sI M (mR M a0 17) x1.toNatClampNeg (nI 0)) a0 18) x1.toNatClampNeg (nI 0)) a0 19) x1.toNatClampNeg (nI 0)) a0 20) = 3) (k5 : mK M (mR (sI (sI (sI (sI M (mR M a0 17) x1.toNatClampNeg (nI 0)) (mR (sI M (mR M a0 17) x1.toNatClampNeg (nI 0)) a0 18) x1.toNatClampNeg (nI 0)) (mR (sI (sI M (mR M a0 17) x1.toNatClampNeg (nI 0)) (mR (sI M (mR M a0 17) x1.toNatClampNeg (nI 0)) a0 18) x1.toNatClampNeg (nI 0)) a0 19) x1.toNatClampNeg (nI 0)) (mR (sI (sI (sI M (mR M a0 17) x1.toNatClampNeg (nI 0)) (mR (sI M (mR M a0 17) x1.toNatClampNeg (nI 0)) a0 18) x1.toNatClampNeg (nI 0)) (mR (sI (sI M (mR M a0 17) x1.toNatClampNeg (nI 0)) (mR (sI M (mR M a0 17) x1.toNatClampNeg (nI 0)) a0 18) x1.toNatClampNeg (nI 0)) a0 19) x1.toNatClampNeg (nI 0)) a0 20) x1.toNatClampNeg (nI 0)) a0 11) = 1) (k6 : mK M (mR (sI (sI (sI (sI (sI M (mR M a0 17) x1.toNatClampNeg (nI 0)) (mR (sI M (mR M a0 17) x1.toNatClampNeg (nI 0)) a0 18) x1.toNatClampNeg (nI 0)) (mR (sI (sI M (mR M a0 17) x1.toNatClampNeg (nI 0)) (mR (sI M (mR M a0 17) x1.toNatClampNeg (nI 0)) a0 18) x1.toNatClampNeg (nI 0)) a0 19) x1.toNatClampNeg (nI 0)) (mR (sI (sI (sI M (mR M a0 17) x1.toNatClampNeg (nI 0)) (mR (sI M (mR M a0 17) x1.toNatClampNeg (nI 0)) a0 18) x1.toNatClampNeg (nI 0)) (mR (sI (sI M (mR M a0 17) x1.toNatClampNeg (nI 0)) (mR (sI M (mR M a0 17) x1.toNatClampNeg (nI 0)) a0 18) x1.toNatClampNeg (nI 0)) a0 19) x1.toNatClampNeg (nI 0)) a0 20) x1.toNatClampNeg (nI 0)) (mR (sI (sI (sI (sI M (mR M a0 17) x1.toNatClampNeg (nI 0)) (mR (sI M (mR M a0 17) x1.toNatClampNeg (nI 0)) a0 18) x1.toNatClampNeg (nI 0)) (mR (sI (sI M (mR M a0 17) x1.toNatClampNeg (nI 0)) (mR (sI M (mR M a0 17) x1.toNatClampNeg (nI 0)) a0 18) x1.toNatClampNeg (nI 0)) a0 19) x1.toNatClampNeg (nI 0)) (mR (sI (sI (sI M (mR M a0 17) x1.toNatClampNeg (nI 0)) (mR (sI M (mR M a0 17) x1.toNatClampNeg (nI 0)) a0 18) x1.toNatClampNeg (nI 0)) (mR (sI (sI M (mR M a0 17) x1.toNatClampNeg (nI 0)) (mR (sI M (mR M a0 17) x1.toNatClampNeg (nI 0)) a0 18) x1.toNatClampNeg (nI 0)) a0 19) x1.toNatClampNeg (nI 0)) a0 20) x1.toNatClampNeg (nI 0)) a0 11) x1.toNatClampNeg (nI 0)) a0 12) = 1) (k7 : mK M (mR M a0 16) = 2) (pb0 : (nI 16384) ≤ x3 → vp_in x1 (mN M (mR M a0 17))) (pb1 : (nI 16384) ≤ x3 → vp_in x1 (mN (sI M (mR M a0 17) x1.toNatClampNeg (nI 0)) (mR (sI M (mR M a0 17) x1.toNatClampNeg (nI 0)) a0 18))) (pb2 : (nI 16384) ≤ x3 → vp_in x1 (mN (sI (sI M (mR M a0 17) x1.toNatClampNeg (nI 0)) (mR (sI M (mR M a0 17) x1.toNatClampNeg (nI 0)) a0 18) x1.toNatClampNeg (nI 0)) (mR (sI (sI M (mR M a0 17) x1.toNatClampNeg (nI 0)) (mR (sI M (mR M a0 17) x1.toNatClampNeg (nI 0)) a0 18) x1.toNatClampNeg (nI 0)) a0 19))) (pb3 : (nI 16384) ≤ x3 → vp_in x1 (mN (sI (sI (sI M (mR M a0 17) x1.toNatClampNeg (nI 0)) (mR (sI M (mR M a0 17) x1.toNatClampNeg (nI 0)) a0 18) x1.toNatClampNeg (nI 0)) (mR (sI (sI M (mR M a0 17) x1.toNatClampNeg (nI 0)) (mR (sI M (mR M a0 17) x1.toNatClampNeg (nI 0)) a0 18) x1.toNatClampNeg (nI 0)) a0 19) x1.toNatClampNeg (nI 0)) (mR (sI (sI (sI M (mR M a0 17) x1.toNatClampNeg (nI 0)) (mR (sI M (mR M a0 17) x1.toNatClampNeg (nI 0)) a0 18) x1.toNatClampNeg (nI 0)) (mR (sI (sI M (mR M a0 17) x1.toNatClampNeg (nI 0)) (mR (sI M (mR M a0 17) x1.toNatClampNeg (nI 0)) a0 18) x1.toNatClampNeg (nI 0)) a0 19) x1.toNatClampNeg (nI 0)) a0 20))) (pb4 : (nI 16384) ≤ x3 → vp_in x1 (mN (sI (sI (sI (sI M (mR M a0 17) x1.toNatClampNeg (nI 0)) (mR (sI M (mR M a0 17) x1.toNatClampNeg (nI 0)) a0 18) x1.toNatClampNeg (nI 0)) (mR (sI (sI M (mR M a0 17) x1.toNatClampNeg (nI 0)) (mR (sI M (mR M a0 17) x1.toNatClampNeg (nI 0)) a0 18) x1.toNatClampNeg (nI 0)) a0 19) x1.toNatClampNeg (nI 0)) (mR (sI (sI (sI M (mR M a0 17) x1.toNatClampNeg (nI 0)) (mR (sI M (mR M a0 17) x1.toNatClampNeg (nI 0)) a0 18) x1.toNatClampNeg (nI 0)) (mR (sI (sI M (mR M a0 17) x1.toNatClampNeg (nI 0)) (mR (sI M (mR M a0 17) x1.toNatClampNeg (nI 0)) a0 18) x1.toNatClampNeg (nI 0)) a0 19) x1.toNatClampNeg (nI 0)) a0 20) x1.toNatClampNeg (nI 0)) (mR (sI (sI (sI (sI M (mR M a0 17) x1.toNatClampNeg (nI 0)) (mR (sI M (mR M a0 17) x1.toNatClampNeg (nI 0)) a0 18) x1.toNatClampNeg (nI 0)) (mR (sI (sI M (mR M a0 17) x1.toNatClampNeg (nI 0)) (mR (sI M (mR M a0 17) x1.toNatClampNeg (nI 0)) a0 18) x1.toNatClampNeg (nI 0)) a0 19) x1.toNatClampNeg (nI 0)) (mR (sI (sI (sI M (mR M a0 17) x1.toNatClampNeg (nI 0)) (mR (sI M (mR M a0 17) x1.toNatClampNeg (nI 0)) a0 18) x1.toNatClampNeg (nI 0)) (mR (sI (sI M (mR M a0 17) x1.toNatClampNeg (nI 0)) (mR (sI M (mR M a0 17) x1.toNatClampNeg (nI 0)) a0 18) x1.toNatClampNeg (nI 0)) a0 19) x1.toNatClampNeg (nI 0)) a0 20) x1.toNatClampNeg (nI 0)) a0 11))) (pb5 : (nI 16384) ≤ x3 → vp_in x1 (mN (sI (sI (sI (sI (sI M (mR M a0 17) x1.toNatClampNeg (nI 0)) (mR (sI M (mR M a0 17) x1.toNatClampNeg (nI 0)) a0 18) x1.toNatClampNeg (nI 0)) (mR (sI (sI M (mR M a0 17) x1.toNatClampNeg (nI 0)) (mR (sI M (mR M a0 17) x1.toNatClampNeg (nI 0)) a0 18) x1.toNatClampNeg (nI 0)) a0 19) x1.toNatClampNeg (nI 0)) (mR (sI (sI (sI M (mR M a0 17) x1.toNatClampNeg (nI 0)) (mR (sI M (mR M a0 17) x1.toNatClampNeg (nI 0)) a0 18) x1.toNatClampNeg (nI 0)) (mR (sI (sI M (mR M a0 17) x1.toNatClampNeg (nI 0)) (mR (sI M (mR M a0 17) x1.toNatClampNeg (nI 0)) a0 18) x1.toNatClampNeg (nI 0)) a0 19) x1.toNatClampNeg (nI 0)) a0 20) x1.toNatClampNeg (nI 0)) (mR (sI (sI (sI (sI M (mR M a0 17) x1.toNatClampNeg (nI 0)) (mR (sI M (mR M a0 17) x1.toNatClampNeg (nI 0)) a0 18) x1.toNatClampNeg (nI 0)) (mR (sI (sI M (mR M a0 17) x1.toNatClampNeg (nI 0)) (mR (sI M (mR M a0 17) x1.toNatClampNeg (nI 0)) a0 18) x1.toNatClampNeg (nI 0)) a0 19) x1.toNatClampNeg (nI 0)) (mR (sI (sI (sI M (mR M a0 17) x1.toNatClampNeg (nI 0)) (mR (sI M (mR M a0 17) x1.toNatClampNeg (nI 0)) a0 18) x1.toNatClampNeg (nI 0)) (mR (sI (sI M (mR M a0 17) x1.toNatClampNeg (nI 0)) (mR (sI M (mR M a0 17) x1.toNatClampNeg (nI 0)) a0 18) x1.toNatClampNeg (nI 0)) a0 19) x1.toNatClampNeg (nI 0)) a0 20) x1.toNatClampNeg (nI 0)) a0 11) x1.toNatClampNeg (nI 0)) (mR (sI (sI (sI (sI (sI M (mR M a0 17) x1.toNatClampNeg (nI 0)) (mR (sI M (mR M a0 17) x1.toNatClampNeg (nI 0)) a0 18) x1.toNatClampNeg (nI 0)) (mR (sI (sI M (mR M a0 17) x1.toNatClampNeg (nI 0)) (mR (sI M (mR M a0 17) x1.toNatClampNeg (nI 0)) a0 18) x1.toNatClampNeg (nI 0)) a0 19) x1.toNatClampNeg (nI 0)) (mR (sI (sI (sI M (mR M a0 17) x1.toNatClampNeg (nI 0)) (mR (sI M (mR M a0 17) x1.toNatClampNeg (nI 0)) a0 18) x1.toNatClampNeg (nI 0)) (mR (sI (sI M (mR M a0 17) x1.toNatClampNeg (nI 0)) (mR (sI M (mR M a0 17) x1.toNatClampNeg (nI 0)) a0 18) x1.toNatClampNeg (nI 0)) a0 19) x1.toNatClampNeg (nI 0)) a0 20) x1.toNatClampNeg (nI 0)) (mR (sI (sI (sI (sI M (mR M a0 17) x1.toNatClampNeg (nI 0)) (mR (sI M (mR M a0 17) x1.toNatClampNeg (nI 0)) a0 18) x1.toNatClampNeg (nI 0)) (mR (sI (sI M (mR M a0 17) x1.toNatClampNeg (nI 0)) (mR (sI M (mR M a0 17) x1.toNatClampNeg (nI 0)) a0 18) x1.toNatClampNeg (nI 0)) a0 19) x1.toNatClampNeg (nI 0)) (mR (sI (sI (sI M (mR M a0 17) x1.toNatClampNeg (nI 0)) (mR (sI M (mR M a0 17) x1.toNatClampNeg (nI 0)) a0 18) x1.toNatClampNeg (nI 0)) (mR (sI (sI M (mR M a0 17) x1.toNatClampNeg (nI 0)) (mR (sI M (mR M a0 17) x1.toNatClampNeg (nI 0)) a0 18) x1.toNatClampNeg (nI 0)) a0 19) x1.toNatClampNeg (nI 0)) a0 20) x1.toNatClampNeg (nI 0)) a0 11) x1.toNatClampNeg (nI 0)) a0 12))) (pf6 : (nI 16384) ≤ x3 → ClD d mdX12_headComes [.ref a0, .int x1, .long (lN 1)] (sI (sI (sI (sI (sI (sI M (mR M a0 17) x1.toNatClampNeg (nI 0)) (mR (sI M (mR M a0 17) x1.toNatClampNeg (nI 0)) a0 18) x1.toNatClampNeg (nI 0)) (mR (sI (sI M (mR M a0 17) x1.toNatClampNeg (nI 0)) (mR (sI M (mR M a0 17) x1.toNatClampNeg (nI 0)) a0 18) x1.toNatClampNeg (nI 0)) a0 19) x1.toNatClampNeg (nI 0)) (mR (sI (sI (sI M (mR M a0 17) x1.toNatClampNeg (nI 0)) (mR (sI M (mR M a0 17) x1.toNatClampNeg (nI 0)) a0 18) x1.toNatClampNeg (nI 0)) (mR (sI (sI M (mR M a0 17) x1.toNatClampNeg (nI 0)) (mR (sI M (mR M a0 17) x1.toNatClampNeg (nI 0)) a0 18) x1.toNatClampNeg (nI 0)) a0 19) x1.toNatClampNeg (nI 0)) a0 20) x1.toNatClampNeg (nI 0)) (mR (sI (sI (sI (sI M (mR M a0 17) x1.toNatClampNeg (nI 0)) (mR (sI M (mR M a0 17) x1.toNatClampNeg (nI 0)) a0 18) x1.toNatClampNeg (nI 0)) (mR (sI (sI M (mR M a0 17) x1.toNatClampNeg (nI 0)) (mR (sI M (mR M a0 17) x1.toNatClampNeg (nI 0)) a0 18) x1.toNatClampNeg (nI 0)) a0 19) x1.toNatClampNeg (nI 0)) (mR (sI (sI (sI M (mR M a0 17) x1.toNatClampNeg (nI 0)) (mR (sI M (mR M a0 17) x1.toNatClampNeg (nI 0)) a0 18) x1.toNatClampNeg (nI 0)) (mR (sI (sI M (mR M a0 17) x1.toNatClampNeg (nI 0)) (mR (sI M (mR M a0 17) x1.toNatClampNeg (nI 0)) a0 18) x1.toNatClampNeg (nI 0)) a0 19) x1.toNatClampNeg (nI 0)) a0 20) x1.toNatClampNeg (nI 0)) a0 11) x1.toNatClampNeg (nI 0)) (mR (sI (sI (sI (sI (sI M (mR M a0 17) x1.toNatClampNeg (nI 0)) (mR (sI M (mR M a0 17) x1.toNatClampNeg (nI 0)) a0 18) x1.toNatClampNeg (nI 0)) (mR (sI (sI M (mR M a0 17) x1.toNatClampNeg (nI 0)) (mR (sI M (mR M a0 17) x1.toNatClampNeg (nI 0)) a0 18) x1.toNatClampNeg (nI 0)) a0 19) x1.toNatClampNeg (nI 0)) (mR (sI (sI (sI M (mR M a0 17) x1.toNatClampNeg (nI 0)) (mR (sI M (mR M a0 17) x1.toNatClampNeg (nI 0)) a0 18) x1.toNatClampNeg (nI 0)) (mR (sI (sI M (mR M a0 17) x1.toNatClampNeg (nI 0)) (mR (sI M (mR M a0 17) x1.toNatClampNeg (nI 0)) a0 18) x1.toNatClampNeg (nI 0)) a0 19) x1.toNatClampNeg (nI 0)) a0 20) x1.toNatClampNeg (nI 0)) (mR (sI (sI (sI (sI M (mR M a0 17) x1.toNatClampNeg (nI 0)) (mR (sI M (mR M a0 17) x1.toNatClampNeg (nI 0)) a0 18) x1.toNatClampNeg (nI 0)) (mR (sI (sI M (mR M a0 17) x1.toNatClampNeg (nI 0)) (mR (sI M (mR M a0 17) x1.toNatClampNeg (nI 0)) a0 18) x1.toNatClampNeg (nI 0)) a0 19) x1.toNatClampNeg (nI 0)) (mR (sI (sI (sI M (mR M a0 17) x1.toNatClampNeg (nI 0)) (mR (sI M (mR M a0 17) x1.toNatClampNeg (nI 0)) a0 18) x1.toNatClampNeg (nI 0)) (mR (sI (sI M (mR M a0 17) x1.toNatClampNeg (nI 0)) (mR (sI M (mR M a0 17) x1.toNatClampNeg (nI 0)) a0 18) x1.toNatClampNeg (nI 0)) a0 19) x1.toNatClampNeg (nI 0)) a0 20) x1.toNatClampNeg (nI 0)) a0 11) x1.toNatClampNeg (nI 0)) a0 12) x1.toNatClampNeg (nI 0)) (fun r1 M1 => Wp d mdX12_fresh 83 [(0, .ref a0), (1, .int x1), (2, .int x2)] (r1.toList ++ []) M1 Q)) (pb7 : ¬ (nI 16384) ≤ x3 → vp_in (((nI 16384) * x1) + x3) (mN M (mR M a0 16))) (pw8 : ¬ (nI 16384) ≤ x3 → Wp d mdX12_fresh 9 [(0, .ref a0), (1, .int x1), (2, .int x2), (3, .int (x3 + (nI 1)))] [] (sJ M (mR M a0 16) (((nI 16384) * x1) + x3).toNatClampNeg (lN 0)) Q) : Wp d mdX12_fresh 9 [(0, .ref a0), (1, .int x1), (2, .int x2), (3, .int x3)] [] M Q := by
  refine r_iload_n dX12_fresh_9 rfl 3 rfl ?_
  refine r_sipush (v := (nI 16384)) dX12_fresh_10 rfl ?_
  refine r_icmp_ge (tgt := 35) dX12_fresh_13 (by decide) (fun c0 => ?_) (fun c0 => ?_)
  · skip
    refine r_aload_n dX12_fresh_35 rfl 0 rfl ?_
    refine r_getR ck10 dX12_fresh_36 flX12_117 rfl k0 ?_
    refine r_iload_n dX12_fresh_39 rfl 1 rfl ?_
    refine r_iconst (v := (nI 0)) dX12_fresh_40 rfl ?_
    refine r_iast dX12_fresh_41 k1 (pb0 c0) ?_
    refine r_aload_n dX12_fresh_42 rfl 0 rfl ?_
    refine r_getR ck10 dX12_fresh_43 flX12_120 rfl k0 ?_
    refine r_iload_n dX12_fresh_46 rfl 1 rfl ?_
    refine r_iconst (v := (nI 0)) dX12_fresh_47 rfl ?_
    refine r_iast dX12_fresh_48 k2 (pb1 c0) ?_
    refine r_aload_n dX12_fresh_49 rfl 0 rfl ?_
    refine r_getR ck10 dX12_fresh_50 flX12_123 rfl k0 ?_
    refine r_iload_n dX12_fresh_53 rfl 1 rfl ?_
    refine r_iconst (v := (nI 0)) dX12_fresh_54 rfl ?_
    refine r_iast dX12_fresh_55 k3 (pb2 c0) ?_
    refine r_aload_n dX12_fresh_56 rfl 0 rfl ?_
    refine r_getR ck10 dX12_fresh_57 flX12_126 rfl k0 ?_
    refine r_iload_n dX12_fresh_60 rfl 1 rfl ?_
    refine r_iconst (v := (nI 0)) dX12_fresh_61 rfl ?_
    refine r_zast dX12_fresh_62 k4 (pb3 c0) rfl ?_
    refine r_aload_n dX12_fresh_63 rfl 0 rfl ?_
    refine r_getR ck10 dX12_fresh_64 flX12_98 rfl k0 ?_
    refine r_iload_n dX12_fresh_67 rfl 1 rfl ?_
    refine r_iconst (v := (nI 0)) dX12_fresh_68 rfl ?_
    refine r_iast dX12_fresh_69 k5 (pb4 c0) ?_
    refine r_aload_n dX12_fresh_70 rfl 0 rfl ?_
    refine r_getR ck10 dX12_fresh_71 flX12_101 rfl k0 ?_
    refine r_iload_n dX12_fresh_74 rfl 1 rfl ?_
    refine r_iconst (v := (nI 0)) dX12_fresh_75 rfl ?_
    refine r_iast dX12_fresh_76 k6 (pb5 c0) ?_
    refine r_aload_n dX12_fresh_77 rfl 0 rfl ?_
    refine r_iload_n dX12_fresh_78 rfl 1 rfl ?_
    refine r_lconst (v := (lN 1)) dX12_fresh_79 rfl ?_
    refine r_sub [0, 1, 2] (ls' := [(0, .ref a0), (1, .int x1), (2, .int x2)]) rfl ?_
    obtain ⟨e9, hlt, h9⟩ := (pf6 c0)
    exact r_callV (As := [.int x1, .long (lN 1)]) (rest := []) (ci := 10) moX12_headComes dX12_fresh_80 mlX12_188 imX12_headComes seX12_headComes k0 rfl hlt (Nat.le_of_ble_eq_true rfl) h9
  · skip
    refine r_aload_n dX12_fresh_16 rfl 0 rfl ?_
    refine r_getR ck10 dX12_fresh_17 flX12_114 rfl k0 ?_
    refine r_sipush (v := (nI 16384)) dX12_fresh_20 rfl ?_
    refine r_iload_n dX12_fresh_23 rfl 1 rfl ?_
    refine r_imul dX12_fresh_24 ?_
    refine r_iload_n dX12_fresh_25 rfl 3 rfl ?_
    refine r_iadd dX12_fresh_26 ?_
    refine r_lconst (v := (lN 0)) dX12_fresh_27 rfl ?_
    refine r_last dX12_fresh_28 k7 (pb7 c0) ?_
    refine r_iinc dX12_fresh_29 3 rfl (v := x3 + (nI 1)) rfl (by decide) (ls' := [(3, .int (x3 + (nI 1))), (0, .ref a0), (1, .int x1), (2, .int x2)]) rfl ?_
    refine r_goto (tgt := 9) dX12_fresh_32 (by decide) ?_
    refine r_sub [1, 2, 3, 0] (ls' := [(0, .ref a0), (1, .int x1), (2, .int x2), (3, .int (x3 + (nI 1)))]) rfl ?_
    exact (pw8 c0)
theorem gX12_fresh_83 {d : Nat} {Q : Option Value → Mem → Prop} {M : Mem} {a0 : Nat} {x1 : Int32} {x2 : Int32} (k0 : mK M a0 = 14) (pf0 : ClD d mdX12_tailComes [.ref a0, .int x1, .long (lN 1)] M (fun r1 M1 => Wp d mdX12_fresh 89 [(0, .ref a0), (1, .int x1), (2, .int x2)] (r1.toList ++ []) M1 Q)) : Wp d mdX12_fresh 83 [(0, .ref a0), (1, .int x1), (2, .int x2)] [] M Q := by
  refine r_aload_n dX12_fresh_83 rfl 0 rfl ?_
  refine r_iload_n dX12_fresh_84 rfl 1 rfl ?_
  refine r_lconst (v := (lN 1)) dX12_fresh_85 rfl ?_
  obtain ⟨e9, hlt, h9⟩ := pf0
  exact r_callV (As := [.int x1, .long (lN 1)]) (rest := []) (ci := 10) moX12_tailComes dX12_fresh_86 mlX12_192 imX12_tailComes seX12_tailComes k0 rfl hlt (Nat.le_of_ble_eq_true rfl) h9
theorem gX12_fresh_89 {d : Nat} {Q : Option Value → Mem → Prop} {M : Mem} {a0 : Nat} {x1 : Int32} {x2 : Int32} (k0 : mK M a0 = 14) (pq0 : ¬ x2 = (nI 3) → Q none M) (pf1 : x2 = (nI 3) → ClD d mdX12_ask [.ref a0, .int x1, .long (lN 1)] M (fun r1 M1 => Wp d mdX12_fresh 109 [] (r1.toList ++ [.int ((nI 512) * x1), .ref (mR M a0 22)]) M1 Q)) : Wp d mdX12_fresh 89 [(0, .ref a0), (1, .int x1), (2, .int x2)] [] M Q := by
  refine r_iload_n dX12_fresh_89 rfl 2 rfl ?_
  refine r_iconst (v := (nI 3)) dX12_fresh_90 rfl ?_
  refine r_icmp_ne (tgt := 112) dX12_fresh_91 (by decide) (fun c0 => ?_) (fun c0 => ?_)
  · skip
    exact r_ret none dX12_fresh_112 rfl (pq0 c0)
  · skip
    refine r_aload_n dX12_fresh_94 rfl 0 rfl ?_
    refine r_getR ck10 dX12_fresh_95 flX12_133 rfl k0 ?_
    refine r_sipush (v := (nI 512)) dX12_fresh_98 rfl ?_
    refine r_iload_n dX12_fresh_101 rfl 1 rfl ?_
    refine r_imul dX12_fresh_102 ?_
    refine r_aload_n dX12_fresh_103 rfl 0 rfl ?_
    refine r_iload_n dX12_fresh_104 rfl 1 rfl ?_
    refine r_lconst (v := (lN 1)) dX12_fresh_105 rfl ?_
    refine r_sub [] (ls' := []) rfl ?_
    obtain ⟨e9, hlt, h9⟩ := (pf1 c0)
    exact r_callV (As := [.int x1, .long (lN 1)]) (rest := [.int ((nI 512) * x1), .ref (mR M a0 22)]) (ci := 10) moX12_ask dX12_fresh_106 mlX12_195 imX12_ask seX12_ask k0 rfl hlt (Nat.le_of_ble_eq_true rfl) h9
theorem gX12_fresh_109 {d : Nat} {Q : Option Value → Mem → Prop} {M : Mem} {sx0 : Int32} {sx1 : Int32} {sa2 : Nat} (k0 : mK M sa2 = 1) (pb0 : vp_in (sx1 + sx0) (mN M sa2)) (pq1 : Q none (sI M sa2 (sx1 + sx0).toNatClampNeg (nI 1))) : Wp d mdX12_fresh 109 [] [.int sx0, .int sx1, .ref sa2] M Q := by
  refine r_iadd dX12_fresh_109 ?_
  refine r_iconst (v := (nI 1)) dX12_fresh_110 rfl ?_
  refine r_iast dX12_fresh_111 k0 pb0 ?_
  exact r_ret none dX12_fresh_112 rfl pq1
-- X12_areLike
theorem gX12_areLike_0 {d : Nat} {Q : Option Value → Mem → Prop} {M : Mem} {a0 : Nat} {x1 : Int32} {x2 : Int32} {x3 : Int32}  (pw0 : Wp d mdX12_areLike 6 [(0, .ref a0), (1, .int x1), (2, .int x2), (3, .int x3), (4, .int (nI 1)), (5, .int (nI 0))] [] M Q) : Wp d mdX12_areLike 0 [(0, .ref a0), (1, .int x1), (2, .int x2), (3, .int x3)] [] M Q := by
  refine r_iconst (v := (nI 1)) dX12_areLike_0 rfl ?_
  refine r_istore dX12_areLike_1 (by decide) (ls' := [(4, .int (nI 1)), (0, .ref a0), (1, .int x1), (2, .int x2), (3, .int x3)]) rfl ?_
  refine r_iconst (v := (nI 0)) dX12_areLike_3 rfl ?_
  refine r_istore dX12_areLike_4 (by decide) (ls' := [(5, .int (nI 0)), (4, .int (nI 1)), (0, .ref a0), (1, .int x1), (2, .int x2), (3, .int x3)]) rfl ?_
  refine r_sub [2, 3, 4, 5, 1, 0] (ls' := [(0, .ref a0), (1, .int x1), (2, .int x2), (3, .int x3), (4, .int (nI 1)), (5, .int (nI 0))]) rfl ?_
  exact pw0
theorem gX12_areLike_6 {d : Nat} {Q : Option Value → Mem → Prop} {M : Mem} {a0 : Nat} {x1 : Int32} {x2 : Int32} {x3 : Int32} {x4 : Int32} {x5 : Int32} (k0 : mK M a0 = 14) (k1 : mK M (mR M a0 12) = 1) (pb0 : vp_in x1 (mN M (mR M a0 12))) (pq1 : (mI M (mR M a0 12) x1.toNatClampNeg) ≤ x5 → Q (some (.int x4)) M) (pw2 : ¬ (mI M (mR M a0 12) x1.toNatClampNeg) ≤ x5 → x4 = 0 → Wp d mdX12_areLike 6 [(0, .ref a0), (1, .int x1), (2, .int x2), (3, .int x3), (4, .int (nI 0)), (5, .int (x5 + (nI 1)))] [] M Q) (pf3 : ¬ (mI M (mR M a0 12) x1.toNatClampNeg) ≤ x5 → ¬ x4 = 0 → ClD d mdX12_tailOf [.ref a0, .int x1, .int x5] M (fun r1 M1 => Wp d mdX12_areLike 34 [(0, .ref a0), (1, .int x1), (2, .int x2), (3, .int x3), (5, .int x5)] (r1.toList ++ [.int x2, .int (nI 0), .ref a0, .int (nI 0), .ref a0]) M1 Q)) : Wp d mdX12_areLike 6 [(0, .ref a0), (1, .int x1), (2, .int x2), (3, .int x3), (4, .int x4), (5, .int x5)] [] M Q := by
  refine r_iload dX12_areLike_6 5 rfl ?_
  refine r_aload_n dX12_areLike_8 rfl 0 rfl ?_
  refine r_getR ck10 dX12_areLike_9 flX12_101 rfl k0 ?_
  refine r_iload_n dX12_areLike_12 rfl 1 rfl ?_
  refine r_iald dX12_areLike_13 k1 pb0 ?_
  refine r_icmp_ge (tgt := 74) dX12_areLike_14 (by decide) (fun c0 => ?_) (fun c0 => ?_)
  · skip
    refine r_iload dX12_areLike_74 4 rfl ?_
    exact r_ret (some (.int x4)) dX12_areLike_76 rfl (pq1 c0)
  · skip
    refine r_iload dX12_areLike_17 4 rfl ?_
    refine r_if_eq (tgt := 65) dX12_areLike_19 (by decide) (fun c1 => ?_) (fun c1 => ?_)
    · skip
      refine r_iconst (v := (nI 0)) dX12_areLike_65 rfl ?_
      refine r_istore dX12_areLike_66 (by decide) (ls' := [(4, .int (nI 0)), (0, .ref a0), (1, .int x1), (2, .int x2), (3, .int x3), (5, .int x5)]) rfl ?_
      refine r_iinc dX12_areLike_68 5 rfl (v := x5 + (nI 1)) rfl (by decide) (ls' := [(5, .int (x5 + (nI 1))), (4, .int (nI 0)), (0, .ref a0), (1, .int x1), (2, .int x2), (3, .int x3)]) rfl ?_
      refine r_goto (tgt := 6) dX12_areLike_71 (by decide) ?_
      refine r_sub [2, 3, 4, 5, 1, 0] (ls' := [(0, .ref a0), (1, .int x1), (2, .int x2), (3, .int x3), (4, .int (nI 0)), (5, .int (x5 + (nI 1)))]) rfl ?_
      exact (pw2 c0 c1)
    · skip
      refine r_aload_n dX12_areLike_22 rfl 0 rfl ?_
      refine r_iconst (v := (nI 0)) dX12_areLike_23 rfl ?_
      refine r_aload_n dX12_areLike_24 rfl 0 rfl ?_
      refine r_iconst (v := (nI 0)) dX12_areLike_25 rfl ?_
      refine r_iload_n dX12_areLike_26 rfl 2 rfl ?_
      refine r_aload_n dX12_areLike_27 rfl 0 rfl ?_
      refine r_iload_n dX12_areLike_28 rfl 1 rfl ?_
      refine r_iload dX12_areLike_29 5 rfl ?_
      refine r_sub [0, 1, 2, 3, 5] (ls' := [(0, .ref a0), (1, .int x1), (2, .int x2), (3, .int x3), (5, .int x5)]) rfl ?_
      obtain ⟨e9, hlt, h9⟩ := (pf3 c0 c1)
      exact r_callV (As := [.int x1, .int x5]) (rest := [.int x2, .int (nI 0), .ref a0, .int (nI 0), .ref a0]) (ci := 10) moX12_tailOf dX12_areLike_31 mlX12_198 imX12_tailOf seX12_tailOf k0 rfl hlt (Nat.le_of_ble_eq_true rfl) h9
theorem gX12_areLike_34 {d : Nat} {Q : Option Value → Mem → Prop} {M : Mem} {a0 : Nat} {x1 : Int32} {x2 : Int32} {x3 : Int32} {x5 : Int32} {sw0 : Int64} {sx1 : Int32} {sx2 : Int32} {sa3 : Nat} {sx4 : Int32} {sa5 : Nat} (k0 : mK M sa3 = 14) (pf0 : ClD d mdX12_endFrom [.ref sa3, .int sx2, .int sx1, .long sw0] M (fun r1 M1 => Wp d mdX12_areLike 37 [(0, .ref a0), (1, .int x1), (2, .int x2), (3, .int x3), (5, .int x5)] (r1.toList ++ [.int sx4, .ref sa5]) M1 Q)) : Wp d mdX12_areLike 34 [(0, .ref a0), (1, .int x1), (2, .int x2), (3, .int x3), (5, .int x5)] [.long sw0, .int sx1, .int sx2, .ref sa3, .int sx4, .ref sa5] M Q := by
  obtain ⟨e9, hlt, h9⟩ := pf0
  exact r_callV (As := [.int sx2, .int sx1, .long sw0]) (rest := [.int sx4, .ref sa5]) (ci := 10) moX12_endFrom dX12_areLike_34 mlX12_47 imX12_endFrom seX12_endFrom k0 rfl hlt (Nat.le_of_ble_eq_true rfl) h9
theorem gX12_areLike_37 {d : Nat} {Q : Option Value → Mem → Prop} {M : Mem} {a0 : Nat} {x1 : Int32} {x2 : Int32} {x3 : Int32} {x5 : Int32} {sx0 : Int32} {sx1 : Int32} {sa2 : Nat} (k0 : mK M sa2 = 14) (pf0 : ClD d mdX12_shown [.ref sa2, .int sx1, .int sx0] M (fun r1 M1 => Wp d mdX12_areLike 40 [(0, .ref a0), (1, .int x1), (2, .int x2), (3, .int x3), (5, .int x5)] (r1.toList ++ []) M1 Q)) : Wp d mdX12_areLike 37 [(0, .ref a0), (1, .int x1), (2, .int x2), (3, .int x3), (5, .int x5)] [.int sx0, .int sx1, .ref sa2] M Q := by
  obtain ⟨e9, hlt, h9⟩ := pf0
  exact r_callV (As := [.int sx1, .int sx0]) (rest := []) (ci := 10) moX12_shown dX12_areLike_37 mlX12_51 imX12_shown seX12_shown k0 rfl hlt (Nat.le_of_ble_eq_true rfl) h9
theorem gX12_areLike_40 {d : Nat} {Q : Option Value → Mem → Prop} {M : Mem} {a0 : Nat} {x1 : Int32} {x2 : Int32} {x3 : Int32} {x5 : Int32} {sx0 : Int32} (k0 : mK M a0 = 14) (pf0 : ClD d mdX12_tailOf [.ref a0, .int x1, .int x5] M (fun r1 M1 => Wp d mdX12_areLike 52 [(0, .ref a0), (1, .int x1), (2, .int x2), (3, .int x3), (5, .int x5)] (r1.toList ++ [.int x3, .int (nI 0), .ref a0, .int (nI 0), .ref a0, .int sx0]) M1 Q)) : Wp d mdX12_areLike 40 [(0, .ref a0), (1, .int x1), (2, .int x2), (3, .int x3), (5, .int x5)] [.int sx0] M Q := by
  refine r_aload_n dX12_areLike_40 rfl 0 rfl ?_
  refine r_iconst (v := (nI 0)) dX12_areLike_41 rfl ?_
  refine r_aload_n dX12_areLike_42 rfl 0 rfl ?_
  refine r_iconst (v := (nI 0)) dX12_areLike_43 rfl ?_
  refine r_iload_n dX12_areLike_44 rfl 3 rfl ?_
  refine r_aload_n dX12_areLike_45 rfl 0 rfl ?_
  refine r_iload_n dX12_areLike_46 rfl 1 rfl ?_
  refine r_iload dX12_areLike_47 4 rfl ?_
  obtain ⟨e9, hlt, h9⟩ := pf0
  exact r_callV (As := [.int x1, .int x5]) (rest := [.int x3, .int (nI 0), .ref a0, .int (nI 0), .ref a0, .int sx0]) (ci := 10) moX12_tailOf dX12_areLike_49 mlX12_198 imX12_tailOf seX12_tailOf k0 rfl hlt (Nat.le_of_ble_eq_true rfl) h9
theorem gX12_areLike_52 {d : Nat} {Q : Option Value → Mem → Prop} {M : Mem} {a0 : Nat} {x1 : Int32} {x2 : Int32} {x3 : Int32} {x5 : Int32} {sw0 : Int64} {sx1 : Int32} {sx2 : Int32} {sa3 : Nat} {sx4 : Int32} {sa5 : Nat} {sx6 : Int32} (k0 : mK M sa3 = 14) (pf0 : ClD d mdX12_endFrom [.ref sa3, .int sx2, .int sx1, .long sw0] M (fun r1 M1 => Wp d mdX12_areLike 55 [(0, .ref a0), (1, .int x1), (2, .int x2), (3, .int x3), (5, .int x5)] (r1.toList ++ [.int sx4, .ref sa5, .int sx6]) M1 Q)) : Wp d mdX12_areLike 52 [(0, .ref a0), (1, .int x1), (2, .int x2), (3, .int x3), (5, .int x5)] [.long sw0, .int sx1, .int sx2, .ref sa3, .int sx4, .ref sa5, .int sx6] M Q := by
  obtain ⟨e9, hlt, h9⟩ := pf0
  exact r_callV (As := [.int sx2, .int sx1, .long sw0]) (rest := [.int sx4, .ref sa5, .int sx6]) (ci := 10) moX12_endFrom dX12_areLike_52 mlX12_47 imX12_endFrom seX12_endFrom k0 rfl hlt (Nat.le_of_ble_eq_true rfl) h9
theorem gX12_areLike_55 {d : Nat} {Q : Option Value → Mem → Prop} {M : Mem} {a0 : Nat} {x1 : Int32} {x2 : Int32} {x3 : Int32} {x5 : Int32} {sx0 : Int32} {sx1 : Int32} {sa2 : Nat} {sx3 : Int32} (k0 : mK M sa2 = 14) (pf0 : ClD d mdX12_shown [.ref sa2, .int sx1, .int sx0] M (fun r1 M1 => Wp d mdX12_areLike 58 [(0, .ref a0), (1, .int x1), (2, .int x2), (3, .int x3), (5, .int x5)] (r1.toList ++ [.int sx3]) M1 Q)) : Wp d mdX12_areLike 55 [(0, .ref a0), (1, .int x1), (2, .int x2), (3, .int x3), (5, .int x5)] [.int sx0, .int sx1, .ref sa2, .int sx3] M Q := by
  obtain ⟨e9, hlt, h9⟩ := pf0
  exact r_callV (As := [.int sx1, .int sx0]) (rest := [.int sx3]) (ci := 10) moX12_shown dX12_areLike_55 mlX12_51 imX12_shown seX12_shown k0 rfl hlt (Nat.le_of_ble_eq_true rfl) h9
theorem gX12_areLike_58 {d : Nat} {Q : Option Value → Mem → Prop} {M : Mem} {a0 : Nat} {x1 : Int32} {x2 : Int32} {x3 : Int32} {x5 : Int32} {sx0 : Int32} {sx1 : Int32}  (pw0 : ¬ sx1 = sx0 → Wp d mdX12_areLike 6 [(0, .ref a0), (1, .int x1), (2, .int x2), (3, .int x3), (4, .int (nI 0)), (5, .int (x5 + (nI 1)))] [] M Q) (pw1 : sx1 = sx0 → Wp d mdX12_areLike 6 [(0, .ref a0), (1, .int x1), (2, .int x2), (3, .int x3), (4, .int (nI 1)), (5, .int (x5 + (nI 1)))] [] M Q) : Wp d mdX12_areLike 58 [(0, .ref a0), (1, .int x1), (2, .int x2), (3, .int x3), (5, .int x5)] [.int sx0, .int sx1] M Q := by
  refine r_icmp_ne (tgt := 65) dX12_areLike_58 (by decide) (fun c0 => ?_) (fun c0 => ?_)
  · skip
    refine r_iconst (v := (nI 0)) dX12_areLike_65 rfl ?_
    refine r_istore dX12_areLike_66 (by decide) (ls' := [(4, .int (nI 0)), (0, .ref a0), (1, .int x1), (2, .int x2), (3, .int x3), (5, .int x5)]) rfl ?_
    refine r_iinc dX12_areLike_68 5 rfl (v := x5 + (nI 1)) rfl (by decide) (ls' := [(5, .int (x5 + (nI 1))), (4, .int (nI 0)), (0, .ref a0), (1, .int x1), (2, .int x2), (3, .int x3)]) rfl ?_
    refine r_goto (tgt := 6) dX12_areLike_71 (by decide) ?_
    refine r_sub [2, 3, 4, 5, 1, 0] (ls' := [(0, .ref a0), (1, .int x1), (2, .int x2), (3, .int x3), (4, .int (nI 0)), (5, .int (x5 + (nI 1)))]) rfl ?_
    exact (pw0 c0)
  · skip
    refine r_iconst (v := (nI 1)) dX12_areLike_61 rfl ?_
    refine r_goto (tgt := 66) dX12_areLike_62 (by decide) ?_
    refine r_istore dX12_areLike_66 (by decide) (ls' := [(4, .int (nI 1)), (0, .ref a0), (1, .int x1), (2, .int x2), (3, .int x3), (5, .int x5)]) rfl ?_
    refine r_iinc dX12_areLike_68 5 rfl (v := x5 + (nI 1)) rfl (by decide) (ls' := [(5, .int (x5 + (nI 1))), (4, .int (nI 1)), (0, .ref a0), (1, .int x1), (2, .int x2), (3, .int x3)]) rfl ?_
    refine r_goto (tgt := 6) dX12_areLike_71 (by decide) ?_
    refine r_sub [2, 3, 4, 5, 1, 0] (ls' := [(0, .ref a0), (1, .int x1), (2, .int x2), (3, .int x3), (4, .int (nI 1)), (5, .int (x5 + (nI 1)))]) rfl ?_
    exact (pw1 c0)
-- X12_headLike
theorem gX12_headLike_0 {d : Nat} {Q : Option Value → Mem → Prop} {M : Mem} {a0 : Nat} {x1 : Int32} {x2 : Int32}  (pw0 : Wp d mdX12_headLike 2 [(0, .ref a0), (1, .int x1), (2, .int x2), (3, .int (nI 0))] [] M Q) : Wp d mdX12_headLike 0 [(0, .ref a0), (1, .int x1), (2, .int x2)] [] M Q := by
  refine r_iconst (v := (nI 0)) dX12_headLike_0 rfl ?_
  refine r_istore_n dX12_headLike_1 rfl (by decide) (ls' := [(3, .int (nI 0)), (0, .ref a0), (1, .int x1), (2, .int x2)]) rfl ?_
  refine r_sub [1, 2, 3, 0] (ls' := [(0, .ref a0), (1, .int x1), (2, .int x2), (3, .int (nI 0))]) rfl ?_
  exact pw0
theorem gX12_headLike_2 {d : Nat} {Q : Option Value → Mem → Prop} {M : Mem} {a0 : Nat} {x1 : Int32} {x2 : Int32} {x3 : Int32} (k0 : mK M a0 = 14) (k1 : mK M (mR M a0 11) = 1) (k2 : mK M (mR M a0 14) = 1) (pb0 : vp_in x1 (mN M (mR M a0 11))) (pq1 : (mI M (mR M a0 11) x1.toNatClampNeg) ≤ x3 → Q (some (.int (-1 : Int32))) M) (pb2 : ¬ (mI M (mR M a0 11) x1.toNatClampNeg) ≤ x3 → vp_in (((nI 160) * x1) + x3) (mN M (mR M a0 14))) (pf3 : ¬ (mI M (mR M a0 11) x1.toNatClampNeg) ≤ x3 → ClD d mdX12_areLike [.ref a0, .int x1, .int (mI M (mR M a0 14) (((nI 160) * x1) + x3).toNatClampNeg), .int x2] M (fun r1 M1 => Wp d mdX12_headLike 30 [(0, .ref a0), (1, .int x1), (2, .int x2), (3, .int x3)] (r1.toList ++ []) M1 Q)) : Wp d mdX12_headLike 2 [(0, .ref a0), (1, .int x1), (2, .int x2), (3, .int x3)] [] M Q := by
  refine r_iload_n dX12_headLike_2 rfl 3 rfl ?_
  refine r_aload_n dX12_headLike_3 rfl 0 rfl ?_
  refine r_getR ck10 dX12_headLike_4 flX12_98 rfl k0 ?_
  refine r_iload_n dX12_headLike_7 rfl 1 rfl ?_
  refine r_iald dX12_headLike_8 k1 pb0 ?_
  refine r_icmp_ge (tgt := 41) dX12_headLike_9 (by decide) (fun c0 => ?_) (fun c0 => ?_)
  · skip
    refine r_iconst (v := (-1)) dX12_headLike_41 rfl ?_
    exact r_ret (some (.int (-1 : Int32))) dX12_headLike_42 rfl (pq1 c0)
  · skip
    refine r_aload_n dX12_headLike_12 rfl 0 rfl ?_
    refine r_iload_n dX12_headLike_13 rfl 1 rfl ?_
    refine r_aload_n dX12_headLike_14 rfl 0 rfl ?_
    refine r_getR ck10 dX12_headLike_15 flX12_107 rfl k0 ?_
    refine r_sipush (v := (nI 160)) dX12_headLike_18 rfl ?_
    refine r_iload_n dX12_headLike_21 rfl 1 rfl ?_
    refine r_imul dX12_headLike_22 ?_
    refine r_iload_n dX12_headLike_23 rfl 3 rfl ?_
    refine r_iadd dX12_headLike_24 ?_
    refine r_iald dX12_headLike_25 k2 (pb2 c0) ?_
    refine r_iload_n dX12_headLike_26 rfl 2 rfl ?_
    obtain ⟨e9, hlt, h9⟩ := (pf3 c0)
    exact r_callV (As := [.int x1, .int (mI M (mR M a0 14) (((nI 160) * x1) + x3).toNatClampNeg), .int x2]) (rest := []) (ci := 10) moX12_areLike dX12_headLike_27 mlX12_202 imX12_areLike seX12_areLike k0 rfl hlt (Nat.le_of_ble_eq_true rfl) h9
theorem gX12_headLike_30 {d : Nat} {Q : Option Value → Mem → Prop} {M : Mem} {a0 : Nat} {x1 : Int32} {x2 : Int32} {x3 : Int32} {sx0 : Int32}  (pw0 : sx0 = 0 → Wp d mdX12_headLike 2 [(0, .ref a0), (1, .int x1), (2, .int x2), (3, .int (x3 + (nI 1)))] [] M Q) (pq1 : ¬ sx0 = 0 → Q (some (.int x3)) M) : Wp d mdX12_headLike 30 [(0, .ref a0), (1, .int x1), (2, .int x2), (3, .int x3)] [.int sx0] M Q := by
  refine r_if_eq (tgt := 35) dX12_headLike_30 (by decide) (fun c0 => ?_) (fun c0 => ?_)
  · skip
    refine r_iinc dX12_headLike_35 3 rfl (v := x3 + (nI 1)) rfl (by decide) (ls' := [(3, .int (x3 + (nI 1))), (0, .ref a0), (1, .int x1), (2, .int x2)]) rfl ?_
    refine r_goto (tgt := 2) dX12_headLike_38 (by decide) ?_
    refine r_sub [1, 2, 3, 0] (ls' := [(0, .ref a0), (1, .int x1), (2, .int x2), (3, .int (x3 + (nI 1)))]) rfl ?_
    exact (pw0 c0)
  · skip
    refine r_iload_n dX12_headLike_33 rfl 3 rfl ?_
    exact r_ret (some (.int x3)) dX12_headLike_34 rfl (pq1 c0)
-- X12_asksAll
theorem gX12_asksAll_0 {d : Nat} {Q : Option Value → Mem → Prop} {M : Mem} {a0 : Nat} {x1 : Int32}  (pw0 : Wp d mdX12_asksAll 2 [(0, .ref a0), (1, .int x1), (2, .int (nI 0))] [] M Q) : Wp d mdX12_asksAll 0 [(0, .ref a0), (1, .int x1)] [] M Q := by
  refine r_iconst (v := (nI 0)) dX12_asksAll_0 rfl ?_
  refine r_istore_n dX12_asksAll_1 rfl (by decide) (ls' := [(2, .int (nI 0)), (0, .ref a0), (1, .int x1)]) rfl ?_
  refine r_sub [1, 2, 0] (ls' := [(0, .ref a0), (1, .int x1), (2, .int (nI 0))]) rfl ?_
  exact pw0
theorem gX12_asksAll_2 {d : Nat} {Q : Option Value → Mem → Prop} {M : Mem} {a0 : Nat} {x1 : Int32} {x2 : Int32} (k0 : mK M a0 = 14) (k1 : mK M (mR M a0 11) = 1) (pb0 : vp_in x1 (mN M (mR M a0 11))) (pq1 : (mI M (mR M a0 11) x1.toNatClampNeg) ≤ x2 → Q none M) (pw2 : ¬ (mI M (mR M a0 11) x1.toNatClampNeg) ≤ x2 → Wp d mdX12_asksAll 14 [(0, .ref a0), (1, .int x1), (2, .int x2), (3, .int (nI 0))] [] M Q) : Wp d mdX12_asksAll 2 [(0, .ref a0), (1, .int x1), (2, .int x2)] [] M Q := by
  refine r_iload_n dX12_asksAll_2 rfl 2 rfl ?_
  refine r_aload_n dX12_asksAll_3 rfl 0 rfl ?_
  refine r_getR ck10 dX12_asksAll_4 flX12_98 rfl k0 ?_
  refine r_iload_n dX12_asksAll_7 rfl 1 rfl ?_
  refine r_iald dX12_asksAll_8 k1 pb0 ?_
  refine r_icmp_ge (tgt := 101) dX12_asksAll_9 (by decide) (fun c0 => ?_) (fun c0 => ?_)
  · skip
    exact r_ret none dX12_asksAll_101 rfl (pq1 c0)
  · skip
    refine r_iconst (v := (nI 0)) dX12_asksAll_12 rfl ?_
    refine r_istore_n dX12_asksAll_13 rfl (by decide) (ls' := [(3, .int (nI 0)), (0, .ref a0), (1, .int x1), (2, .int x2)]) rfl ?_
    refine r_sub [1, 2, 3, 0] (ls' := [(0, .ref a0), (1, .int x1), (2, .int x2), (3, .int (nI 0))]) rfl ?_
    exact (pw2 c0)
theorem gX12_asksAll_14 {d : Nat} {Q : Option Value → Mem → Prop} {M : Mem} {a0 : Nat} {x1 : Int32} {x2 : Int32} {x3 : Int32} (k0 : mK M a0 = 14) (k1 : mK M (mR M a0 12) = 1) (pb0 : vp_in x1 (mN M (mR M a0 12))) (pw1 : (mI M (mR M a0 12) x1.toNatClampNeg) ≤ x3 → Wp d mdX12_asksAll 2 [(0, .ref a0), (1, .int x1), (2, .int (x2 + (nI 1)))] [] M Q) (pf2 : ¬ (mI M (mR M a0 12) x1.toNatClampNeg) ≤ x3 → ClD d mdX12_headOf [.ref a0, .int x1, .int x2] M (fun r1 M1 => Wp d mdX12_asksAll 32 [(0, .ref a0), (1, .int x1), (2, .int x2), (3, .int x3)] (r1.toList ++ [.int x1, .ref a0]) M1 Q)) : Wp d mdX12_asksAll 14 [(0, .ref a0), (1, .int x1), (2, .int x2), (3, .int x3)] [] M Q := by
  refine r_iload_n dX12_asksAll_14 rfl 3 rfl ?_
  refine r_aload_n dX12_asksAll_15 rfl 0 rfl ?_
  refine r_getR ck10 dX12_asksAll_16 flX12_101 rfl k0 ?_
  refine r_iload_n dX12_asksAll_19 rfl 1 rfl ?_
  refine r_iald dX12_asksAll_20 k1 pb0 ?_
  refine r_icmp_ge (tgt := 95) dX12_asksAll_21 (by decide) (fun c0 => ?_) (fun c0 => ?_)
  · skip
    refine r_iinc dX12_asksAll_95 2 rfl (v := x2 + (nI 1)) rfl (by decide) (ls' := [(2, .int (x2 + (nI 1))), (0, .ref a0), (1, .int x1), (3, .int x3)]) rfl ?_
    refine r_goto (tgt := 2) dX12_asksAll_98 (by decide) ?_
    refine r_sub [1, 2, 0] (ls' := [(0, .ref a0), (1, .int x1), (2, .int (x2 + (nI 1)))]) rfl ?_
    exact (pw1 c0)
  · skip
    refine r_aload_n dX12_asksAll_24 rfl 0 rfl ?_
    refine r_iload_n dX12_asksAll_25 rfl 1 rfl ?_
    refine r_aload_n dX12_asksAll_26 rfl 0 rfl ?_
    refine r_iload_n dX12_asksAll_27 rfl 1 rfl ?_
    refine r_iload_n dX12_asksAll_28 rfl 2 rfl ?_
    obtain ⟨e9, hlt, h9⟩ := (pf2 c0)
    exact r_callV (As := [.int x1, .int x2]) (rest := [.int x1, .ref a0]) (ci := 10) moX12_headOf dX12_asksAll_29 mlX12_206 imX12_headOf seX12_headOf k0 rfl hlt (Nat.le_of_ble_eq_true rfl) h9
theorem gX12_asksAll_32 {d : Nat} {Q : Option Value → Mem → Prop} {M : Mem} {a0 : Nat} {x1 : Int32} {x2 : Int32} {x3 : Int32} {sw0 : Int64} {sx1 : Int32} {sa2 : Nat} (k0 : mK M a0 = 14) (pf0 : ClD d mdX12_tailOf [.ref a0, .int x1, .int x3] M (fun r1 M1 => Wp d mdX12_asksAll 38 [(0, .ref a0), (1, .int x1), (2, .int x2), (3, .int x3)] (r1.toList ++ [.long sw0, .int sx1, .ref sa2]) M1 Q)) : Wp d mdX12_asksAll 32 [(0, .ref a0), (1, .int x1), (2, .int x2), (3, .int x3)] [.long sw0, .int sx1, .ref sa2] M Q := by
  refine r_aload_n dX12_asksAll_32 rfl 0 rfl ?_
  refine r_iload_n dX12_asksAll_33 rfl 1 rfl ?_
  refine r_iload_n dX12_asksAll_34 rfl 3 rfl ?_
  obtain ⟨e9, hlt, h9⟩ := pf0
  exact r_callV (As := [.int x1, .int x3]) (rest := [.long sw0, .int sx1, .ref sa2]) (ci := 10) moX12_tailOf dX12_asksAll_35 mlX12_198 imX12_tailOf seX12_tailOf k0 rfl hlt (Nat.le_of_ble_eq_true rfl) h9
theorem gX12_asksAll_38 {d : Nat} {Q : Option Value → Mem → Prop} {M : Mem} {a0 : Nat} {x1 : Int32} {x2 : Int32} {x3 : Int32} {sw0 : Int64} {sw1 : Int64} {sx2 : Int32} {sa3 : Nat}  (pf0 : ClD d mdX12_both [.long sw1, .long sw0] M (fun r1 M1 => Wp d mdX12_asksAll 41 [(0, .ref a0), (1, .int x1), (2, .int x2), (3, .int x3)] (r1.toList ++ [.int sx2, .ref sa3]) M1 Q)) : Wp d mdX12_asksAll 38 [(0, .ref a0), (1, .int x1), (2, .int x2), (3, .int x3)] [.long sw0, .long sw1, .int sx2, .ref sa3] M Q := by
  obtain ⟨e9, hlt, h9⟩ := pf0
  exact r_callS (As := [.long sw1, .long sw0]) (rest := [.int sx2, .ref sa3]) moX12_both dX12_asksAll_38 mlX12_61 saX12_both rfl hlt (Nat.le_of_ble_eq_true rfl) h9
theorem gX12_asksAll_41 {d : Nat} {Q : Option Value → Mem → Prop} {M : Mem} {a0 : Nat} {x1 : Int32} {x2 : Int32} {x3 : Int32} {sw0 : Int64} {sx1 : Int32} {sa2 : Nat} (k0 : mK M sa2 = 14) (pf0 : ClD d mdX12_ask [.ref sa2, .int sx1, .long sw0] M (fun r1 M1 => Wp d mdX12_asksAll 44 [(0, .ref a0), (1, .int x1), (2, .int x2), (3, .int x3)] (r1.toList ++ []) M1 Q)) : Wp d mdX12_asksAll 41 [(0, .ref a0), (1, .int x1), (2, .int x2), (3, .int x3)] [.long sw0, .int sx1, .ref sa2] M Q := by
  obtain ⟨e9, hlt, h9⟩ := pf0
  exact r_callV (As := [.int sx1, .long sw0]) (rest := []) (ci := 10) moX12_ask dX12_asksAll_41 mlX12_195 imX12_ask seX12_ask k0 rfl hlt (Nat.le_of_ble_eq_true rfl) h9
theorem gX12_asksAll_44 {d : Nat} {Q : Option Value → Mem → Prop} {M : Mem} {a0 : Nat} {x1 : Int32} {x2 : Int32} {x3 : Int32} {sx0 : Int32}  (pw0 : Wp d mdX12_asksAll 48 [(0, .ref a0), (1, .int x1), (2, .int x2), (3, .int x3), (4, .int (nI 0))] [] M Q) : Wp d mdX12_asksAll 44 [(0, .ref a0), (1, .int x1), (2, .int x2), (3, .int x3)] [.int sx0] M Q := by
  refine r_pop dX12_asksAll_44 rfl ?_
  refine r_iconst (v := (nI 0)) dX12_asksAll_45 rfl ?_
  refine r_istore dX12_asksAll_46 (by decide) (ls' := [(4, .int (nI 0)), (0, .ref a0), (1, .int x1), (2, .int x2), (3, .int x3)]) rfl ?_
  refine r_sub [1, 2, 3, 4, 0] (ls' := [(0, .ref a0), (1, .int x1), (2, .int x2), (3, .int x3), (4, .int (nI 0))]) rfl ?_
  exact pw0
theorem gX12_asksAll_48 {d : Nat} {Q : Option Value → Mem → Prop} {M : Mem} {a0 : Nat} {x1 : Int32} {x2 : Int32} {x3 : Int32} {x4 : Int32} (k0 : mK M a0 = 14) (pw0 : (mI M a0 3) ≤ x4 → Wp d mdX12_asksAll 14 [(0, .ref a0), (1, .int x1), (2, .int x2), (3, .int (x3 + (nI 1)))] [] M Q) (pf1 : ¬ (mI M a0 3) ≤ x4 → ClD d mdX12_headOf [.ref a0, .int x1, .int x2] M (fun r1 M1 => Wp d mdX12_asksAll 65 [(0, .ref a0), (1, .int x1), (2, .int x2), (3, .int x3), (4, .int x4)] (r1.toList ++ [.int x1, .ref a0]) M1 Q)) : Wp d mdX12_asksAll 48 [(0, .ref a0), (1, .int x1), (2, .int x2), (3, .int x3), (4, .int x4)] [] M Q := by
  refine r_iload dX12_asksAll_48 4 rfl ?_
  refine r_aload_n dX12_asksAll_50 rfl 0 rfl ?_
  refine r_getI ck10 dX12_asksAll_51 flX12_30 rfl k0 ?_
  refine r_icmp_ge (tgt := 89) dX12_asksAll_54 (by decide) (fun c0 => ?_) (fun c0 => ?_)
  · skip
    refine r_iinc dX12_asksAll_89 3 rfl (v := x3 + (nI 1)) rfl (by decide) (ls' := [(3, .int (x3 + (nI 1))), (0, .ref a0), (1, .int x1), (2, .int x2), (4, .int x4)]) rfl ?_
    refine r_goto (tgt := 14) dX12_asksAll_92 (by decide) ?_
    refine r_sub [1, 2, 3, 0] (ls' := [(0, .ref a0), (1, .int x1), (2, .int x2), (3, .int (x3 + (nI 1)))]) rfl ?_
    exact (pw0 c0)
  · skip
    refine r_aload_n dX12_asksAll_57 rfl 0 rfl ?_
    refine r_iload_n dX12_asksAll_58 rfl 1 rfl ?_
    refine r_aload_n dX12_asksAll_59 rfl 0 rfl ?_
    refine r_iload_n dX12_asksAll_60 rfl 1 rfl ?_
    refine r_iload_n dX12_asksAll_61 rfl 2 rfl ?_
    obtain ⟨e9, hlt, h9⟩ := (pf1 c0)
    exact r_callV (As := [.int x1, .int x2]) (rest := [.int x1, .ref a0]) (ci := 10) moX12_headOf dX12_asksAll_62 mlX12_206 imX12_headOf seX12_headOf k0 rfl hlt (Nat.le_of_ble_eq_true rfl) h9
theorem gX12_asksAll_65 {d : Nat} {Q : Option Value → Mem → Prop} {M : Mem} {a0 : Nat} {x1 : Int32} {x2 : Int32} {x3 : Int32} {x4 : Int32} {sw0 : Int64} {sx1 : Int32} {sa2 : Nat}  (pf0 : ClD d mdX12_longer [.long sw0, .int x4] M (fun r1 M1 => Wp d mdX12_asksAll 70 [(0, .ref a0), (1, .int x1), (2, .int x2), (3, .int x3), (4, .int x4)] (r1.toList ++ [.int sx1, .ref sa2]) M1 Q)) : Wp d mdX12_asksAll 65 [(0, .ref a0), (1, .int x1), (2, .int x2), (3, .int x3), (4, .int x4)] [.long sw0, .int sx1, .ref sa2] M Q := by
  refine r_iload dX12_asksAll_65 4 rfl ?_
  obtain ⟨e9, hlt, h9⟩ := pf0
  exact r_callS (As := [.long sw0, .int x4]) (rest := [.int sx1, .ref sa2]) moX12_longer dX12_asksAll_67 mlX12_80 saX12_longer rfl hlt (Nat.le_of_ble_eq_true rfl) h9
theorem gX12_asksAll_70 {d : Nat} {Q : Option Value → Mem → Prop} {M : Mem} {a0 : Nat} {x1 : Int32} {x2 : Int32} {x3 : Int32} {x4 : Int32} {sw0 : Int64} {sx1 : Int32} {sa2 : Nat} (k0 : mK M a0 = 14) (pf0 : ClD d mdX12_tailOf [.ref a0, .int x1, .int x3] M (fun r1 M1 => Wp d mdX12_asksAll 76 [(0, .ref a0), (1, .int x1), (2, .int x2), (3, .int x3), (4, .int x4)] (r1.toList ++ [.long sw0, .int sx1, .ref sa2]) M1 Q)) : Wp d mdX12_asksAll 70 [(0, .ref a0), (1, .int x1), (2, .int x2), (3, .int x3), (4, .int x4)] [.long sw0, .int sx1, .ref sa2] M Q := by
  refine r_aload_n dX12_asksAll_70 rfl 0 rfl ?_
  refine r_iload_n dX12_asksAll_71 rfl 1 rfl ?_
  refine r_iload_n dX12_asksAll_72 rfl 3 rfl ?_
  obtain ⟨e9, hlt, h9⟩ := pf0
  exact r_callV (As := [.int x1, .int x3]) (rest := [.long sw0, .int sx1, .ref sa2]) (ci := 10) moX12_tailOf dX12_asksAll_73 mlX12_198 imX12_tailOf seX12_tailOf k0 rfl hlt (Nat.le_of_ble_eq_true rfl) h9
theorem gX12_asksAll_76 {d : Nat} {Q : Option Value → Mem → Prop} {M : Mem} {a0 : Nat} {x1 : Int32} {x2 : Int32} {x3 : Int32} {x4 : Int32} {sw0 : Int64} {sw1 : Int64} {sx2 : Int32} {sa3 : Nat}  (pf0 : ClD d mdX12_both [.long sw1, .long sw0] M (fun r1 M1 => Wp d mdX12_asksAll 79 [(0, .ref a0), (1, .int x1), (2, .int x2), (3, .int x3), (4, .int x4)] (r1.toList ++ [.int sx2, .ref sa3]) M1 Q)) : Wp d mdX12_asksAll 76 [(0, .ref a0), (1, .int x1), (2, .int x2), (3, .int x3), (4, .int x4)] [.long sw0, .long sw1, .int sx2, .ref sa3] M Q := by
  obtain ⟨e9, hlt, h9⟩ := pf0
  exact r_callS (As := [.long sw1, .long sw0]) (rest := [.int sx2, .ref sa3]) moX12_both dX12_asksAll_76 mlX12_61 saX12_both rfl hlt (Nat.le_of_ble_eq_true rfl) h9
theorem gX12_asksAll_79 {d : Nat} {Q : Option Value → Mem → Prop} {M : Mem} {a0 : Nat} {x1 : Int32} {x2 : Int32} {x3 : Int32} {x4 : Int32} {sw0 : Int64} {sx1 : Int32} {sa2 : Nat} (k0 : mK M sa2 = 14) (pf0 : ClD d mdX12_ask [.ref sa2, .int sx1, .long sw0] M (fun r1 M1 => Wp d mdX12_asksAll 82 [(0, .ref a0), (1, .int x1), (2, .int x2), (3, .int x3), (4, .int x4)] (r1.toList ++ []) M1 Q)) : Wp d mdX12_asksAll 79 [(0, .ref a0), (1, .int x1), (2, .int x2), (3, .int x3), (4, .int x4)] [.long sw0, .int sx1, .ref sa2] M Q := by
  obtain ⟨e9, hlt, h9⟩ := pf0
  exact r_callV (As := [.int sx1, .long sw0]) (rest := []) (ci := 10) moX12_ask dX12_asksAll_79 mlX12_195 imX12_ask seX12_ask k0 rfl hlt (Nat.le_of_ble_eq_true rfl) h9
theorem gX12_asksAll_82 {d : Nat} {Q : Option Value → Mem → Prop} {M : Mem} {a0 : Nat} {x1 : Int32} {x2 : Int32} {x3 : Int32} {x4 : Int32} {sx0 : Int32}  (pw0 : Wp d mdX12_asksAll 48 [(0, .ref a0), (1, .int x1), (2, .int x2), (3, .int x3), (4, .int (x4 + (nI 1)))] [] M Q) : Wp d mdX12_asksAll 82 [(0, .ref a0), (1, .int x1), (2, .int x2), (3, .int x3), (4, .int x4)] [.int sx0] M Q := by
  refine r_pop dX12_asksAll_82 rfl ?_
  refine r_iinc dX12_asksAll_83 4 rfl (v := x4 + (nI 1)) rfl (by decide) (ls' := [(4, .int (x4 + (nI 1))), (0, .ref a0), (1, .int x1), (2, .int x2), (3, .int x3)]) rfl ?_
  refine r_goto (tgt := 48) dX12_asksAll_86 (by decide) ?_
  refine r_sub [1, 2, 3, 4, 0] (ls' := [(0, .ref a0), (1, .int x1), (2, .int x2), (3, .int x3), (4, .int (x4 + (nI 1)))]) rfl ?_
  exact pw0
-- X12_closes
theorem gX12_closes_0 {d : Nat} {Q : Option Value → Mem → Prop} {M : Mem} {a0 : Nat} {x1 : Int32}  (pw0 : Wp d mdX12_closes 2 [(0, .ref a0), (1, .int x1), (2, .int (nI 0))] [] M Q) : Wp d mdX12_closes 0 [(0, .ref a0), (1, .int x1)] [] M Q := by
  refine r_iconst (v := (nI 0)) dX12_closes_0 rfl ?_
  refine r_istore_n dX12_closes_1 rfl (by decide) (ls' := [(2, .int (nI 0)), (0, .ref a0), (1, .int x1)]) rfl ?_
  refine r_sub [1, 2, 0] (ls' := [(0, .ref a0), (1, .int x1), (2, .int (nI 0))]) rfl ?_
  exact pw0
theorem gX12_closes_2 {d : Nat} {Q : Option Value → Mem → Prop} {M : Mem} {a0 : Nat} {x1 : Int32} {x2 : Int32} (k0 : mK M a0 = 14) (k1 : mK M (mR M a0 11) = 1) (pb0 : vp_in x1 (mN M (mR M a0 11))) (pq1 : (mI M (mR M a0 11) x1.toNatClampNeg) ≤ x2 → Q (some (.int (nI 0))) M) (pw2 : ¬ (mI M (mR M a0 11) x1.toNatClampNeg) ≤ x2 → Wp d mdX12_closes 14 [(0, .ref a0), (1, .int x1), (2, .int x2), (3, .int (nI 0))] [] M Q) : Wp d mdX12_closes 2 [(0, .ref a0), (1, .int x1), (2, .int x2)] [] M Q := by
  refine r_iload_n dX12_closes_2 rfl 2 rfl ?_
  refine r_aload_n dX12_closes_3 rfl 0 rfl ?_
  refine r_getR ck10 dX12_closes_4 flX12_98 rfl k0 ?_
  refine r_iload_n dX12_closes_7 rfl 1 rfl ?_
  refine r_iald dX12_closes_8 k1 pb0 ?_
  refine r_icmp_ge (tgt := 89) dX12_closes_9 (by decide) (fun c0 => ?_) (fun c0 => ?_)
  · skip
    refine r_iconst (v := (nI 0)) dX12_closes_89 rfl ?_
    exact r_ret (some (.int (nI 0))) dX12_closes_90 rfl (pq1 c0)
  · skip
    refine r_iconst (v := (nI 0)) dX12_closes_12 rfl ?_
    refine r_istore_n dX12_closes_13 rfl (by decide) (ls' := [(3, .int (nI 0)), (0, .ref a0), (1, .int x1), (2, .int x2)]) rfl ?_
    refine r_sub [1, 2, 3, 0] (ls' := [(0, .ref a0), (1, .int x1), (2, .int x2), (3, .int (nI 0))]) rfl ?_
    exact (pw2 c0)
theorem gX12_closes_14 {d : Nat} {Q : Option Value → Mem → Prop} {M : Mem} {a0 : Nat} {x1 : Int32} {x2 : Int32} {x3 : Int32} (k0 : mK M a0 = 14) (k1 : mK M (mR M a0 14) = 1) (pw0 : (mI M a0 3) ≤ x3 → Wp d mdX12_closes 2 [(0, .ref a0), (1, .int x1), (2, .int (x2 + (nI 1)))] [] M Q) (pb1 : ¬ (mI M a0 3) ≤ x3 → vp_in (((nI 160) * x1) + x2) (mN M (mR M a0 14))) (pf2 : ¬ (mI M a0 3) ≤ x3 → ClD d mdX12_comes [.ref a0, .int (nI 0), .int (mI M (mR M a0 14) (((nI 160) * x1) + x2).toNatClampNeg), .int x3] M (fun r1 M1 => Wp d mdX12_closes 42 [(0, .ref a0), (1, .int x1), (2, .int x2), (3, .int x3)] (r1.toList ++ [.int x1, .ref a0]) M1 Q)) : Wp d mdX12_closes 14 [(0, .ref a0), (1, .int x1), (2, .int x2), (3, .int x3)] [] M Q := by
  refine r_iload_n dX12_closes_14 rfl 3 rfl ?_
  refine r_aload_n dX12_closes_15 rfl 0 rfl ?_
  refine r_getI ck10 dX12_closes_16 flX12_30 rfl k0 ?_
  refine r_icmp_ge (tgt := 83) dX12_closes_19 (by decide) (fun c0 => ?_) (fun c0 => ?_)
  · skip
    refine r_iinc dX12_closes_83 2 rfl (v := x2 + (nI 1)) rfl (by decide) (ls' := [(2, .int (x2 + (nI 1))), (0, .ref a0), (1, .int x1), (3, .int x3)]) rfl ?_
    refine r_goto (tgt := 2) dX12_closes_86 (by decide) ?_
    refine r_sub [1, 2, 0] (ls' := [(0, .ref a0), (1, .int x1), (2, .int (x2 + (nI 1)))]) rfl ?_
    exact (pw0 c0)
  · skip
    refine r_aload_n dX12_closes_22 rfl 0 rfl ?_
    refine r_iload_n dX12_closes_23 rfl 1 rfl ?_
    refine r_aload_n dX12_closes_24 rfl 0 rfl ?_
    refine r_iconst (v := (nI 0)) dX12_closes_25 rfl ?_
    refine r_aload_n dX12_closes_26 rfl 0 rfl ?_
    refine r_getR ck10 dX12_closes_27 flX12_107 rfl k0 ?_
    refine r_sipush (v := (nI 160)) dX12_closes_30 rfl ?_
    refine r_iload_n dX12_closes_33 rfl 1 rfl ?_
    refine r_imul dX12_closes_34 ?_
    refine r_iload_n dX12_closes_35 rfl 2 rfl ?_
    refine r_iadd dX12_closes_36 ?_
    refine r_iald dX12_closes_37 k1 (pb1 c0) ?_
    refine r_iload_n dX12_closes_38 rfl 3 rfl ?_
    obtain ⟨e9, hlt, h9⟩ := (pf2 c0)
    exact r_callV (As := [.int (nI 0), .int (mI M (mR M a0 14) (((nI 160) * x1) + x2).toNatClampNeg), .int x3]) (rest := [.int x1, .ref a0]) (ci := 10) moX12_comes dX12_closes_39 mlX12_43 imX12_comes seX12_comes k0 rfl hlt (Nat.le_of_ble_eq_true rfl) h9
theorem gX12_closes_42 {d : Nat} {Q : Option Value → Mem → Prop} {M : Mem} {a0 : Nat} {x1 : Int32} {x2 : Int32} {x3 : Int32} {sx0 : Int32} {sx1 : Int32} {sa2 : Nat} (k0 : mK M sa2 = 14) (pf0 : ClD d mdX12_headLike [.ref sa2, .int sx1, .int sx0] M (fun r1 M1 => Wp d mdX12_closes 45 [(0, .ref a0), (1, .int x1), (2, .int x2), (3, .int x3)] (r1.toList ++ []) M1 Q)) : Wp d mdX12_closes 42 [(0, .ref a0), (1, .int x1), (2, .int x2), (3, .int x3)] [.int sx0, .int sx1, .ref sa2] M Q := by
  obtain ⟨e9, hlt, h9⟩ := pf0
  exact r_callV (As := [.int sx1, .int sx0]) (rest := []) (ci := 10) moX12_headLike dX12_closes_42 mlX12_209 imX12_headLike seX12_headLike k0 rfl hlt (Nat.le_of_ble_eq_true rfl) h9
theorem gX12_closes_45 {d : Nat} {Q : Option Value → Mem → Prop} {M : Mem} {a0 : Nat} {x1 : Int32} {x2 : Int32} {x3 : Int32} {sx0 : Int32} (k0 : mK M a0 = 14) (pf0 : sx0 = (-1 : Int32) → ClD d mdX12_headOf [.ref a0, .int x1, .int x2] M (fun r1 M1 => Wp d mdX12_closes 59 [(0, .ref a0), (1, .int x1), (3, .int x3)] (r1.toList ++ [.ref a0]) M1 Q)) (pw1 : ¬ sx0 = (-1 : Int32) → Wp d mdX12_closes 14 [(0, .ref a0), (1, .int x1), (2, .int x2), (3, .int (x3 + (nI 1)))] [] M Q) : Wp d mdX12_closes 45 [(0, .ref a0), (1, .int x1), (2, .int x2), (3, .int x3)] [.int sx0] M Q := by
  refine r_iconst (v := (-1)) dX12_closes_45 rfl ?_
  refine r_icmp_eq (tgt := 52) dX12_closes_46 (by decide) (fun c0 => ?_) (fun c0 => ?_)
  · skip
    refine r_aload_n dX12_closes_52 rfl 0 rfl ?_
    refine r_aload_n dX12_closes_53 rfl 0 rfl ?_
    refine r_iload_n dX12_closes_54 rfl 1 rfl ?_
    refine r_iload_n dX12_closes_55 rfl 2 rfl ?_
    refine r_sub [0, 1, 3] (ls' := [(0, .ref a0), (1, .int x1), (3, .int x3)]) rfl ?_
    obtain ⟨e9, hlt, h9⟩ := (pf0 c0)
    exact r_callV (As := [.int x1, .int x2]) (rest := [.ref a0]) (ci := 10) moX12_headOf dX12_closes_56 mlX12_206 imX12_headOf seX12_headOf k0 rfl hlt (Nat.le_of_ble_eq_true rfl) h9
  · skip
    refine r_goto (tgt := 77) dX12_closes_49 (by decide) ?_
    refine r_iinc dX12_closes_77 3 rfl (v := x3 + (nI 1)) rfl (by decide) (ls' := [(3, .int (x3 + (nI 1))), (0, .ref a0), (1, .int x1), (2, .int x2)]) rfl ?_
    refine r_goto (tgt := 14) dX12_closes_80 (by decide) ?_
    refine r_sub [1, 2, 3, 0] (ls' := [(0, .ref a0), (1, .int x1), (2, .int x2), (3, .int (x3 + (nI 1)))]) rfl ?_
    exact (pw1 c0)
theorem gX12_closes_59 {d : Nat} {Q : Option Value → Mem → Prop} {M : Mem} {a0 : Nat} {x1 : Int32} {x3 : Int32} {sw0 : Int64} {sa1 : Nat}  (pf0 : ClD d mdX12_longer [.long sw0, .int x3] M (fun r1 M1 => Wp d mdX12_closes 63 [(0, .ref a0), (1, .int x1)] (r1.toList ++ [.ref sa1]) M1 Q)) : Wp d mdX12_closes 59 [(0, .ref a0), (1, .int x1), (3, .int x3)] [.long sw0, .ref sa1] M Q := by
  refine r_iload_n dX12_closes_59 rfl 2 rfl ?_
  refine r_sub [0, 1] (ls' := [(0, .ref a0), (1, .int x1)]) rfl ?_
  obtain ⟨e9, hlt, h9⟩ := pf0
  exact r_callS (As := [.long sw0, .int x3]) (rest := [.ref sa1]) moX12_longer dX12_closes_60 mlX12_80 saX12_longer rfl hlt (Nat.le_of_ble_eq_true rfl) h9
theorem gX12_closes_63 {d : Nat} {Q : Option Value → Mem → Prop} {M : Mem} {a0 : Nat} {x1 : Int32} {sw0 : Int64} {sa1 : Nat} (k0 : mK M sa1 = 14) (k1 : mK M a0 = 14) (pf0 : ClD d mdX12_headComes [.ref a0, .int x1, .long (mJ (sJ M sa1 23 sw0) a0 23)] (sJ M sa1 23 sw0) (fun r1 M1 => Wp d mdX12_closes 75 [] (r1.toList ++ []) M1 Q)) : Wp d mdX12_closes 63 [(0, .ref a0), (1, .int x1)] [.long sw0, .ref sa1] M Q := by
  refine r_putJ ck10 dX12_closes_63 flX12_212 rfl (Or.inl rfl) k0 ?_
  refine r_aload_n dX12_closes_66 rfl 0 rfl ?_
  refine r_iload_n dX12_closes_67 rfl 1 rfl ?_
  refine r_aload_n dX12_closes_68 rfl 0 rfl ?_
  refine r_getJ ck10 dX12_closes_69 flX12_212 rfl k1 ?_
  refine r_sub [] (ls' := []) rfl ?_
  obtain ⟨e9, hlt, h9⟩ := pf0
  exact r_callV (As := [.int x1, .long (mJ (sJ M sa1 23 sw0) a0 23)]) (rest := []) (ci := 10) moX12_headComes dX12_closes_72 mlX12_188 imX12_headComes seX12_headComes k1 rfl hlt (Nat.le_of_ble_eq_true rfl) h9
theorem gX12_closes_75 {d : Nat} {Q : Option Value → Mem → Prop} {M : Mem}  (pq0 : Q (some (.int (nI 1))) M) : Wp d mdX12_closes 75 [] [] M Q := by
  refine r_iconst (v := (nI 1)) dX12_closes_75 rfl ?_
  exact r_ret (some (.int (nI 1))) dX12_closes_76 rfl pq0
-- X12_parts
theorem gX12_parts_0 {d : Nat} {Q : Option Value → Mem → Prop} {M : Mem} {a0 : Nat} {x1 : Int32} {x2 : Int32} {x3 : Int32}  (pw0 : Wp d mdX12_parts 3 [(0, .ref a0), (1, .int x1), (2, .int x2), (3, .int x3), (4, .int (nI 0))] [] M Q) : Wp d mdX12_parts 0 [(0, .ref a0), (1, .int x1), (2, .int x2), (3, .int x3)] [] M Q := by
  refine r_iconst (v := (nI 0)) dX12_parts_0 rfl ?_
  refine r_istore dX12_parts_1 (by decide) (ls' := [(4, .int (nI 0)), (0, .ref a0), (1, .int x1), (2, .int x2), (3, .int x3)]) rfl ?_
  refine r_sub [1, 2, 3, 4, 0] (ls' := [(0, .ref a0), (1, .int x1), (2, .int x2), (3, .int x3), (4, .int (nI 0))]) rfl ?_
  exact pw0
theorem gX12_parts_3 {d : Nat} {Q : Option Value → Mem → Prop} {M : Mem} {a0 : Nat} {x1 : Int32} {x2 : Int32} {x3 : Int32} {x4 : Int32} (k0 : mK M a0 = 14) (pq0 : (mI M a0 3) ≤ x4 → Q (some (.int (nI 0))) M) (pw1 : ¬ (mI M a0 3) ≤ x4 → Wp d mdX12_parts 15 [(0, .ref a0), (1, .int x1), (2, .int x2), (3, .int x3), (4, .int x4), (5, .int (nI 0))] [] M Q) : Wp d mdX12_parts 3 [(0, .ref a0), (1, .int x1), (2, .int x2), (3, .int x3), (4, .int x4)] [] M Q := by
  refine r_iload dX12_parts_3 4 rfl ?_
  refine r_aload_n dX12_parts_5 rfl 0 rfl ?_
  refine r_getI ck10 dX12_parts_6 flX12_30 rfl k0 ?_
  refine r_icmp_ge (tgt := 119) dX12_parts_9 (by decide) (fun c0 => ?_) (fun c0 => ?_)
  · skip
    refine r_iconst (v := (nI 0)) dX12_parts_119 rfl ?_
    exact r_ret (some (.int (nI 0))) dX12_parts_120 rfl (pq0 c0)
  · skip
    refine r_iconst (v := (nI 0)) dX12_parts_12 rfl ?_
    refine r_istore dX12_parts_13 (by decide) (ls' := [(5, .int (nI 0)), (0, .ref a0), (1, .int x1), (2, .int x2), (3, .int x3), (4, .int x4)]) rfl ?_
    refine r_sub [1, 2, 3, 4, 5, 0] (ls' := [(0, .ref a0), (1, .int x1), (2, .int x2), (3, .int x3), (4, .int x4), (5, .int (nI 0))]) rfl ?_
    exact (pw1 c0)
theorem gX12_parts_15 {d : Nat} {Q : Option Value → Mem → Prop} {M : Mem} {a0 : Nat} {x1 : Int32} {x2 : Int32} {x3 : Int32} {x4 : Int32} {x5 : Int32} (k0 : mK M a0 = 14) (k1 : mK M (mR M a0 12) = 1) (pb0 : vp_in x1 (mN M (mR M a0 12))) (pw1 : (mI M (mR M a0 12) x1.toNatClampNeg) ≤ x5 → Wp d mdX12_parts 3 [(0, .ref a0), (1, .int x1), (2, .int x2), (3, .int x3), (4, .int (x4 + (nI 1)))] [] M Q) (pf2 : ¬ (mI M (mR M a0 12) x1.toNatClampNeg) ≤ x5 → ClD d mdX12_tailOf [.ref a0, .int x1, .int x5] M (fun r1 M1 => Wp d mdX12_parts 33 [(0, .ref a0), (1, .int x1), (2, .int x2), (3, .int x3), (4, .int x4), (5, .int x5)] (r1.toList ++ []) M1 Q)) : Wp d mdX12_parts 15 [(0, .ref a0), (1, .int x1), (2, .int x2), (3, .int x3), (4, .int x4), (5, .int x5)] [] M Q := by
  refine r_iload dX12_parts_15 5 rfl ?_
  refine r_aload_n dX12_parts_17 rfl 0 rfl ?_
  refine r_getR ck10 dX12_parts_18 flX12_101 rfl k0 ?_
  refine r_iload_n dX12_parts_21 rfl 1 rfl ?_
  refine r_iald dX12_parts_22 k1 pb0 ?_
  refine r_icmp_ge (tgt := 113) dX12_parts_23 (by decide) (fun c0 => ?_) (fun c0 => ?_)
  · skip
    refine r_iinc dX12_parts_113 4 rfl (v := x4 + (nI 1)) rfl (by decide) (ls' := [(4, .int (x4 + (nI 1))), (0, .ref a0), (1, .int x1), (2, .int x2), (3, .int x3), (5, .int x5)]) rfl ?_
    refine r_goto (tgt := 3) dX12_parts_116 (by decide) ?_
    refine r_sub [1, 2, 3, 4, 0] (ls' := [(0, .ref a0), (1, .int x1), (2, .int x2), (3, .int x3), (4, .int (x4 + (nI 1)))]) rfl ?_
    exact (pw1 c0)
  · skip
    refine r_aload_n dX12_parts_26 rfl 0 rfl ?_
    refine r_iload_n dX12_parts_27 rfl 1 rfl ?_
    refine r_iload dX12_parts_28 5 rfl ?_
    obtain ⟨e9, hlt, h9⟩ := (pf2 c0)
    exact r_callV (As := [.int x1, .int x5]) (rest := []) (ci := 10) moX12_tailOf dX12_parts_30 mlX12_198 imX12_tailOf seX12_tailOf k0 rfl hlt (Nat.le_of_ble_eq_true rfl) h9
theorem gX12_parts_33 {d : Nat} {Q : Option Value → Mem → Prop} {M : Mem} {a0 : Nat} {x1 : Int32} {x2 : Int32} {x3 : Int32} {x4 : Int32} {x5 : Int32} {sw0 : Int64} (k0 : mK M a0 = 14) (pf0 : ClD d mdX12_comes [.ref a0, .int (nI 0), .int x2, .int x4] M (fun r1 M1 => Wp d mdX12_parts 47 [(0, .ref a0), (1, .int x1), (2, .int x2), (3, .int x3), (4, .int x4), (5, .int x5), (6, .long sw0)] (r1.toList ++ [.int (nI 0), .ref a0, .int (nI 0), .ref a0]) M1 Q)) : Wp d mdX12_parts 33 [(0, .ref a0), (1, .int x1), (2, .int x2), (3, .int x3), (4, .int x4), (5, .int x5)] [.long sw0] M Q := by
  refine r_lstore dX12_parts_33 (by decide) (ls' := [(6, .long sw0), (0, .ref a0), (1, .int x1), (2, .int x2), (3, .int x3), (4, .int x4), (5, .int x5)]) rfl ?_
  refine r_aload_n dX12_parts_35 rfl 1 rfl ?_
  refine r_iconst (v := (nI 0)) dX12_parts_36 rfl ?_
  refine r_aload_n dX12_parts_37 rfl 1 rfl ?_
  refine r_iconst (v := (nI 0)) dX12_parts_38 rfl ?_
  refine r_aload_n dX12_parts_39 rfl 1 rfl ?_
  refine r_iconst (v := (nI 0)) dX12_parts_40 rfl ?_
  refine r_iload_n dX12_parts_41 rfl 3 rfl ?_
  refine r_iload dX12_parts_42 5 rfl ?_
  refine r_sub [1, 2, 3, 4, 5, 6, 0] (ls' := [(0, .ref a0), (1, .int x1), (2, .int x2), (3, .int x3), (4, .int x4), (5, .int x5), (6, .long sw0)]) rfl ?_
  obtain ⟨e9, hlt, h9⟩ := pf0
  exact r_callV (As := [.int (nI 0), .int x2, .int x4]) (rest := [.int (nI 0), .ref a0, .int (nI 0), .ref a0]) (ci := 10) moX12_comes dX12_parts_44 mlX12_43 imX12_comes seX12_comes k0 rfl hlt (Nat.le_of_ble_eq_true rfl) h9
theorem gX12_parts_47 {d : Nat} {Q : Option Value → Mem → Prop} {M : Mem} {a0 : Nat} {x1 : Int32} {x2 : Int32} {x3 : Int32} {x4 : Int32} {x5 : Int32} {w6 : Int64} {sx0 : Int32} {sx1 : Int32} {sa2 : Nat} {sx3 : Int32} {sa4 : Nat} (k0 : mK M sa2 = 14) (pf0 : ClD d mdX12_endFrom [.ref sa2, .int sx1, .int sx0, .long w6] M (fun r1 M1 => Wp d mdX12_parts 52 [(0, .ref a0), (1, .int x1), (2, .int x2), (3, .int x3), (4, .int x4), (5, .int x5), (6, .long w6)] (r1.toList ++ [.int sx3, .ref sa4]) M1 Q)) : Wp d mdX12_parts 47 [(0, .ref a0), (1, .int x1), (2, .int x2), (3, .int x3), (4, .int x4), (5, .int x5), (6, .long w6)] [.int sx0, .int sx1, .ref sa2, .int sx3, .ref sa4] M Q := by
  refine r_lload dX12_parts_47 6 rfl ?_
  obtain ⟨e9, hlt, h9⟩ := pf0
  exact r_callV (As := [.int sx1, .int sx0, .long w6]) (rest := [.int sx3, .ref sa4]) (ci := 10) moX12_endFrom dX12_parts_49 mlX12_47 imX12_endFrom seX12_endFrom k0 rfl hlt (Nat.le_of_ble_eq_true rfl) h9
theorem gX12_parts_52 {d : Nat} {Q : Option Value → Mem → Prop} {M : Mem} {a0 : Nat} {x1 : Int32} {x2 : Int32} {x3 : Int32} {x4 : Int32} {x5 : Int32} {w6 : Int64} {sx0 : Int32} {sx1 : Int32} {sa2 : Nat} (k0 : mK M sa2 = 14) (pf0 : ClD d mdX12_shown [.ref sa2, .int sx1, .int sx0] M (fun r1 M1 => Wp d mdX12_parts 55 [(0, .ref a0), (1, .int x1), (2, .int x2), (3, .int x3), (4, .int x4), (5, .int x5), (6, .long w6)] (r1.toList ++ []) M1 Q)) : Wp d mdX12_parts 52 [(0, .ref a0), (1, .int x1), (2, .int x2), (3, .int x3), (4, .int x4), (5, .int x5), (6, .long w6)] [.int sx0, .int sx1, .ref sa2] M Q := by
  obtain ⟨e9, hlt, h9⟩ := pf0
  exact r_callV (As := [.int sx1, .int sx0]) (rest := []) (ci := 10) moX12_shown dX12_parts_52 mlX12_51 imX12_shown seX12_shown k0 rfl hlt (Nat.le_of_ble_eq_true rfl) h9
theorem gX12_parts_55 {d : Nat} {Q : Option Value → Mem → Prop} {M : Mem} {a0 : Nat} {x1 : Int32} {x2 : Int32} {x3 : Int32} {x4 : Int32} {x5 : Int32} {w6 : Int64} {sx0 : Int32} (k0 : mK M a0 = 14) (pf0 : ClD d mdX12_comes [.ref a0, .int (nI 0), .int x3, .int x4] M (fun r1 M1 => Wp d mdX12_parts 67 [(0, .ref a0), (1, .int x1), (2, .int x2), (3, .int x3), (4, .int x4), (5, .int x5), (6, .long w6)] (r1.toList ++ [.int (nI 0), .ref a0, .int (nI 0), .ref a0, .int sx0]) M1 Q)) : Wp d mdX12_parts 55 [(0, .ref a0), (1, .int x1), (2, .int x2), (3, .int x3), (4, .int x4), (5, .int x5), (6, .long w6)] [.int sx0] M Q := by
  refine r_aload_n dX12_parts_55 rfl 0 rfl ?_
  refine r_iconst (v := (nI 0)) dX12_parts_56 rfl ?_
  refine r_aload_n dX12_parts_57 rfl 0 rfl ?_
  refine r_iconst (v := (nI 0)) dX12_parts_58 rfl ?_
  refine r_aload_n dX12_parts_59 rfl 0 rfl ?_
  refine r_iconst (v := (nI 0)) dX12_parts_60 rfl ?_
  refine r_iload_n dX12_parts_61 rfl 3 rfl ?_
  refine r_iload dX12_parts_62 4 rfl ?_
  obtain ⟨e9, hlt, h9⟩ := pf0
  exact r_callV (As := [.int (nI 0), .int x3, .int x4]) (rest := [.int (nI 0), .ref a0, .int (nI 0), .ref a0, .int sx0]) (ci := 10) moX12_comes dX12_parts_64 mlX12_43 imX12_comes seX12_comes k0 rfl hlt (Nat.le_of_ble_eq_true rfl) h9
theorem gX12_parts_67 {d : Nat} {Q : Option Value → Mem → Prop} {M : Mem} {a0 : Nat} {x1 : Int32} {x2 : Int32} {x3 : Int32} {x4 : Int32} {x5 : Int32} {w6 : Int64} {sx0 : Int32} {sx1 : Int32} {sa2 : Nat} {sx3 : Int32} {sa4 : Nat} {sx5 : Int32} (k0 : mK M sa2 = 14) (pf0 : ClD d mdX12_endFrom [.ref sa2, .int sx1, .int sx0, .long w6] M (fun r1 M1 => Wp d mdX12_parts 72 [(0, .ref a0), (1, .int x1), (2, .int x2), (3, .int x3), (4, .int x4), (5, .int x5), (6, .long w6)] (r1.toList ++ [.int sx3, .ref sa4, .int sx5]) M1 Q)) : Wp d mdX12_parts 67 [(0, .ref a0), (1, .int x1), (2, .int x2), (3, .int x3), (4, .int x4), (5, .int x5), (6, .long w6)] [.int sx0, .int sx1, .ref sa2, .int sx3, .ref sa4, .int sx5] M Q := by
  refine r_lload dX12_parts_67 6 rfl ?_
  obtain ⟨e9, hlt, h9⟩ := pf0
  exact r_callV (As := [.int sx1, .int sx0, .long w6]) (rest := [.int sx3, .ref sa4, .int sx5]) (ci := 10) moX12_endFrom dX12_parts_69 mlX12_47 imX12_endFrom seX12_endFrom k0 rfl hlt (Nat.le_of_ble_eq_true rfl) h9
theorem gX12_parts_72 {d : Nat} {Q : Option Value → Mem → Prop} {M : Mem} {a0 : Nat} {x1 : Int32} {x2 : Int32} {x3 : Int32} {x4 : Int32} {x5 : Int32} {w6 : Int64} {sx0 : Int32} {sx1 : Int32} {sa2 : Nat} {sx3 : Int32} (k0 : mK M sa2 = 14) (pf0 : ClD d mdX12_shown [.ref sa2, .int sx1, .int sx0] M (fun r1 M1 => Wp d mdX12_parts 75 [(0, .ref a0), (1, .int x1), (2, .int x2), (3, .int x3), (4, .int x4), (5, .int x5), (6, .long w6)] (r1.toList ++ [.int sx3]) M1 Q)) : Wp d mdX12_parts 72 [(0, .ref a0), (1, .int x1), (2, .int x2), (3, .int x3), (4, .int x4), (5, .int x5), (6, .long w6)] [.int sx0, .int sx1, .ref sa2, .int sx3] M Q := by
  obtain ⟨e9, hlt, h9⟩ := pf0
  exact r_callV (As := [.int sx1, .int sx0]) (rest := [.int sx3]) (ci := 10) moX12_shown dX12_parts_72 mlX12_51 imX12_shown seX12_shown k0 rfl hlt (Nat.le_of_ble_eq_true rfl) h9
theorem gX12_parts_75 {d : Nat} {Q : Option Value → Mem → Prop} {M : Mem} {a0 : Nat} {x1 : Int32} {x2 : Int32} {x3 : Int32} {x4 : Int32} {x5 : Int32} {w6 : Int64} {sx0 : Int32} {sx1 : Int32}  (pf0 : ¬ sx1 = sx0 → ClD d mdX12_longer [.long (lN 1), .int x4] M (fun r1 M1 => Wp d mdX12_parts 88 [(0, .ref a0), (1, .int x1), (6, .long w6)] (r1.toList ++ [.ref a0]) M1 Q)) (pw1 : sx1 = sx0 → Wp d mdX12_parts 15 [(0, .ref a0), (1, .int x1), (2, .int x2), (3, .int x3), (4, .int x4), (5, .int (x5 + (nI 1)))] [] M Q) : Wp d mdX12_parts 75 [(0, .ref a0), (1, .int x1), (2, .int x2), (3, .int x3), (4, .int x4), (5, .int x5), (6, .long w6)] [.int sx0, .int sx1] M Q := by
  refine r_icmp_ne (tgt := 81) dX12_parts_75 (by decide) (fun c0 => ?_) (fun c0 => ?_)
  · skip
    refine r_aload_n dX12_parts_81 rfl 0 rfl ?_
    refine r_lconst (v := (lN 1)) dX12_parts_82 rfl ?_
    refine r_iload dX12_parts_83 4 rfl ?_
    refine r_sub [0, 1, 6] (ls' := [(0, .ref a0), (1, .int x1), (6, .long w6)]) rfl ?_
    obtain ⟨e9, hlt, h9⟩ := (pf0 c0)
    exact r_callS (As := [.long (lN 1), .int x4]) (rest := [.ref a0]) moX12_longer dX12_parts_85 mlX12_80 saX12_longer rfl hlt (Nat.le_of_ble_eq_true rfl) h9
  · skip
    refine r_goto (tgt := 107) dX12_parts_78 (by decide) ?_
    refine r_iinc dX12_parts_107 5 rfl (v := x5 + (nI 1)) rfl (by decide) (ls' := [(5, .int (x5 + (nI 1))), (0, .ref a0), (1, .int x1), (2, .int x2), (3, .int x3), (4, .int x4), (6, .long w6)]) rfl ?_
    refine r_goto (tgt := 15) dX12_parts_110 (by decide) ?_
    refine r_sub [1, 2, 3, 4, 5, 0] (ls' := [(0, .ref a0), (1, .int x1), (2, .int x2), (3, .int x3), (4, .int x4), (5, .int (x5 + (nI 1)))]) rfl ?_
    exact (pw1 c0)
theorem gX12_parts_88 {d : Nat} {Q : Option Value → Mem → Prop} {M : Mem} {a0 : Nat} {x1 : Int32} {w6 : Int64} {sw0 : Int64} {sa1 : Nat}  (pf0 : ClD d mdX12_both [.long sw0, .long w6] M (fun r1 M1 => Wp d mdX12_parts 93 [(0, .ref a0), (1, .int x1)] (r1.toList ++ [.ref sa1]) M1 Q)) : Wp d mdX12_parts 88 [(0, .ref a0), (1, .int x1), (6, .long w6)] [.long sw0, .ref sa1] M Q := by
  refine r_lload dX12_parts_88 2 rfl ?_
  refine r_sub [0, 1] (ls' := [(0, .ref a0), (1, .int x1)]) rfl ?_
  obtain ⟨e9, hlt, h9⟩ := pf0
  exact r_callS (As := [.long sw0, .long w6]) (rest := [.ref sa1]) moX12_both dX12_parts_90 mlX12_61 saX12_both rfl hlt (Nat.le_of_ble_eq_true rfl) h9
theorem gX12_parts_93 {d : Nat} {Q : Option Value → Mem → Prop} {M : Mem} {a0 : Nat} {x1 : Int32} {sw0 : Int64} {sa1 : Nat} (k0 : mK M sa1 = 14) (k1 : mK M a0 = 14) (pf0 : ClD d mdX12_tailComes [.ref a0, .int x1, .long (mJ (sJ M sa1 23 sw0) a0 23)] (sJ M sa1 23 sw0) (fun r1 M1 => Wp d mdX12_parts 105 [] (r1.toList ++ []) M1 Q)) : Wp d mdX12_parts 93 [(0, .ref a0), (1, .int x1)] [.long sw0, .ref sa1] M Q := by
  refine r_putJ ck10 dX12_parts_93 flX12_212 rfl (Or.inl rfl) k0 ?_
  refine r_aload_n dX12_parts_96 rfl 0 rfl ?_
  refine r_iload_n dX12_parts_97 rfl 1 rfl ?_
  refine r_aload_n dX12_parts_98 rfl 0 rfl ?_
  refine r_getJ ck10 dX12_parts_99 flX12_212 rfl k1 ?_
  refine r_sub [] (ls' := []) rfl ?_
  obtain ⟨e9, hlt, h9⟩ := pf0
  exact r_callV (As := [.int x1, .long (mJ (sJ M sa1 23 sw0) a0 23)]) (rest := []) (ci := 10) moX12_tailComes dX12_parts_102 mlX12_192 imX12_tailComes seX12_tailComes k1 rfl hlt (Nat.le_of_ble_eq_true rfl) h9
theorem gX12_parts_105 {d : Nat} {Q : Option Value → Mem → Prop} {M : Mem}  (pq0 : Q (some (.int (nI 1))) M) : Wp d mdX12_parts 105 [] [] M Q := by
  refine r_iconst (v := (nI 1)) dX12_parts_105 rfl ?_
  exact r_ret (some (.int (nI 1))) dX12_parts_106 rfl pq0
-- X12_agrees
theorem gX12_agrees_0 {d : Nat} {Q : Option Value → Mem → Prop} {M : Mem} {a0 : Nat} {x1 : Int32}  (pw0 : Wp d mdX12_agrees 2 [(0, .ref a0), (1, .int x1), (2, .int (nI 0))] [] M Q) : Wp d mdX12_agrees 0 [(0, .ref a0), (1, .int x1)] [] M Q := by
  refine r_iconst (v := (nI 0)) dX12_agrees_0 rfl ?_
  refine r_istore_n dX12_agrees_1 rfl (by decide) (ls' := [(2, .int (nI 0)), (0, .ref a0), (1, .int x1)]) rfl ?_
  refine r_sub [1, 2, 0] (ls' := [(0, .ref a0), (1, .int x1), (2, .int (nI 0))]) rfl ?_
  exact pw0
theorem gX12_agrees_2 {d : Nat} {Q : Option Value → Mem → Prop} {M : Mem} {a0 : Nat} {x1 : Int32} {x2 : Int32} (k0 : mK M a0 = 14) (k1 : mK M (mR M a0 11) = 1) (pb0 : vp_in x1 (mN M (mR M a0 11))) (pq1 : (mI M (mR M a0 11) x1.toNatClampNeg) ≤ x2 → Q (some (.int (nI 0))) M) (pw2 : ¬ (mI M (mR M a0 11) x1.toNatClampNeg) ≤ x2 → Wp d mdX12_agrees 16 [(0, .ref a0), (1, .int x1), (2, .int x2), (3, .int (x2 + (nI 1)))] [] M Q) : Wp d mdX12_agrees 2 [(0, .ref a0), (1, .int x1), (2, .int x2)] [] M Q := by
  refine r_iload_n dX12_agrees_2 rfl 2 rfl ?_
  refine r_aload_n dX12_agrees_3 rfl 0 rfl ?_
  refine r_getR ck10 dX12_agrees_4 flX12_98 rfl k0 ?_
  refine r_iload_n dX12_agrees_7 rfl 1 rfl ?_
  refine r_iald dX12_agrees_8 k1 pb0 ?_
  refine r_icmp_ge (tgt := 99) dX12_agrees_9 (by decide) (fun c0 => ?_) (fun c0 => ?_)
  · skip
    refine r_iconst (v := (nI 0)) dX12_agrees_99 rfl ?_
    exact r_ret (some (.int (nI 0))) dX12_agrees_100 rfl (pq1 c0)
  · skip
    refine r_iload_n dX12_agrees_12 rfl 2 rfl ?_
    refine r_iconst (v := (nI 1)) dX12_agrees_13 rfl ?_
    refine r_iadd dX12_agrees_14 ?_
    refine r_istore_n dX12_agrees_15 rfl (by decide) (ls' := [(3, .int (x2 + (nI 1))), (0, .ref a0), (1, .int x1), (2, .int x2)]) rfl ?_
    refine r_sub [1, 2, 3, 0] (ls' := [(0, .ref a0), (1, .int x1), (2, .int x2), (3, .int (x2 + (nI 1)))]) rfl ?_
    exact (pw2 c0)
theorem gX12_agrees_16 {d : Nat} {Q : Option Value → Mem → Prop} {M : Mem} {a0 : Nat} {x1 : Int32} {x2 : Int32} {x3 : Int32} (k0 : mK M a0 = 14) (k1 : mK M (mR M a0 11) = 1) (k2 : mK M (mR M a0 14) = 1) (pb0 : vp_in x1 (mN M (mR M a0 11))) (pw1 : (mI M (mR M a0 11) x1.toNatClampNeg) ≤ x3 → Wp d mdX12_agrees 2 [(0, .ref a0), (1, .int x1), (2, .int (x2 + (nI 1)))] [] M Q) (pb2 : ¬ (mI M (mR M a0 11) x1.toNatClampNeg) ≤ x3 → vp_in (((nI 160) * x1) + x2) (mN M (mR M a0 14))) (pb3 : ¬ (mI M (mR M a0 11) x1.toNatClampNeg) ≤ x3 → vp_in (((nI 160) * x1) + x3) (mN M (mR M a0 14))) (pw4 : ¬ (mI M (mR M a0 11) x1.toNatClampNeg) ≤ x3 → (mI M (mR M a0 14) (((nI 160) * x1) + x2).toNatClampNeg) = (mI M (mR M a0 14) (((nI 160) * x1) + x3).toNatClampNeg) → Wp d mdX12_agrees 16 [(0, .ref a0), (1, .int x1), (2, .int x2), (3, .int (x3 + (nI 1)))] [] M Q) (pf5 : ¬ (mI M (mR M a0 11) x1.toNatClampNeg) ≤ x3 → ¬ (mI M (mR M a0 14) (((nI 160) * x1) + x2).toNatClampNeg) = (mI M (mR M a0 14) (((nI 160) * x1) + x3).toNatClampNeg) → ClD d mdX12_areLike [.ref a0, .int x1, .int (mI M (mR M a0 14) (((nI 160) * x1) + x2).toNatClampNeg), .int (mI M (mR M a0 14) (((nI 160) * x1) + x3).toNatClampNeg)] M (fun r1 M1 => Wp d mdX12_agrees 70 [(0, .ref a0), (1, .int x1), (2, .int x2), (3, .int x3), (4, .int (mI M (mR M a0 14) (((nI 160) * x1) + x2).toNatClampNeg)), (5, .int (mI M (mR M a0 14) (((nI 160) * x1) + x3).toNatClampNeg))] (r1.toList ++ []) M1 Q)) : Wp d mdX12_agrees 16 [(0, .ref a0), (1, .int x1), (2, .int x2), (3, .int x3)] [] M Q := by
  refine r_iload_n dX12_agrees_16 rfl 3 rfl ?_
  refine r_aload_n dX12_agrees_17 rfl 0 rfl ?_
  refine r_getR ck10 dX12_agrees_18 flX12_98 rfl k0 ?_
  refine r_iload_n dX12_agrees_21 rfl 1 rfl ?_
  refine r_iald dX12_agrees_22 k1 pb0 ?_
  refine r_icmp_ge (tgt := 93) dX12_agrees_23 (by decide) (fun c0 => ?_) (fun c0 => ?_)
  · skip
    refine r_iinc dX12_agrees_93 2 rfl (v := x2 + (nI 1)) rfl (by decide) (ls' := [(2, .int (x2 + (nI 1))), (0, .ref a0), (1, .int x1), (3, .int x3)]) rfl ?_
    refine r_goto (tgt := 2) dX12_agrees_96 (by decide) ?_
    refine r_sub [1, 2, 0] (ls' := [(0, .ref a0), (1, .int x1), (2, .int (x2 + (nI 1)))]) rfl ?_
    exact (pw1 c0)
  · skip
    refine r_aload_n dX12_agrees_26 rfl 0 rfl ?_
    refine r_getR ck10 dX12_agrees_27 flX12_107 rfl k0 ?_
    refine r_sipush (v := (nI 160)) dX12_agrees_30 rfl ?_
    refine r_iload_n dX12_agrees_33 rfl 1 rfl ?_
    refine r_imul dX12_agrees_34 ?_
    refine r_iload_n dX12_agrees_35 rfl 2 rfl ?_
    refine r_iadd dX12_agrees_36 ?_
    refine r_iald dX12_agrees_37 k2 (pb2 c0) ?_
    refine r_istore dX12_agrees_38 (by decide) (ls' := [(4, .int (mI M (mR M a0 14) (((nI 160) * x1) + x2).toNatClampNeg)), (0, .ref a0), (1, .int x1), (2, .int x2), (3, .int x3)]) rfl ?_
    refine r_aload_n dX12_agrees_40 rfl 1 rfl ?_
    refine r_getR ck10 dX12_agrees_41 flX12_107 rfl k0 ?_
    refine r_sipush (v := (nI 160)) dX12_agrees_44 rfl ?_
    refine r_iload_n dX12_agrees_47 rfl 2 rfl ?_
    refine r_imul dX12_agrees_48 ?_
    refine r_iload_n dX12_agrees_49 rfl 4 rfl ?_
    refine r_iadd dX12_agrees_50 ?_
    refine r_iald dX12_agrees_51 k2 (pb3 c0) ?_
    refine r_istore dX12_agrees_52 (by decide) (ls' := [(5, .int (mI M (mR M a0 14) (((nI 160) * x1) + x3).toNatClampNeg)), (4, .int (mI M (mR M a0 14) (((nI 160) * x1) + x2).toNatClampNeg)), (0, .ref a0), (1, .int x1), (2, .int x2), (3, .int x3)]) rfl ?_
    refine r_iload dX12_agrees_54 1 rfl ?_
    refine r_iload dX12_agrees_56 0 rfl ?_
    refine r_icmp_eq (tgt := 87) dX12_agrees_58 (by decide) (fun c1 => ?_) (fun c1 => ?_)
    · skip
      refine r_iinc dX12_agrees_87 5 rfl (v := x3 + (nI 1)) rfl (by decide) (ls' := [(3, .int (x3 + (nI 1))), (5, .int (mI M (mR M a0 14) (((nI 160) * x1) + x3).toNatClampNeg)), (4, .int (mI M (mR M a0 14) (((nI 160) * x1) + x2).toNatClampNeg)), (0, .ref a0), (1, .int x1), (2, .int x2)]) rfl ?_
      refine r_goto (tgt := 16) dX12_agrees_90 (by decide) ?_
      refine r_sub [3, 4, 5, 0] (ls' := [(0, .ref a0), (1, .int x1), (2, .int x2), (3, .int (x3 + (nI 1)))]) rfl ?_
      exact (pw4 c0 c1)
    · skip
      refine r_aload_n dX12_agrees_61 rfl 2 rfl ?_
      refine r_iload_n dX12_agrees_62 rfl 3 rfl ?_
      refine r_iload dX12_agrees_63 1 rfl ?_
      refine r_iload dX12_agrees_65 0 rfl ?_
      refine r_sub [2, 3, 4, 5, 1, 0] (ls' := [(0, .ref a0), (1, .int x1), (2, .int x2), (3, .int x3), (4, .int (mI M (mR M a0 14) (((nI 160) * x1) + x2).toNatClampNeg)), (5, .int (mI M (mR M a0 14) (((nI 160) * x1) + x3).toNatClampNeg))]) rfl ?_
      obtain ⟨e9, hlt, h9⟩ := (pf5 c0 c1)
      exact r_callV (As := [.int x1, .int (mI M (mR M a0 14) (((nI 160) * x1) + x2).toNatClampNeg), .int (mI M (mR M a0 14) (((nI 160) * x1) + x3).toNatClampNeg)]) (rest := []) (ci := 10) moX12_areLike dX12_agrees_67 mlX12_202 imX12_areLike seX12_areLike k0 rfl hlt (Nat.le_of_ble_eq_true rfl) h9
theorem gX12_agrees_70 {d : Nat} {Q : Option Value → Mem → Prop} {M : Mem} {a0 : Nat} {x1 : Int32} {x2 : Int32} {x3 : Int32} {x4 : Int32} {x5 : Int32} {sx0 : Int32} (k0 : mK M a0 = 14) (pw0 : sx0 = 0 → Wp d mdX12_agrees 16 [(0, .ref a0), (1, .int x1), (2, .int x2), (3, .int (x3 + (nI 1)))] [] M Q) (pf1 : ¬ sx0 = 0 → ClD d mdX12_parts [.ref a0, .int x1, .int x4, .int x5] M (fun r1 M1 => Wp d mdX12_agrees 82 [(0, .ref a0), (1, .int x1), (2, .int x2), (3, .int x3)] (r1.toList ++ []) M1 Q)) : Wp d mdX12_agrees 70 [(0, .ref a0), (1, .int x1), (2, .int x2), (3, .int x3), (4, .int x4), (5, .int x5)] [.int sx0] M Q := by
  refine r_if_eq (tgt := 87) dX12_agrees_70 (by decide) (fun c0 => ?_) (fun c0 => ?_)
  · skip
    refine r_iinc dX12_agrees_87 3 rfl (v := x3 + (nI 1)) rfl (by decide) (ls' := [(3, .int (x3 + (nI 1))), (0, .ref a0), (1, .int x1), (2, .int x2), (4, .int x4), (5, .int x5)]) rfl ?_
    refine r_goto (tgt := 16) dX12_agrees_90 (by decide) ?_
    refine r_sub [1, 2, 3, 0] (ls' := [(0, .ref a0), (1, .int x1), (2, .int x2), (3, .int (x3 + (nI 1)))]) rfl ?_
    exact (pw0 c0)
  · skip
    refine r_aload_n dX12_agrees_73 rfl 0 rfl ?_
    refine r_iload_n dX12_agrees_74 rfl 1 rfl ?_
    refine r_iload dX12_agrees_75 4 rfl ?_
    refine r_iload dX12_agrees_77 5 rfl ?_
    refine r_sub [0, 1, 2, 3] (ls' := [(0, .ref a0), (1, .int x1), (2, .int x2), (3, .int x3)]) rfl ?_
    obtain ⟨e9, hlt, h9⟩ := (pf1 c0)
    exact r_callV (As := [.int x1, .int x4, .int x5]) (rest := []) (ci := 10) moX12_parts dX12_agrees_79 mlX12_216 imX12_parts seX12_parts k0 rfl hlt (Nat.le_of_ble_eq_true rfl) h9
theorem gX12_agrees_82 {d : Nat} {Q : Option Value → Mem → Prop} {M : Mem} {a0 : Nat} {x1 : Int32} {x2 : Int32} {x3 : Int32} {sx0 : Int32}  (pw0 : sx0 = 0 → Wp d mdX12_agrees 16 [(0, .ref a0), (1, .int x1), (2, .int x2), (3, .int (x3 + (nI 1)))] [] M Q) (pq1 : ¬ sx0 = 0 → Q (some (.int (nI 1))) M) : Wp d mdX12_agrees 82 [(0, .ref a0), (1, .int x1), (2, .int x2), (3, .int x3)] [.int sx0] M Q := by
  refine r_if_eq (tgt := 87) dX12_agrees_82 (by decide) (fun c0 => ?_) (fun c0 => ?_)
  · skip
    refine r_iinc dX12_agrees_87 3 rfl (v := x3 + (nI 1)) rfl (by decide) (ls' := [(3, .int (x3 + (nI 1))), (0, .ref a0), (1, .int x1), (2, .int x2)]) rfl ?_
    refine r_goto (tgt := 16) dX12_agrees_90 (by decide) ?_
    refine r_sub [1, 2, 3, 0] (ls' := [(0, .ref a0), (1, .int x1), (2, .int x2), (3, .int (x3 + (nI 1)))]) rfl ?_
    exact (pw0 c0)
  · skip
    refine r_iconst (v := (nI 1)) dX12_agrees_85 rfl ?_
    exact r_ret (some (.int (nI 1))) dX12_agrees_86 rfl (pq1 c0)
-- X12_stateOfHead
theorem gX12_stateOfHead_0 {d : Nat} {Q : Option Value → Mem → Prop} {M : Mem} {a0 : Nat} {x1 : Int32} {x2 : Int32}  (pw0 : Wp d mdX12_stateOfHead 5 [(0, .ref a0), (1, .int x1), (2, .int x2), (3, .int (nI 0)), (4, .int (nI 0))] [] M Q) : Wp d mdX12_stateOfHead 0 [(0, .ref a0), (1, .int x1), (2, .int x2)] [] M Q := by
  refine r_iconst (v := (nI 0)) dX12_stateOfHead_0 rfl ?_
  refine r_istore_n dX12_stateOfHead_1 rfl (by decide) (ls' := [(3, .int (nI 0)), (0, .ref a0), (1, .int x1), (2, .int x2)]) rfl ?_
  refine r_iconst (v := (nI 0)) dX12_stateOfHead_2 rfl ?_
  refine r_istore dX12_stateOfHead_3 (by decide) (ls' := [(4, .int (nI 0)), (3, .int (nI 0)), (0, .ref a0), (1, .int x1), (2, .int x2)]) rfl ?_
  refine r_sub [2, 3, 4, 1, 0] (ls' := [(0, .ref a0), (1, .int x1), (2, .int x2), (3, .int (nI 0)), (4, .int (nI 0))]) rfl ?_
  exact pw0
theorem gX12_stateOfHead_5 {d : Nat} {Q : Option Value → Mem → Prop} {M : Mem} {a0 : Nat} {x1 : Int32} {x2 : Int32} {x3 : Int32} {x4 : Int32} (k0 : mK M a0 = 14) (k1 : mK M (mR M a0 4) = 1) (k2 : mK M (mR M a0 21) = 2) (pb0 : vp_in ((nI 1) + x1) (mN M (mR M a0 4))) (pq1 : (mI M (mR M a0 4) ((nI 1) + x1).toNatClampNeg) ≤ x4 → Q (some (.int x3)) M) (pb2 : ¬ (mI M (mR M a0 4) ((nI 1) + x1).toNatClampNeg) ≤ x4 → vp_in (((nI 8) * x1) + x4) (mN M (mR M a0 21))) (pf3 : ¬ (mI M (mR M a0 4) ((nI 1) + x1).toNatClampNeg) ≤ x4 → ClD d mdX12_headOf [.ref a0, .int x1, .int x2] M (fun r1 M1 => Wp d mdX12_stateOfHead 36 [(0, .ref a0), (1, .int x1), (2, .int x2), (3, .int x3), (4, .int x4)] (r1.toList ++ [.long (mJ M (mR M a0 21) (((nI 8) * x1) + x4).toNatClampNeg)]) M1 Q)) : Wp d mdX12_stateOfHead 5 [(0, .ref a0), (1, .int x1), (2, .int x2), (3, .int x3), (4, .int x4)] [] M Q := by
  refine r_iload dX12_stateOfHead_5 4 rfl ?_
  refine r_aload_n dX12_stateOfHead_7 rfl 0 rfl ?_
  refine r_getR ck10 dX12_stateOfHead_8 flX12_21 rfl k0 ?_
  refine r_iconst (v := (nI 1)) dX12_stateOfHead_11 rfl ?_
  refine r_iload_n dX12_stateOfHead_12 rfl 1 rfl ?_
  refine r_iadd dX12_stateOfHead_13 ?_
  refine r_iald dX12_stateOfHead_14 k1 pb0 ?_
  refine r_icmp_ge (tgt := 53) dX12_stateOfHead_15 (by decide) (fun c0 => ?_) (fun c0 => ?_)
  · skip
    refine r_iload_n dX12_stateOfHead_53 rfl 3 rfl ?_
    exact r_ret (some (.int x3)) dX12_stateOfHead_54 rfl (pq1 c0)
  · skip
    refine r_aload_n dX12_stateOfHead_18 rfl 0 rfl ?_
    refine r_getR ck10 dX12_stateOfHead_19 flX12_130 rfl k0 ?_
    refine r_bipush (v := (nI 8)) dX12_stateOfHead_22 rfl ?_
    refine r_iload_n dX12_stateOfHead_24 rfl 1 rfl ?_
    refine r_imul dX12_stateOfHead_25 ?_
    refine r_iload dX12_stateOfHead_26 4 rfl ?_
    refine r_iadd dX12_stateOfHead_28 ?_
    refine r_lald dX12_stateOfHead_29 k2 (pb2 c0) ?_
    refine r_aload_n dX12_stateOfHead_30 rfl 0 rfl ?_
    refine r_iload_n dX12_stateOfHead_31 rfl 1 rfl ?_
    refine r_iload_n dX12_stateOfHead_32 rfl 2 rfl ?_
    obtain ⟨e9, hlt, h9⟩ := (pf3 c0)
    exact r_callV (As := [.int x1, .int x2]) (rest := [.long (mJ M (mR M a0 21) (((nI 8) * x1) + x4).toNatClampNeg)]) (ci := 10) moX12_headOf dX12_stateOfHead_33 mlX12_206 imX12_headOf seX12_headOf k0 rfl hlt (Nat.le_of_ble_eq_true rfl) h9
theorem gX12_stateOfHead_36 {d : Nat} {Q : Option Value → Mem → Prop} {M : Mem} {a0 : Nat} {x1 : Int32} {x2 : Int32} {x3 : Int32} {x4 : Int32} {sw0 : Int64} {sw1 : Int64}  (pw0 : ¬ sw1 = sw0 → Wp d mdX12_stateOfHead 5 [(0, .ref a0), (1, .int x1), (2, .int x2), (3, .int x3), (4, .int (x4 + (nI 1)))] [] M Q) (pw1 : sw1 = sw0 → Wp d mdX12_stateOfHead 5 [(0, .ref a0), (1, .int x1), (2, .int x2), (3, .int x4), (4, .int (x4 + (nI 1)))] [] M Q) : Wp d mdX12_stateOfHead 36 [(0, .ref a0), (1, .int x1), (2, .int x2), (3, .int x3), (4, .int x4)] [.long sw0, .long sw1] M Q := by
  refine r_lif_ne (tgt := 45) dX12_stateOfHead_36 dX12_stateOfHead_37 (by decide) (fun c0 => ?_) (fun c0 => ?_)
  · skip
    refine r_iload_n dX12_stateOfHead_45 rfl 3 rfl ?_
    refine r_istore_n dX12_stateOfHead_46 rfl (by decide) (ls' := [(3, .int x3), (0, .ref a0), (1, .int x1), (2, .int x2), (4, .int x4)]) rfl ?_
    refine r_iinc dX12_stateOfHead_47 4 rfl (v := x4 + (nI 1)) rfl (by decide) (ls' := [(4, .int (x4 + (nI 1))), (3, .int x3), (0, .ref a0), (1, .int x1), (2, .int x2)]) rfl ?_
    refine r_goto (tgt := 5) dX12_stateOfHead_50 (by decide) ?_
    refine r_sub [2, 3, 4, 1, 0] (ls' := [(0, .ref a0), (1, .int x1), (2, .int x2), (3, .int x3), (4, .int (x4 + (nI 1)))]) rfl ?_
    exact (pw0 c0)
  · skip
    refine r_iload dX12_stateOfHead_40 4 rfl ?_
    refine r_goto (tgt := 46) dX12_stateOfHead_42 (by decide) ?_
    refine r_istore_n dX12_stateOfHead_46 rfl (by decide) (ls' := [(3, .int x4), (0, .ref a0), (1, .int x1), (2, .int x2), (4, .int x4)]) rfl ?_
    refine r_iinc dX12_stateOfHead_47 4 rfl (v := x4 + (nI 1)) rfl (by decide) (ls' := [(4, .int (x4 + (nI 1))), (3, .int x4), (0, .ref a0), (1, .int x1), (2, .int x2)]) rfl ?_
    refine r_goto (tgt := 5) dX12_stateOfHead_50 (by decide) ?_
    refine r_sub [2, 3, 4, 1, 0] (ls' := [(0, .ref a0), (1, .int x1), (2, .int x2), (3, .int x4), (4, .int (x4 + (nI 1)))]) rfl ?_
    exact (pw1 c0)
-- X12_guessesByTable
theorem gX12_guessesByTable_0 {d : Nat} {Q : Option Value → Mem → Prop} {M : Mem} {a0 : Nat} {x1 : Int32} (k0 : mK M a0 = 14) (k1 : mK M (mR M a0 4) = 1) (pb0 : vp_in ((nI 1) + x1) (mN M (mR M a0 4))) (pw1 : Wp d mdX12_guessesByTable 13 [(0, .ref a0), (1, .int x1), (2, .int ((nI 1) + x1)), (3, .int (nI 0))] [] (sI M (mR M a0 4) ((nI 1) + x1).toNatClampNeg (nI 0)) Q) : Wp d mdX12_guessesByTable 0 [(0, .ref a0), (1, .int x1)] [] M Q := by
  refine r_iconst (v := (nI 1)) dX12_guessesByTable_0 rfl ?_
  refine r_iload_n dX12_guessesByTable_1 rfl 1 rfl ?_
  refine r_iadd dX12_guessesByTable_2 ?_
  refine r_istore_n dX12_guessesByTable_3 rfl (by decide) (ls' := [(2, .int ((nI 1) + x1)), (0, .ref a0), (1, .int x1)]) rfl ?_
  refine r_aload_n dX12_guessesByTable_4 rfl 1 rfl ?_
  refine r_getR ck10 dX12_guessesByTable_5 flX12_21 rfl k0 ?_
  refine r_iload_n dX12_guessesByTable_8 rfl 0 rfl ?_
  refine r_iconst (v := (nI 0)) dX12_guessesByTable_9 rfl ?_
  refine r_iast dX12_guessesByTable_10 k1 pb0 ?_
  refine r_iconst (v := (nI 0)) dX12_guessesByTable_11 rfl ?_
  refine r_istore_n dX12_guessesByTable_12 rfl (by decide) (ls' := [(3, .int (nI 0)), (2, .int ((nI 1) + x1)), (0, .ref a0), (1, .int x1)]) rfl ?_
  refine r_sub [2, 3, 1, 0] (ls' := [(0, .ref a0), (1, .int x1), (2, .int ((nI 1) + x1)), (3, .int (nI 0))]) rfl ?_
  exact pw1
theorem gX12_guessesByTable_13 {d : Nat} {Q : Option Value → Mem → Prop} {M : Mem} {a0 : Nat} {x1 : Int32} {x2 : Int32} {x3 : Int32} (k0 : mK M a0 = 14) (k1 : mK M (mR M a0 11) = 1) (k2 : mK M (mR M a0 14) = 1) (pb0 : vp_in x1 (mN M (mR M a0 11))) (pw1 : (mI M (mR M a0 11) x1.toNatClampNeg) ≤ x3 → Wp d mdX12_guessesByTable 120 [(0, .ref a0), (1, .int x1), (2, .int x2), (3, .int (nI 0))] [] M Q) (pb2 : ¬ (mI M (mR M a0 11) x1.toNatClampNeg) ≤ x3 → vp_in (((nI 160) * x1) + x3) (mN M (mR M a0 14))) (pf3 : ¬ (mI M (mR M a0 11) x1.toNatClampNeg) ≤ x3 → ClD d mdX12_headLike [.ref a0, .int x1, .int (mI M (mR M a0 14) (((nI 160) * x1) + x3).toNatClampNeg)] M (fun r1 M1 => Wp d mdX12_guessesByTable 40 [(0, .ref a0), (1, .int x1), (2, .int x2), (3, .int x3)] (r1.toList ++ []) M1 Q)) : Wp d mdX12_guessesByTable 13 [(0, .ref a0), (1, .int x1), (2, .int x2), (3, .int x3)] [] M Q := by
  refine r_iload_n dX12_guessesByTable_13 rfl 3 rfl ?_
  refine r_aload_n dX12_guessesByTable_14 rfl 0 rfl ?_
  refine r_getR ck10 dX12_guessesByTable_15 flX12_98 rfl k0 ?_
  refine r_iload_n dX12_guessesByTable_18 rfl 1 rfl ?_
  refine r_iald dX12_guessesByTable_19 k1 pb0 ?_
  refine r_icmp_ge (tgt := 118) dX12_guessesByTable_20 (by decide) (fun c0 => ?_) (fun c0 => ?_)
  · skip
    refine r_iconst (v := (nI 0)) dX12_guessesByTable_118 rfl ?_
    refine r_istore_n dX12_guessesByTable_119 rfl (by decide) (ls' := [(3, .int (nI 0)), (0, .ref a0), (1, .int x1), (2, .int x2)]) rfl ?_
    refine r_sub [1, 2, 3, 0] (ls' := [(0, .ref a0), (1, .int x1), (2, .int x2), (3, .int (nI 0))]) rfl ?_
    exact (pw1 c0)
  · skip
    refine r_aload_n dX12_guessesByTable_23 rfl 0 rfl ?_
    refine r_iload_n dX12_guessesByTable_24 rfl 1 rfl ?_
    refine r_aload_n dX12_guessesByTable_25 rfl 0 rfl ?_
    refine r_getR ck10 dX12_guessesByTable_26 flX12_107 rfl k0 ?_
    refine r_sipush (v := (nI 160)) dX12_guessesByTable_29 rfl ?_
    refine r_iload_n dX12_guessesByTable_32 rfl 1 rfl ?_
    refine r_imul dX12_guessesByTable_33 ?_
    refine r_iload_n dX12_guessesByTable_34 rfl 3 rfl ?_
    refine r_iadd dX12_guessesByTable_35 ?_
    refine r_iald dX12_guessesByTable_36 k2 (pb2 c0) ?_
    obtain ⟨e9, hlt, h9⟩ := (pf3 c0)
    exact r_callV (As := [.int x1, .int (mI M (mR M a0 14) (((nI 160) * x1) + x3).toNatClampNeg)]) (rest := []) (ci := 10) moX12_headLike dX12_guessesByTable_37 mlX12_209 imX12_headLike seX12_headLike k0 rfl hlt (Nat.le_of_ble_eq_true rfl) h9
theorem gX12_guessesByTable_40 {d : Nat} {Q : Option Value → Mem → Prop} {M : Mem} {a0 : Nat} {x1 : Int32} {x2 : Int32} {x3 : Int32} {sx0 : Int32} (k0 : mK M a0 = 14) (k1 : mK M (mR M a0 4) = 1) (pb0 : sx0 = x3 → vp_in x2 (mN M (mR M a0 4))) (pf1 : sx0 = x3 → ClD d mdX12_headOf [.ref a0, .int x1, .int x3] M (fun r1 M1 => Wp d mdX12_guessesByTable 68 [(0, .ref a0), (1, .int x1), (2, .int x2), (3, .int x3)] (r1.toList ++ [.int (((nI 8) * x1) + (mI M (mR M a0 4) x2.toNatClampNeg)), .ref (mR M a0 21)]) M1 Q)) (pw2 : ¬ sx0 = x3 → Wp d mdX12_guessesByTable 13 [(0, .ref a0), (1, .int x1), (2, .int x2), (3, .int (x3 + (nI 1)))] [] M Q) : Wp d mdX12_guessesByTable 40 [(0, .ref a0), (1, .int x1), (2, .int x2), (3, .int x3)] [.int sx0] M Q := by
  refine r_iload_n dX12_guessesByTable_40 rfl 3 rfl ?_
  refine r_icmp_eq (tgt := 47) dX12_guessesByTable_41 (by decide) (fun c0 => ?_) (fun c0 => ?_)
  · skip
    refine r_aload_n dX12_guessesByTable_47 rfl 0 rfl ?_
    refine r_getR ck10 dX12_guessesByTable_48 flX12_130 rfl k0 ?_
    refine r_bipush (v := (nI 8)) dX12_guessesByTable_51 rfl ?_
    refine r_iload_n dX12_guessesByTable_53 rfl 1 rfl ?_
    refine r_imul dX12_guessesByTable_54 ?_
    refine r_aload_n dX12_guessesByTable_55 rfl 0 rfl ?_
    refine r_getR ck10 dX12_guessesByTable_56 flX12_21 rfl k0 ?_
    refine r_iload_n dX12_guessesByTable_59 rfl 2 rfl ?_
    refine r_iald dX12_guessesByTable_60 k1 (pb0 c0) ?_
    refine r_iadd dX12_guessesByTable_61 ?_
    refine r_aload_n dX12_guessesByTable_62 rfl 0 rfl ?_
    refine r_iload_n dX12_guessesByTable_63 rfl 1 rfl ?_
    refine r_iload_n dX12_guessesByTable_64 rfl 3 rfl ?_
    obtain ⟨e9, hlt, h9⟩ := (pf1 c0)
    exact r_callV (As := [.int x1, .int x3]) (rest := [.int (((nI 8) * x1) + (mI M (mR M a0 4) x2.toNatClampNeg)), .ref (mR M a0 21)]) (ci := 10) moX12_headOf dX12_guessesByTable_65 mlX12_206 imX12_headOf seX12_headOf k0 rfl hlt (Nat.le_of_ble_eq_true rfl) h9
  · skip
    refine r_goto (tgt := 112) dX12_guessesByTable_44 (by decide) ?_
    refine r_iinc dX12_guessesByTable_112 3 rfl (v := x3 + (nI 1)) rfl (by decide) (ls' := [(3, .int (x3 + (nI 1))), (0, .ref a0), (1, .int x1), (2, .int x2)]) rfl ?_
    refine r_goto (tgt := 13) dX12_guessesByTable_115 (by decide) ?_
    refine r_sub [1, 2, 3, 0] (ls' := [(0, .ref a0), (1, .int x1), (2, .int x2), (3, .int (x3 + (nI 1)))]) rfl ?_
    exact (pw2 c0)
theorem gX12_guessesByTable_68 {d : Nat} {Q : Option Value → Mem → Prop} {M : Mem} {a0 : Nat} {x1 : Int32} {x2 : Int32} {x3 : Int32} {sw0 : Int64} {sx1 : Int32} {sa2 : Nat} (k0 : mK M sa2 = 2) (k1 : mK M a0 = 14) (k2 : mK M (mR (sJ M sa2 sx1.toNatClampNeg sw0) a0 4) = 1) (k3 : mK M (mR (sJ M sa2 sx1.toNatClampNeg sw0) a0 14) = 1) (pb0 : vp_in sx1 (mN M sa2)) (pb1 : vp_in x2 (mN (sJ M sa2 sx1.toNatClampNeg sw0) (mR (sJ M sa2 sx1.toNatClampNeg sw0) a0 4))) (pb2 : vp_in (((nI 160) * x1) + x3) (mN (sJ M sa2 sx1.toNatClampNeg sw0) (mR (sJ M sa2 sx1.toNatClampNeg sw0) a0 14))) (pf3 : ClD d mdX12_shown [.ref a0, .int (nI 0), .int (mI (sJ M sa2 sx1.toNatClampNeg sw0) (mR (sJ M sa2 sx1.toNatClampNeg sw0) a0 14) (((nI 160) * x1) + x3).toNatClampNeg)] (sJ M sa2 sx1.toNatClampNeg sw0) (fun r1 M1 => Wp d mdX12_guessesByTable 101 [(0, .ref a0), (1, .int x1), (2, .int x2), (3, .int x3)] (r1.toList ++ [.int (((nI 8) * x2) + (mI (sJ M sa2 sx1.toNatClampNeg sw0) (mR (sJ M sa2 sx1.toNatClampNeg sw0) a0 4) x2.toNatClampNeg)), .ref (mR (sJ M sa2 sx1.toNatClampNeg sw0) a0 5)]) M1 Q)) : Wp d mdX12_guessesByTable 68 [(0, .ref a0), (1, .int x1), (2, .int x2), (3, .int x3)] [.long sw0, .int sx1, .ref sa2] M Q := by
  refine r_last dX12_guessesByTable_68 k0 pb0 ?_
  refine r_aload_n dX12_guessesByTable_69 rfl 0 rfl ?_
  refine r_getR ck10 dX12_guessesByTable_70 flX12_14 rfl k1 ?_
  refine r_bipush (v := (nI 8)) dX12_guessesByTable_73 rfl ?_
  refine r_iload_n dX12_guessesByTable_75 rfl 2 rfl ?_
  refine r_imul dX12_guessesByTable_76 ?_
  refine r_aload_n dX12_guessesByTable_77 rfl 0 rfl ?_
  refine r_getR ck10 dX12_guessesByTable_78 flX12_21 rfl k1 ?_
  refine r_iload_n dX12_guessesByTable_81 rfl 2 rfl ?_
  refine r_iald dX12_guessesByTable_82 k2 pb1 ?_
  refine r_iadd dX12_guessesByTable_83 ?_
  refine r_aload_n dX12_guessesByTable_84 rfl 0 rfl ?_
  refine r_iconst (v := (nI 0)) dX12_guessesByTable_85 rfl ?_
  refine r_aload_n dX12_guessesByTable_86 rfl 0 rfl ?_
  refine r_getR ck10 dX12_guessesByTable_87 flX12_107 rfl k1 ?_
  refine r_sipush (v := (nI 160)) dX12_guessesByTable_90 rfl ?_
  refine r_iload_n dX12_guessesByTable_93 rfl 1 rfl ?_
  refine r_imul dX12_guessesByTable_94 ?_
  refine r_iload_n dX12_guessesByTable_95 rfl 3 rfl ?_
  refine r_iadd dX12_guessesByTable_96 ?_
  refine r_iald dX12_guessesByTable_97 k3 pb2 ?_
  obtain ⟨e9, hlt, h9⟩ := pf3
  exact r_callV (As := [.int (nI 0), .int (mI (sJ M sa2 sx1.toNatClampNeg sw0) (mR (sJ M sa2 sx1.toNatClampNeg sw0) a0 14) (((nI 160) * x1) + x3).toNatClampNeg)]) (rest := [.int (((nI 8) * x2) + (mI (sJ M sa2 sx1.toNatClampNeg sw0) (mR (sJ M sa2 sx1.toNatClampNeg sw0) a0 4) x2.toNatClampNeg)), .ref (mR (sJ M sa2 sx1.toNatClampNeg sw0) a0 5)]) (ci := 10) moX12_shown dX12_guessesByTable_98 mlX12_51 imX12_shown seX12_shown k1 rfl hlt (Nat.le_of_ble_eq_true rfl) h9
theorem gX12_guessesByTable_101 {d : Nat} {Q : Option Value → Mem → Prop} {M : Mem} {a0 : Nat} {x1 : Int32} {x2 : Int32} {x3 : Int32} {sx0 : Int32} {sx1 : Int32} {sa2 : Nat} (k0 : mK M sa2 = 1) (k1 : mK M a0 = 14) (k2 : mK M (mR (sI M sa2 sx1.toNatClampNeg sx0) a0 4) = 1) (pb0 : vp_in sx1 (mN M sa2)) (pb1 : vp_in x2 (mN (sI M sa2 sx1.toNatClampNeg sx0) (mR (sI M sa2 sx1.toNatClampNeg sx0) a0 4))) (pw2 : Wp d mdX12_guessesByTable 13 [(0, .ref a0), (1, .int x1), (2, .int x2), (3, .int (x3 + (nI 1)))] [] (sI (sI M sa2 sx1.toNatClampNeg sx0) (mR (sI M sa2 sx1.toNatClampNeg sx0) a0 4) x2.toNatClampNeg ((mI (sI M sa2 sx1.toNatClampNeg sx0) (mR (sI M sa2 sx1.toNatClampNeg sx0) a0 4) x2.toNatClampNeg) + (nI 1))) Q) : Wp d mdX12_guessesByTable 101 [(0, .ref a0), (1, .int x1), (2, .int x2), (3, .int x3)] [.int sx0, .int sx1, .ref sa2] M Q := by
  refine r_iast dX12_guessesByTable_101 k0 pb0 ?_
  refine r_aload_n dX12_guessesByTable_102 rfl 0 rfl ?_
  refine r_getR ck10 dX12_guessesByTable_103 flX12_21 rfl k1 ?_
  refine r_iload_n dX12_guessesByTable_106 rfl 2 rfl ?_
  refine r_dup2 dX12_guessesByTable_107 rfl rfl ?_
  refine r_iald dX12_guessesByTable_108 k2 pb1 ?_
  refine r_iconst (v := (nI 1)) dX12_guessesByTable_109 rfl ?_
  refine r_iadd dX12_guessesByTable_110 ?_
  refine r_iast dX12_guessesByTable_111 k2 pb1 ?_
  refine r_iinc dX12_guessesByTable_112 3 rfl (v := x3 + (nI 1)) rfl (by decide) (ls' := [(3, .int (x3 + (nI 1))), (0, .ref a0), (1, .int x1), (2, .int x2)]) rfl ?_
  refine r_goto (tgt := 13) dX12_guessesByTable_115 (by decide) ?_
  refine r_sub [1, 2, 3, 0] (ls' := [(0, .ref a0), (1, .int x1), (2, .int x2), (3, .int (x3 + (nI 1)))]) rfl ?_
  exact pw2
theorem gX12_guessesByTable_120 {d : Nat} {Q : Option Value → Mem → Prop} {M : Mem} {a0 : Nat} {x1 : Int32} {x2 : Int32} {x3 : Int32} (k0 : mK M a0 = 14) (k1 : mK M (mR M a0 4) = 1) (k2 : mK M (mR M a0 20) = 3) (k3 : mK M (mR M a0 21) = 2) (pb0 : vp_in x2 (mN M (mR M a0 4))) (pb1 : (mI M (mR M a0 4) x2.toNatClampNeg) ≤ x3 → vp_in x1 (mN M (mR M a0 20))) (pq2 : (mI M (mR M a0 4) x2.toNatClampNeg) ≤ x3 → Q none (sI M (mR M a0 20) x1.toNatClampNeg (nI 1))) (pb3 : ¬ (mI M (mR M a0 4) x2.toNatClampNeg) ≤ x3 → vp_in (((nI 8) * x1) + x3) (mN M (mR M a0 21))) (pf4 : ¬ (mI M (mR M a0 4) x2.toNatClampNeg) ≤ x3 → ClD d mdX12_endFrom [.ref a0, .int (nI 0), .int (nI 0), .long (mJ M (mR M a0 21) (((nI 8) * x1) + x3).toNatClampNeg)] M (fun r1 M1 => Wp d mdX12_guessesByTable 147 [(0, .ref a0), (1, .int x1), (2, .int x2), (3, .int x3)] (r1.toList ++ []) M1 Q)) : Wp d mdX12_guessesByTable 120 [(0, .ref a0), (1, .int x1), (2, .int x2), (3, .int x3)] [] M Q := by
  refine r_iload_n dX12_guessesByTable_120 rfl 3 rfl ?_
  refine r_aload_n dX12_guessesByTable_121 rfl 0 rfl ?_
  refine r_getR ck10 dX12_guessesByTable_122 flX12_21 rfl k0 ?_
  refine r_iload_n dX12_guessesByTable_125 rfl 2 rfl ?_
  refine r_iald dX12_guessesByTable_126 k1 pb0 ?_
  refine r_icmp_ge (tgt := 208) dX12_guessesByTable_127 (by decide) (fun c0 => ?_) (fun c0 => ?_)
  · skip
    refine r_aload_n dX12_guessesByTable_208 rfl 0 rfl ?_
    refine r_getR ck10 dX12_guessesByTable_209 flX12_126 rfl k0 ?_
    refine r_iload_n dX12_guessesByTable_212 rfl 1 rfl ?_
    refine r_iconst (v := (nI 1)) dX12_guessesByTable_213 rfl ?_
    refine r_zast dX12_guessesByTable_214 k2 (pb1 c0) rfl ?_
    exact r_ret none dX12_guessesByTable_215 rfl (pq2 c0)
  · skip
    refine r_aload_n dX12_guessesByTable_130 rfl 0 rfl ?_
    refine r_iconst (v := (nI 0)) dX12_guessesByTable_131 rfl ?_
    refine r_iconst (v := (nI 0)) dX12_guessesByTable_132 rfl ?_
    refine r_aload_n dX12_guessesByTable_133 rfl 0 rfl ?_
    refine r_getR ck10 dX12_guessesByTable_134 flX12_130 rfl k0 ?_
    refine r_bipush (v := (nI 8)) dX12_guessesByTable_137 rfl ?_
    refine r_iload_n dX12_guessesByTable_139 rfl 1 rfl ?_
    refine r_imul dX12_guessesByTable_140 ?_
    refine r_iload_n dX12_guessesByTable_141 rfl 3 rfl ?_
    refine r_iadd dX12_guessesByTable_142 ?_
    refine r_lald dX12_guessesByTable_143 k3 (pb3 c0) ?_
    obtain ⟨e9, hlt, h9⟩ := (pf4 c0)
    exact r_callV (As := [.int (nI 0), .int (nI 0), .long (mJ M (mR M a0 21) (((nI 8) * x1) + x3).toNatClampNeg)]) (rest := []) (ci := 10) moX12_endFrom dX12_guessesByTable_144 mlX12_47 imX12_endFrom seX12_endFrom k0 rfl hlt (Nat.le_of_ble_eq_true rfl) h9
theorem gX12_guessesByTable_147 {d : Nat} {Q : Option Value → Mem → Prop} {M : Mem} {a0 : Nat} {x1 : Int32} {x2 : Int32} {x3 : Int32} {sx0 : Int32}  (pw0 : Wp d mdX12_guessesByTable 152 [(0, .ref a0), (1, .int x1), (2, .int x2), (3, .int x3), (4, .int sx0), (5, .int (nI 0))] [] M Q) : Wp d mdX12_guessesByTable 147 [(0, .ref a0), (1, .int x1), (2, .int x2), (3, .int x3)] [.int sx0] M Q := by
  refine r_istore dX12_guessesByTable_147 (by decide) (ls' := [(4, .int sx0), (0, .ref a0), (1, .int x1), (2, .int x2), (3, .int x3)]) rfl ?_
  refine r_iconst (v := (nI 0)) dX12_guessesByTable_149 rfl ?_
  refine r_istore dX12_guessesByTable_150 (by decide) (ls' := [(5, .int (nI 0)), (4, .int sx0), (0, .ref a0), (1, .int x1), (2, .int x2), (3, .int x3)]) rfl ?_
  refine r_sub [2, 3, 4, 5, 1, 0] (ls' := [(0, .ref a0), (1, .int x1), (2, .int x2), (3, .int x3), (4, .int sx0), (5, .int (nI 0))]) rfl ?_
  exact pw0
theorem gX12_guessesByTable_152 {d : Nat} {Q : Option Value → Mem → Prop} {M : Mem} {a0 : Nat} {x1 : Int32} {x2 : Int32} {x3 : Int32} {x4 : Int32} {x5 : Int32} (k0 : mK M a0 = 14) (pw0 : (mI M a0 3) ≤ x5 → Wp d mdX12_guessesByTable 120 [(0, .ref a0), (1, .int x1), (2, .int x2), (3, .int (x3 + (nI 1)))] [] M Q) (pf1 : ¬ (mI M a0 3) ≤ x5 → ClD d mdX12_comes [.ref a0, .int (nI 0), .int x4, .int x5] M (fun r1 M1 => Wp d mdX12_guessesByTable 189 [(0, .ref a0), (1, .int x1), (2, .int x2), (3, .int x3), (4, .int x4), (5, .int x5)] (r1.toList ++ [.int x1, .ref a0, .int x1, .ref a0, .int (((nI 3) * (((nI 8) * x2) + x3)) + x5), .ref (mR M a0 6)]) M1 Q)) : Wp d mdX12_guessesByTable 152 [(0, .ref a0), (1, .int x1), (2, .int x2), (3, .int x3), (4, .int x4), (5, .int x5)] [] M Q := by
  refine r_iload dX12_guessesByTable_152 5 rfl ?_
  refine r_aload_n dX12_guessesByTable_154 rfl 0 rfl ?_
  refine r_getI ck10 dX12_guessesByTable_155 flX12_30 rfl k0 ?_
  refine r_icmp_ge (tgt := 202) dX12_guessesByTable_158 (by decide) (fun c0 => ?_) (fun c0 => ?_)
  · skip
    refine r_iinc dX12_guessesByTable_202 3 rfl (v := x3 + (nI 1)) rfl (by decide) (ls' := [(3, .int (x3 + (nI 1))), (0, .ref a0), (1, .int x1), (2, .int x2), (4, .int x4), (5, .int x5)]) rfl ?_
    refine r_goto (tgt := 120) dX12_guessesByTable_205 (by decide) ?_
    refine r_sub [1, 2, 3, 0] (ls' := [(0, .ref a0), (1, .int x1), (2, .int x2), (3, .int (x3 + (nI 1)))]) rfl ?_
    exact (pw0 c0)
  · skip
    refine r_aload_n dX12_guessesByTable_161 rfl 0 rfl ?_
    refine r_getR ck10 dX12_guessesByTable_162 flX12_18 rfl k0 ?_
    refine r_iconst (v := (nI 3)) dX12_guessesByTable_165 rfl ?_
    refine r_bipush (v := (nI 8)) dX12_guessesByTable_166 rfl ?_
    refine r_iload_n dX12_guessesByTable_168 rfl 2 rfl ?_
    refine r_imul dX12_guessesByTable_169 ?_
    refine r_iload_n dX12_guessesByTable_170 rfl 3 rfl ?_
    refine r_iadd dX12_guessesByTable_171 ?_
    refine r_imul dX12_guessesByTable_172 ?_
    refine r_iload dX12_guessesByTable_173 5 rfl ?_
    refine r_iadd dX12_guessesByTable_175 ?_
    refine r_aload_n dX12_guessesByTable_176 rfl 0 rfl ?_
    refine r_iload_n dX12_guessesByTable_177 rfl 1 rfl ?_
    refine r_aload_n dX12_guessesByTable_178 rfl 0 rfl ?_
    refine r_iload_n dX12_guessesByTable_179 rfl 1 rfl ?_
    refine r_aload_n dX12_guessesByTable_180 rfl 0 rfl ?_
    refine r_iconst (v := (nI 0)) dX12_guessesByTable_181 rfl ?_
    refine r_iload dX12_guessesByTable_182 4 rfl ?_
    refine r_iload dX12_guessesByTable_184 5 rfl ?_
    obtain ⟨e9, hlt, h9⟩ := (pf1 c0)
    exact r_callV (As := [.int (nI 0), .int x4, .int x5]) (rest := [.int x1, .ref a0, .int x1, .ref a0, .int (((nI 3) * (((nI 8) * x2) + x3)) + x5), .ref (mR M a0 6)]) (ci := 10) moX12_comes dX12_guessesByTable_186 mlX12_43 imX12_comes seX12_comes k0 rfl hlt (Nat.le_of_ble_eq_true rfl) h9
theorem gX12_guessesByTable_189 {d : Nat} {Q : Option Value → Mem → Prop} {M : Mem} {a0 : Nat} {x1 : Int32} {x2 : Int32} {x3 : Int32} {x4 : Int32} {x5 : Int32} {sx0 : Int32} {sx1 : Int32} {sa2 : Nat} {sx3 : Int32} {sa4 : Nat} {sx5 : Int32} {sa6 : Nat} (k0 : mK M sa2 = 14) (pf0 : ClD d mdX12_headLike [.ref sa2, .int sx1, .int sx0] M (fun r1 M1 => Wp d mdX12_guessesByTable 192 [(0, .ref a0), (1, .int x1), (2, .int x2), (3, .int x3), (4, .int x4), (5, .int x5)] (r1.toList ++ [.int sx3, .ref sa4, .int sx5, .ref sa6]) M1 Q)) : Wp d mdX12_guessesByTable 189 [(0, .ref a0), (1, .int x1), (2, .int x2), (3, .int x3), (4, .int x4), (5, .int x5)] [.int sx0, .int sx1, .ref sa2, .int sx3, .ref sa4, .int sx5, .ref sa6] M Q := by
  obtain ⟨e9, hlt, h9⟩ := pf0
  exact r_callV (As := [.int sx1, .int sx0]) (rest := [.int sx3, .ref sa4, .int sx5, .ref sa6]) (ci := 10) moX12_headLike dX12_guessesByTable_189 mlX12_209 imX12_headLike seX12_headLike k0 rfl hlt (Nat.le_of_ble_eq_true rfl) h9
theorem gX12_guessesByTable_192 {d : Nat} {Q : Option Value → Mem → Prop} {M : Mem} {a0 : Nat} {x1 : Int32} {x2 : Int32} {x3 : Int32} {x4 : Int32} {x5 : Int32} {sx0 : Int32} {sx1 : Int32} {sa2 : Nat} {sx3 : Int32} {sa4 : Nat} (k0 : mK M sa2 = 14) (pf0 : ClD d mdX12_stateOfHead [.ref sa2, .int sx1, .int sx0] M (fun r1 M1 => Wp d mdX12_guessesByTable 195 [(0, .ref a0), (1, .int x1), (2, .int x2), (3, .int x3), (4, .int x4), (5, .int x5)] (r1.toList ++ [.int sx3, .ref sa4]) M1 Q)) : Wp d mdX12_guessesByTable 192 [(0, .ref a0), (1, .int x1), (2, .int x2), (3, .int x3), (4, .int x4), (5, .int x5)] [.int sx0, .int sx1, .ref sa2, .int sx3, .ref sa4] M Q := by
  obtain ⟨e9, hlt, h9⟩ := pf0
  exact r_callV (As := [.int sx1, .int sx0]) (rest := [.int sx3, .ref sa4]) (ci := 10) moX12_stateOfHead dX12_guessesByTable_192 mlX12_219 imX12_stateOfHead seX12_stateOfHead k0 rfl hlt (Nat.le_of_ble_eq_true rfl) h9
theorem gX12_guessesByTable_195 {d : Nat} {Q : Option Value → Mem → Prop} {M : Mem} {a0 : Nat} {x1 : Int32} {x2 : Int32} {x3 : Int32} {x4 : Int32} {x5 : Int32} {sx0 : Int32} {sx1 : Int32} {sa2 : Nat} (k0 : mK M sa2 = 1) (pb0 : vp_in sx1 (mN M sa2)) (pw1 : Wp d mdX12_guessesByTable 152 [(0, .ref a0), (1, .int x1), (2, .int x2), (3, .int x3), (4, .int x4), (5, .int (x5 + (nI 1)))] [] (sI M sa2 sx1.toNatClampNeg sx0) Q) : Wp d mdX12_guessesByTable 195 [(0, .ref a0), (1, .int x1), (2, .int x2), (3, .int x3), (4, .int x4), (5, .int x5)] [.int sx0, .int sx1, .ref sa2] M Q := by
  refine r_iast dX12_guessesByTable_195 k0 pb0 ?_
  refine r_iinc dX12_guessesByTable_196 5 rfl (v := x5 + (nI 1)) rfl (by decide) (ls' := [(5, .int (x5 + (nI 1))), (0, .ref a0), (1, .int x1), (2, .int x2), (3, .int x3), (4, .int x4)]) rfl ?_
  refine r_goto (tgt := 152) dX12_guessesByTable_199 (by decide) ?_
  refine r_sub [1, 2, 3, 4, 5, 0] (ls' := [(0, .ref a0), (1, .int x1), (2, .int x2), (3, .int x3), (4, .int x4), (5, .int (x5 + (nI 1)))]) rfl ?_
  exact pw1
-- X12_sifts
theorem gX12_sifts_0 {d : Nat} {Q : Option Value → Mem → Prop} {M : Mem} {a0 : Nat} {x1 : Int32} {w2 : Int64} (k0 : mK M a0 = 14) (pw0 : Wp d mdX12_sifts 8 [(0, .ref a0), (1, .int x1), (2, .long w2), (4, .int (nI 0))] [] (sI M a0 24 (nI 0)) Q) : Wp d mdX12_sifts 0 [(0, .ref a0), (1, .int x1), (2, .long w2)] [] M Q := by
  refine r_aload_n dX12_sifts_0 rfl 0 rfl ?_
  refine r_iconst (v := (nI 0)) dX12_sifts_1 rfl ?_
  refine r_putI ck10 dX12_sifts_2 flX12_222 rfl (Or.inl rfl) k0 ?_
  refine r_iconst (v := (nI 0)) dX12_sifts_5 rfl ?_
  refine r_istore dX12_sifts_6 (by decide) (ls' := [(4, .int (nI 0)), (0, .ref a0), (1, .int x1), (2, .long w2)]) rfl ?_
  refine r_sub [1, 2, 3, 0] (ls' := [(0, .ref a0), (1, .int x1), (2, .long w2), (4, .int (nI 0))]) rfl ?_
  exact pw0
theorem gX12_sifts_8 {d : Nat} {Q : Option Value → Mem → Prop} {M : Mem} {a0 : Nat} {x1 : Int32} {w2 : Int64} {x4 : Int32} (k0 : mK M a0 = 14) (pf0 : ClD d mdX12_tailOf [.ref a0, .int x1, .int x4] (sI M a0 24 ((mI M a0 24) + (nI 1))) (fun r1 M1 => Wp d mdX12_sifts 39 [(0, .ref a0), (1, .int x1), (2, .long w2)] (r1.toList ++ [.long w2, .int x1, .ref a0, .int ((nI 4) * (((nI 128) * x1) + x4)), .ref a0]) M1 Q)) : Wp d mdX12_sifts 8 [(0, .ref a0), (1, .int x1), (2, .long w2), (4, .int x4)] [] M Q := by
  refine r_aload_n dX12_sifts_8 rfl 0 rfl ?_
  refine r_dup dX12_sifts_9 rfl ?_
  refine r_getI ck10 dX12_sifts_10 flX12_222 rfl k0 ?_
  refine r_iconst (v := (nI 1)) dX12_sifts_13 rfl ?_
  refine r_iadd dX12_sifts_14 ?_
  refine r_putI ck10 dX12_sifts_15 flX12_222 rfl (Or.inl rfl) k0 ?_
  refine r_aload_n dX12_sifts_18 rfl 0 rfl ?_
  refine r_iconst (v := (nI 4)) dX12_sifts_19 rfl ?_
  refine r_sipush (v := (nI 128)) dX12_sifts_20 rfl ?_
  refine r_iload_n dX12_sifts_23 rfl 1 rfl ?_
  refine r_imul dX12_sifts_24 ?_
  refine r_iload dX12_sifts_25 3 rfl ?_
  refine r_iadd dX12_sifts_27 ?_
  refine r_imul dX12_sifts_28 ?_
  refine r_aload_n dX12_sifts_29 rfl 0 rfl ?_
  refine r_iload_n dX12_sifts_30 rfl 1 rfl ?_
  refine r_lload_n dX12_sifts_31 rfl 2 rfl ?_
  refine r_aload_n dX12_sifts_32 rfl 0 rfl ?_
  refine r_iload_n dX12_sifts_33 rfl 1 rfl ?_
  refine r_iload dX12_sifts_34 3 rfl ?_
  refine r_sub [0, 1, 2] (ls' := [(0, .ref a0), (1, .int x1), (2, .long w2)]) rfl ?_
  obtain ⟨e9, hlt, h9⟩ := pf0
  exact r_callV (As := [.int x1, .int x4]) (rest := [.long w2, .int x1, .ref a0, .int ((nI 4) * (((nI 128) * x1) + x4)), .ref a0]) (ci := 10) moX12_tailOf dX12_sifts_36 mlX12_198 imX12_tailOf seX12_tailOf k0 rfl hlt (Nat.le_of_ble_eq_true rfl) h9
theorem gX12_sifts_39 {d : Nat} {Q : Option Value → Mem → Prop} {M : Mem} {a0 : Nat} {x1 : Int32} {w2 : Int64} {sw0 : Int64} {sw1 : Int64} {sx2 : Int32} {sa3 : Nat} {sx4 : Int32} {sa5 : Nat}  (pf0 : ClD d mdX12_both [.long sw1, .long sw0] M (fun r1 M1 => Wp d mdX12_sifts 42 [(0, .ref a0), (1, .int x1), (2, .long w2)] (r1.toList ++ [.int sx2, .ref sa3, .int sx4, .ref sa5]) M1 Q)) : Wp d mdX12_sifts 39 [(0, .ref a0), (1, .int x1), (2, .long w2)] [.long sw0, .long sw1, .int sx2, .ref sa3, .int sx4, .ref sa5] M Q := by
  obtain ⟨e9, hlt, h9⟩ := pf0
  exact r_callS (As := [.long sw1, .long sw0]) (rest := [.int sx2, .ref sa3, .int sx4, .ref sa5]) moX12_both dX12_sifts_39 mlX12_61 saX12_both rfl hlt (Nat.le_of_ble_eq_true rfl) h9
theorem gX12_sifts_42 {d : Nat} {Q : Option Value → Mem → Prop} {M : Mem} {a0 : Nat} {x1 : Int32} {w2 : Int64} {sw0 : Int64} {sx1 : Int32} {sa2 : Nat} {sx3 : Int32} {sa4 : Nat} (k0 : mK M sa2 = 14) (pf0 : ClD d mdX12_ask [.ref sa2, .int sx1, .long sw0] M (fun r1 M1 => Wp d mdX12_sifts 45 [(0, .ref a0), (1, .int x1), (2, .long w2)] (r1.toList ++ [.int sx3, .ref sa4]) M1 Q)) : Wp d mdX12_sifts 42 [(0, .ref a0), (1, .int x1), (2, .long w2)] [.long sw0, .int sx1, .ref sa2, .int sx3, .ref sa4] M Q := by
  obtain ⟨e9, hlt, h9⟩ := pf0
  exact r_callV (As := [.int sx1, .long sw0]) (rest := [.int sx3, .ref sa4]) (ci := 10) moX12_ask dX12_sifts_42 mlX12_195 imX12_ask seX12_ask k0 rfl hlt (Nat.le_of_ble_eq_true rfl) h9
theorem gX12_sifts_45 {d : Nat} {Q : Option Value → Mem → Prop} {M : Mem} {a0 : Nat} {x1 : Int32} {w2 : Int64} {sx0 : Int32} {sx1 : Int32} {sa2 : Nat} (k0 : mK M sa2 = 14) (k1 : mK M a0 = 14) (k2 : mK M (mR (sI M sa2 25 (sx1 + sx0)) a0 22) = 1) (pb0 : vp_in (mI (sI M sa2 25 (sx1 + sx0)) a0 25) (mN (sI M sa2 25 (sx1 + sx0)) (mR (sI M sa2 25 (sx1 + sx0)) a0 22))) (pw1 : (nI 100) ≤ (mI (sI M sa2 25 (sx1 + sx0)) (mR (sI M sa2 25 (sx1 + sx0)) a0 22) (mI (sI M sa2 25 (sx1 + sx0)) a0 25).toNatClampNeg) → Wp d mdX12_sifts 8 [(0, .ref a0), (1, .int x1), (2, .long w2), (4, .int ((mI (sI M sa2 25 (sx1 + sx0)) (mR (sI M sa2 25 (sx1 + sx0)) a0 22) (mI (sI M sa2 25 (sx1 + sx0)) a0 25).toNatClampNeg) - (nI 100)))] [] (sI M sa2 25 (sx1 + sx0)) Q) (pq2 : ¬ (nI 100) ≤ (mI (sI M sa2 25 (sx1 + sx0)) (mR (sI M sa2 25 (sx1 + sx0)) a0 22) (mI (sI M sa2 25 (sx1 + sx0)) a0 25).toNatClampNeg) → Q (some (.int ((mI (sI M sa2 25 (sx1 + sx0)) (mR (sI M sa2 25 (sx1 + sx0)) a0 22) (mI (sI M sa2 25 (sx1 + sx0)) a0 25).toNatClampNeg) - (nI 1)))) (sI M sa2 25 (sx1 + sx0))) : Wp d mdX12_sifts 45 [(0, .ref a0), (1, .int x1), (2, .long w2)] [.int sx0, .int sx1, .ref sa2] M Q := by
  refine r_iadd dX12_sifts_45 ?_
  refine r_putI ck10 dX12_sifts_46 flX12_225 rfl (Or.inl rfl) k0 ?_
  refine r_aload_n dX12_sifts_49 rfl 0 rfl ?_
  refine r_getR ck10 dX12_sifts_50 flX12_133 rfl k1 ?_
  refine r_aload_n dX12_sifts_53 rfl 0 rfl ?_
  refine r_getI ck10 dX12_sifts_54 flX12_225 rfl k1 ?_
  refine r_iald dX12_sifts_57 k2 pb0 ?_
  refine r_istore dX12_sifts_58 (by decide) (ls' := [(5, .int (mI (sI M sa2 25 (sx1 + sx0)) (mR (sI M sa2 25 (sx1 + sx0)) a0 22) (mI (sI M sa2 25 (sx1 + sx0)) a0 25).toNatClampNeg)), (0, .ref a0), (1, .int x1), (2, .long w2)]) rfl ?_
  refine r_iload dX12_sifts_60 0 rfl ?_
  refine r_bipush (v := (nI 100)) dX12_sifts_62 rfl ?_
  refine r_icmp_ge (tgt := 72) dX12_sifts_64 (by decide) (fun c0 => ?_) (fun c0 => ?_)
  · skip
    refine r_iload dX12_sifts_72 0 rfl ?_
    refine r_bipush (v := (nI 100)) dX12_sifts_74 rfl ?_
    refine r_isub dX12_sifts_76 ?_
    refine r_istore dX12_sifts_77 (by decide) (ls' := [(4, .int ((mI (sI M sa2 25 (sx1 + sx0)) (mR (sI M sa2 25 (sx1 + sx0)) a0 22) (mI (sI M sa2 25 (sx1 + sx0)) a0 25).toNatClampNeg) - (nI 100))), (5, .int (mI (sI M sa2 25 (sx1 + sx0)) (mR (sI M sa2 25 (sx1 + sx0)) a0 22) (mI (sI M sa2 25 (sx1 + sx0)) a0 25).toNatClampNeg)), (0, .ref a0), (1, .int x1), (2, .long w2)]) rfl ?_
    refine r_goto (tgt := 8) dX12_sifts_79 (by decide) ?_
    refine r_sub [2, 3, 4, 0] (ls' := [(0, .ref a0), (1, .int x1), (2, .long w2), (4, .int ((mI (sI M sa2 25 (sx1 + sx0)) (mR (sI M sa2 25 (sx1 + sx0)) a0 22) (mI (sI M sa2 25 (sx1 + sx0)) a0 25).toNatClampNeg) - (nI 100)))]) rfl ?_
    exact (pw1 c0)
  · skip
    refine r_iload dX12_sifts_67 0 rfl ?_
    refine r_iconst (v := (nI 1)) dX12_sifts_69 rfl ?_
    refine r_isub dX12_sifts_70 ?_
    exact r_ret (some (.int ((mI (sI M sa2 25 (sx1 + sx0)) (mR (sI M sa2 25 (sx1 + sx0)) a0 22) (mI (sI M sa2 25 (sx1 + sx0)) a0 25).toNatClampNeg) - (nI 1)))) dX12_sifts_71 rfl (pq2 c0)
-- X12_growsLeaf
theorem gX12_growsLeaf_0 {d : Nat} {Q : Option Value → Mem → Prop} {M : Mem} {a0 : Nat} {x1 : Int32}  (pw0 : Wp d mdX12_growsLeaf 2 [(0, .ref a0), (1, .int x1), (2, .int (nI 0))] [] M Q) : Wp d mdX12_growsLeaf 0 [(0, .ref a0), (1, .int x1)] [] M Q := by
  refine r_iconst (v := (nI 0)) dX12_growsLeaf_0 rfl ?_
  refine r_istore_n dX12_growsLeaf_1 rfl (by decide) (ls' := [(2, .int (nI 0)), (0, .ref a0), (1, .int x1)]) rfl ?_
  refine r_sub [1, 2, 0] (ls' := [(0, .ref a0), (1, .int x1), (2, .int (nI 0))]) rfl ?_
  exact pw0
theorem gX12_growsLeaf_2 {d : Nat} {Q : Option Value → Mem → Prop} {M : Mem} {a0 : Nat} {x1 : Int32} {x2 : Int32} (k0 : mK M a0 = 14) (k1 : mK M (mR M a0 11) = 1) (pb0 : vp_in x1 (mN M (mR M a0 11))) (pq1 : (mI M (mR M a0 11) x1.toNatClampNeg) ≤ x2 → Q (some (.int (nI 0))) M) (pw2 : ¬ (mI M (mR M a0 11) x1.toNatClampNeg) ≤ x2 → Wp d mdX12_growsLeaf 14 [(0, .ref a0), (1, .int x1), (2, .int x2), (3, .int (nI 0))] [] M Q) : Wp d mdX12_growsLeaf 2 [(0, .ref a0), (1, .int x1), (2, .int x2)] [] M Q := by
  refine r_iload_n dX12_growsLeaf_2 rfl 2 rfl ?_
  refine r_aload_n dX12_growsLeaf_3 rfl 0 rfl ?_
  refine r_getR ck10 dX12_growsLeaf_4 flX12_98 rfl k0 ?_
  refine r_iload_n dX12_growsLeaf_7 rfl 1 rfl ?_
  refine r_iald dX12_growsLeaf_8 k1 pb0 ?_
  refine r_icmp_ge (tgt := 92) dX12_growsLeaf_9 (by decide) (fun c0 => ?_) (fun c0 => ?_)
  · skip
    refine r_iconst (v := (nI 0)) dX12_growsLeaf_92 rfl ?_
    exact r_ret (some (.int (nI 0))) dX12_growsLeaf_93 rfl (pq1 c0)
  · skip
    refine r_iconst (v := (nI 0)) dX12_growsLeaf_12 rfl ?_
    refine r_istore_n dX12_growsLeaf_13 rfl (by decide) (ls' := [(3, .int (nI 0)), (0, .ref a0), (1, .int x1), (2, .int x2)]) rfl ?_
    refine r_sub [1, 2, 3, 0] (ls' := [(0, .ref a0), (1, .int x1), (2, .int x2), (3, .int (nI 0))]) rfl ?_
    exact (pw2 c0)
theorem gX12_growsLeaf_14 {d : Nat} {Q : Option Value → Mem → Prop} {M : Mem} {a0 : Nat} {x1 : Int32} {x2 : Int32} {x3 : Int32} (k0 : mK M a0 = 14) (pw0 : (mI M a0 3) ≤ x3 → Wp d mdX12_growsLeaf 2 [(0, .ref a0), (1, .int x1), (2, .int (x2 + (nI 1)))] [] M Q) (pf1 : ¬ (mI M a0 3) ≤ x3 → ClD d mdX12_headOf [.ref a0, .int x1, .int x2] M (fun r1 M1 => Wp d mdX12_growsLeaf 28 [(0, .ref a0), (1, .int x1), (2, .int x2), (3, .int x3)] (r1.toList ++ []) M1 Q)) : Wp d mdX12_growsLeaf 14 [(0, .ref a0), (1, .int x1), (2, .int x2), (3, .int x3)] [] M Q := by
  refine r_iload_n dX12_growsLeaf_14 rfl 3 rfl ?_
  refine r_aload_n dX12_growsLeaf_15 rfl 0 rfl ?_
  refine r_getI ck10 dX12_growsLeaf_16 flX12_30 rfl k0 ?_
  refine r_icmp_ge (tgt := 86) dX12_growsLeaf_19 (by decide) (fun c0 => ?_) (fun c0 => ?_)
  · skip
    refine r_iinc dX12_growsLeaf_86 2 rfl (v := x2 + (nI 1)) rfl (by decide) (ls' := [(2, .int (x2 + (nI 1))), (0, .ref a0), (1, .int x1), (3, .int x3)]) rfl ?_
    refine r_goto (tgt := 2) dX12_growsLeaf_89 (by decide) ?_
    refine r_sub [1, 2, 0] (ls' := [(0, .ref a0), (1, .int x1), (2, .int (x2 + (nI 1)))]) rfl ?_
    exact (pw0 c0)
  · skip
    refine r_aload_n dX12_growsLeaf_22 rfl 0 rfl ?_
    refine r_iload_n dX12_growsLeaf_23 rfl 1 rfl ?_
    refine r_iload_n dX12_growsLeaf_24 rfl 2 rfl ?_
    obtain ⟨e9, hlt, h9⟩ := (pf1 c0)
    exact r_callV (As := [.int x1, .int x2]) (rest := []) (ci := 10) moX12_headOf dX12_growsLeaf_25 mlX12_206 imX12_headOf seX12_headOf k0 rfl hlt (Nat.le_of_ble_eq_true rfl) h9
theorem gX12_growsLeaf_28 {d : Nat} {Q : Option Value → Mem → Prop} {M : Mem} {a0 : Nat} {x1 : Int32} {x2 : Int32} {x3 : Int32} {sw0 : Int64}  (pf0 : ClD d mdX12_longer [.long sw0, .int x3] M (fun r1 M1 => Wp d mdX12_growsLeaf 32 [(0, .ref a0), (1, .int x1), (2, .int x2), (3, .int x3)] (r1.toList ++ []) M1 Q)) : Wp d mdX12_growsLeaf 28 [(0, .ref a0), (1, .int x1), (2, .int x2), (3, .int x3)] [.long sw0] M Q := by
  refine r_iload_n dX12_growsLeaf_28 rfl 3 rfl ?_
  obtain ⟨e9, hlt, h9⟩ := pf0
  exact r_callS (As := [.long sw0, .int x3]) (rest := []) moX12_longer dX12_growsLeaf_29 mlX12_80 saX12_longer rfl hlt (Nat.le_of_ble_eq_true rfl) h9
theorem gX12_growsLeaf_32 {d : Nat} {Q : Option Value → Mem → Prop} {M : Mem} {a0 : Nat} {x1 : Int32} {x2 : Int32} {x3 : Int32} {sw0 : Int64} (k0 : mK M a0 = 14) (pf0 : ClD d mdX12_sifts [.ref a0, .int x1, .long sw0] M (fun r1 M1 => Wp d mdX12_growsLeaf 41 [(0, .ref a0), (1, .int x1), (2, .int x2), (3, .int x3), (4, .long sw0)] (r1.toList ++ []) M1 Q)) : Wp d mdX12_growsLeaf 32 [(0, .ref a0), (1, .int x1), (2, .int x2), (3, .int x3)] [.long sw0] M Q := by
  refine r_lstore dX12_growsLeaf_32 (by decide) (ls' := [(4, .long sw0), (0, .ref a0), (1, .int x1), (2, .int x2), (3, .int x3)]) rfl ?_
  refine r_aload_n dX12_growsLeaf_34 rfl 1 rfl ?_
  refine r_iload_n dX12_growsLeaf_35 rfl 2 rfl ?_
  refine r_lload dX12_growsLeaf_36 0 rfl ?_
  refine r_sub [1, 2, 3, 4, 0] (ls' := [(0, .ref a0), (1, .int x1), (2, .int x2), (3, .int x3), (4, .long sw0)]) rfl ?_
  obtain ⟨e9, hlt, h9⟩ := pf0
  exact r_callV (As := [.int x1, .long sw0]) (rest := []) (ci := 10) moX12_sifts dX12_growsLeaf_38 mlX12_228 imX12_sifts seX12_sifts k0 rfl hlt (Nat.le_of_ble_eq_true rfl) h9
theorem gX12_growsLeaf_41 {d : Nat} {Q : Option Value → Mem → Prop} {M : Mem} {a0 : Nat} {x1 : Int32} {x2 : Int32} {x3 : Int32} {w4 : Int64} {sx0 : Int32} (k0 : mK M a0 = 14) (k1 : mK M (mR M a0 11) = 1) (k2 : mK M (mR M a0 22) = 1) (pb0 : sx0 = (-1 : Int32) → vp_in x1 (mN M (mR M a0 11))) (pb1 : sx0 = (-1 : Int32) → vp_in (mI M a0 25) (mN M (mR M a0 22))) (pf2 : sx0 = (-1 : Int32) → ClD d mdX12_headComes [.ref a0, .int x1, .long w4] (sI M (mR M a0 22) (mI M a0 25).toNatClampNeg ((nI 1) + (mI M (mR M a0 11) x1.toNatClampNeg))) (fun r1 M1 => Wp d mdX12_growsLeaf 72 [(0, .ref a0), (4, .long w4)] (r1.toList ++ []) M1 Q)) (pw3 : ¬ sx0 = (-1 : Int32) → Wp d mdX12_growsLeaf 14 [(0, .ref a0), (1, .int x1), (2, .int x2), (3, .int (x3 + (nI 1)))] [] M Q) : Wp d mdX12_growsLeaf 41 [(0, .ref a0), (1, .int x1), (2, .int x2), (3, .int x3), (4, .long w4)] [.int sx0] M Q := by
  refine r_iconst (v := (-1)) dX12_growsLeaf_41 rfl ?_
  refine r_icmp_eq (tgt := 48) dX12_growsLeaf_42 (by decide) (fun c0 => ?_) (fun c0 => ?_)
  · skip
    refine r_aload_n dX12_growsLeaf_48 rfl 0 rfl ?_
    refine r_getR ck10 dX12_growsLeaf_49 flX12_133 rfl k0 ?_
    refine r_aload_n dX12_growsLeaf_52 rfl 0 rfl ?_
    refine r_getI ck10 dX12_growsLeaf_53 flX12_225 rfl k0 ?_
    refine r_iconst (v := (nI 1)) dX12_growsLeaf_56 rfl ?_
    refine r_aload_n dX12_growsLeaf_57 rfl 0 rfl ?_
    refine r_getR ck10 dX12_growsLeaf_58 flX12_98 rfl k0 ?_
    refine r_iload_n dX12_growsLeaf_61 rfl 1 rfl ?_
    refine r_iald dX12_growsLeaf_62 k1 (pb0 c0) ?_
    refine r_iadd dX12_growsLeaf_63 ?_
    refine r_iast dX12_growsLeaf_64 k2 (pb1 c0) ?_
    refine r_aload_n dX12_growsLeaf_65 rfl 0 rfl ?_
    refine r_iload_n dX12_growsLeaf_66 rfl 1 rfl ?_
    refine r_lload dX12_growsLeaf_67 4 rfl ?_
    refine r_sub [0, 4] (ls' := [(0, .ref a0), (4, .long w4)]) rfl ?_
    obtain ⟨e9, hlt, h9⟩ := (pf2 c0)
    exact r_callV (As := [.int x1, .long w4]) (rest := []) (ci := 10) moX12_headComes dX12_growsLeaf_69 mlX12_188 imX12_headComes seX12_headComes k0 rfl hlt (Nat.le_of_ble_eq_true rfl) h9
  · skip
    refine r_goto (tgt := 80) dX12_growsLeaf_45 (by decide) ?_
    refine r_iinc dX12_growsLeaf_80 3 rfl (v := x3 + (nI 1)) rfl (by decide) (ls' := [(3, .int (x3 + (nI 1))), (0, .ref a0), (1, .int x1), (2, .int x2), (4, .long w4)]) rfl ?_
    refine r_goto (tgt := 14) dX12_growsLeaf_83 (by decide) ?_
    refine r_sub [1, 2, 3, 0] (ls' := [(0, .ref a0), (1, .int x1), (2, .int x2), (3, .int (x3 + (nI 1)))]) rfl ?_
    exact (pw3 c0)
theorem gX12_growsLeaf_72 {d : Nat} {Q : Option Value → Mem → Prop} {M : Mem} {a0 : Nat} {w4 : Int64} (k0 : mK M a0 = 14) (pq0 : Q (some (.int (nI 1))) (sJ M a0 23 w4)) : Wp d mdX12_growsLeaf 72 [(0, .ref a0), (4, .long w4)] [] M Q := by
  refine r_aload_n dX12_growsLeaf_72 rfl 0 rfl ?_
  refine r_lload dX12_growsLeaf_73 1 rfl ?_
  refine r_putJ ck10 dX12_growsLeaf_75 flX12_212 rfl (Or.inl rfl) k0 ?_
  refine r_iconst (v := (nI 1)) dX12_growsLeaf_78 rfl ?_
  exact r_ret (some (.int (nI 1))) dX12_growsLeaf_79 rfl pq0
-- X12_guessesByTree
theorem gX12_guessesByTree_0 {d : Nat} {Q : Option Value → Mem → Prop} {M : Mem} {a0 : Nat} {x1 : Int32} (k0 : mK M a0 = 14) (k1 : mK M (mR M a0 11) = 1) (k2 : mK M (mR M a0 4) = 1) (pb0 : vp_in x1 (mN M (mR M a0 11))) (pb1 : vp_in ((nI 1) + x1) (mN M (mR M a0 4))) (pw2 : Wp d mdX12_guessesByTree 18 [(0, .ref a0), (1, .int x1), (2, .int ((nI 1) + x1)), (3, .int (nI 0))] [] (sI M (mR M a0 4) ((nI 1) + x1).toNatClampNeg (mI M (mR M a0 11) x1.toNatClampNeg)) Q) : Wp d mdX12_guessesByTree 0 [(0, .ref a0), (1, .int x1)] [] M Q := by
  refine r_iconst (v := (nI 1)) dX12_guessesByTree_0 rfl ?_
  refine r_iload_n dX12_guessesByTree_1 rfl 1 rfl ?_
  refine r_iadd dX12_guessesByTree_2 ?_
  refine r_istore_n dX12_guessesByTree_3 rfl (by decide) (ls' := [(2, .int ((nI 1) + x1)), (0, .ref a0), (1, .int x1)]) rfl ?_
  refine r_aload_n dX12_guessesByTree_4 rfl 1 rfl ?_
  refine r_getR ck10 dX12_guessesByTree_5 flX12_21 rfl k0 ?_
  refine r_iload_n dX12_guessesByTree_8 rfl 0 rfl ?_
  refine r_aload_n dX12_guessesByTree_9 rfl 1 rfl ?_
  refine r_getR ck10 dX12_guessesByTree_10 flX12_98 rfl k0 ?_
  refine r_iload_n dX12_guessesByTree_13 rfl 2 rfl ?_
  refine r_iald dX12_guessesByTree_14 k1 pb0 ?_
  refine r_iast dX12_guessesByTree_15 k2 pb1 ?_
  refine r_iconst (v := (nI 0)) dX12_guessesByTree_16 rfl ?_
  refine r_istore_n dX12_guessesByTree_17 rfl (by decide) (ls' := [(3, .int (nI 0)), (2, .int ((nI 1) + x1)), (0, .ref a0), (1, .int x1)]) rfl ?_
  refine r_sub [2, 3, 1, 0] (ls' := [(0, .ref a0), (1, .int x1), (2, .int ((nI 1) + x1)), (3, .int (nI 0))]) rfl ?_
  exact pw2
theorem gX12_guessesByTree_18 {d : Nat} {Q : Option Value → Mem → Prop} {M : Mem} {a0 : Nat} {x1 : Int32} {x2 : Int32} {x3 : Int32} (k0 : mK M a0 = 14) (k1 : mK M (mR M a0 11) = 1) (k2 : mK M (mR M a0 20) = 3) (pb0 : vp_in x1 (mN M (mR M a0 11))) (pb1 : (mI M (mR M a0 11) x1.toNatClampNeg) ≤ x3 → vp_in x1 (mN M (mR M a0 20))) (pq2 : (mI M (mR M a0 11) x1.toNatClampNeg) ≤ x3 → Q none (sI M (mR M a0 20) x1.toNatClampNeg (nI 1))) (pf3 : ¬ (mI M (mR M a0 11) x1.toNatClampNeg) ≤ x3 → ClD d mdX12_headOf [.ref a0, .int x1, .int x3] M (fun r1 M1 => Wp d mdX12_guessesByTree 44 [(0, .ref a0), (1, .int x1), (2, .int x2), (3, .int x3)] (r1.toList ++ [.int (((nI 8) * x1) + x3), .ref (mR M a0 21)]) M1 Q)) : Wp d mdX12_guessesByTree 18 [(0, .ref a0), (1, .int x1), (2, .int x2), (3, .int x3)] [] M Q := by
  refine r_iload_n dX12_guessesByTree_18 rfl 3 rfl ?_
  refine r_aload_n dX12_guessesByTree_19 rfl 0 rfl ?_
  refine r_getR ck10 dX12_guessesByTree_20 flX12_98 rfl k0 ?_
  refine r_iload_n dX12_guessesByTree_23 rfl 1 rfl ?_
  refine r_iald dX12_guessesByTree_24 k1 pb0 ?_
  refine r_icmp_ge (tgt := 123) dX12_guessesByTree_25 (by decide) (fun c0 => ?_) (fun c0 => ?_)
  · skip
    refine r_aload_n dX12_guessesByTree_123 rfl 0 rfl ?_
    refine r_getR ck10 dX12_guessesByTree_124 flX12_126 rfl k0 ?_
    refine r_iload_n dX12_guessesByTree_127 rfl 1 rfl ?_
    refine r_iconst (v := (nI 1)) dX12_guessesByTree_128 rfl ?_
    refine r_zast dX12_guessesByTree_129 k2 (pb1 c0) rfl ?_
    exact r_ret none dX12_guessesByTree_130 rfl (pq2 c0)
  · skip
    refine r_aload_n dX12_guessesByTree_28 rfl 0 rfl ?_
    refine r_getR ck10 dX12_guessesByTree_29 flX12_130 rfl k0 ?_
    refine r_bipush (v := (nI 8)) dX12_guessesByTree_32 rfl ?_
    refine r_iload_n dX12_guessesByTree_34 rfl 1 rfl ?_
    refine r_imul dX12_guessesByTree_35 ?_
    refine r_iload_n dX12_guessesByTree_36 rfl 3 rfl ?_
    refine r_iadd dX12_guessesByTree_37 ?_
    refine r_aload_n dX12_guessesByTree_38 rfl 0 rfl ?_
    refine r_iload_n dX12_guessesByTree_39 rfl 1 rfl ?_
    refine r_iload_n dX12_guessesByTree_40 rfl 3 rfl ?_
    obtain ⟨e9, hlt, h9⟩ := (pf3 c0)
    exact r_callV (As := [.int x1, .int x3]) (rest := [.int (((nI 8) * x1) + x3), .ref (mR M a0 21)]) (ci := 10) moX12_headOf dX12_guessesByTree_41 mlX12_206 imX12_headOf seX12_headOf k0 rfl hlt (Nat.le_of_ble_eq_true rfl) h9
theorem gX12_guessesByTree_44 {d : Nat} {Q : Option Value → Mem → Prop} {M : Mem} {a0 : Nat} {x1 : Int32} {x2 : Int32} {x3 : Int32} {sw0 : Int64} {sx1 : Int32} {sa2 : Nat} (k0 : mK M sa2 = 2) (k1 : mK M a0 = 14) (pb0 : vp_in sx1 (mN M sa2)) (pf1 : ClD d mdX12_headOf [.ref a0, .int x1, .int x3] (sJ M sa2 sx1.toNatClampNeg sw0) (fun r1 M1 => Wp d mdX12_guessesByTree 63 [(0, .ref a0), (1, .int x1), (2, .int x2), (3, .int x3)] (r1.toList ++ [.int (nI 0), .ref a0, .int (((nI 8) * x2) + x3), .ref (mR (sJ M sa2 sx1.toNatClampNeg sw0) a0 5)]) M1 Q)) : Wp d mdX12_guessesByTree 44 [(0, .ref a0), (1, .int x1), (2, .int x2), (3, .int x3)] [.long sw0, .int sx1, .ref sa2] M Q := by
  refine r_last dX12_guessesByTree_44 k0 pb0 ?_
  refine r_aload_n dX12_guessesByTree_45 rfl 0 rfl ?_
  refine r_getR ck10 dX12_guessesByTree_46 flX12_14 rfl k1 ?_
  refine r_bipush (v := (nI 8)) dX12_guessesByTree_49 rfl ?_
  refine r_iload_n dX12_guessesByTree_51 rfl 2 rfl ?_
  refine r_imul dX12_guessesByTree_52 ?_
  refine r_iload_n dX12_guessesByTree_53 rfl 3 rfl ?_
  refine r_iadd dX12_guessesByTree_54 ?_
  refine r_aload_n dX12_guessesByTree_55 rfl 0 rfl ?_
  refine r_iconst (v := (nI 0)) dX12_guessesByTree_56 rfl ?_
  refine r_aload_n dX12_guessesByTree_57 rfl 0 rfl ?_
  refine r_iload_n dX12_guessesByTree_58 rfl 1 rfl ?_
  refine r_iload_n dX12_guessesByTree_59 rfl 3 rfl ?_
  obtain ⟨e9, hlt, h9⟩ := pf1
  exact r_callV (As := [.int x1, .int x3]) (rest := [.int (nI 0), .ref a0, .int (((nI 8) * x2) + x3), .ref (mR (sJ M sa2 sx1.toNatClampNeg sw0) a0 5)]) (ci := 10) moX12_headOf dX12_guessesByTree_60 mlX12_206 imX12_headOf seX12_headOf k1 rfl hlt (Nat.le_of_ble_eq_true rfl) h9
theorem gX12_guessesByTree_63 {d : Nat} {Q : Option Value → Mem → Prop} {M : Mem} {a0 : Nat} {x1 : Int32} {x2 : Int32} {x3 : Int32} {sw0 : Int64} {sx1 : Int32} {sa2 : Nat} {sx3 : Int32} {sa4 : Nat} (k0 : mK M sa2 = 14) (pf0 : ClD d mdX12_answer [.ref sa2, .int sx1, .long sw0] M (fun r1 M1 => Wp d mdX12_guessesByTree 66 [(0, .ref a0), (1, .int x1), (2, .int x2), (3, .int x3)] (r1.toList ++ [.int sx3, .ref sa4]) M1 Q)) : Wp d mdX12_guessesByTree 63 [(0, .ref a0), (1, .int x1), (2, .int x2), (3, .int x3)] [.long sw0, .int sx1, .ref sa2, .int sx3, .ref sa4] M Q := by
  obtain ⟨e9, hlt, h9⟩ := pf0
  exact r_callV (As := [.int sx1, .long sw0]) (rest := [.int sx3, .ref sa4]) (ci := 10) moX12_answer dX12_guessesByTree_63 mlX12_185 imX12_answer seX12_answer k0 rfl hlt (Nat.le_of_ble_eq_true rfl) h9
theorem gX12_guessesByTree_66 {d : Nat} {Q : Option Value → Mem → Prop} {M : Mem} {a0 : Nat} {x1 : Int32} {x2 : Int32} {x3 : Int32} {sx0 : Int32} {sx1 : Int32} {sa2 : Nat} (k0 : mK M sa2 = 1) (pb0 : vp_in sx1 (mN M sa2)) (pw1 : Wp d mdX12_guessesByTree 70 [(0, .ref a0), (1, .int x1), (2, .int x2), (3, .int x3), (4, .int (nI 0))] [] (sI M sa2 sx1.toNatClampNeg sx0) Q) : Wp d mdX12_guessesByTree 66 [(0, .ref a0), (1, .int x1), (2, .int x2), (3, .int x3)] [.int sx0, .int sx1, .ref sa2] M Q := by
  refine r_iast dX12_guessesByTree_66 k0 pb0 ?_
  refine r_iconst (v := (nI 0)) dX12_guessesByTree_67 rfl ?_
  refine r_istore dX12_guessesByTree_68 (by decide) (ls' := [(4, .int (nI 0)), (0, .ref a0), (1, .int x1), (2, .int x2), (3, .int x3)]) rfl ?_
  refine r_sub [1, 2, 3, 4, 0] (ls' := [(0, .ref a0), (1, .int x1), (2, .int x2), (3, .int x3), (4, .int (nI 0))]) rfl ?_
  exact pw1
theorem gX12_guessesByTree_70 {d : Nat} {Q : Option Value → Mem → Prop} {M : Mem} {a0 : Nat} {x1 : Int32} {x2 : Int32} {x3 : Int32} {x4 : Int32} (k0 : mK M a0 = 14) (pw0 : (mI M a0 3) ≤ x4 → Wp d mdX12_guessesByTree 18 [(0, .ref a0), (1, .int x1), (2, .int x2), (3, .int (x3 + (nI 1)))] [] M Q) (pf1 : ¬ (mI M a0 3) ≤ x4 → ClD d mdX12_headOf [.ref a0, .int x1, .int x3] M (fun r1 M1 => Wp d mdX12_guessesByTree 102 [(0, .ref a0), (1, .int x1), (2, .int x2), (3, .int x3), (4, .int x4)] (r1.toList ++ [.int x1, .ref a0, .int (((nI 3) * (((nI 8) * x2) + x3)) + x4), .ref (mR M a0 6)]) M1 Q)) : Wp d mdX12_guessesByTree 70 [(0, .ref a0), (1, .int x1), (2, .int x2), (3, .int x3), (4, .int x4)] [] M Q := by
  refine r_iload dX12_guessesByTree_70 4 rfl ?_
  refine r_aload_n dX12_guessesByTree_72 rfl 0 rfl ?_
  refine r_getI ck10 dX12_guessesByTree_73 flX12_30 rfl k0 ?_
  refine r_icmp_ge (tgt := 117) dX12_guessesByTree_76 (by decide) (fun c0 => ?_) (fun c0 => ?_)
  · skip
    refine r_iinc dX12_guessesByTree_117 3 rfl (v := x3 + (nI 1)) rfl (by decide) (ls' := [(3, .int (x3 + (nI 1))), (0, .ref a0), (1, .int x1), (2, .int x2), (4, .int x4)]) rfl ?_
    refine r_goto (tgt := 18) dX12_guessesByTree_120 (by decide) ?_
    refine r_sub [1, 2, 3, 0] (ls' := [(0, .ref a0), (1, .int x1), (2, .int x2), (3, .int (x3 + (nI 1)))]) rfl ?_
    exact (pw0 c0)
  · skip
    refine r_aload_n dX12_guessesByTree_79 rfl 0 rfl ?_
    refine r_getR ck10 dX12_guessesByTree_80 flX12_18 rfl k0 ?_
    refine r_iconst (v := (nI 3)) dX12_guessesByTree_83 rfl ?_
    refine r_bipush (v := (nI 8)) dX12_guessesByTree_84 rfl ?_
    refine r_iload_n dX12_guessesByTree_86 rfl 2 rfl ?_
    refine r_imul dX12_guessesByTree_87 ?_
    refine r_iload_n dX12_guessesByTree_88 rfl 3 rfl ?_
    refine r_iadd dX12_guessesByTree_89 ?_
    refine r_imul dX12_guessesByTree_90 ?_
    refine r_iload dX12_guessesByTree_91 4 rfl ?_
    refine r_iadd dX12_guessesByTree_93 ?_
    refine r_aload_n dX12_guessesByTree_94 rfl 0 rfl ?_
    refine r_iload_n dX12_guessesByTree_95 rfl 1 rfl ?_
    refine r_aload_n dX12_guessesByTree_96 rfl 0 rfl ?_
    refine r_iload_n dX12_guessesByTree_97 rfl 1 rfl ?_
    refine r_iload_n dX12_guessesByTree_98 rfl 3 rfl ?_
    obtain ⟨e9, hlt, h9⟩ := (pf1 c0)
    exact r_callV (As := [.int x1, .int x3]) (rest := [.int x1, .ref a0, .int (((nI 3) * (((nI 8) * x2) + x3)) + x4), .ref (mR M a0 6)]) (ci := 10) moX12_headOf dX12_guessesByTree_99 mlX12_206 imX12_headOf seX12_headOf k0 rfl hlt (Nat.le_of_ble_eq_true rfl) h9
theorem gX12_guessesByTree_102 {d : Nat} {Q : Option Value → Mem → Prop} {M : Mem} {a0 : Nat} {x1 : Int32} {x2 : Int32} {x3 : Int32} {x4 : Int32} {sw0 : Int64} {sx1 : Int32} {sa2 : Nat} {sx3 : Int32} {sa4 : Nat}  (pf0 : ClD d mdX12_longer [.long sw0, .int x4] M (fun r1 M1 => Wp d mdX12_guessesByTree 107 [(0, .ref a0), (1, .int x1), (2, .int x2), (3, .int x3), (4, .int x4)] (r1.toList ++ [.int sx1, .ref sa2, .int sx3, .ref sa4]) M1 Q)) : Wp d mdX12_guessesByTree 102 [(0, .ref a0), (1, .int x1), (2, .int x2), (3, .int x3), (4, .int x4)] [.long sw0, .int sx1, .ref sa2, .int sx3, .ref sa4] M Q := by
  refine r_iload dX12_guessesByTree_102 4 rfl ?_
  obtain ⟨e9, hlt, h9⟩ := pf0
  exact r_callS (As := [.long sw0, .int x4]) (rest := [.int sx1, .ref sa2, .int sx3, .ref sa4]) moX12_longer dX12_guessesByTree_104 mlX12_80 saX12_longer rfl hlt (Nat.le_of_ble_eq_true rfl) h9
theorem gX12_guessesByTree_107 {d : Nat} {Q : Option Value → Mem → Prop} {M : Mem} {a0 : Nat} {x1 : Int32} {x2 : Int32} {x3 : Int32} {x4 : Int32} {sw0 : Int64} {sx1 : Int32} {sa2 : Nat} {sx3 : Int32} {sa4 : Nat} (k0 : mK M sa2 = 14) (pf0 : ClD d mdX12_sifts [.ref sa2, .int sx1, .long sw0] M (fun r1 M1 => Wp d mdX12_guessesByTree 110 [(0, .ref a0), (1, .int x1), (2, .int x2), (3, .int x3), (4, .int x4)] (r1.toList ++ [.int sx3, .ref sa4]) M1 Q)) : Wp d mdX12_guessesByTree 107 [(0, .ref a0), (1, .int x1), (2, .int x2), (3, .int x3), (4, .int x4)] [.long sw0, .int sx1, .ref sa2, .int sx3, .ref sa4] M Q := by
  obtain ⟨e9, hlt, h9⟩ := pf0
  exact r_callV (As := [.int sx1, .long sw0]) (rest := [.int sx3, .ref sa4]) (ci := 10) moX12_sifts dX12_guessesByTree_107 mlX12_228 imX12_sifts seX12_sifts k0 rfl hlt (Nat.le_of_ble_eq_true rfl) h9
theorem gX12_guessesByTree_110 {d : Nat} {Q : Option Value → Mem → Prop} {M : Mem} {a0 : Nat} {x1 : Int32} {x2 : Int32} {x3 : Int32} {x4 : Int32} {sx0 : Int32} {sx1 : Int32} {sa2 : Nat} (k0 : mK M sa2 = 1) (pb0 : vp_in sx1 (mN M sa2)) (pw1 : Wp d mdX12_guessesByTree 70 [(0, .ref a0), (1, .int x1), (2, .int x2), (3, .int x3), (4, .int (x4 + (nI 1)))] [] (sI M sa2 sx1.toNatClampNeg sx0) Q) : Wp d mdX12_guessesByTree 110 [(0, .ref a0), (1, .int x1), (2, .int x2), (3, .int x3), (4, .int x4)] [.int sx0, .int sx1, .ref sa2] M Q := by
  refine r_iast dX12_guessesByTree_110 k0 pb0 ?_
  refine r_iinc dX12_guessesByTree_111 4 rfl (v := x4 + (nI 1)) rfl (by decide) (ls' := [(4, .int (x4 + (nI 1))), (0, .ref a0), (1, .int x1), (2, .int x2), (3, .int x3)]) rfl ?_
  refine r_goto (tgt := 70) dX12_guessesByTree_114 (by decide) ?_
  refine r_sub [1, 2, 3, 4, 0] (ls' := [(0, .ref a0), (1, .int x1), (2, .int x2), (3, .int x3), (4, .int (x4 + (nI 1)))]) rfl ?_
  exact pw1
-- X12_steps
theorem gX12_steps_0 {d : Nat} {Q : Option Value → Mem → Prop} {M : Mem} {a0 : Nat} {x1 : Int32} (k0 : mK M a0 = 14) (k1 : mK M (mR M a0 10) = 1) (pb0 : vp_in x1 (mN M (mR M a0 10))) (pf1 : ¬ (mI M (mR M a0 10) x1.toNatClampNeg) = (nI 3) → ClD d mdX12_asksAll [.ref a0, .int x1] M (fun r1 M1 => Wp d mdX12_steps 32 [(0, .ref a0), (1, .int x1)] (r1.toList ++ []) M1 Q)) (pf2 : (mI M (mR M a0 10) x1.toNatClampNeg) = (nI 3) → ClD d mdX12_growsLeaf [.ref a0, .int x1] M (fun r1 M1 => Wp d mdX12_steps 15 [(0, .ref a0), (1, .int x1)] (r1.toList ++ []) M1 Q)) : Wp d mdX12_steps 0 [(0, .ref a0), (1, .int x1)] [] M Q := by
  refine r_aload_n dX12_steps_0 rfl 0 rfl ?_
  refine r_getR ck10 dX12_steps_1 flX12_95 rfl k0 ?_
  refine r_iload_n dX12_steps_4 rfl 1 rfl ?_
  refine r_iald dX12_steps_5 k1 pb0 ?_
  refine r_iconst (v := (nI 3)) dX12_steps_6 rfl ?_
  refine r_icmp_ne (tgt := 27) dX12_steps_7 (by decide) (fun c0 => ?_) (fun c0 => ?_)
  · skip
    refine r_aload_n dX12_steps_27 rfl 0 rfl ?_
    refine r_iload_n dX12_steps_28 rfl 1 rfl ?_
    obtain ⟨e9, hlt, h9⟩ := (pf1 c0)
    exact r_callV (As := [.int x1]) (rest := []) (ci := 10) moX12_asksAll dX12_steps_29 mlX12_239 imX12_asksAll seX12_asksAll k0 rfl hlt (Nat.le_of_ble_eq_true rfl) h9
  · skip
    refine r_aload_n dX12_steps_10 rfl 0 rfl ?_
    refine r_iload_n dX12_steps_11 rfl 1 rfl ?_
    obtain ⟨e9, hlt, h9⟩ := (pf2 c0)
    exact r_callV (As := [.int x1]) (rest := []) (ci := 10) moX12_growsLeaf dX12_steps_12 mlX12_231 imX12_growsLeaf seX12_growsLeaf k0 rfl hlt (Nat.le_of_ble_eq_true rfl) h9
theorem gX12_steps_15 {d : Nat} {Q : Option Value → Mem → Prop} {M : Mem} {a0 : Nat} {x1 : Int32} {sx0 : Int32} (k0 : mK M a0 = 14) (pf0 : sx0 = 0 → ClD d mdX12_guessesByTree [.ref a0, .int x1] M (fun r1 M1 => Wp d mdX12_steps 25 [] (r1.toList ++ []) M1 Q)) (pq1 : ¬ sx0 = 0 → Q (some (.int (nI 1))) M) : Wp d mdX12_steps 15 [(0, .ref a0), (1, .int x1)] [.int sx0] M Q := by
  refine r_if_eq (tgt := 20) dX12_steps_15 (by decide) (fun c0 => ?_) (fun c0 => ?_)
  · skip
    refine r_aload_n dX12_steps_20 rfl 0 rfl ?_
    refine r_iload_n dX12_steps_21 rfl 1 rfl ?_
    refine r_sub [] (ls' := []) rfl ?_
    obtain ⟨e9, hlt, h9⟩ := (pf0 c0)
    exact r_callV (As := [.int x1]) (rest := []) (ci := 10) moX12_guessesByTree dX12_steps_22 mlX12_235 imX12_guessesByTree seX12_guessesByTree k0 rfl hlt (Nat.le_of_ble_eq_true rfl) h9
  · skip
    refine r_iconst (v := (nI 1)) dX12_steps_18 rfl ?_
    exact r_ret (some (.int (nI 1))) dX12_steps_19 rfl (pq1 c0)
theorem gX12_steps_25 {d : Nat} {Q : Option Value → Mem → Prop} {M : Mem}  (pq0 : Q (some (.int (nI 0))) M) : Wp d mdX12_steps 25 [] [] M Q := by
  refine r_iconst (v := (nI 0)) dX12_steps_25 rfl ?_
  exact r_ret (some (.int (nI 0))) dX12_steps_26 rfl pq0
theorem gX12_steps_32 {d : Nat} {Q : Option Value → Mem → Prop} {M : Mem} {a0 : Nat} {x1 : Int32} (k0 : mK M a0 = 14) (pf0 : ClD d mdX12_closes [.ref a0, .int x1] M (fun r1 M1 => Wp d mdX12_steps 37 [(0, .ref a0), (1, .int x1)] (r1.toList ++ []) M1 Q)) : Wp d mdX12_steps 32 [(0, .ref a0), (1, .int x1)] [] M Q := by
  refine r_aload_n dX12_steps_32 rfl 0 rfl ?_
  refine r_iload_n dX12_steps_33 rfl 1 rfl ?_
  obtain ⟨e9, hlt, h9⟩ := pf0
  exact r_callV (As := [.int x1]) (rest := []) (ci := 10) moX12_closes dX12_steps_34 mlX12_242 imX12_closes seX12_closes k0 rfl hlt (Nat.le_of_ble_eq_true rfl) h9
theorem gX12_steps_37 {d : Nat} {Q : Option Value → Mem → Prop} {M : Mem} {a0 : Nat} {x1 : Int32} {sx0 : Int32} (k0 : mK M a0 = 14) (k1 : mK M (mR M a0 10) = 1) (pb0 : sx0 = 0 → vp_in x1 (mN M (mR M a0 10))) (pw1 : sx0 = 0 → ¬ (mI M (mR M a0 10) x1.toNatClampNeg) = 0 → Wp d mdX12_steps 61 [(0, .ref a0), (1, .int x1)] [] M Q) (pf2 : sx0 = 0 → (mI M (mR M a0 10) x1.toNatClampNeg) = 0 → ClD d mdX12_agrees [.ref a0, .int x1] M (fun r1 M1 => Wp d mdX12_steps 56 [(0, .ref a0), (1, .int x1)] (r1.toList ++ []) M1 Q)) (pq3 : ¬ sx0 = 0 → Q (some (.int (nI 1))) M) : Wp d mdX12_steps 37 [(0, .ref a0), (1, .int x1)] [.int sx0] M Q := by
  refine r_if_eq (tgt := 42) dX12_steps_37 (by decide) (fun c0 => ?_) (fun c0 => ?_)
  · skip
    refine r_aload_n dX12_steps_42 rfl 0 rfl ?_
    refine r_getR ck10 dX12_steps_43 flX12_95 rfl k0 ?_
    refine r_iload_n dX12_steps_46 rfl 1 rfl ?_
    refine r_iald dX12_steps_47 k1 (pb0 c0) ?_
    refine r_if_ne (tgt := 61) dX12_steps_48 (by decide) (fun c1 => ?_) (fun c1 => ?_)
    · skip
      exact (pw1 c0 c1)
    · skip
      refine r_aload_n dX12_steps_51 rfl 0 rfl ?_
      refine r_iload_n dX12_steps_52 rfl 1 rfl ?_
      obtain ⟨e9, hlt, h9⟩ := (pf2 c0 c1)
      exact r_callV (As := [.int x1]) (rest := []) (ci := 10) moX12_agrees dX12_steps_53 mlX12_245 imX12_agrees seX12_agrees k0 rfl hlt (Nat.le_of_ble_eq_true rfl) h9
  · skip
    refine r_iconst (v := (nI 1)) dX12_steps_40 rfl ?_
    exact r_ret (some (.int (nI 1))) dX12_steps_41 rfl (pq3 c0)
theorem gX12_steps_56 {d : Nat} {Q : Option Value → Mem → Prop} {M : Mem} {a0 : Nat} {x1 : Int32} {sx0 : Int32}  (pw0 : sx0 = 0 → Wp d mdX12_steps 61 [(0, .ref a0), (1, .int x1)] [] M Q) (pq1 : ¬ sx0 = 0 → Q (some (.int (nI 2))) M) : Wp d mdX12_steps 56 [(0, .ref a0), (1, .int x1)] [.int sx0] M Q := by
  refine r_if_eq (tgt := 61) dX12_steps_56 (by decide) (fun c0 => ?_) (fun c0 => ?_)
  · skip
    exact (pw0 c0)
  · skip
    refine r_iconst (v := (nI 2)) dX12_steps_59 rfl ?_
    exact r_ret (some (.int (nI 2))) dX12_steps_60 rfl (pq1 c0)
theorem gX12_steps_61 {d : Nat} {Q : Option Value → Mem → Prop} {M : Mem} {a0 : Nat} {x1 : Int32} (k0 : mK M a0 = 14) (pf0 : ClD d mdX12_guessesByTable [.ref a0, .int x1] M (fun r1 M1 => Wp d mdX12_steps 66 [] (r1.toList ++ []) M1 Q)) : Wp d mdX12_steps 61 [(0, .ref a0), (1, .int x1)] [] M Q := by
  refine r_aload_n dX12_steps_61 rfl 0 rfl ?_
  refine r_iload_n dX12_steps_62 rfl 1 rfl ?_
  refine r_sub [] (ls' := []) rfl ?_
  obtain ⟨e9, hlt, h9⟩ := pf0
  exact r_callV (As := [.int x1]) (rest := []) (ci := 10) moX12_guessesByTable dX12_steps_63 mlX12_248 imX12_guessesByTable seX12_guessesByTable k0 rfl hlt (Nat.le_of_ble_eq_true rfl) h9
theorem gX12_steps_66 {d : Nat} {Q : Option Value → Mem → Prop} {M : Mem}  (pq0 : Q (some (.int (nI 0))) M) : Wp d mdX12_steps 66 [] [] M Q := by
  refine r_iconst (v := (nI 0)) dX12_steps_66 rfl ?_
  exact r_ret (some (.int (nI 0))) dX12_steps_67 rfl pq0
-- X12_stepsTillGuess
theorem gX12_stepsTillGuess_0 {d : Nat} {Q : Option Value → Mem → Prop} {M : Mem} {a0 : Nat} {x1 : Int32}  (pw0 : Wp d mdX12_stepsTillGuess 2 [(0, .ref a0), (1, .int x1), (2, .int (nI 0))] [] M Q) : Wp d mdX12_stepsTillGuess 0 [(0, .ref a0), (1, .int x1)] [] M Q := by
  refine r_iconst (v := (nI 0)) dX12_stepsTillGuess_0 rfl ?_
  refine r_istore_n dX12_stepsTillGuess_1 rfl (by decide) (ls' := [(2, .int (nI 0)), (0, .ref a0), (1, .int x1)]) rfl ?_
  refine r_sub [1, 2, 0] (ls' := [(0, .ref a0), (1, .int x1), (2, .int (nI 0))]) rfl ?_
  exact pw0
theorem gX12_stepsTillGuess_2 {d : Nat} {Q : Option Value → Mem → Prop} {M : Mem} {a0 : Nat} {x1 : Int32} {x2 : Int32} (k0 : mK M a0 = 14) (k1 : mK M (mR M a0 20) = 3) (pb0 : vp_in x1 (mN M (mR M a0 20))) (pq1 : ¬ (mI M (mR M a0 20) x1.toNatClampNeg) = 0 → Q (some (.int x2)) M) (pf2 : (mI M (mR M a0 20) x1.toNatClampNeg) = 0 → ClD d mdX12_steps [.ref a0, .int x1] M (fun r1 M1 => Wp d mdX12_stepsTillGuess 16 [(0, .ref a0), (1, .int x1), (2, .int x2)] (r1.toList ++ []) M1 Q)) : Wp d mdX12_stepsTillGuess 2 [(0, .ref a0), (1, .int x1), (2, .int x2)] [] M Q := by
  refine r_aload_n dX12_stepsTillGuess_2 rfl 0 rfl ?_
  refine r_getR ck10 dX12_stepsTillGuess_3 flX12_126 rfl k0 ?_
  refine r_iload_n dX12_stepsTillGuess_6 rfl 1 rfl ?_
  refine r_zald dX12_stepsTillGuess_7 k1 pb0 ?_
  refine r_if_ne (tgt := 23) dX12_stepsTillGuess_8 (by decide) (fun c0 => ?_) (fun c0 => ?_)
  · skip
    refine r_iload_n dX12_stepsTillGuess_23 rfl 2 rfl ?_
    exact r_ret (some (.int x2)) dX12_stepsTillGuess_24 rfl (pq1 c0)
  · skip
    refine r_aload_n dX12_stepsTillGuess_11 rfl 0 rfl ?_
    refine r_iload_n dX12_stepsTillGuess_12 rfl 1 rfl ?_
    obtain ⟨e9, hlt, h9⟩ := (pf2 c0)
    exact r_callV (As := [.int x1]) (rest := []) (ci := 10) moX12_steps dX12_stepsTillGuess_13 mlX12_251 imX12_steps seX12_steps k0 rfl hlt (Nat.le_of_ble_eq_true rfl) h9
theorem gX12_stepsTillGuess_16 {d : Nat} {Q : Option Value → Mem → Prop} {M : Mem} {a0 : Nat} {x1 : Int32} {x2 : Int32} {sx0 : Int32}  (pw0 : Wp d mdX12_stepsTillGuess 2 [(0, .ref a0), (1, .int x1), (2, .int (x2 + (nI 1)))] [] M Q) : Wp d mdX12_stepsTillGuess 16 [(0, .ref a0), (1, .int x1), (2, .int x2)] [.int sx0] M Q := by
  refine r_pop dX12_stepsTillGuess_16 rfl ?_
  refine r_iinc dX12_stepsTillGuess_17 2 rfl (v := x2 + (nI 1)) rfl (by decide) (ls' := [(2, .int (x2 + (nI 1))), (0, .ref a0), (1, .int x1)]) rfl ?_
  refine r_goto (tgt := 2) dX12_stepsTillGuess_20 (by decide) ?_
  refine r_sub [1, 2, 0] (ls' := [(0, .ref a0), (1, .int x1), (2, .int (x2 + (nI 1)))]) rfl ?_
  exact pw0
-- X12_isHead
theorem gX12_isHead_0 {d : Nat} {Q : Option Value → Mem → Prop} {M : Mem} {a0 : Nat} {x1 : Int32} {w2 : Int64}  (pw0 : Wp d mdX12_isHead 3 [(0, .ref a0), (1, .int x1), (2, .long w2), (4, .int (nI 0))] [] M Q) : Wp d mdX12_isHead 0 [(0, .ref a0), (1, .int x1), (2, .long w2)] [] M Q := by
  refine r_iconst (v := (nI 0)) dX12_isHead_0 rfl ?_
  refine r_istore dX12_isHead_1 (by decide) (ls' := [(4, .int (nI 0)), (0, .ref a0), (1, .int x1), (2, .long w2)]) rfl ?_
  refine r_sub [1, 2, 3, 0] (ls' := [(0, .ref a0), (1, .int x1), (2, .long w2), (4, .int (nI 0))]) rfl ?_
  exact pw0
theorem gX12_isHead_3 {d : Nat} {Q : Option Value → Mem → Prop} {M : Mem} {a0 : Nat} {x1 : Int32} {w2 : Int64} {x4 : Int32} (k0 : mK M a0 = 14) (k1 : mK M (mR M a0 11) = 1) (pb0 : vp_in x1 (mN M (mR M a0 11))) (pq1 : (mI M (mR M a0 11) x1.toNatClampNeg) ≤ x4 → Q (some (.int (nI 0))) M) (pf2 : ¬ (mI M (mR M a0 11) x1.toNatClampNeg) ≤ x4 → ClD d mdX12_headOf [.ref a0, .int x1, .int x4] M (fun r1 M1 => Wp d mdX12_isHead 21 [(0, .ref a0), (1, .int x1), (2, .long w2), (4, .int x4)] (r1.toList ++ []) M1 Q)) : Wp d mdX12_isHead 3 [(0, .ref a0), (1, .int x1), (2, .long w2), (4, .int x4)] [] M Q := by
  refine r_iload dX12_isHead_3 3 rfl ?_
  refine r_aload_n dX12_isHead_5 rfl 0 rfl ?_
  refine r_getR ck10 dX12_isHead_6 flX12_98 rfl k0 ?_
  refine r_iload_n dX12_isHead_9 rfl 1 rfl ?_
  refine r_iald dX12_isHead_10 k1 pb0 ?_
  refine r_icmp_ge (tgt := 34) dX12_isHead_11 (by decide) (fun c0 => ?_) (fun c0 => ?_)
  · skip
    refine r_iconst (v := (nI 0)) dX12_isHead_34 rfl ?_
    exact r_ret (some (.int (nI 0))) dX12_isHead_35 rfl (pq1 c0)
  · skip
    refine r_aload_n dX12_isHead_14 rfl 0 rfl ?_
    refine r_iload_n dX12_isHead_15 rfl 1 rfl ?_
    refine r_iload dX12_isHead_16 3 rfl ?_
    obtain ⟨e9, hlt, h9⟩ := (pf2 c0)
    exact r_callV (As := [.int x1, .int x4]) (rest := []) (ci := 10) moX12_headOf dX12_isHead_18 mlX12_206 imX12_headOf seX12_headOf k0 rfl hlt (Nat.le_of_ble_eq_true rfl) h9
theorem gX12_isHead_21 {d : Nat} {Q : Option Value → Mem → Prop} {M : Mem} {a0 : Nat} {x1 : Int32} {w2 : Int64} {x4 : Int32} {sw0 : Int64}  (pw0 : ¬ sw0 = w2 → Wp d mdX12_isHead 3 [(0, .ref a0), (1, .int x1), (2, .long w2), (4, .int (x4 + (nI 1)))] [] M Q) (pq1 : sw0 = w2 → Q (some (.int (nI 1))) M) : Wp d mdX12_isHead 21 [(0, .ref a0), (1, .int x1), (2, .long w2), (4, .int x4)] [.long sw0] M Q := by
  refine r_lload_n dX12_isHead_21 rfl 2 rfl ?_
  refine r_lif_ne (tgt := 28) dX12_isHead_22 dX12_isHead_23 (by decide) (fun c0 => ?_) (fun c0 => ?_)
  · skip
    refine r_iinc dX12_isHead_28 3 rfl (v := x4 + (nI 1)) rfl (by decide) (ls' := [(4, .int (x4 + (nI 1))), (0, .ref a0), (1, .int x1), (2, .long w2)]) rfl ?_
    refine r_goto (tgt := 3) dX12_isHead_31 (by decide) ?_
    refine r_sub [1, 2, 3, 0] (ls' := [(0, .ref a0), (1, .int x1), (2, .long w2), (4, .int (x4 + (nI 1)))]) rfl ?_
    exact (pw0 c0)
  · skip
    refine r_iconst (v := (nI 1)) dX12_isHead_26 rfl ?_
    exact r_ret (some (.int (nI 1))) dX12_isHead_27 rfl (pq1 c0)
-- X12_isTail
theorem gX12_isTail_0 {d : Nat} {Q : Option Value → Mem → Prop} {M : Mem} {a0 : Nat} {x1 : Int32} {w2 : Int64}  (pw0 : Wp d mdX12_isTail 3 [(0, .ref a0), (1, .int x1), (2, .long w2), (4, .int (nI 0))] [] M Q) : Wp d mdX12_isTail 0 [(0, .ref a0), (1, .int x1), (2, .long w2)] [] M Q := by
  refine r_iconst (v := (nI 0)) dX12_isTail_0 rfl ?_
  refine r_istore dX12_isTail_1 (by decide) (ls' := [(4, .int (nI 0)), (0, .ref a0), (1, .int x1), (2, .long w2)]) rfl ?_
  refine r_sub [1, 2, 3, 0] (ls' := [(0, .ref a0), (1, .int x1), (2, .long w2), (4, .int (nI 0))]) rfl ?_
  exact pw0
theorem gX12_isTail_3 {d : Nat} {Q : Option Value → Mem → Prop} {M : Mem} {a0 : Nat} {x1 : Int32} {w2 : Int64} {x4 : Int32} (k0 : mK M a0 = 14) (k1 : mK M (mR M a0 12) = 1) (pb0 : vp_in x1 (mN M (mR M a0 12))) (pq1 : (mI M (mR M a0 12) x1.toNatClampNeg) ≤ x4 → Q (some (.int (nI 0))) M) (pf2 : ¬ (mI M (mR M a0 12) x1.toNatClampNeg) ≤ x4 → ClD d mdX12_tailOf [.ref a0, .int x1, .int x4] M (fun r1 M1 => Wp d mdX12_isTail 21 [(0, .ref a0), (1, .int x1), (2, .long w2), (4, .int x4)] (r1.toList ++ []) M1 Q)) : Wp d mdX12_isTail 3 [(0, .ref a0), (1, .int x1), (2, .long w2), (4, .int x4)] [] M Q := by
  refine r_iload dX12_isTail_3 3 rfl ?_
  refine r_aload_n dX12_isTail_5 rfl 0 rfl ?_
  refine r_getR ck10 dX12_isTail_6 flX12_101 rfl k0 ?_
  refine r_iload_n dX12_isTail_9 rfl 1 rfl ?_
  refine r_iald dX12_isTail_10 k1 pb0 ?_
  refine r_icmp_ge (tgt := 34) dX12_isTail_11 (by decide) (fun c0 => ?_) (fun c0 => ?_)
  · skip
    refine r_iconst (v := (nI 0)) dX12_isTail_34 rfl ?_
    exact r_ret (some (.int (nI 0))) dX12_isTail_35 rfl (pq1 c0)
  · skip
    refine r_aload_n dX12_isTail_14 rfl 0 rfl ?_
    refine r_iload_n dX12_isTail_15 rfl 1 rfl ?_
    refine r_iload dX12_isTail_16 3 rfl ?_
    obtain ⟨e9, hlt, h9⟩ := (pf2 c0)
    exact r_callV (As := [.int x1, .int x4]) (rest := []) (ci := 10) moX12_tailOf dX12_isTail_18 mlX12_198 imX12_tailOf seX12_tailOf k0 rfl hlt (Nat.le_of_ble_eq_true rfl) h9
theorem gX12_isTail_21 {d : Nat} {Q : Option Value → Mem → Prop} {M : Mem} {a0 : Nat} {x1 : Int32} {w2 : Int64} {x4 : Int32} {sw0 : Int64}  (pw0 : ¬ sw0 = w2 → Wp d mdX12_isTail 3 [(0, .ref a0), (1, .int x1), (2, .long w2), (4, .int (x4 + (nI 1)))] [] M Q) (pq1 : sw0 = w2 → Q (some (.int (nI 1))) M) : Wp d mdX12_isTail 21 [(0, .ref a0), (1, .int x1), (2, .long w2), (4, .int x4)] [.long sw0] M Q := by
  refine r_lload_n dX12_isTail_21 rfl 2 rfl ?_
  refine r_lif_ne (tgt := 28) dX12_isTail_22 dX12_isTail_23 (by decide) (fun c0 => ?_) (fun c0 => ?_)
  · skip
    refine r_iinc dX12_isTail_28 3 rfl (v := x4 + (nI 1)) rfl (by decide) (ls' := [(4, .int (x4 + (nI 1))), (0, .ref a0), (1, .int x1), (2, .long w2)]) rfl ?_
    refine r_goto (tgt := 3) dX12_isTail_31 (by decide) ?_
    refine r_sub [1, 2, 3, 0] (ls' := [(0, .ref a0), (1, .int x1), (2, .long w2), (4, .int (x4 + (nI 1)))]) rfl ?_
    exact (pw0 c0)
  · skip
    refine r_iconst (v := (nI 1)) dX12_isTail_26 rfl ?_
    exact r_ret (some (.int (nI 1))) dX12_isTail_27 rfl (pq1 c0)
-- X12_endInGuess
theorem gX12_endInGuess_0 {d : Nat} {Q : Option Value → Mem → Prop} {M : Mem} {a0 : Nat} {x1 : Int32} {w2 : Int64} (k0 : mK M a0 = 14) (pf0 : ClD d mdX12_endFrom [.ref a0, .int ((nI 1) + x1), .int (nI 0), .long w2] M (fun r1 M1 => Wp d mdX12_endInGuess 9 [] (r1.toList ++ []) M1 Q)) : Wp d mdX12_endInGuess 0 [(0, .ref a0), (1, .int x1), (2, .long w2)] [] M Q := by
  refine r_aload_n dX12_endInGuess_0 rfl 0 rfl ?_
  refine r_iconst (v := (nI 1)) dX12_endInGuess_1 rfl ?_
  refine r_iload_n dX12_endInGuess_2 rfl 1 rfl ?_
  refine r_iadd dX12_endInGuess_3 ?_
  refine r_iconst (v := (nI 0)) dX12_endInGuess_4 rfl ?_
  refine r_lload_n dX12_endInGuess_5 rfl 2 rfl ?_
  refine r_sub [] (ls' := []) rfl ?_
  obtain ⟨e9, hlt, h9⟩ := pf0
  exact r_callV (As := [.int ((nI 1) + x1), .int (nI 0), .long w2]) (rest := []) (ci := 10) moX12_endFrom dX12_endInGuess_6 mlX12_47 imX12_endFrom seX12_endFrom k0 rfl hlt (Nat.le_of_ble_eq_true rfl) h9
theorem gX12_endInGuess_9 {d : Nat} {Q : Option Value → Mem → Prop} {M : Mem} {sx0 : Int32}  (pq0 : Q (some (.int sx0)) M) : Wp d mdX12_endInGuess 9 [] [.int sx0] M Q := by
  exact r_ret (some (.int sx0)) dX12_endInGuess_9 rfl pq0
-- X12_accessOf
theorem gX12_accessOf_0 {d : Nat} {Q : Option Value → Mem → Prop} {M : Mem} {a0 : Nat} {x1 : Int32} {x2 : Int32} (k0 : mK M a0 = 14) (k1 : mK M (mR M a0 21) = 2) (pb0 : vp_in (((nI 8) * x1) + x2) (mN M (mR M a0 21))) (pq1 : Q (some (.long (mJ M (mR M a0 21) (((nI 8) * x1) + x2).toNatClampNeg))) M) : Wp d mdX12_accessOf 0 [(0, .ref a0), (1, .int x1), (2, .int x2)] [] M Q := by
  refine r_aload_n dX12_accessOf_0 rfl 0 rfl ?_
  refine r_getR ck10 dX12_accessOf_1 flX12_130 rfl k0 ?_
  refine r_bipush (v := (nI 8)) dX12_accessOf_4 rfl ?_
  refine r_iload_n dX12_accessOf_6 rfl 1 rfl ?_
  refine r_imul dX12_accessOf_7 ?_
  refine r_iload_n dX12_accessOf_8 rfl 2 rfl ?_
  refine r_iadd dX12_accessOf_9 ?_
  refine r_lald dX12_accessOf_10 k1 pb0 ?_
  exact r_ret (some (.long (mJ M (mR M a0 21) (((nI 8) * x1) + x2).toNatClampNeg))) dX12_accessOf_11 rfl pq1
-- X12_lowOf
theorem gX12_lowOf_0 {d : Nat} {Q : Option Value → Mem → Prop} {M : Mem} {a0 : Nat} {x1 : Int32} {w2 : Int64} {x4 : Int32}  (pf0 : ClD d mdX12_lengthOf [.long w2] M (fun r1 M1 => Wp d mdX12_lowOf 7 [(0, .ref a0), (1, .int x1), (2, .long w2), (4, .int x4), (5, .int (nI 0))] (r1.toList ++ []) M1 Q)) : Wp d mdX12_lowOf 0 [(0, .ref a0), (1, .int x1), (2, .long w2), (4, .int x4)] [] M Q := by
  refine r_iconst (v := (nI 0)) dX12_lowOf_0 rfl ?_
  refine r_istore dX12_lowOf_1 (by decide) (ls' := [(5, .int (nI 0)), (0, .ref a0), (1, .int x1), (2, .long w2), (4, .int x4)]) rfl ?_
  refine r_lload_n dX12_lowOf_3 rfl 3 rfl ?_
  refine r_sub [1, 2, 3, 4, 0] (ls' := [(0, .ref a0), (1, .int x1), (2, .long w2), (4, .int x4), (5, .int (nI 0))]) rfl ?_
  obtain ⟨e9, hlt, h9⟩ := pf0
  exact r_callS (As := [.long w2]) (rest := []) moX12_lengthOf dX12_lowOf_4 mlX12_33 saX12_lengthOf rfl hlt (Nat.le_of_ble_eq_true rfl) h9
theorem gX12_lowOf_7 {d : Nat} {Q : Option Value → Mem → Prop} {M : Mem} {a0 : Nat} {x1 : Int32} {w2 : Int64} {x4 : Int32} {x5 : Int32} {sx0 : Int32}  (pw0 : Wp d mdX12_lowOf 9 [(0, .ref a0), (1, .int x1), (2, .long w2), (4, .int x4), (5, .int x5), (6, .int sx0)] [] M Q) : Wp d mdX12_lowOf 7 [(0, .ref a0), (1, .int x1), (2, .long w2), (4, .int x4), (5, .int x5)] [.int sx0] M Q := by
  refine r_istore dX12_lowOf_7 (by decide) (ls' := [(6, .int sx0), (0, .ref a0), (1, .int x1), (2, .long w2), (4, .int x4), (5, .int x5)]) rfl ?_
  refine r_sub [1, 2, 3, 4, 5, 0] (ls' := [(0, .ref a0), (1, .int x1), (2, .long w2), (4, .int x4), (5, .int x5), (6, .int sx0)]) rfl ?_
  exact pw0
theorem gX12_lowOf_9 {d : Nat} {Q : Option Value → Mem → Prop} {M : Mem} {a0 : Nat} {x1 : Int32} {w2 : Int64} {x4 : Int32} {x5 : Int32} {x6 : Int32}  (pq0 : x6 ≤ (x5 + (nI 1)) → Q (some (.int x5)) M) (pf1 : ¬ x6 ≤ (x5 + (nI 1)) → ClD d mdX12_firstOf [.long w2, .int ((x5 + x6) / (nI 2))] M (fun r1 M1 => Wp d mdX12_lowOf 37 [(0, .ref a0), (1, .int x1), (2, .long w2), (4, .int x4), (5, .int x5), (6, .int x6), (7, .int ((x5 + x6) / (nI 2)))] (r1.toList ++ [.int x1, .ref a0, .int x1, .ref a0]) M1 Q)) : Wp d mdX12_lowOf 9 [(0, .ref a0), (1, .int x1), (2, .long w2), (4, .int x4), (5, .int x5), (6, .int x6)] [] M Q := by
  refine r_iload dX12_lowOf_9 5 rfl ?_
  refine r_iload dX12_lowOf_11 4 rfl ?_
  refine r_iconst (v := (nI 1)) dX12_lowOf_13 rfl ?_
  refine r_iadd dX12_lowOf_14 ?_
  refine r_icmp_le (tgt := 80) dX12_lowOf_15 (by decide) (fun c0 => ?_) (fun c0 => ?_)
  · skip
    refine r_iload dX12_lowOf_80 4 rfl ?_
    exact r_ret (some (.int x5)) dX12_lowOf_82 rfl (pq0 c0)
  · skip
    refine r_iload dX12_lowOf_18 4 rfl ?_
    refine r_iload dX12_lowOf_20 5 rfl ?_
    refine r_iadd dX12_lowOf_22 ?_
    refine r_iconst (v := (nI 2)) dX12_lowOf_23 rfl ?_
    refine r_idiv dX12_lowOf_24 (by decide) ?_
    refine r_istore dX12_lowOf_25 (by decide) (ls' := [(7, .int ((x5 + x6) / (nI 2))), (0, .ref a0), (1, .int x1), (2, .long w2), (4, .int x4), (5, .int x5), (6, .int x6)]) rfl ?_
    refine r_aload_n dX12_lowOf_27 rfl 1 rfl ?_
    refine r_iload_n dX12_lowOf_28 rfl 2 rfl ?_
    refine r_aload_n dX12_lowOf_29 rfl 1 rfl ?_
    refine r_iload_n dX12_lowOf_30 rfl 2 rfl ?_
    refine r_lload_n dX12_lowOf_31 rfl 3 rfl ?_
    refine r_iload dX12_lowOf_32 0 rfl ?_
    refine r_sub [1, 2, 3, 4, 5, 6, 0] (ls' := [(0, .ref a0), (1, .int x1), (2, .long w2), (4, .int x4), (5, .int x5), (6, .int x6), (7, .int ((x5 + x6) / (nI 2)))]) rfl ?_
    obtain ⟨e9, hlt, h9⟩ := (pf1 c0)
    exact r_callS (As := [.long w2, .int ((x5 + x6) / (nI 2))]) (rest := [.int x1, .ref a0, .int x1, .ref a0]) moX12_firstOf dX12_lowOf_34 mlX12_71 saX12_firstOf rfl hlt (Nat.le_of_ble_eq_true rfl) h9
theorem gX12_lowOf_37 {d : Nat} {Q : Option Value → Mem → Prop} {M : Mem} {a0 : Nat} {x1 : Int32} {w2 : Int64} {x4 : Int32} {x5 : Int32} {x6 : Int32} {x7 : Int32} {sw0 : Int64} {sx1 : Int32} {sa2 : Nat} {sx3 : Int32} {sa4 : Nat} (k0 : mK M sa2 = 14) (pf0 : ClD d mdX12_endInGuess [.ref sa2, .int sx1, .long sw0] M (fun r1 M1 => Wp d mdX12_lowOf 40 [(0, .ref a0), (1, .int x1), (2, .long w2), (4, .int x4), (5, .int x5), (6, .int x6), (7, .int x7)] (r1.toList ++ [.int sx3, .ref sa4]) M1 Q)) : Wp d mdX12_lowOf 37 [(0, .ref a0), (1, .int x1), (2, .long w2), (4, .int x4), (5, .int x5), (6, .int x6), (7, .int x7)] [.long sw0, .int sx1, .ref sa2, .int sx3, .ref sa4] M Q := by
  obtain ⟨e9, hlt, h9⟩ := pf0
  exact r_callV (As := [.int sx1, .long sw0]) (rest := [.int sx3, .ref sa4]) (ci := 10) moX12_endInGuess dX12_lowOf_37 mlX12_255 imX12_endInGuess seX12_endInGuess k0 rfl hlt (Nat.le_of_ble_eq_true rfl) h9
theorem gX12_lowOf_40 {d : Nat} {Q : Option Value → Mem → Prop} {M : Mem} {a0 : Nat} {x1 : Int32} {w2 : Int64} {x4 : Int32} {x5 : Int32} {x6 : Int32} {x7 : Int32} {sx0 : Int32} {sx1 : Int32} {sa2 : Nat} (k0 : mK M sa2 = 14) (pf0 : ClD d mdX12_accessOf [.ref sa2, .int sx1, .int sx0] M (fun r1 M1 => Wp d mdX12_lowOf 43 [(0, .ref a0), (1, .int x1), (2, .long w2), (4, .int x4), (5, .int x5), (6, .int x6), (7, .int x7)] (r1.toList ++ []) M1 Q)) : Wp d mdX12_lowOf 40 [(0, .ref a0), (1, .int x1), (2, .long w2), (4, .int x4), (5, .int x5), (6, .int x6), (7, .int x7)] [.int sx0, .int sx1, .ref sa2] M Q := by
  obtain ⟨e9, hlt, h9⟩ := pf0
  exact r_callV (As := [.int sx1, .int sx0]) (rest := []) (ci := 10) moX12_accessOf dX12_lowOf_40 mlX12_258 imX12_accessOf seX12_accessOf k0 rfl hlt (Nat.le_of_ble_eq_true rfl) h9
theorem gX12_lowOf_43 {d : Nat} {Q : Option Value → Mem → Prop} {M : Mem} {a0 : Nat} {x1 : Int32} {w2 : Int64} {x4 : Int32} {x5 : Int32} {x6 : Int32} {x7 : Int32} {sw0 : Int64}  (pf0 : ClD d mdX12_behind [.long w2, .int x7] M (fun r1 M1 => Wp d mdX12_lowOf 55 [(0, .ref a0), (1, .int x1), (2, .long w2), (4, .int x4), (5, .int x5), (6, .int x6), (7, .int x7)] (r1.toList ++ [.long sw0, .int x1, .ref a0]) M1 Q)) : Wp d mdX12_lowOf 43 [(0, .ref a0), (1, .int x1), (2, .long w2), (4, .int x4), (5, .int x5), (6, .int x6), (7, .int x7)] [.long sw0] M Q := by
  refine r_lstore dX12_lowOf_43 (by decide) (ls' := [(8, .long sw0), (0, .ref a0), (1, .int x1), (2, .long w2), (4, .int x4), (5, .int x5), (6, .int x6), (7, .int x7)]) rfl ?_
  refine r_aload_n dX12_lowOf_45 rfl 1 rfl ?_
  refine r_iload_n dX12_lowOf_46 rfl 2 rfl ?_
  refine r_lload dX12_lowOf_47 0 rfl ?_
  refine r_lload_n dX12_lowOf_49 rfl 3 rfl ?_
  refine r_iload dX12_lowOf_50 7 rfl ?_
  refine r_sub [1, 2, 3, 4, 5, 6, 7] (ls' := [(0, .ref a0), (1, .int x1), (2, .long w2), (4, .int x4), (5, .int x5), (6, .int x6), (7, .int x7)]) rfl ?_
  obtain ⟨e9, hlt, h9⟩ := pf0
  exact r_callS (As := [.long w2, .int x7]) (rest := [.long sw0, .int x1, .ref a0]) moX12_behind dX12_lowOf_52 mlX12_75 saX12_behind rfl hlt (Nat.le_of_ble_eq_true rfl) h9
theorem gX12_lowOf_55 {d : Nat} {Q : Option Value → Mem → Prop} {M : Mem} {a0 : Nat} {x1 : Int32} {w2 : Int64} {x4 : Int32} {x5 : Int32} {x6 : Int32} {x7 : Int32} {sw0 : Int64} {sw1 : Int64} {sx2 : Int32} {sa3 : Nat}  (pf0 : ClD d mdX12_both [.long sw1, .long sw0] M (fun r1 M1 => Wp d mdX12_lowOf 58 [(0, .ref a0), (1, .int x1), (2, .long w2), (4, .int x4), (5, .int x5), (6, .int x6), (7, .int x7)] (r1.toList ++ [.int sx2, .ref sa3]) M1 Q)) : Wp d mdX12_lowOf 55 [(0, .ref a0), (1, .int x1), (2, .long w2), (4, .int x4), (5, .int x5), (6, .int x6), (7, .int x7)] [.long sw0, .long sw1, .int sx2, .ref sa3] M Q := by
  obtain ⟨e9, hlt, h9⟩ := pf0
  exact r_callS (As := [.long sw1, .long sw0]) (rest := [.int sx2, .ref sa3]) moX12_both dX12_lowOf_55 mlX12_61 saX12_both rfl hlt (Nat.le_of_ble_eq_true rfl) h9
theorem gX12_lowOf_58 {d : Nat} {Q : Option Value → Mem → Prop} {M : Mem} {a0 : Nat} {x1 : Int32} {w2 : Int64} {x4 : Int32} {x5 : Int32} {x6 : Int32} {x7 : Int32} {sw0 : Int64} {sx1 : Int32} {sa2 : Nat} (k0 : mK M sa2 = 14) (pf0 : ClD d mdX12_ask [.ref sa2, .int sx1, .long sw0] M (fun r1 M1 => Wp d mdX12_lowOf 61 [(0, .ref a0), (1, .int x1), (2, .long w2), (4, .int x4), (5, .int x5), (6, .int x6), (7, .int x7)] (r1.toList ++ []) M1 Q)) : Wp d mdX12_lowOf 58 [(0, .ref a0), (1, .int x1), (2, .long w2), (4, .int x4), (5, .int x5), (6, .int x6), (7, .int x7)] [.long sw0, .int sx1, .ref sa2] M Q := by
  obtain ⟨e9, hlt, h9⟩ := pf0
  exact r_callV (As := [.int sx1, .long sw0]) (rest := []) (ci := 10) moX12_ask dX12_lowOf_58 mlX12_195 imX12_ask seX12_ask k0 rfl hlt (Nat.le_of_ble_eq_true rfl) h9
theorem gX12_lowOf_61 {d : Nat} {Q : Option Value → Mem → Prop} {M : Mem} {a0 : Nat} {x1 : Int32} {w2 : Int64} {x4 : Int32} {x5 : Int32} {x6 : Int32} {x7 : Int32} {sx0 : Int32}  (pw0 : ¬ sx0 = x4 → Wp d mdX12_lowOf 9 [(0, .ref a0), (1, .int x1), (2, .long w2), (4, .int x4), (5, .int x5), (6, .int x7)] [] M Q) (pw1 : sx0 = x4 → Wp d mdX12_lowOf 9 [(0, .ref a0), (1, .int x1), (2, .long w2), (4, .int x4), (5, .int x7), (6, .int x6)] [] M Q) : Wp d mdX12_lowOf 61 [(0, .ref a0), (1, .int x1), (2, .long w2), (4, .int x4), (5, .int x5), (6, .int x6), (7, .int x7)] [.int sx0] M Q := by
  refine r_iload dX12_lowOf_61 3 rfl ?_
  refine r_icmp_ne (tgt := 73) dX12_lowOf_63 (by decide) (fun c0 => ?_) (fun c0 => ?_)
  · skip
    refine r_iload dX12_lowOf_73 6 rfl ?_
    refine r_istore dX12_lowOf_75 (by decide) (ls' := [(6, .int x7), (0, .ref a0), (1, .int x1), (2, .long w2), (4, .int x4), (5, .int x5), (7, .int x7)]) rfl ?_
    refine r_goto (tgt := 9) dX12_lowOf_77 (by decide) ?_
    refine r_sub [1, 2, 3, 4, 5, 0] (ls' := [(0, .ref a0), (1, .int x1), (2, .long w2), (4, .int x4), (5, .int x5), (6, .int x7)]) rfl ?_
    exact (pw0 c0)
  · skip
    refine r_iload dX12_lowOf_66 6 rfl ?_
    refine r_istore dX12_lowOf_68 (by decide) (ls' := [(5, .int x7), (0, .ref a0), (1, .int x1), (2, .long w2), (4, .int x4), (6, .int x6), (7, .int x7)]) rfl ?_
    refine r_goto (tgt := 77) dX12_lowOf_70 (by decide) ?_
    refine r_goto (tgt := 9) dX12_lowOf_77 (by decide) ?_
    refine r_sub [1, 2, 3, 4, 0, 5] (ls' := [(0, .ref a0), (1, .int x1), (2, .long w2), (4, .int x4), (5, .int x7), (6, .int x6)]) rfl ?_
    exact (pw1 c0)
-- X12_givesWay
theorem gX12_givesWay_0 {d : Nat} {Q : Option Value → Mem → Prop} {M : Mem} {a0 : Nat} {x1 : Int32} {w2 : Int64} {x4 : Int32} {w5 : Int64}  (pf0 : ClD d mdX12_firstOf [.long w2, .int (x4 + (nI 1))] M (fun r1 M1 => Wp d mdX12_givesWay 10 [(0, .ref a0), (1, .int x1), (2, .long w2), (4, .int x4), (5, .long w5)] (r1.toList ++ [.int x1, .ref a0]) M1 Q)) : Wp d mdX12_givesWay 0 [(0, .ref a0), (1, .int x1), (2, .long w2), (4, .int x4), (5, .long w5)] [] M Q := by
  refine r_aload_n dX12_givesWay_0 rfl 0 rfl ?_
  refine r_iload_n dX12_givesWay_1 rfl 1 rfl ?_
  refine r_lload_n dX12_givesWay_2 rfl 2 rfl ?_
  refine r_iload dX12_givesWay_3 3 rfl ?_
  refine r_iconst (v := (nI 1)) dX12_givesWay_5 rfl ?_
  refine r_iadd dX12_givesWay_6 ?_
  obtain ⟨e9, hlt, h9⟩ := pf0
  exact r_callS (As := [.long w2, .int (x4 + (nI 1))]) (rest := [.int x1, .ref a0]) moX12_firstOf dX12_givesWay_7 mlX12_71 saX12_firstOf rfl hlt (Nat.le_of_ble_eq_true rfl) h9
theorem gX12_givesWay_10 {d : Nat} {Q : Option Value → Mem → Prop} {M : Mem} {a0 : Nat} {x1 : Int32} {w2 : Int64} {x4 : Int32} {w5 : Int64} {sw0 : Int64} {sx1 : Int32} {sa2 : Nat} (k0 : mK M sa2 = 14) (pf0 : ClD d mdX12_endInGuess [.ref sa2, .int sx1, .long sw0] M (fun r1 M1 => Wp d mdX12_givesWay 13 [(0, .ref a0), (1, .int x1), (2, .long w2), (4, .int x4), (5, .long w5)] (r1.toList ++ []) M1 Q)) : Wp d mdX12_givesWay 10 [(0, .ref a0), (1, .int x1), (2, .long w2), (4, .int x4), (5, .long w5)] [.long sw0, .int sx1, .ref sa2] M Q := by
  obtain ⟨e9, hlt, h9⟩ := pf0
  exact r_callV (As := [.int sx1, .long sw0]) (rest := []) (ci := 10) moX12_endInGuess dX12_givesWay_10 mlX12_255 imX12_endInGuess seX12_endInGuess k0 rfl hlt (Nat.le_of_ble_eq_true rfl) h9
theorem gX12_givesWay_13 {d : Nat} {Q : Option Value → Mem → Prop} {M : Mem} {a0 : Nat} {x1 : Int32} {w2 : Int64} {x4 : Int32} {w5 : Int64} {sx0 : Int32}  (pf0 : ClD d mdX12_firstOf [.long w2, .int x4] M (fun r1 M1 => Wp d mdX12_givesWay 25 [(0, .ref a0), (1, .int x1), (2, .long w2), (4, .int x4), (5, .long w5), (7, .int sx0)] (r1.toList ++ [.int x1, .ref a0, .int x1, .ref a0]) M1 Q)) : Wp d mdX12_givesWay 13 [(0, .ref a0), (1, .int x1), (2, .long w2), (4, .int x4), (5, .long w5)] [.int sx0] M Q := by
  refine r_istore dX12_givesWay_13 (by decide) (ls' := [(7, .int sx0), (0, .ref a0), (1, .int x1), (2, .long w2), (4, .int x4), (5, .long w5)]) rfl ?_
  refine r_aload_n dX12_givesWay_15 rfl 1 rfl ?_
  refine r_iload_n dX12_givesWay_16 rfl 2 rfl ?_
  refine r_aload_n dX12_givesWay_17 rfl 1 rfl ?_
  refine r_iload_n dX12_givesWay_18 rfl 2 rfl ?_
  refine r_lload_n dX12_givesWay_19 rfl 3 rfl ?_
  refine r_iload dX12_givesWay_20 4 rfl ?_
  refine r_sub [1, 2, 3, 4, 5, 0] (ls' := [(0, .ref a0), (1, .int x1), (2, .long w2), (4, .int x4), (5, .long w5), (7, .int sx0)]) rfl ?_
  obtain ⟨e9, hlt, h9⟩ := pf0
  exact r_callS (As := [.long w2, .int x4]) (rest := [.int x1, .ref a0, .int x1, .ref a0]) moX12_firstOf dX12_givesWay_22 mlX12_71 saX12_firstOf rfl hlt (Nat.le_of_ble_eq_true rfl) h9
theorem gX12_givesWay_25 {d : Nat} {Q : Option Value → Mem → Prop} {M : Mem} {a0 : Nat} {x1 : Int32} {w2 : Int64} {x4 : Int32} {w5 : Int64} {x7 : Int32} {sw0 : Int64} {sx1 : Int32} {sa2 : Nat} {sx3 : Int32} {sa4 : Nat} (k0 : mK M sa2 = 14) (pf0 : ClD d mdX12_endInGuess [.ref sa2, .int sx1, .long sw0] M (fun r1 M1 => Wp d mdX12_givesWay 28 [(0, .ref a0), (1, .int x1), (2, .long w2), (4, .int x4), (5, .long w5), (7, .int x7)] (r1.toList ++ [.int sx3, .ref sa4]) M1 Q)) : Wp d mdX12_givesWay 25 [(0, .ref a0), (1, .int x1), (2, .long w2), (4, .int x4), (5, .long w5), (7, .int x7)] [.long sw0, .int sx1, .ref sa2, .int sx3, .ref sa4] M Q := by
  obtain ⟨e9, hlt, h9⟩ := pf0
  exact r_callV (As := [.int sx1, .long sw0]) (rest := [.int sx3, .ref sa4]) (ci := 10) moX12_endInGuess dX12_givesWay_25 mlX12_255 imX12_endInGuess seX12_endInGuess k0 rfl hlt (Nat.le_of_ble_eq_true rfl) h9
theorem gX12_givesWay_28 {d : Nat} {Q : Option Value → Mem → Prop} {M : Mem} {a0 : Nat} {x1 : Int32} {w2 : Int64} {x4 : Int32} {w5 : Int64} {x7 : Int32} {sx0 : Int32} {sx1 : Int32} {sa2 : Nat} (k0 : mK M sa2 = 14) (pf0 : ClD d mdX12_accessOf [.ref sa2, .int sx1, .int sx0] M (fun r1 M1 => Wp d mdX12_givesWay 31 [(0, .ref a0), (1, .int x1), (2, .long w2), (4, .int x4), (5, .long w5), (7, .int x7)] (r1.toList ++ []) M1 Q)) : Wp d mdX12_givesWay 28 [(0, .ref a0), (1, .int x1), (2, .long w2), (4, .int x4), (5, .long w5), (7, .int x7)] [.int sx0, .int sx1, .ref sa2] M Q := by
  obtain ⟨e9, hlt, h9⟩ := pf0
  exact r_callV (As := [.int sx1, .int sx0]) (rest := []) (ci := 10) moX12_accessOf dX12_givesWay_28 mlX12_258 imX12_accessOf seX12_accessOf k0 rfl hlt (Nat.le_of_ble_eq_true rfl) h9
theorem gX12_givesWay_31 {d : Nat} {Q : Option Value → Mem → Prop} {M : Mem} {a0 : Nat} {x1 : Int32} {w2 : Int64} {x4 : Int32} {w5 : Int64} {x7 : Int32} {sw0 : Int64}  (pf0 : ClD d mdX12_lengthOf [.long w2] M (fun r1 M1 => Wp d mdX12_givesWay 36 [(0, .ref a0), (1, .int x1), (4, .int x4), (5, .long w5), (7, .int x7)] (r1.toList ++ [.long w2, .long sw0]) M1 Q)) : Wp d mdX12_givesWay 31 [(0, .ref a0), (1, .int x1), (2, .long w2), (4, .int x4), (5, .long w5), (7, .int x7)] [.long sw0] M Q := by
  refine r_lload_n dX12_givesWay_31 rfl 2 rfl ?_
  refine r_lload_n dX12_givesWay_32 rfl 2 rfl ?_
  refine r_sub [0, 1, 3, 4, 5] (ls' := [(0, .ref a0), (1, .int x1), (4, .int x4), (5, .long w5), (7, .int x7)]) rfl ?_
  obtain ⟨e9, hlt, h9⟩ := pf0
  exact r_callS (As := [.long w2]) (rest := [.long w2, .long sw0]) moX12_lengthOf dX12_givesWay_33 mlX12_33 saX12_lengthOf rfl hlt (Nat.le_of_ble_eq_true rfl) h9
theorem gX12_givesWay_36 {d : Nat} {Q : Option Value → Mem → Prop} {M : Mem} {a0 : Nat} {x1 : Int32} {x4 : Int32} {w5 : Int64} {x7 : Int32} {sx0 : Int32} {sw1 : Int64} {sw2 : Int64}  (pf0 : ClD d mdX12_letterOf [.long sw1, .int sx0, .int x4] M (fun r1 M1 => Wp d mdX12_givesWay 41 [(0, .ref a0), (1, .int x1), (5, .long w5), (7, .int x7)] (r1.toList ++ [.long sw2]) M1 Q)) : Wp d mdX12_givesWay 36 [(0, .ref a0), (1, .int x1), (4, .int x4), (5, .long w5), (7, .int x7)] [.int sx0, .long sw1, .long sw2] M Q := by
  refine r_iload dX12_givesWay_36 2 rfl ?_
  refine r_sub [0, 1, 3, 4] (ls' := [(0, .ref a0), (1, .int x1), (5, .long w5), (7, .int x7)]) rfl ?_
  obtain ⟨e9, hlt, h9⟩ := pf0
  exact r_callS (As := [.long sw1, .int sx0, .int x4]) (rest := [.long sw2]) moX12_letterOf dX12_givesWay_38 mlX12_39 saX12_letterOf rfl hlt (Nat.le_of_ble_eq_true rfl) h9
theorem gX12_givesWay_41 {d : Nat} {Q : Option Value → Mem → Prop} {M : Mem} {a0 : Nat} {x1 : Int32} {w5 : Int64} {x7 : Int32} {sx0 : Int32} {sw1 : Int64}  (pf0 : ClD d mdX12_longer [.long sw1, .int sx0] M (fun r1 M1 => Wp d mdX12_givesWay 44 [(0, .ref a0), (1, .int x1), (5, .long w5), (7, .int x7)] (r1.toList ++ []) M1 Q)) : Wp d mdX12_givesWay 41 [(0, .ref a0), (1, .int x1), (5, .long w5), (7, .int x7)] [.int sx0, .long sw1] M Q := by
  obtain ⟨e9, hlt, h9⟩ := pf0
  exact r_callS (As := [.long sw1, .int sx0]) (rest := []) moX12_longer dX12_givesWay_41 mlX12_80 saX12_longer rfl hlt (Nat.le_of_ble_eq_true rfl) h9
theorem gX12_givesWay_44 {d : Nat} {Q : Option Value → Mem → Prop} {M : Mem} {a0 : Nat} {x1 : Int32} {w5 : Int64} {x7 : Int32} {sw0 : Int64} (k0 : mK M a0 = 14) (k1 : mK M (mR M a0 12) = 1) (pb0 : vp_in x1 (mN M (mR M a0 12))) (pw1 : Wp d mdX12_givesWay 60 [(0, .ref a0), (1, .int x1), (5, .long w5), (7, .int x7), (8, .long sw0), (10, .int (mI M (mR M a0 12) x1.toNatClampNeg)), (11, .int (nI 0)), (12, .int (nI 0))] [] M Q) : Wp d mdX12_givesWay 44 [(0, .ref a0), (1, .int x1), (5, .long w5), (7, .int x7)] [.long sw0] M Q := by
  refine r_lstore dX12_givesWay_44 (by decide) (ls' := [(8, .long sw0), (0, .ref a0), (1, .int x1), (5, .long w5), (7, .int x7)]) rfl ?_
  refine r_aload_n dX12_givesWay_46 rfl 1 rfl ?_
  refine r_getR ck10 dX12_givesWay_47 flX12_101 rfl k0 ?_
  refine r_iload_n dX12_givesWay_50 rfl 2 rfl ?_
  refine r_iald dX12_givesWay_51 k1 pb0 ?_
  refine r_istore dX12_givesWay_52 (by decide) (ls' := [(10, .int (mI M (mR M a0 12) x1.toNatClampNeg)), (8, .long sw0), (0, .ref a0), (1, .int x1), (5, .long w5), (7, .int x7)]) rfl ?_
  refine r_iconst (v := (nI 0)) dX12_givesWay_54 rfl ?_
  refine r_istore dX12_givesWay_55 (by decide) (ls' := [(11, .int (nI 0)), (10, .int (mI M (mR M a0 12) x1.toNatClampNeg)), (8, .long sw0), (0, .ref a0), (1, .int x1), (5, .long w5), (7, .int x7)]) rfl ?_
  refine r_iconst (v := (nI 0)) dX12_givesWay_57 rfl ?_
  refine r_istore dX12_givesWay_58 (by decide) (ls' := [(12, .int (nI 0)), (11, .int (nI 0)), (10, .int (mI M (mR M a0 12) x1.toNatClampNeg)), (8, .long sw0), (0, .ref a0), (1, .int x1), (5, .long w5), (7, .int x7)]) rfl ?_
  refine r_sub [4, 5, 6, 7, 3, 2, 1, 0] (ls' := [(0, .ref a0), (1, .int x1), (5, .long w5), (7, .int x7), (8, .long sw0), (10, .int (mI M (mR M a0 12) x1.toNatClampNeg)), (11, .int (nI 0)), (12, .int (nI 0))]) rfl ?_
  exact pw1
theorem gX12_givesWay_60 {d : Nat} {Q : Option Value → Mem → Prop} {M : Mem} {a0 : Nat} {x1 : Int32} {w5 : Int64} {x7 : Int32} {w8 : Int64} {x10 : Int32} {x11 : Int32} {x12 : Int32} (k0 : mK M a0 = 14) (k1 : mK M (mR M a0 12) = 1) (k2 : mK M (mR M a0 22) = 1) (pb0 : vp_in x1 (mN M (mR M a0 12))) (pf1 : ((nI 4) * (mI M (mR M a0 12) x1.toNatClampNeg)) ≤ x12 → ClD d mdX12_tailComes [.ref a0, .int x1, .long w5] M (fun r1 M1 => Wp d mdX12_givesWay 115 [(0, .ref a0), (1, .int x1), (5, .long w5), (7, .int x7), (8, .long w8), (10, .int x10), (11, .int x11)] (r1.toList ++ []) M1 Q)) (pb2 : ¬ ((nI 4) * (mI M (mR M a0 12) x1.toNatClampNeg)) ≤ x12 → vp_in (((nI 512) * x1) + x12) (mN M (mR M a0 22))) (pw3 : ¬ ((nI 4) * (mI M (mR M a0 12) x1.toNatClampNeg)) ≤ x12 → ¬ (mI M (mR M a0 22) (((nI 512) * x1) + x12).toNatClampNeg) = ((nI 1) + x7) → Wp d mdX12_givesWay 60 [(0, .ref a0), (1, .int x1), (5, .long w5), (7, .int x7), (8, .long w8), (10, .int x10), (11, .int x11), (12, .int (x12 + (nI 1)))] [] M Q) (pw4 : ¬ ((nI 4) * (mI M (mR M a0 12) x1.toNatClampNeg)) ≤ x12 → (mI M (mR M a0 22) (((nI 512) * x1) + x12).toNatClampNeg) = ((nI 1) + x7) → Wp d mdX12_givesWay 60 [(0, .ref a0), (1, .int x1), (5, .long w5), (7, .int x7), (8, .long w8), (10, .int x10), (11, .int x12), (12, .int (x12 + (nI 1)))] [] M Q) : Wp d mdX12_givesWay 60 [(0, .ref a0), (1, .int x1), (5, .long w5), (7, .int x7), (8, .long w8), (10, .int x10), (11, .int x11), (12, .int x12)] [] M Q := by
  refine r_iload dX12_givesWay_60 7 rfl ?_
  refine r_iconst (v := (nI 4)) dX12_givesWay_62 rfl ?_
  refine r_aload_n dX12_givesWay_63 rfl 0 rfl ?_
  refine r_getR ck10 dX12_givesWay_64 flX12_101 rfl k0 ?_
  refine r_iload_n dX12_givesWay_67 rfl 1 rfl ?_
  refine r_iald dX12_givesWay_68 k1 pb0 ?_
  refine r_imul dX12_givesWay_69 ?_
  refine r_icmp_ge (tgt := 108) dX12_givesWay_70 (by decide) (fun c0 => ?_) (fun c0 => ?_)
  · skip
    refine r_aload_n dX12_givesWay_108 rfl 0 rfl ?_
    refine r_iload_n dX12_givesWay_109 rfl 1 rfl ?_
    refine r_lload dX12_givesWay_110 2 rfl ?_
    refine r_sub [0, 1, 2, 3, 4, 5, 6] (ls' := [(0, .ref a0), (1, .int x1), (5, .long w5), (7, .int x7), (8, .long w8), (10, .int x10), (11, .int x11)]) rfl ?_
    obtain ⟨e9, hlt, h9⟩ := (pf1 c0)
    exact r_callV (As := [.int x1, .long w5]) (rest := []) (ci := 10) moX12_tailComes dX12_givesWay_112 mlX12_192 imX12_tailComes seX12_tailComes k0 rfl hlt (Nat.le_of_ble_eq_true rfl) h9
  · skip
    refine r_aload_n dX12_givesWay_73 rfl 0 rfl ?_
    refine r_getR ck10 dX12_givesWay_74 flX12_133 rfl k0 ?_
    refine r_sipush (v := (nI 512)) dX12_givesWay_77 rfl ?_
    refine r_iload_n dX12_givesWay_80 rfl 1 rfl ?_
    refine r_imul dX12_givesWay_81 ?_
    refine r_iload dX12_givesWay_82 7 rfl ?_
    refine r_iadd dX12_givesWay_84 ?_
    refine r_iald dX12_givesWay_85 k2 (pb2 c0) ?_
    refine r_iconst (v := (nI 1)) dX12_givesWay_86 rfl ?_
    refine r_iload dX12_givesWay_87 3 rfl ?_
    refine r_iadd dX12_givesWay_89 ?_
    refine r_icmp_ne (tgt := 98) dX12_givesWay_90 (by decide) (fun c1 => ?_) (fun c1 => ?_)
    · skip
      refine r_iload dX12_givesWay_98 6 rfl ?_
      refine r_istore dX12_givesWay_100 (by decide) (ls' := [(11, .int x11), (0, .ref a0), (1, .int x1), (5, .long w5), (7, .int x7), (8, .long w8), (10, .int x10), (12, .int x12)]) rfl ?_
      refine r_iinc dX12_givesWay_102 7 rfl (v := x12 + (nI 1)) rfl (by decide) (ls' := [(12, .int (x12 + (nI 1))), (11, .int x11), (0, .ref a0), (1, .int x1), (5, .long w5), (7, .int x7), (8, .long w8), (10, .int x10)]) rfl ?_
      refine r_goto (tgt := 60) dX12_givesWay_105 (by decide) ?_
      refine r_sub [2, 3, 4, 5, 6, 7, 1, 0] (ls' := [(0, .ref a0), (1, .int x1), (5, .long w5), (7, .int x7), (8, .long w8), (10, .int x10), (11, .int x11), (12, .int (x12 + (nI 1)))]) rfl ?_
      exact (pw3 c0 c1)
    · skip
      refine r_iload dX12_givesWay_93 7 rfl ?_
      refine r_goto (tgt := 100) dX12_givesWay_95 (by decide) ?_
      refine r_istore dX12_givesWay_100 (by decide) (ls' := [(11, .int x12), (0, .ref a0), (1, .int x1), (5, .long w5), (7, .int x7), (8, .long w8), (10, .int x10), (12, .int x12)]) rfl ?_
      refine r_iinc dX12_givesWay_102 7 rfl (v := x12 + (nI 1)) rfl (by decide) (ls' := [(12, .int (x12 + (nI 1))), (11, .int x12), (0, .ref a0), (1, .int x1), (5, .long w5), (7, .int x7), (8, .long w8), (10, .int x10)]) rfl ?_
      refine r_goto (tgt := 60) dX12_givesWay_105 (by decide) ?_
      refine r_sub [2, 3, 4, 5, 6, 7, 1, 0] (ls' := [(0, .ref a0), (1, .int x1), (5, .long w5), (7, .int x7), (8, .long w8), (10, .int x10), (11, .int x12), (12, .int (x12 + (nI 1)))]) rfl ?_
      exact (pw4 c0 c1)
theorem gX12_givesWay_115 {d : Nat} {Q : Option Value → Mem → Prop} {M : Mem} {a0 : Nat} {x1 : Int32} {w5 : Int64} {x7 : Int32} {w8 : Int64} {x10 : Int32} {x11 : Int32} (k0 : mK M a0 = 14) (k1 : mK M (mR M a0 22) = 1) (pb0 : vp_in (((nI 512) * x1) + x11) (mN M (mR M a0 22))) (pf1 : ClD d mdX12_headOf [.ref a0, .int x1, .int x7] (sI M (mR M a0 22) (((nI 512) * x1) + x11).toNatClampNeg ((nI 100) + x10)) (fun r1 M1 => Wp d mdX12_givesWay 142 [(0, .ref a0), (1, .int x1), (5, .long w5), (7, .int x7), (8, .long w8), (10, .int x10)] (r1.toList ++ [.int x1, .ref a0]) M1 Q)) : Wp d mdX12_givesWay 115 [(0, .ref a0), (1, .int x1), (5, .long w5), (7, .int x7), (8, .long w8), (10, .int x10), (11, .int x11)] [] M Q := by
  refine r_aload_n dX12_givesWay_115 rfl 0 rfl ?_
  refine r_getR ck10 dX12_givesWay_116 flX12_133 rfl k0 ?_
  refine r_sipush (v := (nI 512)) dX12_givesWay_119 rfl ?_
  refine r_iload_n dX12_givesWay_122 rfl 1 rfl ?_
  refine r_imul dX12_givesWay_123 ?_
  refine r_iload dX12_givesWay_124 6 rfl ?_
  refine r_iadd dX12_givesWay_126 ?_
  refine r_bipush (v := (nI 100)) dX12_givesWay_127 rfl ?_
  refine r_iload dX12_givesWay_129 5 rfl ?_
  refine r_iadd dX12_givesWay_131 ?_
  refine r_iast dX12_givesWay_132 k1 pb0 ?_
  refine r_aload_n dX12_givesWay_133 rfl 0 rfl ?_
  refine r_iload_n dX12_givesWay_134 rfl 1 rfl ?_
  refine r_aload_n dX12_givesWay_135 rfl 0 rfl ?_
  refine r_iload_n dX12_givesWay_136 rfl 1 rfl ?_
  refine r_iload dX12_givesWay_137 3 rfl ?_
  refine r_sub [0, 1, 2, 3, 4, 5] (ls' := [(0, .ref a0), (1, .int x1), (5, .long w5), (7, .int x7), (8, .long w8), (10, .int x10)]) rfl ?_
  obtain ⟨e9, hlt, h9⟩ := pf1
  exact r_callV (As := [.int x1, .int x7]) (rest := [.int x1, .ref a0]) (ci := 10) moX12_headOf dX12_givesWay_139 mlX12_206 imX12_headOf seX12_headOf k0 rfl hlt (Nat.le_of_ble_eq_true rfl) h9
theorem gX12_givesWay_142 {d : Nat} {Q : Option Value → Mem → Prop} {M : Mem} {a0 : Nat} {x1 : Int32} {w5 : Int64} {x7 : Int32} {w8 : Int64} {x10 : Int32} {sw0 : Int64} {sx1 : Int32} {sa2 : Nat}  (pf0 : ClD d mdX12_both [.long sw0, .long w5] M (fun r1 M1 => Wp d mdX12_givesWay 147 [(0, .ref a0), (1, .int x1), (5, .long w5), (7, .int x7), (8, .long w8), (10, .int x10)] (r1.toList ++ [.int sx1, .ref sa2]) M1 Q)) : Wp d mdX12_givesWay 142 [(0, .ref a0), (1, .int x1), (5, .long w5), (7, .int x7), (8, .long w8), (10, .int x10)] [.long sw0, .int sx1, .ref sa2] M Q := by
  refine r_lload dX12_givesWay_142 2 rfl ?_
  obtain ⟨e9, hlt, h9⟩ := pf0
  exact r_callS (As := [.long sw0, .long w5]) (rest := [.int sx1, .ref sa2]) moX12_both dX12_givesWay_144 mlX12_61 saX12_both rfl hlt (Nat.le_of_ble_eq_true rfl) h9
theorem gX12_givesWay_147 {d : Nat} {Q : Option Value → Mem → Prop} {M : Mem} {a0 : Nat} {x1 : Int32} {w5 : Int64} {x7 : Int32} {w8 : Int64} {x10 : Int32} {sw0 : Int64} {sx1 : Int32} {sa2 : Nat} (k0 : mK M sa2 = 14) (pf0 : ClD d mdX12_ask [.ref sa2, .int sx1, .long sw0] M (fun r1 M1 => Wp d mdX12_givesWay 150 [(0, .ref a0), (1, .int x1), (5, .long w5), (7, .int x7), (8, .long w8), (10, .int x10)] (r1.toList ++ []) M1 Q)) : Wp d mdX12_givesWay 147 [(0, .ref a0), (1, .int x1), (5, .long w5), (7, .int x7), (8, .long w8), (10, .int x10)] [.long sw0, .int sx1, .ref sa2] M Q := by
  obtain ⟨e9, hlt, h9⟩ := pf0
  exact r_callV (As := [.int sx1, .long sw0]) (rest := []) (ci := 10) moX12_ask dX12_givesWay_147 mlX12_195 imX12_ask seX12_ask k0 rfl hlt (Nat.le_of_ble_eq_true rfl) h9
theorem gX12_givesWay_150 {d : Nat} {Q : Option Value → Mem → Prop} {M : Mem} {a0 : Nat} {x1 : Int32} {w5 : Int64} {x7 : Int32} {w8 : Int64} {x10 : Int32} {sx0 : Int32}  (pf0 : ClD d mdX12_both [.long w8, .long w5] M (fun r1 M1 => Wp d mdX12_givesWay 161 [(0, .ref a0), (1, .int x1), (7, .int x7), (8, .long w8), (10, .int x10), (12, .int sx0)] (r1.toList ++ [.int x1, .ref a0]) M1 Q)) : Wp d mdX12_givesWay 150 [(0, .ref a0), (1, .int x1), (5, .long w5), (7, .int x7), (8, .long w8), (10, .int x10)] [.int sx0] M Q := by
  refine r_istore dX12_givesWay_150 (by decide) (ls' := [(12, .int sx0), (0, .ref a0), (1, .int x1), (5, .long w5), (7, .int x7), (8, .long w8), (10, .int x10)]) rfl ?_
  refine r_aload_n dX12_givesWay_152 rfl 1 rfl ?_
  refine r_iload_n dX12_givesWay_153 rfl 2 rfl ?_
  refine r_lload dX12_givesWay_154 5 rfl ?_
  refine r_lload dX12_givesWay_156 3 rfl ?_
  refine r_sub [1, 2, 4, 5, 6, 0] (ls' := [(0, .ref a0), (1, .int x1), (7, .int x7), (8, .long w8), (10, .int x10), (12, .int sx0)]) rfl ?_
  obtain ⟨e9, hlt, h9⟩ := pf0
  exact r_callS (As := [.long w8, .long w5]) (rest := [.int x1, .ref a0]) moX12_both dX12_givesWay_158 mlX12_61 saX12_both rfl hlt (Nat.le_of_ble_eq_true rfl) h9
theorem gX12_givesWay_161 {d : Nat} {Q : Option Value → Mem → Prop} {M : Mem} {a0 : Nat} {x1 : Int32} {x7 : Int32} {w8 : Int64} {x10 : Int32} {x12 : Int32} {sw0 : Int64} {sx1 : Int32} {sa2 : Nat} (k0 : mK M sa2 = 14) (pf0 : ClD d mdX12_ask [.ref sa2, .int sx1, .long sw0] M (fun r1 M1 => Wp d mdX12_givesWay 164 [(0, .ref a0), (1, .int x1), (7, .int x7), (8, .long w8), (10, .int x10), (12, .int x12)] (r1.toList ++ []) M1 Q)) : Wp d mdX12_givesWay 161 [(0, .ref a0), (1, .int x1), (7, .int x7), (8, .long w8), (10, .int x10), (12, .int x12)] [.long sw0, .int sx1, .ref sa2] M Q := by
  obtain ⟨e9, hlt, h9⟩ := pf0
  exact r_callV (As := [.int sx1, .long sw0]) (rest := []) (ci := 10) moX12_ask dX12_givesWay_161 mlX12_195 imX12_ask seX12_ask k0 rfl hlt (Nat.le_of_ble_eq_true rfl) h9
theorem gX12_givesWay_164 {d : Nat} {Q : Option Value → Mem → Prop} {M : Mem} {a0 : Nat} {x1 : Int32} {x7 : Int32} {w8 : Int64} {x10 : Int32} {x12 : Int32} {sx0 : Int32} (k0 : mK M a0 = 14) (k1 : mK M (mR M a0 22) = 1) (k2 : mK M (mR (sI M (mR M a0 22) (((nI 4) * (((nI 128) * x1) + x10)) + x12).toNatClampNeg ((nI 1) + x7)) a0 11) = 1) (k3 : mK M (mR (sI M (mR M a0 22) (((nI 4) * (((nI 128) * x1) + x10)) + x12).toNatClampNeg ((nI 1) + x7)) a0 22) = 1) (pb0 : vp_in (((nI 4) * (((nI 128) * x1) + x10)) + x12) (mN M (mR M a0 22))) (pb1 : vp_in x1 (mN (sI M (mR M a0 22) (((nI 4) * (((nI 128) * x1) + x10)) + x12).toNatClampNeg ((nI 1) + x7)) (mR (sI M (mR M a0 22) (((nI 4) * (((nI 128) * x1) + x10)) + x12).toNatClampNeg ((nI 1) + x7)) a0 11))) (pb2 : vp_in (((nI 4) * (((nI 128) * x1) + x10)) + sx0) (mN (sI M (mR M a0 22) (((nI 4) * (((nI 128) * x1) + x10)) + x12).toNatClampNeg ((nI 1) + x7)) (mR (sI M (mR M a0 22) (((nI 4) * (((nI 128) * x1) + x10)) + x12).toNatClampNeg ((nI 1) + x7)) a0 22))) (pf3 : ClD d mdX12_headComes [.ref a0, .int x1, .long w8] (sI (sI M (mR M a0 22) (((nI 4) * (((nI 128) * x1) + x10)) + x12).toNatClampNeg ((nI 1) + x7)) (mR (sI M (mR M a0 22) (((nI 4) * (((nI 128) * x1) + x10)) + x12).toNatClampNeg ((nI 1) + x7)) a0 22) (((nI 4) * (((nI 128) * x1) + x10)) + sx0).toNatClampNeg ((nI 1) + (mI (sI M (mR M a0 22) (((nI 4) * (((nI 128) * x1) + x10)) + x12).toNatClampNeg ((nI 1) + x7)) (mR (sI M (mR M a0 22) (((nI 4) * (((nI 128) * x1) + x10)) + x12).toNatClampNeg ((nI 1) + x7)) a0 11) x1.toNatClampNeg))) (fun r1 M1 => Wp d mdX12_givesWay 221 [] (r1.toList ++ []) M1 Q)) : Wp d mdX12_givesWay 164 [(0, .ref a0), (1, .int x1), (7, .int x7), (8, .long w8), (10, .int x10), (12, .int x12)] [.int sx0] M Q := by
  refine r_istore dX12_givesWay_164 (by decide) (ls' := [(13, .int sx0), (0, .ref a0), (1, .int x1), (7, .int x7), (8, .long w8), (10, .int x10), (12, .int x12)]) rfl ?_
  refine r_aload_n dX12_givesWay_166 rfl 1 rfl ?_
  refine r_getR ck10 dX12_givesWay_167 flX12_133 rfl k0 ?_
  refine r_iconst (v := (nI 4)) dX12_givesWay_170 rfl ?_
  refine r_sipush (v := (nI 128)) dX12_givesWay_171 rfl ?_
  refine r_iload_n dX12_givesWay_174 rfl 2 rfl ?_
  refine r_imul dX12_givesWay_175 ?_
  refine r_iload dX12_givesWay_176 5 rfl ?_
  refine r_iadd dX12_givesWay_178 ?_
  refine r_imul dX12_givesWay_179 ?_
  refine r_iload dX12_givesWay_180 6 rfl ?_
  refine r_iadd dX12_givesWay_182 ?_
  refine r_iconst (v := (nI 1)) dX12_givesWay_183 rfl ?_
  refine r_iload dX12_givesWay_184 3 rfl ?_
  refine r_iadd dX12_givesWay_186 ?_
  refine r_iast dX12_givesWay_187 k1 pb0 ?_
  refine r_aload_n dX12_givesWay_188 rfl 1 rfl ?_
  refine r_getR ck10 dX12_givesWay_189 flX12_133 rfl k0 ?_
  refine r_iconst (v := (nI 4)) dX12_givesWay_192 rfl ?_
  refine r_sipush (v := (nI 128)) dX12_givesWay_193 rfl ?_
  refine r_iload_n dX12_givesWay_196 rfl 2 rfl ?_
  refine r_imul dX12_givesWay_197 ?_
  refine r_iload dX12_givesWay_198 5 rfl ?_
  refine r_iadd dX12_givesWay_200 ?_
  refine r_imul dX12_givesWay_201 ?_
  refine r_iload dX12_givesWay_202 0 rfl ?_
  refine r_iadd dX12_givesWay_204 ?_
  refine r_iconst (v := (nI 1)) dX12_givesWay_205 rfl ?_
  refine r_aload_n dX12_givesWay_206 rfl 1 rfl ?_
  refine r_getR ck10 dX12_givesWay_207 flX12_98 rfl k0 ?_
  refine r_iload_n dX12_givesWay_210 rfl 2 rfl ?_
  refine r_iald dX12_givesWay_211 k2 pb1 ?_
  refine r_iadd dX12_givesWay_212 ?_
  refine r_iast dX12_givesWay_213 k3 pb2 ?_
  refine r_aload_n dX12_givesWay_214 rfl 1 rfl ?_
  refine r_iload_n dX12_givesWay_215 rfl 2 rfl ?_
  refine r_lload dX12_givesWay_216 4 rfl ?_
  refine r_sub [] (ls' := []) rfl ?_
  obtain ⟨e9, hlt, h9⟩ := pf3
  exact r_callV (As := [.int x1, .long w8]) (rest := []) (ci := 10) moX12_headComes dX12_givesWay_218 mlX12_188 imX12_headComes seX12_headComes k0 rfl hlt (Nat.le_of_ble_eq_true rfl) h9
theorem gX12_givesWay_221 {d : Nat} {Q : Option Value → Mem → Prop} {M : Mem}  (pq0 : Q none M) : Wp d mdX12_givesWay 221 [] [] M Q := by
  exact r_ret none dX12_givesWay_221 rfl pq0
-- X12_lesson
theorem gX12_lesson_0 {d : Nat} {Q : Option Value → Mem → Prop} {M : Mem} {a0 : Nat} {x1 : Int32} {w2 : Int64} (k0 : mK M a0 = 14) (k1 : mK M (mR M a0 11) = 1) (k2 : mK M (mR M a0 12) = 1) (pb0 : vp_in x1 (mN M (mR M a0 11))) (pb1 : vp_in x1 (mN M (mR M a0 12))) (pf2 : ClD d mdX12_ask [.ref a0, .int x1, .long w2] M (fun r1 M1 => Wp d mdX12_lesson 21 [(0, .ref a0), (1, .int x1), (2, .long w2), (4, .int ((mI M (mR M a0 11) x1.toNatClampNeg) + (mI M (mR M a0 12) x1.toNatClampNeg)))] (r1.toList ++ []) M1 Q)) : Wp d mdX12_lesson 0 [(0, .ref a0), (1, .int x1), (2, .long w2)] [] M Q := by
  refine r_aload_n dX12_lesson_0 rfl 0 rfl ?_
  refine r_getR ck10 dX12_lesson_1 flX12_98 rfl k0 ?_
  refine r_iload_n dX12_lesson_4 rfl 1 rfl ?_
  refine r_iald dX12_lesson_5 k1 pb0 ?_
  refine r_aload_n dX12_lesson_6 rfl 0 rfl ?_
  refine r_getR ck10 dX12_lesson_7 flX12_101 rfl k0 ?_
  refine r_iload_n dX12_lesson_10 rfl 1 rfl ?_
  refine r_iald dX12_lesson_11 k2 pb1 ?_
  refine r_iadd dX12_lesson_12 ?_
  refine r_istore dX12_lesson_13 (by decide) (ls' := [(4, .int ((mI M (mR M a0 11) x1.toNatClampNeg) + (mI M (mR M a0 12) x1.toNatClampNeg))), (0, .ref a0), (1, .int x1), (2, .long w2)]) rfl ?_
  refine r_aload_n dX12_lesson_15 rfl 1 rfl ?_
  refine r_iload_n dX12_lesson_16 rfl 2 rfl ?_
  refine r_lload_n dX12_lesson_17 rfl 3 rfl ?_
  refine r_sub [1, 2, 3, 0] (ls' := [(0, .ref a0), (1, .int x1), (2, .long w2), (4, .int ((mI M (mR M a0 11) x1.toNatClampNeg) + (mI M (mR M a0 12) x1.toNatClampNeg)))]) rfl ?_
  obtain ⟨e9, hlt, h9⟩ := pf2
  exact r_callV (As := [.int x1, .long w2]) (rest := []) (ci := 10) moX12_ask dX12_lesson_18 mlX12_195 imX12_ask seX12_ask k0 rfl hlt (Nat.le_of_ble_eq_true rfl) h9
theorem gX12_lesson_21 {d : Nat} {Q : Option Value → Mem → Prop} {M : Mem} {a0 : Nat} {x1 : Int32} {w2 : Int64} {x4 : Int32} {sx0 : Int32}  (pf0 : ClD d mdX12_lengthOf [.long w2] M (fun r1 M1 => Wp d mdX12_lesson 27 [(0, .ref a0), (1, .int x1), (2, .long w2), (4, .int x4), (5, .int sx0)] (r1.toList ++ []) M1 Q)) : Wp d mdX12_lesson 21 [(0, .ref a0), (1, .int x1), (2, .long w2), (4, .int x4)] [.int sx0] M Q := by
  refine r_istore dX12_lesson_21 (by decide) (ls' := [(5, .int sx0), (0, .ref a0), (1, .int x1), (2, .long w2), (4, .int x4)]) rfl ?_
  refine r_lload_n dX12_lesson_23 rfl 3 rfl ?_
  refine r_sub [1, 2, 3, 4, 0] (ls' := [(0, .ref a0), (1, .int x1), (2, .long w2), (4, .int x4), (5, .int sx0)]) rfl ?_
  obtain ⟨e9, hlt, h9⟩ := pf0
  exact r_callS (As := [.long w2]) (rest := []) moX12_lengthOf dX12_lesson_24 mlX12_33 saX12_lengthOf rfl hlt (Nat.le_of_ble_eq_true rfl) h9
theorem gX12_lesson_27 {d : Nat} {Q : Option Value → Mem → Prop} {M : Mem} {a0 : Nat} {x1 : Int32} {w2 : Int64} {x4 : Int32} {x5 : Int32} {sx0 : Int32} (k0 : mK M a0 = 14) (k1 : mK M (mR M a0 19) = 1) (k2 : mK M (mR (sI M (mR M a0 19) x1.toNatClampNeg ((mI M (mR M a0 19) x1.toNatClampNeg) + (nI 1))) a0 10) = 1) (pb0 : vp_in x1 (mN M (mR M a0 19))) (pb1 : vp_in x1 (mN (sI M (mR M a0 19) x1.toNatClampNeg ((mI M (mR M a0 19) x1.toNatClampNeg) + (nI 1))) (mR (sI M (mR M a0 19) x1.toNatClampNeg ((mI M (mR M a0 19) x1.toNatClampNeg) + (nI 1))) a0 10))) (pb2 : ¬ (mI (sI M (mR M a0 19) x1.toNatClampNeg ((mI M (mR M a0 19) x1.toNatClampNeg) + (nI 1))) (mR (sI M (mR M a0 19) x1.toNatClampNeg ((mI M (mR M a0 19) x1.toNatClampNeg) + (nI 1))) a0 10) x1.toNatClampNeg) = 0 → vp_in x1 (mN (sI M (mR M a0 19) x1.toNatClampNeg ((mI M (mR M a0 19) x1.toNatClampNeg) + (nI 1))) (mR (sI M (mR M a0 19) x1.toNatClampNeg ((mI M (mR M a0 19) x1.toNatClampNeg) + (nI 1))) a0 10))) (pf3 : ¬ (mI (sI M (mR M a0 19) x1.toNatClampNeg ((mI M (mR M a0 19) x1.toNatClampNeg) + (nI 1))) (mR (sI M (mR M a0 19) x1.toNatClampNeg ((mI M (mR M a0 19) x1.toNatClampNeg) + (nI 1))) a0 10) x1.toNatClampNeg) = 0 → ¬ (mI (sI M (mR M a0 19) x1.toNatClampNeg ((mI M (mR M a0 19) x1.toNatClampNeg) + (nI 1))) (mR (sI M (mR M a0 19) x1.toNatClampNeg ((mI M (mR M a0 19) x1.toNatClampNeg) + (nI 1))) a0 10) x1.toNatClampNeg) = (nI 1) → ClD d mdX12_lowOf [.ref a0, .int x1, .long w2, .int x5] (sI M (mR M a0 19) x1.toNatClampNeg ((mI M (mR M a0 19) x1.toNatClampNeg) + (nI 1))) (fun r1 M1 => Wp d mdX12_lesson 153 [(0, .ref a0), (1, .int x1), (2, .long w2), (4, .int x4)] (r1.toList ++ []) M1 Q)) (pw4 : ¬ (mI (sI M (mR M a0 19) x1.toNatClampNeg ((mI M (mR M a0 19) x1.toNatClampNeg) + (nI 1))) (mR (sI M (mR M a0 19) x1.toNatClampNeg ((mI M (mR M a0 19) x1.toNatClampNeg) + (nI 1))) a0 10) x1.toNatClampNeg) = 0 → (mI (sI M (mR M a0 19) x1.toNatClampNeg ((mI M (mR M a0 19) x1.toNatClampNeg) + (nI 1))) (mR (sI M (mR M a0 19) x1.toNatClampNeg ((mI M (mR M a0 19) x1.toNatClampNeg) + (nI 1))) a0 10) x1.toNatClampNeg) = (nI 1) → Wp d mdX12_lesson 106 [(0, .ref a0), (1, .int x1), (2, .long w2), (4, .int x4), (7, .int sx0)] [] (sI M (mR M a0 19) x1.toNatClampNeg ((mI M (mR M a0 19) x1.toNatClampNeg) + (nI 1))) Q) (pw5 : (mI (sI M (mR M a0 19) x1.toNatClampNeg ((mI M (mR M a0 19) x1.toNatClampNeg) + (nI 1))) (mR (sI M (mR M a0 19) x1.toNatClampNeg ((mI M (mR M a0 19) x1.toNatClampNeg) + (nI 1))) a0 10) x1.toNatClampNeg) = 0 → Wp d mdX12_lesson 51 [(0, .ref a0), (1, .int x1), (2, .long w2), (4, .int x4), (6, .int sx0), (7, .int (nI 0))] [] (sI M (mR M a0 19) x1.toNatClampNeg ((mI M (mR M a0 19) x1.toNatClampNeg) + (nI 1))) Q) : Wp d mdX12_lesson 27 [(0, .ref a0), (1, .int x1), (2, .long w2), (4, .int x4), (5, .int x5)] [.int sx0] M Q := by
  refine r_istore dX12_lesson_27 (by decide) (ls' := [(6, .int sx0), (0, .ref a0), (1, .int x1), (2, .long w2), (4, .int x4), (5, .int x5)]) rfl ?_
  refine r_aload_n dX12_lesson_29 rfl 1 rfl ?_
  refine r_getR ck10 dX12_lesson_30 flX12_123 rfl k0 ?_
  refine r_iload_n dX12_lesson_33 rfl 2 rfl ?_
  refine r_dup2 dX12_lesson_34 rfl rfl ?_
  refine r_iald dX12_lesson_35 k1 pb0 ?_
  refine r_iconst (v := (nI 1)) dX12_lesson_36 rfl ?_
  refine r_iadd dX12_lesson_37 ?_
  refine r_iast dX12_lesson_38 k1 pb0 ?_
  refine r_aload_n dX12_lesson_39 rfl 1 rfl ?_
  refine r_getR ck10 dX12_lesson_40 flX12_95 rfl k0 ?_
  refine r_iload_n dX12_lesson_43 rfl 2 rfl ?_
  refine r_iald dX12_lesson_44 k2 pb1 ?_
  refine r_if_ne (tgt := 92) dX12_lesson_45 (by decide) (fun c0 => ?_) (fun c0 => ?_)
  · skip
    refine r_aload_n dX12_lesson_92 rfl 1 rfl ?_
    refine r_getR ck10 dX12_lesson_93 flX12_95 rfl k0 ?_
    refine r_iload_n dX12_lesson_96 rfl 2 rfl ?_
    refine r_iald dX12_lesson_97 k2 (pb2 c0) ?_
    refine r_iconst (v := (nI 1)) dX12_lesson_98 rfl ?_
    refine r_icmp_ne (tgt := 145) dX12_lesson_99 (by decide) (fun c1 => ?_) (fun c1 => ?_)
    · skip
      refine r_aload_n dX12_lesson_145 rfl 1 rfl ?_
      refine r_iload_n dX12_lesson_146 rfl 2 rfl ?_
      refine r_lload_n dX12_lesson_147 rfl 3 rfl ?_
      refine r_iload dX12_lesson_148 5 rfl ?_
      refine r_sub [1, 2, 3, 4] (ls' := [(0, .ref a0), (1, .int x1), (2, .long w2), (4, .int x4)]) rfl ?_
      obtain ⟨e9, hlt, h9⟩ := (pf3 c0 c1)
      exact r_callV (As := [.int x1, .long w2, .int x5]) (rest := []) (ci := 10) moX12_lowOf dX12_lesson_150 mlX12_268 imX12_lowOf seX12_lowOf k0 rfl hlt (Nat.le_of_ble_eq_true rfl) h9
    · skip
      refine r_iload dX12_lesson_102 0 rfl ?_
      refine r_istore dX12_lesson_104 (by decide) (ls' := [(7, .int sx0), (6, .int sx0), (0, .ref a0), (1, .int x1), (2, .long w2), (4, .int x4), (5, .int x5)]) rfl ?_
      refine r_sub [2, 3, 4, 5, 0] (ls' := [(0, .ref a0), (1, .int x1), (2, .long w2), (4, .int x4), (7, .int sx0)]) rfl ?_
      exact (pw4 c0 c1)
  · skip
    refine r_iconst (v := (nI 0)) dX12_lesson_48 rfl ?_
    refine r_istore dX12_lesson_49 (by decide) (ls' := [(7, .int (nI 0)), (6, .int sx0), (0, .ref a0), (1, .int x1), (2, .long w2), (4, .int x4), (5, .int x5)]) rfl ?_
    refine r_sub [2, 3, 4, 5, 1, 0] (ls' := [(0, .ref a0), (1, .int x1), (2, .long w2), (4, .int x4), (6, .int sx0), (7, .int (nI 0))]) rfl ?_
    exact (pw5 c0)
theorem gX12_lesson_51 {d : Nat} {Q : Option Value → Mem → Prop} {M : Mem} {a0 : Nat} {x1 : Int32} {w2 : Int64} {x4 : Int32} {x6 : Int32} {x7 : Int32}  (pw0 : x6 < x7 → Wp d mdX12_lesson 195 [(0, .ref a0), (1, .int x1), (4, .int x4)] [] M Q) (pf1 : ¬ x6 < x7 → ClD d mdX12_firstOf [.long w2, .int x7] M (fun r1 M1 => Wp d mdX12_lesson 66 [(0, .ref a0), (1, .int x1), (2, .long w2), (4, .int x4), (6, .int x6), (7, .int x7)] (r1.toList ++ [.int x1, .ref a0]) M1 Q)) : Wp d mdX12_lesson 51 [(0, .ref a0), (1, .int x1), (2, .long w2), (4, .int x4), (6, .int x6), (7, .int x7)] [] M Q := by
  refine r_iload dX12_lesson_51 5 rfl ?_
  refine r_iload dX12_lesson_53 4 rfl ?_
  refine r_icmp_gt (tgt := 89) dX12_lesson_55 (by decide) (fun c0 => ?_) (fun c0 => ?_)
  · skip
    refine r_goto (tgt := 195) dX12_lesson_89 (by decide) ?_
    refine r_sub [0, 1, 3] (ls' := [(0, .ref a0), (1, .int x1), (4, .int x4)]) rfl ?_
    exact (pw0 c0)
  · skip
    refine r_aload_n dX12_lesson_58 rfl 0 rfl ?_
    refine r_iload_n dX12_lesson_59 rfl 1 rfl ?_
    refine r_lload_n dX12_lesson_60 rfl 2 rfl ?_
    refine r_iload dX12_lesson_61 5 rfl ?_
    obtain ⟨e9, hlt, h9⟩ := (pf1 c0)
    exact r_callS (As := [.long w2, .int x7]) (rest := [.int x1, .ref a0]) moX12_firstOf dX12_lesson_63 mlX12_71 saX12_firstOf rfl hlt (Nat.le_of_ble_eq_true rfl) h9
theorem gX12_lesson_66 {d : Nat} {Q : Option Value → Mem → Prop} {M : Mem} {a0 : Nat} {x1 : Int32} {w2 : Int64} {x4 : Int32} {x6 : Int32} {x7 : Int32} {sw0 : Int64} {sx1 : Int32} {sa2 : Nat} (k0 : mK M sa2 = 14) (pf0 : ClD d mdX12_isHead [.ref sa2, .int sx1, .long sw0] M (fun r1 M1 => Wp d mdX12_lesson 69 [(0, .ref a0), (1, .int x1), (2, .long w2), (4, .int x4), (6, .int x6), (7, .int x7)] (r1.toList ++ []) M1 Q)) : Wp d mdX12_lesson 66 [(0, .ref a0), (1, .int x1), (2, .long w2), (4, .int x4), (6, .int x6), (7, .int x7)] [.long sw0, .int sx1, .ref sa2] M Q := by
  obtain ⟨e9, hlt, h9⟩ := pf0
  exact r_callV (As := [.int sx1, .long sw0]) (rest := []) (ci := 10) moX12_isHead dX12_lesson_66 mlX12_261 imX12_isHead seX12_isHead k0 rfl hlt (Nat.le_of_ble_eq_true rfl) h9
theorem gX12_lesson_69 {d : Nat} {Q : Option Value → Mem → Prop} {M : Mem} {a0 : Nat} {x1 : Int32} {w2 : Int64} {x4 : Int32} {x6 : Int32} {x7 : Int32} {sx0 : Int32}  (pw0 : ¬ sx0 = 0 → Wp d mdX12_lesson 83 [(0, .ref a0), (1, .int x1), (2, .long w2), (4, .int x4), (6, .int x6), (7, .int x7)] [] M Q) (pf1 : sx0 = 0 → ClD d mdX12_firstOf [.long w2, .int x7] M (fun r1 M1 => Wp d mdX12_lesson 80 [(0, .ref a0), (1, .int x1), (2, .long w2), (4, .int x4), (6, .int x6), (7, .int x7)] (r1.toList ++ [.int x1, .ref a0]) M1 Q)) : Wp d mdX12_lesson 69 [(0, .ref a0), (1, .int x1), (2, .long w2), (4, .int x4), (6, .int x6), (7, .int x7)] [.int sx0] M Q := by
  refine r_if_ne (tgt := 83) dX12_lesson_69 (by decide) (fun c0 => ?_) (fun c0 => ?_)
  · skip
    exact (pw0 c0)
  · skip
    refine r_aload_n dX12_lesson_72 rfl 0 rfl ?_
    refine r_iload_n dX12_lesson_73 rfl 1 rfl ?_
    refine r_lload_n dX12_lesson_74 rfl 2 rfl ?_
    refine r_iload dX12_lesson_75 5 rfl ?_
    obtain ⟨e9, hlt, h9⟩ := (pf1 c0)
    exact r_callS (As := [.long w2, .int x7]) (rest := [.int x1, .ref a0]) moX12_firstOf dX12_lesson_77 mlX12_71 saX12_firstOf rfl hlt (Nat.le_of_ble_eq_true rfl) h9
theorem gX12_lesson_80 {d : Nat} {Q : Option Value → Mem → Prop} {M : Mem} {a0 : Nat} {x1 : Int32} {w2 : Int64} {x4 : Int32} {x6 : Int32} {x7 : Int32} {sw0 : Int64} {sx1 : Int32} {sa2 : Nat} (k0 : mK M sa2 = 14) (pf0 : ClD d mdX12_headComes [.ref sa2, .int sx1, .long sw0] M (fun r1 M1 => Wp d mdX12_lesson 83 [(0, .ref a0), (1, .int x1), (2, .long w2), (4, .int x4), (6, .int x6), (7, .int x7)] (r1.toList ++ []) M1 Q)) : Wp d mdX12_lesson 80 [(0, .ref a0), (1, .int x1), (2, .long w2), (4, .int x4), (6, .int x6), (7, .int x7)] [.long sw0, .int sx1, .ref sa2] M Q := by
  obtain ⟨e9, hlt, h9⟩ := pf0
  exact r_callV (As := [.int sx1, .long sw0]) (rest := []) (ci := 10) moX12_headComes dX12_lesson_80 mlX12_188 imX12_headComes seX12_headComes k0 rfl hlt (Nat.le_of_ble_eq_true rfl) h9
theorem gX12_lesson_83 {d : Nat} {Q : Option Value → Mem → Prop} {M : Mem} {a0 : Nat} {x1 : Int32} {w2 : Int64} {x4 : Int32} {x6 : Int32} {x7 : Int32}  (pw0 : Wp d mdX12_lesson 51 [(0, .ref a0), (1, .int x1), (2, .long w2), (4, .int x4), (6, .int x6), (7, .int (x7 + (nI 1)))] [] M Q) : Wp d mdX12_lesson 83 [(0, .ref a0), (1, .int x1), (2, .long w2), (4, .int x4), (6, .int x6), (7, .int x7)] [] M Q := by
  refine r_iinc dX12_lesson_83 5 rfl (v := x7 + (nI 1)) rfl (by decide) (ls' := [(7, .int (x7 + (nI 1))), (0, .ref a0), (1, .int x1), (2, .long w2), (4, .int x4), (6, .int x6)]) rfl ?_
  refine r_goto (tgt := 51) dX12_lesson_86 (by decide) ?_
  refine r_sub [1, 2, 3, 4, 5, 0] (ls' := [(0, .ref a0), (1, .int x1), (2, .long w2), (4, .int x4), (6, .int x6), (7, .int (x7 + (nI 1)))]) rfl ?_
  exact pw0
theorem gX12_lesson_106 {d : Nat} {Q : Option Value → Mem → Prop} {M : Mem} {a0 : Nat} {x1 : Int32} {w2 : Int64} {x4 : Int32} {x7 : Int32}  (pw0 : x7 < 0 → Wp d mdX12_lesson 195 [(0, .ref a0), (1, .int x1), (4, .int x4)] [] M Q) (pf1 : ¬ x7 < 0 → ClD d mdX12_behind [.long w2, .int x7] M (fun r1 M1 => Wp d mdX12_lesson 119 [(0, .ref a0), (1, .int x1), (2, .long w2), (4, .int x4), (7, .int x7)] (r1.toList ++ [.int x1, .ref a0]) M1 Q)) : Wp d mdX12_lesson 106 [(0, .ref a0), (1, .int x1), (2, .long w2), (4, .int x4), (7, .int x7)] [] M Q := by
  refine r_iload dX12_lesson_106 4 rfl ?_
  refine r_if_lt (tgt := 142) dX12_lesson_108 (by decide) (fun c0 => ?_) (fun c0 => ?_)
  · skip
    refine r_goto (tgt := 195) dX12_lesson_142 (by decide) ?_
    refine r_sub [0, 1, 3] (ls' := [(0, .ref a0), (1, .int x1), (4, .int x4)]) rfl ?_
    exact (pw0 c0)
  · skip
    refine r_aload_n dX12_lesson_111 rfl 0 rfl ?_
    refine r_iload_n dX12_lesson_112 rfl 1 rfl ?_
    refine r_lload_n dX12_lesson_113 rfl 2 rfl ?_
    refine r_iload dX12_lesson_114 4 rfl ?_
    obtain ⟨e9, hlt, h9⟩ := (pf1 c0)
    exact r_callS (As := [.long w2, .int x7]) (rest := [.int x1, .ref a0]) moX12_behind dX12_lesson_116 mlX12_75 saX12_behind rfl hlt (Nat.le_of_ble_eq_true rfl) h9
theorem gX12_lesson_119 {d : Nat} {Q : Option Value → Mem → Prop} {M : Mem} {a0 : Nat} {x1 : Int32} {w2 : Int64} {x4 : Int32} {x7 : Int32} {sw0 : Int64} {sx1 : Int32} {sa2 : Nat} (k0 : mK M sa2 = 14) (pf0 : ClD d mdX12_isTail [.ref sa2, .int sx1, .long sw0] M (fun r1 M1 => Wp d mdX12_lesson 122 [(0, .ref a0), (1, .int x1), (2, .long w2), (4, .int x4), (7, .int x7)] (r1.toList ++ []) M1 Q)) : Wp d mdX12_lesson 119 [(0, .ref a0), (1, .int x1), (2, .long w2), (4, .int x4), (7, .int x7)] [.long sw0, .int sx1, .ref sa2] M Q := by
  obtain ⟨e9, hlt, h9⟩ := pf0
  exact r_callV (As := [.int sx1, .long sw0]) (rest := []) (ci := 10) moX12_isTail dX12_lesson_119 mlX12_265 imX12_isTail seX12_isTail k0 rfl hlt (Nat.le_of_ble_eq_true rfl) h9
theorem gX12_lesson_122 {d : Nat} {Q : Option Value → Mem → Prop} {M : Mem} {a0 : Nat} {x1 : Int32} {w2 : Int64} {x4 : Int32} {x7 : Int32} {sx0 : Int32}  (pw0 : ¬ sx0 = 0 → Wp d mdX12_lesson 136 [(0, .ref a0), (1, .int x1), (2, .long w2), (4, .int x4), (7, .int x7)] [] M Q) (pf1 : sx0 = 0 → ClD d mdX12_behind [.long w2, .int x7] M (fun r1 M1 => Wp d mdX12_lesson 133 [(0, .ref a0), (1, .int x1), (2, .long w2), (4, .int x4), (7, .int x7)] (r1.toList ++ [.int x1, .ref a0]) M1 Q)) : Wp d mdX12_lesson 122 [(0, .ref a0), (1, .int x1), (2, .long w2), (4, .int x4), (7, .int x7)] [.int sx0] M Q := by
  refine r_if_ne (tgt := 136) dX12_lesson_122 (by decide) (fun c0 => ?_) (fun c0 => ?_)
  · skip
    exact (pw0 c0)
  · skip
    refine r_aload_n dX12_lesson_125 rfl 0 rfl ?_
    refine r_iload_n dX12_lesson_126 rfl 1 rfl ?_
    refine r_lload_n dX12_lesson_127 rfl 2 rfl ?_
    refine r_iload dX12_lesson_128 4 rfl ?_
    obtain ⟨e9, hlt, h9⟩ := (pf1 c0)
    exact r_callS (As := [.long w2, .int x7]) (rest := [.int x1, .ref a0]) moX12_behind dX12_lesson_130 mlX12_75 saX12_behind rfl hlt (Nat.le_of_ble_eq_true rfl) h9
theorem gX12_lesson_133 {d : Nat} {Q : Option Value → Mem → Prop} {M : Mem} {a0 : Nat} {x1 : Int32} {w2 : Int64} {x4 : Int32} {x7 : Int32} {sw0 : Int64} {sx1 : Int32} {sa2 : Nat} (k0 : mK M sa2 = 14) (pf0 : ClD d mdX12_tailComes [.ref sa2, .int sx1, .long sw0] M (fun r1 M1 => Wp d mdX12_lesson 136 [(0, .ref a0), (1, .int x1), (2, .long w2), (4, .int x4), (7, .int x7)] (r1.toList ++ []) M1 Q)) : Wp d mdX12_lesson 133 [(0, .ref a0), (1, .int x1), (2, .long w2), (4, .int x4), (7, .int x7)] [.long sw0, .int sx1, .ref sa2] M Q := by
  obtain ⟨e9, hlt, h9⟩ := pf0
  exact r_callV (As := [.int sx1, .long sw0]) (rest := []) (ci := 10) moX12_tailComes dX12_lesson_133 mlX12_192 imX12_tailComes seX12_tailComes k0 rfl hlt (Nat.le_of_ble_eq_true rfl) h9
theorem gX12_lesson_136 {d : Nat} {Q : Option Value → Mem → Prop} {M : Mem} {a0 : Nat} {x1 : Int32} {w2 : Int64} {x4 : Int32} {x7 : Int32}  (pw0 : Wp d mdX12_lesson 106 [(0, .ref a0), (1, .int x1), (2, .long w2), (4, .int x4), (7, .int (x7 + (-1 : Int32)))] [] M Q) : Wp d mdX12_lesson 136 [(0, .ref a0), (1, .int x1), (2, .long w2), (4, .int x4), (7, .int x7)] [] M Q := by
  refine r_iinc dX12_lesson_136 4 rfl (v := x7 + (-1 : Int32)) rfl (by decide) (ls' := [(7, .int (x7 + (-1 : Int32))), (0, .ref a0), (1, .int x1), (2, .long w2), (4, .int x4)]) rfl ?_
  refine r_goto (tgt := 106) dX12_lesson_139 (by decide) ?_
  refine r_sub [1, 2, 3, 4, 0] (ls' := [(0, .ref a0), (1, .int x1), (2, .long w2), (4, .int x4), (7, .int (x7 + (-1 : Int32)))]) rfl ?_
  exact pw0
theorem gX12_lesson_153 {d : Nat} {Q : Option Value → Mem → Prop} {M : Mem} {a0 : Nat} {x1 : Int32} {w2 : Int64} {x4 : Int32} {sx0 : Int32}  (pf0 : ClD d mdX12_behind [.long w2, .int (sx0 + (nI 1))] M (fun r1 M1 => Wp d mdX12_lesson 163 [(0, .ref a0), (1, .int x1), (2, .long w2), (4, .int x4), (7, .int sx0)] (r1.toList ++ []) M1 Q)) : Wp d mdX12_lesson 153 [(0, .ref a0), (1, .int x1), (2, .long w2), (4, .int x4)] [.int sx0] M Q := by
  refine r_istore dX12_lesson_153 (by decide) (ls' := [(7, .int sx0), (0, .ref a0), (1, .int x1), (2, .long w2), (4, .int x4)]) rfl ?_
  refine r_lload_n dX12_lesson_155 rfl 3 rfl ?_
  refine r_iload dX12_lesson_156 0 rfl ?_
  refine r_iconst (v := (nI 1)) dX12_lesson_158 rfl ?_
  refine r_iadd dX12_lesson_159 ?_
  refine r_sub [1, 2, 3, 4, 0] (ls' := [(0, .ref a0), (1, .int x1), (2, .long w2), (4, .int x4), (7, .int sx0)]) rfl ?_
  obtain ⟨e9, hlt, h9⟩ := pf0
  exact r_callS (As := [.long w2, .int (sx0 + (nI 1))]) (rest := []) moX12_behind dX12_lesson_160 mlX12_75 saX12_behind rfl hlt (Nat.le_of_ble_eq_true rfl) h9
theorem gX12_lesson_163 {d : Nat} {Q : Option Value → Mem → Prop} {M : Mem} {a0 : Nat} {x1 : Int32} {w2 : Int64} {x4 : Int32} {x7 : Int32} {sw0 : Int64} (k0 : mK M a0 = 14) (k1 : mK M (mR M a0 10) = 1) (pb0 : vp_in x1 (mN M (mR M a0 10))) (pf1 : ¬ (mI M (mR M a0 10) x1.toNatClampNeg) = (nI 2) → ClD d mdX12_givesWay [.ref a0, .int x1, .long w2, .int x7, .long sw0] M (fun r1 M1 => Wp d mdX12_lesson 195 [(0, .ref a0), (1, .int x1), (4, .int x4)] (r1.toList ++ []) M1 Q)) (pf2 : (mI M (mR M a0 10) x1.toNatClampNeg) = (nI 2) → ClD d mdX12_tailComes [.ref a0, .int x1, .long sw0] M (fun r1 M1 => Wp d mdX12_lesson 182 [(0, .ref a0), (1, .int x1), (4, .int x4)] (r1.toList ++ []) M1 Q)) : Wp d mdX12_lesson 163 [(0, .ref a0), (1, .int x1), (2, .long w2), (4, .int x4), (7, .int x7)] [.long sw0] M Q := by
  refine r_lstore dX12_lesson_163 (by decide) (ls' := [(8, .long sw0), (0, .ref a0), (1, .int x1), (2, .long w2), (4, .int x4), (7, .int x7)]) rfl ?_
  refine r_aload_n dX12_lesson_165 rfl 1 rfl ?_
  refine r_getR ck10 dX12_lesson_166 flX12_95 rfl k0 ?_
  refine r_iload_n dX12_lesson_169 rfl 2 rfl ?_
  refine r_iald dX12_lesson_170 k1 pb0 ?_
  refine r_iconst (v := (nI 2)) dX12_lesson_171 rfl ?_
  refine r_icmp_ne (tgt := 185) dX12_lesson_172 (by decide) (fun c0 => ?_) (fun c0 => ?_)
  · skip
    refine r_aload_n dX12_lesson_185 rfl 1 rfl ?_
    refine r_iload_n dX12_lesson_186 rfl 2 rfl ?_
    refine r_lload_n dX12_lesson_187 rfl 3 rfl ?_
    refine r_iload dX12_lesson_188 5 rfl ?_
    refine r_lload dX12_lesson_190 0 rfl ?_
    refine r_sub [1, 2, 4] (ls' := [(0, .ref a0), (1, .int x1), (4, .int x4)]) rfl ?_
    obtain ⟨e9, hlt, h9⟩ := (pf1 c0)
    exact r_callV (As := [.int x1, .long w2, .int x7, .long sw0]) (rest := []) (ci := 10) moX12_givesWay dX12_lesson_192 mlX12_272 imX12_givesWay seX12_givesWay k0 rfl hlt (Nat.le_of_ble_eq_true rfl) h9
  · skip
    refine r_aload_n dX12_lesson_175 rfl 1 rfl ?_
    refine r_iload_n dX12_lesson_176 rfl 2 rfl ?_
    refine r_lload dX12_lesson_177 0 rfl ?_
    refine r_sub [1, 2, 4] (ls' := [(0, .ref a0), (1, .int x1), (4, .int x4)]) rfl ?_
    obtain ⟨e9, hlt, h9⟩ := (pf2 c0)
    exact r_callV (As := [.int x1, .long sw0]) (rest := []) (ci := 10) moX12_tailComes dX12_lesson_179 mlX12_192 imX12_tailComes seX12_tailComes k0 rfl hlt (Nat.le_of_ble_eq_true rfl) h9
theorem gX12_lesson_182 {d : Nat} {Q : Option Value → Mem → Prop} {M : Mem} {a0 : Nat} {x1 : Int32} {x4 : Int32}  (pw0 : Wp d mdX12_lesson 195 [(0, .ref a0), (1, .int x1), (4, .int x4)] [] M Q) : Wp d mdX12_lesson 182 [(0, .ref a0), (1, .int x1), (4, .int x4)] [] M Q := by
  refine r_goto (tgt := 195) dX12_lesson_182 (by decide) ?_
  exact pw0
theorem gX12_lesson_195 {d : Nat} {Q : Option Value → Mem → Prop} {M : Mem} {a0 : Nat} {x1 : Int32} {x4 : Int32} (k0 : mK M a0 = 14) (k1 : mK M (mR M a0 20) = 3) (k2 : mK M (mR (sI M (mR M a0 20) x1.toNatClampNeg (nI 0)) a0 11) = 1) (k3 : mK M (mR (sI M (mR M a0 20) x1.toNatClampNeg (nI 0)) a0 12) = 1) (pb0 : vp_in x1 (mN M (mR M a0 20))) (pb1 : vp_in x1 (mN (sI M (mR M a0 20) x1.toNatClampNeg (nI 0)) (mR (sI M (mR M a0 20) x1.toNatClampNeg (nI 0)) a0 11))) (pb2 : vp_in x1 (mN (sI M (mR M a0 20) x1.toNatClampNeg (nI 0)) (mR (sI M (mR M a0 20) x1.toNatClampNeg (nI 0)) a0 12))) (pq3 : Q (some (.int (((mI (sI M (mR M a0 20) x1.toNatClampNeg (nI 0)) (mR (sI M (mR M a0 20) x1.toNatClampNeg (nI 0)) a0 11) x1.toNatClampNeg) + (mI (sI M (mR M a0 20) x1.toNatClampNeg (nI 0)) (mR (sI M (mR M a0 20) x1.toNatClampNeg (nI 0)) a0 12) x1.toNatClampNeg)) - x4))) (sI M (mR M a0 20) x1.toNatClampNeg (nI 0))) : Wp d mdX12_lesson 195 [(0, .ref a0), (1, .int x1), (4, .int x4)] [] M Q := by
  refine r_aload_n dX12_lesson_195 rfl 0 rfl ?_
  refine r_getR ck10 dX12_lesson_196 flX12_126 rfl k0 ?_
  refine r_iload_n dX12_lesson_199 rfl 1 rfl ?_
  refine r_iconst (v := (nI 0)) dX12_lesson_200 rfl ?_
  refine r_zast dX12_lesson_201 k1 pb0 rfl ?_
  refine r_aload_n dX12_lesson_202 rfl 0 rfl ?_
  refine r_getR ck10 dX12_lesson_203 flX12_98 rfl k0 ?_
  refine r_iload_n dX12_lesson_206 rfl 1 rfl ?_
  refine r_iald dX12_lesson_207 k2 pb1 ?_
  refine r_aload_n dX12_lesson_208 rfl 0 rfl ?_
  refine r_getR ck10 dX12_lesson_209 flX12_101 rfl k0 ?_
  refine r_iload_n dX12_lesson_212 rfl 1 rfl ?_
  refine r_iald dX12_lesson_213 k3 pb2 ?_
  refine r_iadd dX12_lesson_214 ?_
  refine r_iload dX12_lesson_215 2 rfl ?_
  refine r_isub dX12_lesson_217 ?_
  exact r_ret (some (.int (((mI (sI M (mR M a0 20) x1.toNatClampNeg (nI 0)) (mR (sI M (mR M a0 20) x1.toNatClampNeg (nI 0)) a0 11) x1.toNatClampNeg) + (mI (sI M (mR M a0 20) x1.toNatClampNeg (nI 0)) (mR (sI M (mR M a0 20) x1.toNatClampNeg (nI 0)) a0 12) x1.toNatClampNeg)) - x4))) dX12_lesson_218 rfl pq3
-- X12_firstUnlike
theorem gX12_firstUnlike_0 {d : Nat} {Q : Option Value → Mem → Prop} {M : Mem} {a0 : Nat} {x1 : Int32} {x2 : Int32} {x3 : Int32} {x4 : Int32}  (pw0 : Wp d mdX12_firstUnlike 3 [(0, .ref a0), (1, .int x1), (2, .int x2), (3, .int x3), (4, .int x4), (5, .int (nI 0))] [] M Q) : Wp d mdX12_firstUnlike 0 [(0, .ref a0), (1, .int x1), (2, .int x2), (3, .int x3), (4, .int x4)] [] M Q := by
  refine r_iconst (v := (nI 0)) dX12_firstUnlike_0 rfl ?_
  refine r_istore dX12_firstUnlike_1 (by decide) (ls' := [(5, .int (nI 0)), (0, .ref a0), (1, .int x1), (2, .int x2), (3, .int x3), (4, .int x4)]) rfl ?_
  refine r_sub [1, 2, 3, 4, 5, 0] (ls' := [(0, .ref a0), (1, .int x1), (2, .int x2), (3, .int x3), (4, .int x4), (5, .int (nI 0))]) rfl ?_
  exact pw0
theorem gX12_firstUnlike_3 {d : Nat} {Q : Option Value → Mem → Prop} {M : Mem} {a0 : Nat} {x1 : Int32} {x2 : Int32} {x3 : Int32} {x4 : Int32} {x5 : Int32} (k0 : mK M a0 = 14) (k1 : mK M (mR M a0 27) = 1) (k2 : mK M (mR (sI M (mR M a0 27) (nI 0).toNatClampNeg (((nI 8) * x2) + x4)) a0 28) = 2) (k3 : mK M (mR (sJ (sI M (mR M a0 27) (nI 0).toNatClampNeg (((nI 8) * x2) + x4)) (mR (sI M (mR M a0 27) (nI 0).toNatClampNeg (((nI 8) * x2) + x4)) a0 28) (nI 0).toNatClampNeg (lN 1)) a0 27) = 1) (k4 : mK M (mR (sJ (sI M (mR M a0 27) (nI 0).toNatClampNeg (((nI 8) * x2) + x4)) (mR (sI M (mR M a0 27) (nI 0).toNatClampNeg (((nI 8) * x2) + x4)) a0 28) (nI 0).toNatClampNeg (lN 1)) a0 26) = 3) (k5 : mK M (mR M a0 26) = 3) (pb0 : (nI 64) ≤ x5 → vp_in (nI 0) (mN M (mR M a0 27))) (pb1 : (nI 64) ≤ x5 → vp_in (nI 0) (mN (sI M (mR M a0 27) (nI 0).toNatClampNeg (((nI 8) * x2) + x4)) (mR (sI M (mR M a0 27) (nI 0).toNatClampNeg (((nI 8) * x2) + x4)) a0 28))) (pb2 : (nI 64) ≤ x5 → vp_in (nI 0) (mN (sJ (sI M (mR M a0 27) (nI 0).toNatClampNeg (((nI 8) * x2) + x4)) (mR (sI M (mR M a0 27) (nI 0).toNatClampNeg (((nI 8) * x2) + x4)) a0 28) (nI 0).toNatClampNeg (lN 1)) (mR (sJ (sI M (mR M a0 27) (nI 0).toNatClampNeg (((nI 8) * x2) + x4)) (mR (sI M (mR M a0 27) (nI 0).toNatClampNeg (((nI 8) * x2) + x4)) a0 28) (nI 0).toNatClampNeg (lN 1)) a0 27))) (pb3 : (nI 64) ≤ x5 → vp_in (mI (sJ (sI M (mR M a0 27) (nI 0).toNatClampNeg (((nI 8) * x2) + x4)) (mR (sI M (mR M a0 27) (nI 0).toNatClampNeg (((nI 8) * x2) + x4)) a0 28) (nI 0).toNatClampNeg (lN 1)) (mR (sJ (sI M (mR M a0 27) (nI 0).toNatClampNeg (((nI 8) * x2) + x4)) (mR (sI M (mR M a0 27) (nI 0).toNatClampNeg (((nI 8) * x2) + x4)) a0 28) (nI 0).toNatClampNeg (lN 1)) a0 27) (nI 0).toNatClampNeg) (mN (sJ (sI M (mR M a0 27) (nI 0).toNatClampNeg (((nI 8) * x2) + x4)) (mR (sI M (mR M a0 27) (nI 0).toNatClampNeg (((nI 8) * x2) + x4)) a0 28) (nI 0).toNatClampNeg (lN 1)) (mR (sJ (sI M (mR M a0 27) (nI 0).toNatClampNeg (((nI 8) * x2) + x4)) (mR (sI M (mR M a0 27) (nI 0).toNatClampNeg (((nI 8) * x2) + x4)) a0 28) (nI 0).toNatClampNeg (lN 1)) a0 26))) (pw4 : (nI 64) ≤ x5 → Wp d mdX12_firstUnlike 62 [(0, .ref a0), (1, .int x1), (3, .int x3), (5, .int (nI 1)), (6, .int (nI 0))] [] (sI (sJ (sI M (mR M a0 27) (nI 0).toNatClampNeg (((nI 8) * x2) + x4)) (mR (sI M (mR M a0 27) (nI 0).toNatClampNeg (((nI 8) * x2) + x4)) a0 28) (nI 0).toNatClampNeg (lN 1)) (mR (sJ (sI M (mR M a0 27) (nI 0).toNatClampNeg (((nI 8) * x2) + x4)) (mR (sI M (mR M a0 27) (nI 0).toNatClampNeg (((nI 8) * x2) + x4)) a0 28) (nI 0).toNatClampNeg (lN 1)) a0 26) (mI (sJ (sI M (mR M a0 27) (nI 0).toNatClampNeg (((nI 8) * x2) + x4)) (mR (sI M (mR M a0 27) (nI 0).toNatClampNeg (((nI 8) * x2) + x4)) a0 28) (nI 0).toNatClampNeg (lN 1)) (mR (sJ (sI M (mR M a0 27) (nI 0).toNatClampNeg (((nI 8) * x2) + x4)) (mR (sI M (mR M a0 27) (nI 0).toNatClampNeg (((nI 8) * x2) + x4)) a0 28) (nI 0).toNatClampNeg (lN 1)) a0 27) (nI 0).toNatClampNeg).toNatClampNeg (nI 1)) Q) (pb5 : ¬ (nI 64) ≤ x5 → vp_in x5 (mN M (mR M a0 26))) (pw6 : ¬ (nI 64) ≤ x5 → Wp d mdX12_firstUnlike 3 [(0, .ref a0), (1, .int x1), (2, .int x2), (3, .int x3), (4, .int x4), (5, .int (x5 + (nI 1)))] [] (sI M (mR M a0 26) x5.toNatClampNeg (nI 0)) Q) : Wp d mdX12_firstUnlike 3 [(0, .ref a0), (1, .int x1), (2, .int x2), (3, .int x3), (4, .int x4), (5, .int x5)] [] M Q := by
  refine r_iload dX12_firstUnlike_3 5 rfl ?_
  refine r_bipush (v := (nI 64)) dX12_firstUnlike_5 rfl ?_
  refine r_icmp_ge (tgt := 24) dX12_firstUnlike_7 (by decide) (fun c0 => ?_) (fun c0 => ?_)
  · skip
    refine r_aload_n dX12_firstUnlike_24 rfl 0 rfl ?_
    refine r_getR ck10 dX12_firstUnlike_25 flX12_139 rfl k0 ?_
    refine r_iconst (v := (nI 0)) dX12_firstUnlike_28 rfl ?_
    refine r_bipush (v := (nI 8)) dX12_firstUnlike_29 rfl ?_
    refine r_iload_n dX12_firstUnlike_31 rfl 2 rfl ?_
    refine r_imul dX12_firstUnlike_32 ?_
    refine r_iload dX12_firstUnlike_33 4 rfl ?_
    refine r_iadd dX12_firstUnlike_35 ?_
    refine r_iast dX12_firstUnlike_36 k1 (pb0 c0) ?_
    refine r_aload_n dX12_firstUnlike_37 rfl 0 rfl ?_
    refine r_getR ck10 dX12_firstUnlike_38 flX12_142 rfl k0 ?_
    refine r_iconst (v := (nI 0)) dX12_firstUnlike_41 rfl ?_
    refine r_lconst (v := (lN 1)) dX12_firstUnlike_42 rfl ?_
    refine r_last dX12_firstUnlike_43 k2 (pb1 c0) ?_
    refine r_aload_n dX12_firstUnlike_44 rfl 0 rfl ?_
    refine r_getR ck10 dX12_firstUnlike_45 flX12_136 rfl k0 ?_
    refine r_aload_n dX12_firstUnlike_48 rfl 0 rfl ?_
    refine r_getR ck10 dX12_firstUnlike_49 flX12_139 rfl k0 ?_
    refine r_iconst (v := (nI 0)) dX12_firstUnlike_52 rfl ?_
    refine r_iald dX12_firstUnlike_53 k3 (pb2 c0) ?_
    refine r_iconst (v := (nI 1)) dX12_firstUnlike_54 rfl ?_
    refine r_zast dX12_firstUnlike_55 k4 (pb3 c0) rfl ?_
    refine r_iconst (v := (nI 1)) dX12_firstUnlike_56 rfl ?_
    refine r_istore dX12_firstUnlike_57 (by decide) (ls' := [(5, .int (nI 1)), (0, .ref a0), (1, .int x1), (2, .int x2), (3, .int x3), (4, .int x4)]) rfl ?_
    refine r_iconst (v := (nI 0)) dX12_firstUnlike_59 rfl ?_
    refine r_istore dX12_firstUnlike_60 (by decide) (ls' := [(6, .int (nI 0)), (5, .int (nI 1)), (0, .ref a0), (1, .int x1), (2, .int x2), (3, .int x3), (4, .int x4)]) rfl ?_
    refine r_sub [2, 3, 5, 1, 0] (ls' := [(0, .ref a0), (1, .int x1), (3, .int x3), (5, .int (nI 1)), (6, .int (nI 0))]) rfl ?_
    exact (pw4 c0)
  · skip
    refine r_aload_n dX12_firstUnlike_10 rfl 0 rfl ?_
    refine r_getR ck10 dX12_firstUnlike_11 flX12_136 rfl k0 ?_
    refine r_iload dX12_firstUnlike_14 5 rfl ?_
    refine r_iconst (v := (nI 0)) dX12_firstUnlike_16 rfl ?_
    refine r_zast dX12_firstUnlike_17 k5 (pb5 c0) rfl ?_
    refine r_iinc dX12_firstUnlike_18 5 rfl (v := x5 + (nI 1)) rfl (by decide) (ls' := [(5, .int (x5 + (nI 1))), (0, .ref a0), (1, .int x1), (2, .int x2), (3, .int x3), (4, .int x4)]) rfl ?_
    refine r_goto (tgt := 3) dX12_firstUnlike_21 (by decide) ?_
    refine r_sub [1, 2, 3, 4, 5, 0] (ls' := [(0, .ref a0), (1, .int x1), (2, .int x2), (3, .int x3), (4, .int x4), (5, .int (x5 + (nI 1)))]) rfl ?_
    exact (pw6 c0)
theorem gX12_firstUnlike_62 {d : Nat} {Q : Option Value → Mem → Prop} {M : Mem} {a0 : Nat} {x1 : Int32} {x3 : Int32} {x5 : Int32} {x6 : Int32} (k0 : mK M a0 = 14) (k1 : mK M (mR M a0 27) = 1) (pq0 : x5 ≤ x6 → Q (some (.long (lN 0))) M) (pb1 : ¬ x5 ≤ x6 → vp_in x6 (mN M (mR M a0 27))) (pf2 : ¬ x5 ≤ x6 → ClD d mdX12_shown [.ref a0, .int x1, .int ((mI M (mR M a0 27) x6.toNatClampNeg) / (nI 8))] M (fun r1 M1 => Wp d mdX12_firstUnlike 100 [(0, .ref a0), (1, .int x1), (3, .int x3), (5, .int x5), (6, .int x6), (7, .int ((mI M (mR M a0 27) x6.toNatClampNeg) / (nI 8))), (8, .int ((mI M (mR M a0 27) x6.toNatClampNeg) - (mI M (mR M a0 27) x6.toNatClampNeg) / (nI 8) * (nI 8)))] (r1.toList ++ []) M1 Q)) : Wp d mdX12_firstUnlike 62 [(0, .ref a0), (1, .int x1), (3, .int x3), (5, .int x5), (6, .int x6)] [] M Q := by
  refine r_iload dX12_firstUnlike_62 4 rfl ?_
  refine r_iload dX12_firstUnlike_64 3 rfl ?_
  refine r_icmp_ge (tgt := 218) dX12_firstUnlike_66 (by decide) (fun c0 => ?_) (fun c0 => ?_)
  · skip
    refine r_lconst (v := (lN 0)) dX12_firstUnlike_218 rfl ?_
    exact r_ret (some (.long (lN 0))) dX12_firstUnlike_219 rfl (pq0 c0)
  · skip
    refine r_aload_n dX12_firstUnlike_69 rfl 0 rfl ?_
    refine r_getR ck10 dX12_firstUnlike_70 flX12_139 rfl k0 ?_
    refine r_iload dX12_firstUnlike_73 4 rfl ?_
    refine r_iald dX12_firstUnlike_75 k1 (pb1 c0) ?_
    refine r_bipush (v := (nI 8)) dX12_firstUnlike_76 rfl ?_
    refine r_idiv dX12_firstUnlike_78 (by decide) ?_
    refine r_istore dX12_firstUnlike_79 (by decide) (ls' := [(7, .int ((mI M (mR M a0 27) x6.toNatClampNeg) / (nI 8))), (0, .ref a0), (1, .int x1), (3, .int x3), (5, .int x5), (6, .int x6)]) rfl ?_
    refine r_aload_n dX12_firstUnlike_81 rfl 1 rfl ?_
    refine r_getR ck10 dX12_firstUnlike_82 flX12_139 rfl k0 ?_
    refine r_iload dX12_firstUnlike_85 5 rfl ?_
    refine r_iald dX12_firstUnlike_87 k1 (pb1 c0) ?_
    refine r_bipush (v := (nI 8)) dX12_firstUnlike_88 rfl ?_
    refine r_irem dX12_firstUnlike_90 (by decide) ?_
    refine r_istore dX12_firstUnlike_91 (by decide) (ls' := [(8, .int ((mI M (mR M a0 27) x6.toNatClampNeg) - (mI M (mR M a0 27) x6.toNatClampNeg) / (nI 8) * (nI 8))), (7, .int ((mI M (mR M a0 27) x6.toNatClampNeg) / (nI 8))), (0, .ref a0), (1, .int x1), (3, .int x3), (5, .int x5), (6, .int x6)]) rfl ?_
    refine r_aload_n dX12_firstUnlike_93 rfl 2 rfl ?_
    refine r_iload_n dX12_firstUnlike_94 rfl 3 rfl ?_
    refine r_iload dX12_firstUnlike_95 1 rfl ?_
    refine r_sub [2, 3, 4, 5, 6, 1, 0] (ls' := [(0, .ref a0), (1, .int x1), (3, .int x3), (5, .int x5), (6, .int x6), (7, .int ((mI M (mR M a0 27) x6.toNatClampNeg) / (nI 8))), (8, .int ((mI M (mR M a0 27) x6.toNatClampNeg) - (mI M (mR M a0 27) x6.toNatClampNeg) / (nI 8) * (nI 8)))]) rfl ?_
    obtain ⟨e9, hlt, h9⟩ := (pf2 c0)
    exact r_callV (As := [.int x1, .int ((mI M (mR M a0 27) x6.toNatClampNeg) / (nI 8))]) (rest := []) (ci := 10) moX12_shown dX12_firstUnlike_97 mlX12_51 imX12_shown seX12_shown k0 rfl hlt (Nat.le_of_ble_eq_true rfl) h9
theorem gX12_firstUnlike_100 {d : Nat} {Q : Option Value → Mem → Prop} {M : Mem} {a0 : Nat} {x1 : Int32} {x3 : Int32} {x5 : Int32} {x6 : Int32} {x7 : Int32} {x8 : Int32} {sx0 : Int32} (k0 : mK M a0 = 14) (pf0 : ClD d mdX12_shown [.ref a0, .int x3, .int x8] M (fun r1 M1 => Wp d mdX12_firstUnlike 107 [(0, .ref a0), (1, .int x1), (3, .int x3), (5, .int x5), (6, .int x6), (7, .int x7), (8, .int x8)] (r1.toList ++ [.int sx0]) M1 Q)) : Wp d mdX12_firstUnlike 100 [(0, .ref a0), (1, .int x1), (3, .int x3), (5, .int x5), (6, .int x6), (7, .int x7), (8, .int x8)] [.int sx0] M Q := by
  refine r_aload_n dX12_firstUnlike_100 rfl 0 rfl ?_
  refine r_iload_n dX12_firstUnlike_101 rfl 2 rfl ?_
  refine r_iload dX12_firstUnlike_102 6 rfl ?_
  obtain ⟨e9, hlt, h9⟩ := pf0
  exact r_callV (As := [.int x3, .int x8]) (rest := [.int sx0]) (ci := 10) moX12_shown dX12_firstUnlike_104 mlX12_51 imX12_shown seX12_shown k0 rfl hlt (Nat.le_of_ble_eq_true rfl) h9
theorem gX12_firstUnlike_107 {d : Nat} {Q : Option Value → Mem → Prop} {M : Mem} {a0 : Nat} {x1 : Int32} {x3 : Int32} {x5 : Int32} {x6 : Int32} {x7 : Int32} {x8 : Int32} {sx0 : Int32} {sx1 : Int32} (k0 : mK M a0 = 14) (k1 : mK M (mR M a0 28) = 2) (pw0 : sx1 = sx0 → Wp d mdX12_firstUnlike 121 [(0, .ref a0), (1, .int x1), (3, .int x3), (5, .int x5), (6, .int x6), (7, .int x7), (8, .int x8), (9, .int (nI 0))] [] M Q) (pb1 : ¬ sx1 = sx0 → vp_in x6 (mN M (mR M a0 28))) (pq2 : ¬ sx1 = sx0 → Q (some (.long (mJ M (mR M a0 28) x6.toNatClampNeg))) M) : Wp d mdX12_firstUnlike 107 [(0, .ref a0), (1, .int x1), (3, .int x3), (5, .int x5), (6, .int x6), (7, .int x7), (8, .int x8)] [.int sx0, .int sx1] M Q := by
  refine r_icmp_eq (tgt := 118) dX12_firstUnlike_107 (by decide) (fun c0 => ?_) (fun c0 => ?_)
  · skip
    refine r_iconst (v := (nI 0)) dX12_firstUnlike_118 rfl ?_
    refine r_istore dX12_firstUnlike_119 (by decide) (ls' := [(9, .int (nI 0)), (0, .ref a0), (1, .int x1), (3, .int x3), (5, .int x5), (6, .int x6), (7, .int x7), (8, .int x8)]) rfl ?_
    refine r_sub [1, 2, 3, 4, 5, 6, 7, 0] (ls' := [(0, .ref a0), (1, .int x1), (3, .int x3), (5, .int x5), (6, .int x6), (7, .int x7), (8, .int x8), (9, .int (nI 0))]) rfl ?_
    exact (pw0 c0)
  · skip
    refine r_aload_n dX12_firstUnlike_110 rfl 0 rfl ?_
    refine r_getR ck10 dX12_firstUnlike_111 flX12_142 rfl k0 ?_
    refine r_iload dX12_firstUnlike_114 4 rfl ?_
    refine r_lald dX12_firstUnlike_116 k1 (pb1 c0) ?_
    exact r_ret (some (.long (mJ M (mR M a0 28) x6.toNatClampNeg))) dX12_firstUnlike_117 rfl (pq2 c0)
theorem gX12_firstUnlike_121 {d : Nat} {Q : Option Value → Mem → Prop} {M : Mem} {a0 : Nat} {x1 : Int32} {x3 : Int32} {x5 : Int32} {x6 : Int32} {x7 : Int32} {x8 : Int32} {x9 : Int32} (k0 : mK M a0 = 14) (pw0 : (mI M a0 3) ≤ x9 → Wp d mdX12_firstUnlike 62 [(0, .ref a0), (1, .int x1), (3, .int x3), (5, .int x5), (6, .int (x6 + (nI 1)))] [] M Q) (pf1 : ¬ (mI M a0 3) ≤ x9 → ClD d mdX12_comes [.ref a0, .int x1, .int x7, .int x9] M (fun r1 M1 => Wp d mdX12_firstUnlike 141 [(0, .ref a0), (1, .int x1), (3, .int x3), (5, .int x5), (6, .int x6), (7, .int x7), (8, .int x8), (9, .int x9)] (r1.toList ++ [.int (nI 8)]) M1 Q)) : Wp d mdX12_firstUnlike 121 [(0, .ref a0), (1, .int x1), (3, .int x3), (5, .int x5), (6, .int x6), (7, .int x7), (8, .int x8), (9, .int x9)] [] M Q := by
  refine r_iload dX12_firstUnlike_121 7 rfl ?_
  refine r_aload_n dX12_firstUnlike_123 rfl 0 rfl ?_
  refine r_getI ck10 dX12_firstUnlike_124 flX12_30 rfl k0 ?_
  refine r_icmp_ge (tgt := 212) dX12_firstUnlike_127 (by decide) (fun c0 => ?_) (fun c0 => ?_)
  · skip
    refine r_iinc dX12_firstUnlike_212 4 rfl (v := x6 + (nI 1)) rfl (by decide) (ls' := [(6, .int (x6 + (nI 1))), (0, .ref a0), (1, .int x1), (3, .int x3), (5, .int x5), (7, .int x7), (8, .int x8), (9, .int x9)]) rfl ?_
    refine r_goto (tgt := 62) dX12_firstUnlike_215 (by decide) ?_
    refine r_sub [1, 2, 3, 4, 0] (ls' := [(0, .ref a0), (1, .int x1), (3, .int x3), (5, .int x5), (6, .int (x6 + (nI 1)))]) rfl ?_
    exact (pw0 c0)
  · skip
    refine r_bipush (v := (nI 8)) dX12_firstUnlike_130 rfl ?_
    refine r_aload_n dX12_firstUnlike_132 rfl 0 rfl ?_
    refine r_iload_n dX12_firstUnlike_133 rfl 1 rfl ?_
    refine r_iload dX12_firstUnlike_134 5 rfl ?_
    refine r_iload dX12_firstUnlike_136 7 rfl ?_
    obtain ⟨e9, hlt, h9⟩ := (pf1 c0)
    exact r_callV (As := [.int x1, .int x7, .int x9]) (rest := [.int (nI 8)]) (ci := 10) moX12_comes dX12_firstUnlike_138 mlX12_43 imX12_comes seX12_comes k0 rfl hlt (Nat.le_of_ble_eq_true rfl) h9
theorem gX12_firstUnlike_141 {d : Nat} {Q : Option Value → Mem → Prop} {M : Mem} {a0 : Nat} {x1 : Int32} {x3 : Int32} {x5 : Int32} {x6 : Int32} {x7 : Int32} {x8 : Int32} {x9 : Int32} {sx0 : Int32} {sx1 : Int32} (k0 : mK M a0 = 14) (pf0 : ClD d mdX12_comes [.ref a0, .int x3, .int x8, .int x9] M (fun r1 M1 => Wp d mdX12_firstUnlike 151 [(0, .ref a0), (1, .int x1), (3, .int x3), (5, .int x5), (6, .int x6), (7, .int x7), (8, .int x8), (9, .int x9)] (r1.toList ++ [.int (sx1 * sx0)]) M1 Q)) : Wp d mdX12_firstUnlike 141 [(0, .ref a0), (1, .int x1), (3, .int x3), (5, .int x5), (6, .int x6), (7, .int x7), (8, .int x8), (9, .int x9)] [.int sx0, .int sx1] M Q := by
  refine r_imul dX12_firstUnlike_141 ?_
  refine r_aload_n dX12_firstUnlike_142 rfl 0 rfl ?_
  refine r_iload_n dX12_firstUnlike_143 rfl 2 rfl ?_
  refine r_iload dX12_firstUnlike_144 6 rfl ?_
  refine r_iload dX12_firstUnlike_146 7 rfl ?_
  obtain ⟨e9, hlt, h9⟩ := pf0
  exact r_callV (As := [.int x3, .int x8, .int x9]) (rest := [.int (sx1 * sx0)]) (ci := 10) moX12_comes dX12_firstUnlike_148 mlX12_43 imX12_comes seX12_comes k0 rfl hlt (Nat.le_of_ble_eq_true rfl) h9
theorem gX12_firstUnlike_151 {d : Nat} {Q : Option Value → Mem → Prop} {M : Mem} {a0 : Nat} {x1 : Int32} {x3 : Int32} {x5 : Int32} {x6 : Int32} {x7 : Int32} {x8 : Int32} {x9 : Int32} {sx0 : Int32} {sx1 : Int32} (k0 : mK M a0 = 14) (k1 : mK M (mR M a0 26) = 3) (k2 : mK M (mR (sI M (mR M a0 26) (sx1 + sx0).toNatClampNeg (nI 1)) a0 27) = 1) (k3 : mK M (mR (sI (sI M (mR M a0 26) (sx1 + sx0).toNatClampNeg (nI 1)) (mR (sI M (mR M a0 26) (sx1 + sx0).toNatClampNeg (nI 1)) a0 27) x5.toNatClampNeg (sx1 + sx0)) a0 28) = 2) (pb0 : vp_in (sx1 + sx0) (mN M (mR M a0 26))) (pb1 : (mI M (mR M a0 26) (sx1 + sx0).toNatClampNeg) = 0 → vp_in (sx1 + sx0) (mN M (mR M a0 26))) (pb2 : (mI M (mR M a0 26) (sx1 + sx0).toNatClampNeg) = 0 → vp_in x5 (mN (sI M (mR M a0 26) (sx1 + sx0).toNatClampNeg (nI 1)) (mR (sI M (mR M a0 26) (sx1 + sx0).toNatClampNeg (nI 1)) a0 27))) (pb3 : (mI M (mR M a0 26) (sx1 + sx0).toNatClampNeg) = 0 → vp_in x6 (mN (sI (sI M (mR M a0 26) (sx1 + sx0).toNatClampNeg (nI 1)) (mR (sI M (mR M a0 26) (sx1 + sx0).toNatClampNeg (nI 1)) a0 27) x5.toNatClampNeg (sx1 + sx0)) (mR (sI (sI M (mR M a0 26) (sx1 + sx0).toNatClampNeg (nI 1)) (mR (sI M (mR M a0 26) (sx1 + sx0).toNatClampNeg (nI 1)) a0 27) x5.toNatClampNeg (sx1 + sx0)) a0 28))) (pf4 : (mI M (mR M a0 26) (sx1 + sx0).toNatClampNeg) = 0 → ClD d mdX12_longer [.long (mJ (sI (sI M (mR M a0 26) (sx1 + sx0).toNatClampNeg (nI 1)) (mR (sI M (mR M a0 26) (sx1 + sx0).toNatClampNeg (nI 1)) a0 27) x5.toNatClampNeg (sx1 + sx0)) (mR (sI (sI M (mR M a0 26) (sx1 + sx0).toNatClampNeg (nI 1)) (mR (sI M (mR M a0 26) (sx1 + sx0).toNatClampNeg (nI 1)) a0 27) x5.toNatClampNeg (sx1 + sx0)) a0 28) x6.toNatClampNeg), .int x9] (sI (sI M (mR M a0 26) (sx1 + sx0).toNatClampNeg (nI 1)) (mR (sI M (mR M a0 26) (sx1 + sx0).toNatClampNeg (nI 1)) a0 27) x5.toNatClampNeg (sx1 + sx0)) (fun r1 M1 => Wp d mdX12_firstUnlike 202 [(0, .ref a0), (1, .int x1), (3, .int x3), (5, .int x5), (6, .int x6), (7, .int x7), (8, .int x8), (9, .int x9)] (r1.toList ++ [.int x5, .ref (mR (sI (sI M (mR M a0 26) (sx1 + sx0).toNatClampNeg (nI 1)) (mR (sI M (mR M a0 26) (sx1 + sx0).toNatClampNeg (nI 1)) a0 27) x5.toNatClampNeg (sx1 + sx0)) a0 28)]) M1 Q)) (pw5 : ¬ (mI M (mR M a0 26) (sx1 + sx0).toNatClampNeg) = 0 → Wp d mdX12_firstUnlike 121 [(0, .ref a0), (1, .int x1), (3, .int x3), (5, .int x5), (6, .int x6), (7, .int x7), (8, .int x8), (9, .int (x9 + (nI 1)))] [] M Q) : Wp d mdX12_firstUnlike 151 [(0, .ref a0), (1, .int x1), (3, .int x3), (5, .int x5), (6, .int x6), (7, .int x7), (8, .int x8), (9, .int x9)] [.int sx0, .int sx1] M Q := by
  refine r_iadd dX12_firstUnlike_151 ?_
  refine r_istore dX12_firstUnlike_152 (by decide) (ls' := [(10, .int (sx1 + sx0)), (0, .ref a0), (1, .int x1), (3, .int x3), (5, .int x5), (6, .int x6), (7, .int x7), (8, .int x8), (9, .int x9)]) rfl ?_
  refine r_aload_n dX12_firstUnlike_154 rfl 1 rfl ?_
  refine r_getR ck10 dX12_firstUnlike_155 flX12_136 rfl k0 ?_
  refine r_iload dX12_firstUnlike_158 0 rfl ?_
  refine r_zald dX12_firstUnlike_160 k1 pb0 ?_
  refine r_if_eq (tgt := 167) dX12_firstUnlike_161 (by decide) (fun c0 => ?_) (fun c0 => ?_)
  · skip
    refine r_aload_n dX12_firstUnlike_167 rfl 1 rfl ?_
    refine r_getR ck10 dX12_firstUnlike_168 flX12_136 rfl k0 ?_
    refine r_iload dX12_firstUnlike_171 0 rfl ?_
    refine r_iconst (v := (nI 1)) dX12_firstUnlike_173 rfl ?_
    refine r_zast dX12_firstUnlike_174 k1 (pb1 c0) rfl ?_
    refine r_aload_n dX12_firstUnlike_175 rfl 1 rfl ?_
    refine r_getR ck10 dX12_firstUnlike_176 flX12_139 rfl k0 ?_
    refine r_iload dX12_firstUnlike_179 4 rfl ?_
    refine r_iload dX12_firstUnlike_181 0 rfl ?_
    refine r_iast dX12_firstUnlike_183 k2 (pb2 c0) ?_
    refine r_aload_n dX12_firstUnlike_184 rfl 1 rfl ?_
    refine r_getR ck10 dX12_firstUnlike_185 flX12_142 rfl k0 ?_
    refine r_iload dX12_firstUnlike_188 4 rfl ?_
    refine r_aload_n dX12_firstUnlike_190 rfl 1 rfl ?_
    refine r_getR ck10 dX12_firstUnlike_191 flX12_142 rfl k0 ?_
    refine r_iload dX12_firstUnlike_194 5 rfl ?_
    refine r_lald dX12_firstUnlike_196 k3 (pb3 c0) ?_
    refine r_iload dX12_firstUnlike_197 8 rfl ?_
    refine r_sub [1, 2, 3, 4, 5, 6, 7, 8] (ls' := [(0, .ref a0), (1, .int x1), (3, .int x3), (5, .int x5), (6, .int x6), (7, .int x7), (8, .int x8), (9, .int x9)]) rfl ?_
    obtain ⟨e9, hlt, h9⟩ := (pf4 c0)
    exact r_callS (As := [.long (mJ (sI (sI M (mR M a0 26) (sx1 + sx0).toNatClampNeg (nI 1)) (mR (sI M (mR M a0 26) (sx1 + sx0).toNatClampNeg (nI 1)) a0 27) x5.toNatClampNeg (sx1 + sx0)) (mR (sI (sI M (mR M a0 26) (sx1 + sx0).toNatClampNeg (nI 1)) (mR (sI M (mR M a0 26) (sx1 + sx0).toNatClampNeg (nI 1)) a0 27) x5.toNatClampNeg (sx1 + sx0)) a0 28) x6.toNatClampNeg), .int x9]) (rest := [.int x5, .ref (mR (sI (sI M (mR M a0 26) (sx1 + sx0).toNatClampNeg (nI 1)) (mR (sI M (mR M a0 26) (sx1 + sx0).toNatClampNeg (nI 1)) a0 27) x5.toNatClampNeg (sx1 + sx0)) a0 28)]) moX12_longer dX12_firstUnlike_199 mlX12_80 saX12_longer rfl hlt (Nat.le_of_ble_eq_true rfl) h9
  · skip
    refine r_goto (tgt := 206) dX12_firstUnlike_164 (by decide) ?_
    refine r_iinc dX12_firstUnlike_206 8 rfl (v := x9 + (nI 1)) rfl (by decide) (ls' := [(9, .int (x9 + (nI 1))), (10, .int (sx1 + sx0)), (0, .ref a0), (1, .int x1), (3, .int x3), (5, .int x5), (6, .int x6), (7, .int x7), (8, .int x8)]) rfl ?_
    refine r_goto (tgt := 121) dX12_firstUnlike_209 (by decide) ?_
    refine r_sub [2, 3, 4, 5, 6, 7, 8, 0] (ls' := [(0, .ref a0), (1, .int x1), (3, .int x3), (5, .int x5), (6, .int x6), (7, .int x7), (8, .int x8), (9, .int (x9 + (nI 1)))]) rfl ?_
    exact (pw5 c0)
theorem gX12_firstUnlike_202 {d : Nat} {Q : Option Value → Mem → Prop} {M : Mem} {a0 : Nat} {x1 : Int32} {x3 : Int32} {x5 : Int32} {x6 : Int32} {x7 : Int32} {x8 : Int32} {x9 : Int32} {sw0 : Int64} {sx1 : Int32} {sa2 : Nat} (k0 : mK M sa2 = 2) (pb0 : vp_in sx1 (mN M sa2)) (pw1 : Wp d mdX12_firstUnlike 121 [(0, .ref a0), (1, .int x1), (3, .int x3), (5, .int (x5 + (nI 1))), (6, .int x6), (7, .int x7), (8, .int x8), (9, .int (x9 + (nI 1)))] [] (sJ M sa2 sx1.toNatClampNeg sw0) Q) : Wp d mdX12_firstUnlike 202 [(0, .ref a0), (1, .int x1), (3, .int x3), (5, .int x5), (6, .int x6), (7, .int x7), (8, .int x8), (9, .int x9)] [.long sw0, .int sx1, .ref sa2] M Q := by
  refine r_last dX12_firstUnlike_202 k0 pb0 ?_
  refine r_iinc dX12_firstUnlike_203 3 rfl (v := x5 + (nI 1)) rfl (by decide) (ls' := [(5, .int (x5 + (nI 1))), (0, .ref a0), (1, .int x1), (3, .int x3), (6, .int x6), (7, .int x7), (8, .int x8), (9, .int x9)]) rfl ?_
  refine r_iinc dX12_firstUnlike_206 7 rfl (v := x9 + (nI 1)) rfl (by decide) (ls' := [(9, .int (x9 + (nI 1))), (5, .int (x5 + (nI 1))), (0, .ref a0), (1, .int x1), (3, .int x3), (6, .int x6), (7, .int x7), (8, .int x8)]) rfl ?_
  refine r_goto (tgt := 121) dX12_firstUnlike_209 (by decide) ?_
  refine r_sub [2, 3, 4, 1, 5, 6, 7, 0] (ls' := [(0, .ref a0), (1, .int x1), (3, .int x3), (5, .int (x5 + (nI 1))), (6, .int x6), (7, .int x7), (8, .int x8), (9, .int (x9 + (nI 1)))]) rfl ?_
  exact pw1
-- X12_wrongFirst
theorem gX12_wrongFirst_0 {d : Nat} {Q : Option Value → Mem → Prop} {M : Mem} {a0 : Nat} {x1 : Int32} (k0 : mK M a0 = 14) (pf0 : ClD d mdX12_firstUnlike [.ref a0, .int ((nI 1) + x1), .int (nI 0), .int (nI 0), .int (nI 0)] M (fun r1 M1 => Wp d mdX12_wrongFirst 10 [] (r1.toList ++ []) M1 Q)) : Wp d mdX12_wrongFirst 0 [(0, .ref a0), (1, .int x1)] [] M Q := by
  refine r_aload_n dX12_wrongFirst_0 rfl 0 rfl ?_
  refine r_iconst (v := (nI 1)) dX12_wrongFirst_1 rfl ?_
  refine r_iload_n dX12_wrongFirst_2 rfl 1 rfl ?_
  refine r_iadd dX12_wrongFirst_3 ?_
  refine r_iconst (v := (nI 0)) dX12_wrongFirst_4 rfl ?_
  refine r_iconst (v := (nI 0)) dX12_wrongFirst_5 rfl ?_
  refine r_iconst (v := (nI 0)) dX12_wrongFirst_6 rfl ?_
  refine r_sub [] (ls' := []) rfl ?_
  obtain ⟨e9, hlt, h9⟩ := pf0
  exact r_callV (As := [.int ((nI 1) + x1), .int (nI 0), .int (nI 0), .int (nI 0)]) (rest := []) (ci := 10) moX12_firstUnlike dX12_wrongFirst_7 mlX12_276 imX12_firstUnlike seX12_firstUnlike k0 rfl hlt (Nat.le_of_ble_eq_true rfl) h9
theorem gX12_wrongFirst_10 {d : Nat} {Q : Option Value → Mem → Prop} {M : Mem} {sw0 : Int64}  (pq0 : Q (some (.long sw0)) M) : Wp d mdX12_wrongFirst 10 [] [.long sw0] M Q := by
  exact r_ret (some (.long sw0)) dX12_wrongFirst_10 rfl pq0
-- X12_learnsAll
theorem gX12_learnsAll_0 {d : Nat} {Q : Option Value → Mem → Prop} {M : Mem} {a0 : Nat} {x1 : Int32} (k0 : mK M a0 = 14) (pf0 : ClD d mdX12_stepsTillGuess [.ref a0, .int x1] M (fun r1 M1 => Wp d mdX12_learnsAll 5 [(0, .ref a0), (1, .int x1)] (r1.toList ++ []) M1 Q)) : Wp d mdX12_learnsAll 0 [(0, .ref a0), (1, .int x1)] [] M Q := by
  refine r_aload_n dX12_learnsAll_0 rfl 0 rfl ?_
  refine r_iload_n dX12_learnsAll_1 rfl 1 rfl ?_
  obtain ⟨e9, hlt, h9⟩ := pf0
  exact r_callV (As := [.int x1]) (rest := []) (ci := 10) moX12_stepsTillGuess dX12_learnsAll_2 mlX12_280 imX12_stepsTillGuess seX12_stepsTillGuess k0 rfl hlt (Nat.le_of_ble_eq_true rfl) h9
theorem gX12_learnsAll_5 {d : Nat} {Q : Option Value → Mem → Prop} {M : Mem} {a0 : Nat} {x1 : Int32} {sx0 : Int32} (k0 : mK M a0 = 14) (pf0 : ClD d mdX12_wrongFirst [.ref a0, .int x1] M (fun r1 M1 => Wp d mdX12_learnsAll 11 [(0, .ref a0), (1, .int x1), (2, .int sx0)] (r1.toList ++ []) M1 Q)) : Wp d mdX12_learnsAll 5 [(0, .ref a0), (1, .int x1)] [.int sx0] M Q := by
  refine r_istore_n dX12_learnsAll_5 rfl (by decide) (ls' := [(2, .int sx0), (0, .ref a0), (1, .int x1)]) rfl ?_
  refine r_aload_n dX12_learnsAll_6 rfl 1 rfl ?_
  refine r_iload_n dX12_learnsAll_7 rfl 2 rfl ?_
  refine r_sub [1, 2, 0] (ls' := [(0, .ref a0), (1, .int x1), (2, .int sx0)]) rfl ?_
  obtain ⟨e9, hlt, h9⟩ := pf0
  exact r_callV (As := [.int x1]) (rest := []) (ci := 10) moX12_wrongFirst dX12_learnsAll_8 mlX12_283 imX12_wrongFirst seX12_wrongFirst k0 rfl hlt (Nat.le_of_ble_eq_true rfl) h9
theorem gX12_learnsAll_11 {d : Nat} {Q : Option Value → Mem → Prop} {M : Mem} {a0 : Nat} {x1 : Int32} {x2 : Int32} {sw0 : Int64}  (pw0 : Wp d mdX12_learnsAll 12 [(0, .ref a0), (1, .int x1), (2, .int x2), (3, .long sw0)] [] M Q) : Wp d mdX12_learnsAll 11 [(0, .ref a0), (1, .int x1), (2, .int x2)] [.long sw0] M Q := by
  refine r_lstore_n dX12_learnsAll_11 rfl (by decide) (ls' := [(3, .long sw0), (0, .ref a0), (1, .int x1), (2, .int x2)]) rfl ?_
  refine r_sub [1, 2, 3, 0] (ls' := [(0, .ref a0), (1, .int x1), (2, .int x2), (3, .long sw0)]) rfl ?_
  exact pw0
theorem gX12_learnsAll_12 {d : Nat} {Q : Option Value → Mem → Prop} {M : Mem} {a0 : Nat} {x1 : Int32} {x2 : Int32} {w3 : Int64} (k0 : mK M a0 = 14) (pq0 : w3 = (lN 0) → Q (some (.int x2)) M) (pf1 : ¬ w3 = (lN 0) → ClD d mdX12_lesson [.ref a0, .int x1, .long w3] M (fun r1 M1 => Wp d mdX12_learnsAll 24 [(0, .ref a0), (1, .int x1), (2, .int x2)] (r1.toList ++ []) M1 Q)) : Wp d mdX12_learnsAll 12 [(0, .ref a0), (1, .int x1), (2, .int x2), (3, .long w3)] [] M Q := by
  refine r_lload_n dX12_learnsAll_12 rfl 3 rfl ?_
  refine r_lconst (v := (lN 0)) dX12_learnsAll_13 rfl ?_
  refine r_lif_eq (tgt := 42) dX12_learnsAll_14 dX12_learnsAll_15 (by decide) (fun c0 => ?_) (fun c0 => ?_)
  · skip
    refine r_iload_n dX12_learnsAll_42 rfl 2 rfl ?_
    exact r_ret (some (.int x2)) dX12_learnsAll_43 rfl (pq0 c0)
  · skip
    refine r_aload_n dX12_learnsAll_18 rfl 0 rfl ?_
    refine r_iload_n dX12_learnsAll_19 rfl 1 rfl ?_
    refine r_lload_n dX12_learnsAll_20 rfl 3 rfl ?_
    refine r_sub [0, 1, 2] (ls' := [(0, .ref a0), (1, .int x1), (2, .int x2)]) rfl ?_
    obtain ⟨e9, hlt, h9⟩ := (pf1 c0)
    exact r_callV (As := [.int x1, .long w3]) (rest := []) (ci := 10) moX12_lesson dX12_learnsAll_21 mlX12_287 imX12_lesson seX12_lesson k0 rfl hlt (Nat.le_of_ble_eq_true rfl) h9
theorem gX12_learnsAll_24 {d : Nat} {Q : Option Value → Mem → Prop} {M : Mem} {a0 : Nat} {x1 : Int32} {x2 : Int32} {sx0 : Int32} (k0 : mK M a0 = 14) (pf0 : ClD d mdX12_stepsTillGuess [.ref a0, .int x1] M (fun r1 M1 => Wp d mdX12_learnsAll 31 [(0, .ref a0), (1, .int x1)] (r1.toList ++ [.int x2]) M1 Q)) : Wp d mdX12_learnsAll 24 [(0, .ref a0), (1, .int x1), (2, .int x2)] [.int sx0] M Q := by
  refine r_pop dX12_learnsAll_24 rfl ?_
  refine r_iload_n dX12_learnsAll_25 rfl 2 rfl ?_
  refine r_aload_n dX12_learnsAll_26 rfl 0 rfl ?_
  refine r_iload_n dX12_learnsAll_27 rfl 1 rfl ?_
  refine r_sub [0, 1] (ls' := [(0, .ref a0), (1, .int x1)]) rfl ?_
  obtain ⟨e9, hlt, h9⟩ := pf0
  exact r_callV (As := [.int x1]) (rest := [.int x2]) (ci := 10) moX12_stepsTillGuess dX12_learnsAll_28 mlX12_280 imX12_stepsTillGuess seX12_stepsTillGuess k0 rfl hlt (Nat.le_of_ble_eq_true rfl) h9
theorem gX12_learnsAll_31 {d : Nat} {Q : Option Value → Mem → Prop} {M : Mem} {a0 : Nat} {x1 : Int32} {sx0 : Int32} {sx1 : Int32} (k0 : mK M a0 = 14) (pf0 : ClD d mdX12_wrongFirst [.ref a0, .int x1] M (fun r1 M1 => Wp d mdX12_learnsAll 38 [(0, .ref a0), (1, .int x1), (2, .int (sx1 + sx0))] (r1.toList ++ []) M1 Q)) : Wp d mdX12_learnsAll 31 [(0, .ref a0), (1, .int x1)] [.int sx0, .int sx1] M Q := by
  refine r_iadd dX12_learnsAll_31 ?_
  refine r_istore_n dX12_learnsAll_32 rfl (by decide) (ls' := [(2, .int (sx1 + sx0)), (0, .ref a0), (1, .int x1)]) rfl ?_
  refine r_aload_n dX12_learnsAll_33 rfl 1 rfl ?_
  refine r_iload_n dX12_learnsAll_34 rfl 2 rfl ?_
  refine r_sub [1, 2, 0] (ls' := [(0, .ref a0), (1, .int x1), (2, .int (sx1 + sx0))]) rfl ?_
  obtain ⟨e9, hlt, h9⟩ := pf0
  exact r_callV (As := [.int x1]) (rest := []) (ci := 10) moX12_wrongFirst dX12_learnsAll_35 mlX12_283 imX12_wrongFirst seX12_wrongFirst k0 rfl hlt (Nat.le_of_ble_eq_true rfl) h9
theorem gX12_learnsAll_38 {d : Nat} {Q : Option Value → Mem → Prop} {M : Mem} {a0 : Nat} {x1 : Int32} {x2 : Int32} {sw0 : Int64}  (pw0 : Wp d mdX12_learnsAll 12 [(0, .ref a0), (1, .int x1), (2, .int x2), (3, .long sw0)] [] M Q) : Wp d mdX12_learnsAll 38 [(0, .ref a0), (1, .int x1), (2, .int x2)] [.long sw0] M Q := by
  refine r_lstore_n dX12_learnsAll_38 rfl (by decide) (ls' := [(3, .long sw0), (0, .ref a0), (1, .int x1), (2, .int x2)]) rfl ?_
  refine r_goto (tgt := 12) dX12_learnsAll_39 (by decide) ?_
  refine r_sub [1, 2, 3, 0] (ls' := [(0, .ref a0), (1, .int x1), (2, .int x2), (3, .long sw0)]) rfl ?_
  exact pw0
-- X12_sign
theorem gX12_sign_0 {d : Nat} {Q : Option Value → Mem → Prop} {M : Mem} {a0 : Nat} {x1 : Int32} (k0 : mK M a0 = 14) (pw0 : (mI (sI M a0 0 (nI 0)) a0 30) ≤ (nI 60) → Wp d mdX12_sign 18 [(0, .ref a0), (1, .int x1), (2, .int (nI 0))] [] (sI M a0 0 (nI 0)) Q) (pq1 : ¬ (mI (sI M a0 0 (nI 0)) a0 30) ≤ (nI 60) → Q (some (.int (-1 : Int32))) (sI M a0 0 (nI 0))) : Wp d mdX12_sign 0 [(0, .ref a0), (1, .int x1)] [] M Q := by
  refine r_aload_n dX12_sign_0 rfl 0 rfl ?_
  refine r_iconst (v := (nI 0)) dX12_sign_1 rfl ?_
  refine r_putI ck10 dX12_sign_2 flX12_1 rfl (Or.inl rfl) k0 ?_
  refine r_aload_n dX12_sign_5 rfl 0 rfl ?_
  refine r_getI ck10 dX12_sign_6 flX12_290 rfl k0 ?_
  refine r_bipush (v := (nI 60)) dX12_sign_9 rfl ?_
  refine r_icmp_le (tgt := 16) dX12_sign_11 (by decide) (fun c0 => ?_) (fun c0 => ?_)
  · skip
    refine r_iconst (v := (nI 0)) dX12_sign_16 rfl ?_
    refine r_istore_n dX12_sign_17 rfl (by decide) (ls' := [(2, .int (nI 0)), (0, .ref a0), (1, .int x1)]) rfl ?_
    refine r_sub [1, 2, 0] (ls' := [(0, .ref a0), (1, .int x1), (2, .int (nI 0))]) rfl ?_
    exact (pw0 c0)
  · skip
    refine r_iconst (v := (-1)) dX12_sign_14 rfl ?_
    exact r_ret (some (.int (-1 : Int32))) dX12_sign_15 rfl (pq1 c0)
theorem gX12_sign_18 {d : Nat} {Q : Option Value → Mem → Prop} {M : Mem} {a0 : Nat} {x1 : Int32} {x2 : Int32} (k0 : mK M a0 = 14) (k1 : mK M (mR M a0 29) = 1) (pq0 : (nI 4) ≤ x2 → Q (some (.int (mI (sI M a0 30 ((mI M a0 30) + (nI 4))) a0 30))) (sI M a0 30 ((mI M a0 30) + (nI 4)))) (pb1 : ¬ (nI 4) ≤ x2 → vp_in ((mI M a0 30) + x2) (mN M (mR M a0 29))) (pw2 : ¬ (nI 4) ≤ x2 → Wp d mdX12_sign 18 [(0, .ref a0), (1, .int x1), (2, .int (x2 + (nI 1)))] [] (sI M (mR M a0 29) ((mI M a0 30) + x2).toNatClampNeg ((x1 >>> (((nI 24) - ((nI 8) * x2)) &&& 31)) &&& (nI 255))) Q) : Wp d mdX12_sign 18 [(0, .ref a0), (1, .int x1), (2, .int x2)] [] M Q := by
  refine r_iload_n dX12_sign_18 rfl 2 rfl ?_
  refine r_iconst (v := (nI 4)) dX12_sign_19 rfl ?_
  refine r_icmp_ge (tgt := 53) dX12_sign_20 (by decide) (fun c0 => ?_) (fun c0 => ?_)
  · skip
    refine r_aload_n dX12_sign_53 rfl 0 rfl ?_
    refine r_dup dX12_sign_54 rfl ?_
    refine r_getI ck10 dX12_sign_55 flX12_290 rfl k0 ?_
    refine r_iconst (v := (nI 4)) dX12_sign_58 rfl ?_
    refine r_iadd dX12_sign_59 ?_
    refine r_putI ck10 dX12_sign_60 flX12_290 rfl (Or.inl rfl) k0 ?_
    refine r_aload_n dX12_sign_63 rfl 0 rfl ?_
    refine r_getI ck10 dX12_sign_64 flX12_290 rfl k0 ?_
    exact r_ret (some (.int (mI (sI M a0 30 ((mI M a0 30) + (nI 4))) a0 30))) dX12_sign_67 rfl (pq0 c0)
  · skip
    refine r_aload_n dX12_sign_23 rfl 0 rfl ?_
    refine r_getR ck10 dX12_sign_24 flX12_145 rfl k0 ?_
    refine r_aload_n dX12_sign_27 rfl 0 rfl ?_
    refine r_getI ck10 dX12_sign_28 flX12_290 rfl k0 ?_
    refine r_iload_n dX12_sign_31 rfl 2 rfl ?_
    refine r_iadd dX12_sign_32 ?_
    refine r_iload_n dX12_sign_33 rfl 1 rfl ?_
    refine r_bipush (v := (nI 24)) dX12_sign_34 rfl ?_
    refine r_bipush (v := (nI 8)) dX12_sign_36 rfl ?_
    refine r_iload_n dX12_sign_38 rfl 2 rfl ?_
    refine r_imul dX12_sign_39 ?_
    refine r_isub dX12_sign_40 ?_
    refine r_ishr dX12_sign_41 ?_
    refine r_sipush (v := (nI 255)) dX12_sign_42 rfl ?_
    refine r_iand dX12_sign_45 ?_
    refine r_iast dX12_sign_46 k1 (pb1 c0) ?_
    refine r_iinc dX12_sign_47 2 rfl (v := x2 + (nI 1)) rfl (by decide) (ls' := [(2, .int (x2 + (nI 1))), (0, .ref a0), (1, .int x1)]) rfl ?_
    refine r_goto (tgt := 18) dX12_sign_50 (by decide) ?_
    refine r_sub [1, 2, 0] (ls' := [(0, .ref a0), (1, .int x1), (2, .int (x2 + (nI 1)))]) rfl ?_
    exact (pw2 c0)
-- X12_end
theorem gX12_end_0 {d : Nat} {Q : Option Value → Mem → Prop} {M : Mem} {a0 : Nat} {x1 : Int32} (k0 : mK M a0 = 14) (pf0 : ClD d mdX12_in [.long x1.toInt64, .long (lN 0), .long ((mI (sI M a0 0 (nI 0)) a0 30).toInt64)] (sI M a0 0 (nI 0)) (fun r1 M1 => Wp d mdX12_end 16 [(0, .ref a0), (1, .int x1)] (r1.toList ++ []) M1 Q)) : Wp d mdX12_end 0 [(0, .ref a0), (1, .int x1)] [] M Q := by
  refine r_aload_n dX12_end_0 rfl 0 rfl ?_
  refine r_iconst (v := (nI 0)) dX12_end_1 rfl ?_
  refine r_putI ck10 dX12_end_2 flX12_1 rfl (Or.inl rfl) k0 ?_
  refine r_iload_n dX12_end_5 rfl 1 rfl ?_
  refine r_i2l dX12_end_6 ?_
  refine r_lconst (v := (lN 0)) dX12_end_7 rfl ?_
  refine r_aload_n dX12_end_8 rfl 0 rfl ?_
  refine r_getI ck10 dX12_end_9 flX12_290 rfl k0 ?_
  refine r_i2l dX12_end_12 ?_
  obtain ⟨e9, hlt, h9⟩ := pf0
  exact r_callS (As := [.long x1.toInt64, .long (lN 0), .long ((mI (sI M a0 0 (nI 0)) a0 30).toInt64)]) (rest := []) moX12_in dX12_end_13 mlX12_24 saX12_in rfl hlt (Nat.le_of_ble_eq_true rfl) h9
theorem gX12_end_16 {d : Nat} {Q : Option Value → Mem → Prop} {M : Mem} {a0 : Nat} {x1 : Int32} {sx0 : Int32} (k0 : mK M a0 = 14) (pq0 : ¬ sx0 = 0 → Q (some (.int (nI 1))) (sI M a0 30 x1)) (pq1 : sx0 = 0 → Q (some (.int (nI 0))) M) : Wp d mdX12_end 16 [(0, .ref a0), (1, .int x1)] [.int sx0] M Q := by
  refine r_if_ne (tgt := 21) dX12_end_16 (by decide) (fun c0 => ?_) (fun c0 => ?_)
  · skip
    refine r_aload_n dX12_end_21 rfl 0 rfl ?_
    refine r_iload_n dX12_end_22 rfl 1 rfl ?_
    refine r_putI ck10 dX12_end_23 flX12_290 rfl (Or.inl rfl) k0 ?_
    refine r_iconst (v := (nI 1)) dX12_end_26 rfl ?_
    exact r_ret (some (.int (nI 1))) dX12_end_27 rfl (pq0 c0)
  · skip
    refine r_iconst (v := (nI 0)) dX12_end_19 rfl ?_
    exact r_ret (some (.int (nI 0))) dX12_end_20 rfl (pq1 c0)
-- X12_takes
theorem gX12_takes_0 {d : Nat} {Q : Option Value → Mem → Prop} {M : Mem} {a0 : Nat} {x1 : Int32} (k0 : mK M a0 = 14) (k1 : mK M (mR M a0 29) = 1) (pq0 : (mI M a0 32) ≤ (mI M a0 31) → Q (some (.int (nI 0))) M) (pb1 : ¬ (mI M a0 32) ≤ (mI M a0 31) → vp_in (mI M a0 31) (mN M (mR M a0 29))) (pq2 : ¬ (mI M a0 32) ≤ (mI M a0 31) → (mI M (mR M a0 29) (mI M a0 31).toNatClampNeg) = x1 → Q (some (.int (nI 1))) (sI M a0 31 ((mI M a0 31) + (nI 1)))) (pq3 : ¬ (mI M a0 32) ≤ (mI M a0 31) → ¬ (mI M (mR M a0 29) (mI M a0 31).toNatClampNeg) = x1 → Q (some (.int (nI 0))) M) : Wp d mdX12_takes 0 [(0, .ref a0), (1, .int x1)] [] M Q := by
  refine r_aload_n dX12_takes_0 rfl 0 rfl ?_
  refine r_getI ck10 dX12_takes_1 flX12_293 rfl k0 ?_
  refine r_aload_n dX12_takes_4 rfl 0 rfl ?_
  refine r_getI ck10 dX12_takes_5 flX12_296 rfl k0 ?_
  refine r_icmp_ge (tgt := 24) dX12_takes_8 (by decide) (fun c0 => ?_) (fun c0 => ?_)
  · skip
    refine r_iconst (v := (nI 0)) dX12_takes_24 rfl ?_
    exact r_ret (some (.int (nI 0))) dX12_takes_25 rfl (pq0 c0)
  · skip
    refine r_aload_n dX12_takes_11 rfl 0 rfl ?_
    refine r_getR ck10 dX12_takes_12 flX12_145 rfl k0 ?_
    refine r_aload_n dX12_takes_15 rfl 0 rfl ?_
    refine r_getI ck10 dX12_takes_16 flX12_293 rfl k0 ?_
    refine r_iald dX12_takes_19 k1 (pb1 c0) ?_
    refine r_iload_n dX12_takes_20 rfl 1 rfl ?_
    refine r_icmp_eq (tgt := 26) dX12_takes_21 (by decide) (fun c1 => ?_) (fun c1 => ?_)
    · skip
      refine r_aload_n dX12_takes_26 rfl 0 rfl ?_
      refine r_dup dX12_takes_27 rfl ?_
      refine r_getI ck10 dX12_takes_28 flX12_293 rfl k0 ?_
      refine r_iconst (v := (nI 1)) dX12_takes_31 rfl ?_
      refine r_iadd dX12_takes_32 ?_
      refine r_putI ck10 dX12_takes_33 flX12_293 rfl (Or.inl rfl) k0 ?_
      refine r_iconst (v := (nI 1)) dX12_takes_36 rfl ?_
      exact r_ret (some (.int (nI 1))) dX12_takes_37 rfl (pq2 c0 c1)
    · skip
      refine r_iconst (v := (nI 0)) dX12_takes_24 rfl ?_
      exact r_ret (some (.int (nI 0))) dX12_takes_25 rfl (pq3 c0 c1)
-- X12_takesDigit
theorem gX12_takesDigit_0 {d : Nat} {Q : Option Value → Mem → Prop} {M : Mem} {a0 : Nat} {x1 : Int32} (k0 : mK M a0 = 14) (k1 : mK M (mR M a0 29) = 1) (pq0 : (mI M a0 32) ≤ (mI M a0 31) → Q (some (.int (nI 0))) M) (pb1 : ¬ (mI M a0 32) ≤ (mI M a0 31) → vp_in (mI M a0 31) (mN M (mR M a0 29))) (pf2 : ¬ (mI M a0 32) ≤ (mI M a0 31) → ClD d mdX12_in [.long (((mI M (mR M a0 29) (mI M a0 31).toNatClampNeg) - (nI 48)).toInt64), .long (lN 0), .long x1.toInt64] M (fun r1 M1 => Wp d mdX12_takesDigit 30 [(0, .ref a0)] (r1.toList ++ []) M1 Q)) : Wp d mdX12_takesDigit 0 [(0, .ref a0), (1, .int x1)] [] M Q := by
  refine r_aload_n dX12_takesDigit_0 rfl 0 rfl ?_
  refine r_getI ck10 dX12_takesDigit_1 flX12_293 rfl k0 ?_
  refine r_aload_n dX12_takesDigit_4 rfl 0 rfl ?_
  refine r_getI ck10 dX12_takesDigit_5 flX12_296 rfl k0 ?_
  refine r_icmp_ge (tgt := 33) dX12_takesDigit_8 (by decide) (fun c0 => ?_) (fun c0 => ?_)
  · skip
    refine r_iconst (v := (nI 0)) dX12_takesDigit_33 rfl ?_
    exact r_ret (some (.int (nI 0))) dX12_takesDigit_34 rfl (pq0 c0)
  · skip
    refine r_aload_n dX12_takesDigit_11 rfl 0 rfl ?_
    refine r_getR ck10 dX12_takesDigit_12 flX12_145 rfl k0 ?_
    refine r_aload_n dX12_takesDigit_15 rfl 0 rfl ?_
    refine r_getI ck10 dX12_takesDigit_16 flX12_293 rfl k0 ?_
    refine r_iald dX12_takesDigit_19 k1 (pb1 c0) ?_
    refine r_bipush (v := (nI 48)) dX12_takesDigit_20 rfl ?_
    refine r_isub dX12_takesDigit_22 ?_
    refine r_i2l dX12_takesDigit_23 ?_
    refine r_lconst (v := (lN 0)) dX12_takesDigit_24 rfl ?_
    refine r_iload_n dX12_takesDigit_25 rfl 1 rfl ?_
    refine r_i2l dX12_takesDigit_26 ?_
    refine r_sub [0] (ls' := [(0, .ref a0)]) rfl ?_
    obtain ⟨e9, hlt, h9⟩ := (pf2 c0)
    exact r_callS (As := [.long (((mI M (mR M a0 29) (mI M a0 31).toNatClampNeg) - (nI 48)).toInt64), .long (lN 0), .long x1.toInt64]) (rest := []) moX12_in dX12_takesDigit_27 mlX12_24 saX12_in rfl hlt (Nat.le_of_ble_eq_true rfl) h9
theorem gX12_takesDigit_30 {d : Nat} {Q : Option Value → Mem → Prop} {M : Mem} {a0 : Nat} {sx0 : Int32} (k0 : mK M a0 = 14) (k1 : mK M (mR M a0 29) = 1) (pb0 : ¬ sx0 = 0 → vp_in (mI M a0 31) (mN M (mR M a0 29))) (pq1 : ¬ sx0 = 0 → Q (some (.int (nI 1))) (sI (sI M a0 33 ((mI M (mR M a0 29) (mI M a0 31).toNatClampNeg) - (nI 48))) a0 31 ((mI (sI M a0 33 ((mI M (mR M a0 29) (mI M a0 31).toNatClampNeg) - (nI 48))) a0 31) + (nI 1)))) (pq2 : sx0 = 0 → Q (some (.int (nI 0))) M) : Wp d mdX12_takesDigit 30 [(0, .ref a0)] [.int sx0] M Q := by
  refine r_if_ne (tgt := 35) dX12_takesDigit_30 (by decide) (fun c0 => ?_) (fun c0 => ?_)
  · skip
    refine r_aload_n dX12_takesDigit_35 rfl 0 rfl ?_
    refine r_aload_n dX12_takesDigit_36 rfl 0 rfl ?_
    refine r_getR ck10 dX12_takesDigit_37 flX12_145 rfl k0 ?_
    refine r_aload_n dX12_takesDigit_40 rfl 0 rfl ?_
    refine r_getI ck10 dX12_takesDigit_41 flX12_293 rfl k0 ?_
    refine r_iald dX12_takesDigit_44 k1 (pb0 c0) ?_
    refine r_bipush (v := (nI 48)) dX12_takesDigit_45 rfl ?_
    refine r_isub dX12_takesDigit_47 ?_
    refine r_putI ck10 dX12_takesDigit_48 flX12_299 rfl (Or.inl rfl) k0 ?_
    refine r_aload_n dX12_takesDigit_51 rfl 0 rfl ?_
    refine r_dup dX12_takesDigit_52 rfl ?_
    refine r_getI ck10 dX12_takesDigit_53 flX12_293 rfl k0 ?_
    refine r_iconst (v := (nI 1)) dX12_takesDigit_56 rfl ?_
    refine r_iadd dX12_takesDigit_57 ?_
    refine r_putI ck10 dX12_takesDigit_58 flX12_293 rfl (Or.inl rfl) k0 ?_
    refine r_iconst (v := (nI 1)) dX12_takesDigit_61 rfl ?_
    exact r_ret (some (.int (nI 1))) dX12_takesDigit_62 rfl (pq1 c0)
  · skip
    refine r_iconst (v := (nI 0)) dX12_takesDigit_33 rfl ?_
    exact r_ret (some (.int (nI 0))) dX12_takesDigit_34 rfl (pq2 c0)
-- X12_readsState
theorem gX12_readsState_0 {d : Nat} {Q : Option Value → Mem → Prop} {M : Mem} {a0 : Nat} {x1 : Int32} (k0 : mK M a0 = 14) (pf0 : ClD d mdX12_takesDigit [.ref a0, .int (nI 3)] M (fun r1 M1 => Wp d mdX12_readsState 5 [(0, .ref a0), (1, .int x1)] (r1.toList ++ []) M1 Q)) : Wp d mdX12_readsState 0 [(0, .ref a0), (1, .int x1)] [] M Q := by
  refine r_aload_n dX12_readsState_0 rfl 0 rfl ?_
  refine r_iconst (v := (nI 3)) dX12_readsState_1 rfl ?_
  obtain ⟨e9, hlt, h9⟩ := pf0
  exact r_callV (As := [.int (nI 3)]) (rest := []) (ci := 10) moX12_takesDigit dX12_readsState_2 mlX12_302 imX12_takesDigit seX12_takesDigit k0 rfl hlt (Nat.le_of_ble_eq_true rfl) h9
theorem gX12_readsState_5 {d : Nat} {Q : Option Value → Mem → Prop} {M : Mem} {a0 : Nat} {x1 : Int32} {sx0 : Int32} (k0 : mK M a0 = 14) (k1 : mK M (mR M a0 34) = 1) (pb0 : ¬ sx0 = 0 → vp_in x1 (mN M (mR M a0 34))) (pf1 : ¬ sx0 = 0 → ClD d mdX12_takes [.ref a0, .int (nI 58)] (sI M (mR M a0 34) x1.toNatClampNeg (mI M a0 33)) (fun r1 M1 => Wp d mdX12_readsState 26 [(0, .ref a0), (1, .int x1)] (r1.toList ++ []) M1 Q)) (pq2 : sx0 = 0 → Q (some (.int (nI 0))) M) : Wp d mdX12_readsState 5 [(0, .ref a0), (1, .int x1)] [.int sx0] M Q := by
  refine r_if_ne (tgt := 10) dX12_readsState_5 (by decide) (fun c0 => ?_) (fun c0 => ?_)
  · skip
    refine r_aload_n dX12_readsState_10 rfl 0 rfl ?_
    refine r_getR ck10 dX12_readsState_11 flX12_148 rfl k0 ?_
    refine r_iload_n dX12_readsState_14 rfl 1 rfl ?_
    refine r_aload_n dX12_readsState_15 rfl 0 rfl ?_
    refine r_getI ck10 dX12_readsState_16 flX12_299 rfl k0 ?_
    refine r_iast dX12_readsState_19 k1 (pb0 c0) ?_
    refine r_aload_n dX12_readsState_20 rfl 0 rfl ?_
    refine r_bipush (v := (nI 58)) dX12_readsState_21 rfl ?_
    obtain ⟨e9, hlt, h9⟩ := (pf1 c0)
    exact r_callV (As := [.int (nI 58)]) (rest := []) (ci := 10) moX12_takes dX12_readsState_23 mlX12_305 imX12_takes seX12_takes k0 rfl hlt (Nat.le_of_ble_eq_true rfl) h9
  · skip
    refine r_iconst (v := (nI 0)) dX12_readsState_8 rfl ?_
    exact r_ret (some (.int (nI 0))) dX12_readsState_9 rfl (pq2 c0)
theorem gX12_readsState_26 {d : Nat} {Q : Option Value → Mem → Prop} {M : Mem} {a0 : Nat} {x1 : Int32} {sx0 : Int32}  (pw0 : ¬ sx0 = 0 → Wp d mdX12_readsState 35 [(0, .ref a0), (1, .int x1), (2, .int (nI 0)), (3, .int (nI 1))] [] M Q) (pq1 : sx0 = 0 → Q (some (.int (nI 0))) M) : Wp d mdX12_readsState 26 [(0, .ref a0), (1, .int x1)] [.int sx0] M Q := by
  refine r_if_ne (tgt := 31) dX12_readsState_26 (by decide) (fun c0 => ?_) (fun c0 => ?_)
  · skip
    refine r_iconst (v := (nI 0)) dX12_readsState_31 rfl ?_
    refine r_istore_n dX12_readsState_32 rfl (by decide) (ls' := [(2, .int (nI 0)), (0, .ref a0), (1, .int x1)]) rfl ?_
    refine r_iconst (v := (nI 1)) dX12_readsState_33 rfl ?_
    refine r_istore_n dX12_readsState_34 rfl (by decide) (ls' := [(3, .int (nI 1)), (2, .int (nI 0)), (0, .ref a0), (1, .int x1)]) rfl ?_
    refine r_sub [2, 3, 1, 0] (ls' := [(0, .ref a0), (1, .int x1), (2, .int (nI 0)), (3, .int (nI 1))]) rfl ?_
    exact (pw0 c0)
  · skip
    refine r_iconst (v := (nI 0)) dX12_readsState_29 rfl ?_
    exact r_ret (some (.int (nI 0))) dX12_readsState_30 rfl (pq1 c0)
theorem gX12_readsState_35 {d : Nat} {Q : Option Value → Mem → Prop} {M : Mem} {a0 : Nat} {x1 : Int32} {x2 : Int32} {x3 : Int32} (k0 : mK M a0 = 14) (pq0 : x3 = 0 → Q (some (.int (nI 1))) (sI M a0 36 x2)) (pf1 : ¬ x3 = 0 → ClD d mdX12_takesDigit [.ref a0, .int (nI 7)] M (fun r1 M1 => Wp d mdX12_readsState 45 [(0, .ref a0), (1, .int x1), (2, .int x2)] (r1.toList ++ []) M1 Q)) : Wp d mdX12_readsState 35 [(0, .ref a0), (1, .int x1), (2, .int x2), (3, .int x3)] [] M Q := by
  refine r_iload_n dX12_readsState_35 rfl 3 rfl ?_
  refine r_if_eq (tgt := 126) dX12_readsState_36 (by decide) (fun c0 => ?_) (fun c0 => ?_)
  · skip
    refine r_aload_n dX12_readsState_126 rfl 0 rfl ?_
    refine r_iload_n dX12_readsState_127 rfl 2 rfl ?_
    refine r_putI ck10 dX12_readsState_128 flX12_308 rfl (Or.inl rfl) k0 ?_
    refine r_iconst (v := (nI 1)) dX12_readsState_131 rfl ?_
    exact r_ret (some (.int (nI 1))) dX12_readsState_132 rfl (pq0 c0)
  · skip
    refine r_aload_n dX12_readsState_39 rfl 0 rfl ?_
    refine r_bipush (v := (nI 7)) dX12_readsState_40 rfl ?_
    refine r_sub [0, 1, 2] (ls' := [(0, .ref a0), (1, .int x1), (2, .int x2)]) rfl ?_
    obtain ⟨e9, hlt, h9⟩ := (pf1 c0)
    exact r_callV (As := [.int (nI 7)]) (rest := []) (ci := 10) moX12_takesDigit dX12_readsState_42 mlX12_302 imX12_takesDigit seX12_takesDigit k0 rfl hlt (Nat.le_of_ble_eq_true rfl) h9
theorem gX12_readsState_45 {d : Nat} {Q : Option Value → Mem → Prop} {M : Mem} {a0 : Nat} {x1 : Int32} {x2 : Int32} {sx0 : Int32} (k0 : mK M a0 = 14) (k1 : mK M (mR M a0 35) = 1) (pb0 : ¬ sx0 = 0 → vp_in (((nI 3) * x1) + x2) (mN M (mR M a0 35))) (pw1 : ¬ sx0 = 0 → ¬ x1 = 0 → (mI (sI M (mR M a0 35) (((nI 3) * x1) + x2).toNatClampNeg (mI M a0 33)) a0 36) ≤ (x2 + (nI 1)) → Wp d mdX12_readsState 106 [(0, .ref a0), (1, .int x1), (2, .int (x2 + (nI 1)))] [.int (nI 0)] (sI M (mR M a0 35) (((nI 3) * x1) + x2).toNatClampNeg (mI M a0 33)) Q) (pw2 : ¬ sx0 = 0 → ¬ x1 = 0 → ¬ (mI (sI M (mR M a0 35) (((nI 3) * x1) + x2).toNatClampNeg (mI M a0 33)) a0 36) ≤ (x2 + (nI 1)) → Wp d mdX12_readsState 106 [(0, .ref a0), (1, .int x1), (2, .int (x2 + (nI 1)))] [.int (nI 1)] (sI M (mR M a0 35) (((nI 3) * x1) + x2).toNatClampNeg (mI M a0 33)) Q) (pw3 : ¬ sx0 = 0 → x1 = 0 → (nI 3) ≤ (x2 + (nI 1)) → Wp d mdX12_readsState 106 [(0, .ref a0), (1, .int x1), (2, .int (x2 + (nI 1)))] [.int (nI 0)] (sI M (mR M a0 35) (((nI 3) * x1) + x2).toNatClampNeg (mI M a0 33)) Q) (pf4 : ¬ sx0 = 0 → x1 = 0 → ¬ (nI 3) ≤ (x2 + (nI 1)) → ClD d mdX12_takes [.ref a0, .int (nI 44)] (sI M (mR M a0 35) (((nI 3) * x1) + x2).toNatClampNeg (mI M a0 33)) (fun r1 M1 => Wp d mdX12_readsState 82 [(0, .ref a0), (1, .int x1), (2, .int (x2 + (nI 1)))] (r1.toList ++ []) M1 Q)) (pq5 : sx0 = 0 → Q (some (.int (nI 0))) M) : Wp d mdX12_readsState 45 [(0, .ref a0), (1, .int x1), (2, .int x2)] [.int sx0] M Q := by
  refine r_if_ne (tgt := 50) dX12_readsState_45 (by decide) (fun c0 => ?_) (fun c0 => ?_)
  · skip
    refine r_aload_n dX12_readsState_50 rfl 0 rfl ?_
    refine r_getR ck10 dX12_readsState_51 flX12_151 rfl k0 ?_
    refine r_iconst (v := (nI 3)) dX12_readsState_54 rfl ?_
    refine r_iload_n dX12_readsState_55 rfl 1 rfl ?_
    refine r_imul dX12_readsState_56 ?_
    refine r_iload_n dX12_readsState_57 rfl 2 rfl ?_
    refine r_iadd dX12_readsState_58 ?_
    refine r_aload_n dX12_readsState_59 rfl 0 rfl ?_
    refine r_getI ck10 dX12_readsState_60 flX12_299 rfl k0 ?_
    refine r_iast dX12_readsState_63 k1 (pb0 c0) ?_
    refine r_iinc dX12_readsState_64 2 rfl (v := x2 + (nI 1)) rfl (by decide) (ls' := [(2, .int (x2 + (nI 1))), (0, .ref a0), (1, .int x1)]) rfl ?_
    refine r_iload_n dX12_readsState_67 rfl 2 rfl ?_
    refine r_if_ne (tgt := 93) dX12_readsState_68 (by decide) (fun c1 => ?_) (fun c1 => ?_)
    · skip
      refine r_iload_n dX12_readsState_93 rfl 0 rfl ?_
      refine r_aload_n dX12_readsState_94 rfl 1 rfl ?_
      refine r_getI ck10 dX12_readsState_95 flX12_308 rfl k0 ?_
      refine r_icmp_ge (tgt := 105) dX12_readsState_98 (by decide) (fun c2 => ?_) (fun c2 => ?_)
      · skip
        refine r_iconst (v := (nI 0)) dX12_readsState_105 rfl ?_
        refine r_sub [1, 2, 0] (ls' := [(0, .ref a0), (1, .int x1), (2, .int (x2 + (nI 1)))]) rfl ?_
        exact (pw1 c0 c1 c2)
      · skip
        refine r_iconst (v := (nI 1)) dX12_readsState_101 rfl ?_
        refine r_goto (tgt := 106) dX12_readsState_102 (by decide) ?_
        refine r_sub [1, 2, 0] (ls' := [(0, .ref a0), (1, .int x1), (2, .int (x2 + (nI 1)))]) rfl ?_
        exact (pw2 c0 c1 c2)
    · skip
      refine r_iload_n dX12_readsState_71 rfl 0 rfl ?_
      refine r_iconst (v := (nI 3)) dX12_readsState_72 rfl ?_
      refine r_icmp_ge (tgt := 89) dX12_readsState_73 (by decide) (fun c2 => ?_) (fun c2 => ?_)
      · skip
        refine r_iconst (v := (nI 0)) dX12_readsState_89 rfl ?_
        refine r_goto (tgt := 106) dX12_readsState_90 (by decide) ?_
        refine r_sub [1, 2, 0] (ls' := [(0, .ref a0), (1, .int x1), (2, .int (x2 + (nI 1)))]) rfl ?_
        exact (pw3 c0 c1 c2)
      · skip
        refine r_aload_n dX12_readsState_76 rfl 1 rfl ?_
        refine r_bipush (v := (nI 44)) dX12_readsState_77 rfl ?_
        refine r_sub [1, 2, 0] (ls' := [(0, .ref a0), (1, .int x1), (2, .int (x2 + (nI 1)))]) rfl ?_
        obtain ⟨e9, hlt, h9⟩ := (pf4 c0 c1 c2)
        exact r_callV (As := [.int (nI 44)]) (rest := []) (ci := 10) moX12_takes dX12_readsState_79 mlX12_305 imX12_takes seX12_takes k0 rfl hlt (Nat.le_of_ble_eq_true rfl) h9
  · skip
    refine r_iconst (v := (nI 0)) dX12_readsState_48 rfl ?_
    exact r_ret (some (.int (nI 0))) dX12_readsState_49 rfl (pq5 c0)
theorem gX12_readsState_82 {d : Nat} {Q : Option Value → Mem → Prop} {M : Mem} {a0 : Nat} {x1 : Int32} {x2 : Int32} {sx0 : Int32}  (pw0 : sx0 = 0 → Wp d mdX12_readsState 106 [(0, .ref a0), (1, .int x1), (2, .int x2)] [.int (nI 0)] M Q) (pw1 : ¬ sx0 = 0 → Wp d mdX12_readsState 106 [(0, .ref a0), (1, .int x1), (2, .int x2)] [.int (nI 1)] M Q) : Wp d mdX12_readsState 82 [(0, .ref a0), (1, .int x1), (2, .int x2)] [.int sx0] M Q := by
  refine r_if_eq (tgt := 89) dX12_readsState_82 (by decide) (fun c0 => ?_) (fun c0 => ?_)
  · skip
    refine r_iconst (v := (nI 0)) dX12_readsState_89 rfl ?_
    refine r_goto (tgt := 106) dX12_readsState_90 (by decide) ?_
    exact (pw0 c0)
  · skip
    refine r_iconst (v := (nI 1)) dX12_readsState_85 rfl ?_
    refine r_goto (tgt := 106) dX12_readsState_86 (by decide) ?_
    exact (pw1 c0)
theorem gX12_readsState_106 {d : Nat} {Q : Option Value → Mem → Prop} {M : Mem} {a0 : Nat} {x1 : Int32} {x2 : Int32} {sx0 : Int32} (k0 : mK M a0 = 14) (pw0 : x1 ≤ 0 → Wp d mdX12_readsState 35 [(0, .ref a0), (1, .int x1), (2, .int x2), (3, .int sx0)] [] M Q) (pw1 : ¬ x1 ≤ 0 → sx0 = 0 → Wp d mdX12_readsState 35 [(0, .ref a0), (1, .int x1), (2, .int x2), (3, .int sx0)] [] M Q) (pf2 : ¬ x1 ≤ 0 → ¬ sx0 = 0 → ClD d mdX12_takes [.ref a0, .int (nI 44)] M (fun r1 M1 => Wp d mdX12_readsState 121 [(0, .ref a0), (1, .int x1), (2, .int x2), (3, .int sx0)] (r1.toList ++ []) M1 Q)) : Wp d mdX12_readsState 106 [(0, .ref a0), (1, .int x1), (2, .int x2)] [.int sx0] M Q := by
  refine r_istore_n dX12_readsState_106 rfl (by decide) (ls' := [(3, .int sx0), (0, .ref a0), (1, .int x1), (2, .int x2)]) rfl ?_
  refine r_iload_n dX12_readsState_107 rfl 2 rfl ?_
  refine r_if_le (tgt := 35) dX12_readsState_108 (by decide) (fun c0 => ?_) (fun c0 => ?_)
  · skip
    refine r_sub [1, 2, 3, 0] (ls' := [(0, .ref a0), (1, .int x1), (2, .int x2), (3, .int sx0)]) rfl ?_
    exact (pw0 c0)
  · skip
    refine r_iload_n dX12_readsState_111 rfl 0 rfl ?_
    refine r_if_eq (tgt := 35) dX12_readsState_112 (by decide) (fun c1 => ?_) (fun c1 => ?_)
    · skip
      refine r_sub [1, 2, 3, 0] (ls' := [(0, .ref a0), (1, .int x1), (2, .int x2), (3, .int sx0)]) rfl ?_
      exact (pw1 c0 c1)
    · skip
      refine r_aload_n dX12_readsState_115 rfl 1 rfl ?_
      refine r_bipush (v := (nI 44)) dX12_readsState_116 rfl ?_
      refine r_sub [1, 2, 3, 0] (ls' := [(0, .ref a0), (1, .int x1), (2, .int x2), (3, .int sx0)]) rfl ?_
      obtain ⟨e9, hlt, h9⟩ := (pf2 c0 c1)
      exact r_callV (As := [.int (nI 44)]) (rest := []) (ci := 10) moX12_takes dX12_readsState_118 mlX12_305 imX12_takes seX12_takes k0 rfl hlt (Nat.le_of_ble_eq_true rfl) h9
theorem gX12_readsState_121 {d : Nat} {Q : Option Value → Mem → Prop} {M : Mem} {a0 : Nat} {x1 : Int32} {x2 : Int32} {x3 : Int32} {sx0 : Int32}  (pw0 : ¬ sx0 = 0 → Wp d mdX12_readsState 35 [(0, .ref a0), (1, .int x1), (2, .int x2), (3, .int x3)] [] M Q) (pq1 : sx0 = 0 → Q (some (.int (nI 0))) M) : Wp d mdX12_readsState 121 [(0, .ref a0), (1, .int x1), (2, .int x2), (3, .int x3)] [.int sx0] M Q := by
  refine r_if_ne (tgt := 35) dX12_readsState_121 (by decide) (fun c0 => ?_) (fun c0 => ?_)
  · skip
    exact (pw0 c0)
  · skip
    refine r_iconst (v := (nI 0)) dX12_readsState_124 rfl ?_
    exact r_ret (some (.int (nI 0))) dX12_readsState_125 rfl (pq1 c0)
-- X12_machine
theorem gX12_machine_0 {d : Nat} {Q : Option Value → Mem → Prop} {M : Mem} {a0 : Nat} (k0 : mK M a0 = 14) (pw0 : Wp d mdX12_machine 27 [(0, .ref a0), (1, .int (nI 0)), (2, .int (nI 1))] [] (sI (sI (sI (sI M a0 0 (nI 0)) a0 32 (mI (sI M a0 0 (nI 0)) a0 30)) a0 30 (nI 0)) a0 31 (nI 0)) Q) : Wp d mdX12_machine 0 [(0, .ref a0)] [] M Q := by
  refine r_aload_n dX12_machine_0 rfl 0 rfl ?_
  refine r_iconst (v := (nI 0)) dX12_machine_1 rfl ?_
  refine r_putI ck10 dX12_machine_2 flX12_1 rfl (Or.inl rfl) k0 ?_
  refine r_aload_n dX12_machine_5 rfl 0 rfl ?_
  refine r_aload_n dX12_machine_6 rfl 0 rfl ?_
  refine r_getI ck10 dX12_machine_7 flX12_290 rfl k0 ?_
  refine r_putI ck10 dX12_machine_10 flX12_296 rfl (Or.inl rfl) k0 ?_
  refine r_aload_n dX12_machine_13 rfl 0 rfl ?_
  refine r_iconst (v := (nI 0)) dX12_machine_14 rfl ?_
  refine r_putI ck10 dX12_machine_15 flX12_290 rfl (Or.inl rfl) k0 ?_
  refine r_aload_n dX12_machine_18 rfl 0 rfl ?_
  refine r_iconst (v := (nI 0)) dX12_machine_19 rfl ?_
  refine r_putI ck10 dX12_machine_20 flX12_293 rfl (Or.inl rfl) k0 ?_
  refine r_iconst (v := (nI 0)) dX12_machine_23 rfl ?_
  refine r_istore_n dX12_machine_24 rfl (by decide) (ls' := [(1, .int (nI 0)), (0, .ref a0)]) rfl ?_
  refine r_iconst (v := (nI 1)) dX12_machine_25 rfl ?_
  refine r_istore_n dX12_machine_26 rfl (by decide) (ls' := [(2, .int (nI 1)), (1, .int (nI 0)), (0, .ref a0)]) rfl ?_
  refine r_sub [2, 1, 0] (ls' := [(0, .ref a0), (1, .int (nI 0)), (2, .int (nI 1))]) rfl ?_
  exact pw0
theorem gX12_machine_27 {d : Nat} {Q : Option Value → Mem → Prop} {M : Mem} {a0 : Nat} {x1 : Int32} {x2 : Int32} (k0 : mK M a0 = 14) (pw0 : x2 = 0 → (mI M a0 32) ≤ (mI M a0 31) → Wp d mdX12_machine 95 [(0, .ref a0), (1, .int x1), (3, .int (nI 0))] [] M Q) (pq1 : x2 = 0 → ¬ (mI M a0 32) ≤ (mI M a0 31) → Q (some (.int ((-21 : Int32) - (mI M a0 31)))) M) (pf2 : ¬ x2 = 0 → ClD d mdX12_readsState [.ref a0, .int x1] M (fun r1 M1 => Wp d mdX12_machine 36 [(0, .ref a0), (1, .int x1)] (r1.toList ++ []) M1 Q)) : Wp d mdX12_machine 27 [(0, .ref a0), (1, .int x1), (2, .int x2)] [] M Q := by
  refine r_iload_n dX12_machine_27 rfl 2 rfl ?_
  refine r_if_eq (tgt := 74) dX12_machine_28 (by decide) (fun c0 => ?_) (fun c0 => ?_)
  · skip
    refine r_aload_n dX12_machine_74 rfl 0 rfl ?_
    refine r_getI ck10 dX12_machine_75 flX12_293 rfl k0 ?_
    refine r_aload_n dX12_machine_78 rfl 0 rfl ?_
    refine r_getI ck10 dX12_machine_79 flX12_296 rfl k0 ?_
    refine r_icmp_ge (tgt := 93) dX12_machine_82 (by decide) (fun c1 => ?_) (fun c1 => ?_)
    · skip
      refine r_iconst (v := (nI 0)) dX12_machine_93 rfl ?_
      refine r_istore_n dX12_machine_94 rfl (by decide) (ls' := [(3, .int (nI 0)), (0, .ref a0), (1, .int x1), (2, .int x2)]) rfl ?_
      refine r_sub [1, 2, 0] (ls' := [(0, .ref a0), (1, .int x1), (3, .int (nI 0))]) rfl ?_
      exact (pw0 c0 c1)
    · skip
      refine r_bipush (v := (-21)) dX12_machine_85 rfl ?_
      refine r_aload_n dX12_machine_87 rfl 0 rfl ?_
      refine r_getI ck10 dX12_machine_88 flX12_293 rfl k0 ?_
      refine r_isub dX12_machine_91 ?_
      exact r_ret (some (.int ((-21 : Int32) - (mI M a0 31)))) dX12_machine_92 rfl (pq1 c0 c1)
  · skip
    refine r_aload_n dX12_machine_31 rfl 0 rfl ?_
    refine r_iload_n dX12_machine_32 rfl 1 rfl ?_
    refine r_sub [0, 1] (ls' := [(0, .ref a0), (1, .int x1)]) rfl ?_
    obtain ⟨e9, hlt, h9⟩ := (pf2 c0)
    exact r_callV (As := [.int x1]) (rest := []) (ci := 10) moX12_readsState dX12_machine_33 mlX12_311 imX12_readsState seX12_readsState k0 rfl hlt (Nat.le_of_ble_eq_true rfl) h9
theorem gX12_machine_36 {d : Nat} {Q : Option Value → Mem → Prop} {M : Mem} {a0 : Nat} {x1 : Int32} {sx0 : Int32} (k0 : mK M a0 = 14) (pw0 : ¬ sx0 = 0 → (nI 8) ≤ (x1 + (nI 1)) → Wp d mdX12_machine 27 [(0, .ref a0), (1, .int (x1 + (nI 1))), (2, .int (nI 0))] [] M Q) (pf1 : ¬ sx0 = 0 → ¬ (nI 8) ≤ (x1 + (nI 1)) → ClD d mdX12_takes [.ref a0, .int (nI 59)] M (fun r1 M1 => Wp d mdX12_machine 62 [(0, .ref a0), (1, .int (x1 + (nI 1)))] (r1.toList ++ []) M1 Q)) (pq2 : sx0 = 0 → Q (some (.int ((-21 : Int32) - (mI M a0 31)))) M) : Wp d mdX12_machine 36 [(0, .ref a0), (1, .int x1)] [.int sx0] M Q := by
  refine r_if_ne (tgt := 47) dX12_machine_36 (by decide) (fun c0 => ?_) (fun c0 => ?_)
  · skip
    refine r_iinc dX12_machine_47 1 rfl (v := x1 + (nI 1)) rfl (by decide) (ls' := [(1, .int (x1 + (nI 1))), (0, .ref a0)]) rfl ?_
    refine r_iload_n dX12_machine_50 rfl 0 rfl ?_
    refine r_bipush (v := (nI 8)) dX12_machine_51 rfl ?_
    refine r_icmp_ge (tgt := 69) dX12_machine_53 (by decide) (fun c1 => ?_) (fun c1 => ?_)
    · skip
      refine r_iconst (v := (nI 0)) dX12_machine_69 rfl ?_
      refine r_istore_n dX12_machine_70 rfl (by decide) (ls' := [(2, .int (nI 0)), (1, .int (x1 + (nI 1))), (0, .ref a0)]) rfl ?_
      refine r_goto (tgt := 27) dX12_machine_71 (by decide) ?_
      refine r_sub [2, 1, 0] (ls' := [(0, .ref a0), (1, .int (x1 + (nI 1))), (2, .int (nI 0))]) rfl ?_
      exact (pw0 c0 c1)
    · skip
      refine r_aload_n dX12_machine_56 rfl 1 rfl ?_
      refine r_bipush (v := (nI 59)) dX12_machine_57 rfl ?_
      refine r_sub [1, 0] (ls' := [(0, .ref a0), (1, .int (x1 + (nI 1)))]) rfl ?_
      obtain ⟨e9, hlt, h9⟩ := (pf1 c0 c1)
      exact r_callV (As := [.int (nI 59)]) (rest := []) (ci := 10) moX12_takes dX12_machine_59 mlX12_305 imX12_takes seX12_takes k0 rfl hlt (Nat.le_of_ble_eq_true rfl) h9
  · skip
    refine r_bipush (v := (-21)) dX12_machine_39 rfl ?_
    refine r_aload_n dX12_machine_41 rfl 0 rfl ?_
    refine r_getI ck10 dX12_machine_42 flX12_293 rfl k0 ?_
    refine r_isub dX12_machine_45 ?_
    exact r_ret (some (.int ((-21 : Int32) - (mI M a0 31)))) dX12_machine_46 rfl (pq2 c0)
theorem gX12_machine_62 {d : Nat} {Q : Option Value → Mem → Prop} {M : Mem} {a0 : Nat} {x1 : Int32} {sx0 : Int32}  (pw0 : sx0 = 0 → Wp d mdX12_machine 27 [(0, .ref a0), (1, .int x1), (2, .int (nI 0))] [] M Q) (pw1 : ¬ sx0 = 0 → Wp d mdX12_machine 27 [(0, .ref a0), (1, .int x1), (2, .int (nI 1))] [] M Q) : Wp d mdX12_machine 62 [(0, .ref a0), (1, .int x1)] [.int sx0] M Q := by
  refine r_if_eq (tgt := 69) dX12_machine_62 (by decide) (fun c0 => ?_) (fun c0 => ?_)
  · skip
    refine r_iconst (v := (nI 0)) dX12_machine_69 rfl ?_
    refine r_istore_n dX12_machine_70 rfl (by decide) (ls' := [(2, .int (nI 0)), (0, .ref a0), (1, .int x1)]) rfl ?_
    refine r_goto (tgt := 27) dX12_machine_71 (by decide) ?_
    refine r_sub [1, 2, 0] (ls' := [(0, .ref a0), (1, .int x1), (2, .int (nI 0))]) rfl ?_
    exact (pw0 c0)
  · skip
    refine r_iconst (v := (nI 1)) dX12_machine_65 rfl ?_
    refine r_goto (tgt := 70) dX12_machine_66 (by decide) ?_
    refine r_istore_n dX12_machine_70 rfl (by decide) (ls' := [(2, .int (nI 1)), (0, .ref a0), (1, .int x1)]) rfl ?_
    refine r_goto (tgt := 27) dX12_machine_71 (by decide) ?_
    refine r_sub [1, 2, 0] (ls' := [(0, .ref a0), (1, .int x1), (2, .int (nI 1))]) rfl ?_
    exact (pw1 c0)
theorem gX12_machine_95 {d : Nat} {Q : Option Value → Mem → Prop} {M : Mem} {a0 : Nat} {x1 : Int32} {x3 : Int32} (k0 : mK M a0 = 14) (k1 : mK M (mR (sI M a0 3 (mI M a0 36)) a0 4) = 1) (pb0 : x1 ≤ x3 → vp_in (nI 0) (mN (sI M a0 3 (mI M a0 36)) (mR (sI M a0 3 (mI M a0 36)) a0 4))) (pw1 : x1 ≤ x3 → Wp d mdX12_machine 159 [(0, .ref a0), (1, .int x1), (3, .int (nI 0))] [] (sI (sI M a0 3 (mI M a0 36)) (mR (sI M a0 3 (mI M a0 36)) a0 4) (nI 0).toNatClampNeg x1) Q) (pw2 : ¬ x1 ≤ x3 → Wp d mdX12_machine 103 [(0, .ref a0), (1, .int x1), (3, .int x3), (4, .int (nI 0))] [] M Q) : Wp d mdX12_machine 95 [(0, .ref a0), (1, .int x1), (3, .int x3)] [] M Q := by
  refine r_iload_n dX12_machine_95 rfl 2 rfl ?_
  refine r_iload_n dX12_machine_96 rfl 1 rfl ?_
  refine r_icmp_ge (tgt := 142) dX12_machine_97 (by decide) (fun c0 => ?_) (fun c0 => ?_)
  · skip
    refine r_aload_n dX12_machine_142 rfl 0 rfl ?_
    refine r_aload_n dX12_machine_143 rfl 0 rfl ?_
    refine r_getI ck10 dX12_machine_144 flX12_308 rfl k0 ?_
    refine r_putI ck10 dX12_machine_147 flX12_30 rfl (Or.inl rfl) k0 ?_
    refine r_aload_n dX12_machine_150 rfl 0 rfl ?_
    refine r_getR ck10 dX12_machine_151 flX12_21 rfl k0 ?_
    refine r_iconst (v := (nI 0)) dX12_machine_154 rfl ?_
    refine r_iload_n dX12_machine_155 rfl 1 rfl ?_
    refine r_iast dX12_machine_156 k1 (pb0 c0) ?_
    refine r_iconst (v := (nI 0)) dX12_machine_157 rfl ?_
    refine r_istore_n dX12_machine_158 rfl (by decide) (ls' := [(3, .int (nI 0)), (0, .ref a0), (1, .int x1)]) rfl ?_
    refine r_sub [1, 2, 0] (ls' := [(0, .ref a0), (1, .int x1), (3, .int (nI 0))]) rfl ?_
    exact (pw1 c0)
  · skip
    refine r_iconst (v := (nI 0)) dX12_machine_100 rfl ?_
    refine r_istore dX12_machine_101 (by decide) (ls' := [(4, .int (nI 0)), (0, .ref a0), (1, .int x1), (3, .int x3)]) rfl ?_
    refine r_sub [1, 2, 3, 0] (ls' := [(0, .ref a0), (1, .int x1), (3, .int x3), (4, .int (nI 0))]) rfl ?_
    exact (pw2 c0)
theorem gX12_machine_103 {d : Nat} {Q : Option Value → Mem → Prop} {M : Mem} {a0 : Nat} {x1 : Int32} {x3 : Int32} {x4 : Int32} (k0 : mK M a0 = 14) (k1 : mK M (mR M a0 35) = 1) (pw0 : (mI M a0 36) ≤ x4 → Wp d mdX12_machine 95 [(0, .ref a0), (1, .int x1), (3, .int (x3 + (nI 1)))] [] M Q) (pb1 : ¬ (mI M a0 36) ≤ x4 → vp_in (((nI 3) * x3) + x4) (mN M (mR M a0 35))) (pw2 : ¬ (mI M a0 36) ≤ x4 → (mI M (mR M a0 35) (((nI 3) * x3) + x4).toNatClampNeg) < x1 → Wp d mdX12_machine 103 [(0, .ref a0), (1, .int x1), (3, .int x3), (4, .int (x4 + (nI 1)))] [] M Q) (pq3 : ¬ (mI M a0 36) ≤ x4 → ¬ (mI M (mR M a0 35) (((nI 3) * x3) + x4).toNatClampNeg) < x1 → Q (some (.int (-100 : Int32))) M) : Wp d mdX12_machine 103 [(0, .ref a0), (1, .int x1), (3, .int x3), (4, .int x4)] [] M Q := by
  refine r_iload dX12_machine_103 3 rfl ?_
  refine r_aload_n dX12_machine_105 rfl 0 rfl ?_
  refine r_getI ck10 dX12_machine_106 flX12_308 rfl k0 ?_
  refine r_icmp_ge (tgt := 136) dX12_machine_109 (by decide) (fun c0 => ?_) (fun c0 => ?_)
  · skip
    refine r_iinc dX12_machine_136 2 rfl (v := x3 + (nI 1)) rfl (by decide) (ls' := [(3, .int (x3 + (nI 1))), (0, .ref a0), (1, .int x1), (4, .int x4)]) rfl ?_
    refine r_goto (tgt := 95) dX12_machine_139 (by decide) ?_
    refine r_sub [1, 2, 0] (ls' := [(0, .ref a0), (1, .int x1), (3, .int (x3 + (nI 1)))]) rfl ?_
    exact (pw0 c0)
  · skip
    refine r_aload_n dX12_machine_112 rfl 0 rfl ?_
    refine r_getR ck10 dX12_machine_113 flX12_151 rfl k0 ?_
    refine r_iconst (v := (nI 3)) dX12_machine_116 rfl ?_
    refine r_iload_n dX12_machine_117 rfl 2 rfl ?_
    refine r_imul dX12_machine_118 ?_
    refine r_iload dX12_machine_119 3 rfl ?_
    refine r_iadd dX12_machine_121 ?_
    refine r_iald dX12_machine_122 k1 (pb1 c0) ?_
    refine r_iload_n dX12_machine_123 rfl 1 rfl ?_
    refine r_icmp_lt (tgt := 130) dX12_machine_124 (by decide) (fun c1 => ?_) (fun c1 => ?_)
    · skip
      refine r_iinc dX12_machine_130 3 rfl (v := x4 + (nI 1)) rfl (by decide) (ls' := [(4, .int (x4 + (nI 1))), (0, .ref a0), (1, .int x1), (3, .int x3)]) rfl ?_
      refine r_goto (tgt := 103) dX12_machine_133 (by decide) ?_
      refine r_sub [1, 2, 3, 0] (ls' := [(0, .ref a0), (1, .int x1), (3, .int x3), (4, .int (x4 + (nI 1)))]) rfl ?_
      exact (pw2 c0 c1)
    · skip
      refine r_bipush (v := (-100)) dX12_machine_127 rfl ?_
      exact r_ret (some (.int (-100 : Int32))) dX12_machine_129 rfl (pq3 c0 c1)
theorem gX12_machine_159 {d : Nat} {Q : Option Value → Mem → Prop} {M : Mem} {a0 : Nat} {x1 : Int32} {x3 : Int32} (k0 : mK M a0 = 14) (k1 : mK M (mR M a0 34) = 1) (k2 : mK M (mR M a0 5) = 1) (pf0 : x1 ≤ x3 → ClD d mdX12_fresh [.ref a0, .int (nI 0), .int (mI M a0 7)] M (fun r1 M1 => Wp d mdX12_machine 241 [(1, .int x1)] (r1.toList ++ []) M1 Q)) (pb1 : ¬ x1 ≤ x3 → vp_in x3 (mN M (mR M a0 34))) (pb2 : ¬ x1 ≤ x3 → vp_in x3 (mN M (mR M a0 5))) (pw3 : ¬ x1 ≤ x3 → Wp d mdX12_machine 179 [(0, .ref a0), (1, .int x1), (3, .int x3), (4, .int (nI 0))] [] (sI M (mR M a0 5) x3.toNatClampNeg (mI M (mR M a0 34) x3.toNatClampNeg)) Q) : Wp d mdX12_machine 159 [(0, .ref a0), (1, .int x1), (3, .int x3)] [] M Q := by
  refine r_iload_n dX12_machine_159 rfl 2 rfl ?_
  refine r_iload_n dX12_machine_160 rfl 1 rfl ?_
  refine r_icmp_ge (tgt := 232) dX12_machine_161 (by decide) (fun c0 => ?_) (fun c0 => ?_)
  · skip
    refine r_aload_n dX12_machine_232 rfl 0 rfl ?_
    refine r_iconst (v := (nI 0)) dX12_machine_233 rfl ?_
    refine r_aload_n dX12_machine_234 rfl 0 rfl ?_
    refine r_getI ck10 dX12_machine_235 flX12_314 rfl k0 ?_
    refine r_sub [1] (ls' := [(1, .int x1)]) rfl ?_
    obtain ⟨e9, hlt, h9⟩ := (pf0 c0)
    exact r_callV (As := [.int (nI 0), .int (mI M a0 7)]) (rest := []) (ci := 10) moX12_fresh dX12_machine_238 mlX12_175 imX12_fresh seX12_fresh k0 rfl hlt (Nat.le_of_ble_eq_true rfl) h9
  · skip
    refine r_aload_n dX12_machine_164 rfl 0 rfl ?_
    refine r_getR ck10 dX12_machine_165 flX12_14 rfl k0 ?_
    refine r_iload_n dX12_machine_168 rfl 2 rfl ?_
    refine r_aload_n dX12_machine_169 rfl 0 rfl ?_
    refine r_getR ck10 dX12_machine_170 flX12_148 rfl k0 ?_
    refine r_iload_n dX12_machine_173 rfl 2 rfl ?_
    refine r_iald dX12_machine_174 k1 (pb1 c0) ?_
    refine r_iast dX12_machine_175 k2 (pb2 c0) ?_
    refine r_iconst (v := (nI 0)) dX12_machine_176 rfl ?_
    refine r_istore dX12_machine_177 (by decide) (ls' := [(4, .int (nI 0)), (0, .ref a0), (1, .int x1), (3, .int x3)]) rfl ?_
    refine r_sub [1, 2, 3, 0] (ls' := [(0, .ref a0), (1, .int x1), (3, .int x3), (4, .int (nI 0))]) rfl ?_
    exact (pw3 c0)
theorem gX12_machine_179 {d : Nat} {Q : Option Value → Mem → Prop} {M : Mem} {a0 : Nat} {x1 : Int32} {x3 : Int32} {x4 : Int32} (k0 : mK M a0 = 14) (k1 : mK M (mR M a0 35) = 1) (pw0 : (nI 3) ≤ x4 → Wp d mdX12_machine 159 [(0, .ref a0), (1, .int x1), (3, .int (x3 + (nI 1)))] [] M Q) (pw1 : ¬ (nI 3) ≤ x4 → (mI M a0 3) ≤ x4 → Wp d mdX12_machine 219 [(0, .ref a0), (1, .int x1), (3, .int x3), (4, .int x4)] [.int (nI 0), .int (((nI 3) * x3) + x4), .ref (mR M a0 6)] M Q) (pb2 : ¬ (nI 3) ≤ x4 → ¬ (mI M a0 3) ≤ x4 → vp_in (((nI 3) * x3) + x4) (mN M (mR M a0 35))) (pw3 : ¬ (nI 3) ≤ x4 → ¬ (mI M a0 3) ≤ x4 → Wp d mdX12_machine 219 [(0, .ref a0), (1, .int x1), (3, .int x3), (4, .int x4)] [.int (mI M (mR M a0 35) (((nI 3) * x3) + x4).toNatClampNeg), .int (((nI 3) * x3) + x4), .ref (mR M a0 6)] M Q) : Wp d mdX12_machine 179 [(0, .ref a0), (1, .int x1), (3, .int x3), (4, .int x4)] [] M Q := by
  refine r_iload dX12_machine_179 3 rfl ?_
  refine r_iconst (v := (nI 3)) dX12_machine_181 rfl ?_
  refine r_icmp_ge (tgt := 226) dX12_machine_182 (by decide) (fun c0 => ?_) (fun c0 => ?_)
  · skip
    refine r_iinc dX12_machine_226 2 rfl (v := x3 + (nI 1)) rfl (by decide) (ls' := [(3, .int (x3 + (nI 1))), (0, .ref a0), (1, .int x1), (4, .int x4)]) rfl ?_
    refine r_goto (tgt := 159) dX12_machine_229 (by decide) ?_
    refine r_sub [1, 2, 0] (ls' := [(0, .ref a0), (1, .int x1), (3, .int (x3 + (nI 1)))]) rfl ?_
    exact (pw0 c0)
  · skip
    refine r_aload_n dX12_machine_185 rfl 0 rfl ?_
    refine r_getR ck10 dX12_machine_186 flX12_18 rfl k0 ?_
    refine r_iconst (v := (nI 3)) dX12_machine_189 rfl ?_
    refine r_iload_n dX12_machine_190 rfl 2 rfl ?_
    refine r_imul dX12_machine_191 ?_
    refine r_iload dX12_machine_192 3 rfl ?_
    refine r_iadd dX12_machine_194 ?_
    refine r_iload dX12_machine_195 3 rfl ?_
    refine r_aload_n dX12_machine_197 rfl 0 rfl ?_
    refine r_getI ck10 dX12_machine_198 flX12_30 rfl k0 ?_
    refine r_icmp_ge (tgt := 218) dX12_machine_201 (by decide) (fun c1 => ?_) (fun c1 => ?_)
    · skip
      refine r_iconst (v := (nI 0)) dX12_machine_218 rfl ?_
      exact (pw1 c0 c1)
    · skip
      refine r_aload_n dX12_machine_204 rfl 0 rfl ?_
      refine r_getR ck10 dX12_machine_205 flX12_151 rfl k0 ?_
      refine r_iconst (v := (nI 3)) dX12_machine_208 rfl ?_
      refine r_iload_n dX12_machine_209 rfl 2 rfl ?_
      refine r_imul dX12_machine_210 ?_
      refine r_iload dX12_machine_211 3 rfl ?_
      refine r_iadd dX12_machine_213 ?_
      refine r_iald dX12_machine_214 k1 (pb2 c0 c1) ?_
      refine r_goto (tgt := 219) dX12_machine_215 (by decide) ?_
      exact (pw3 c0 c1)
theorem gX12_machine_219 {d : Nat} {Q : Option Value → Mem → Prop} {M : Mem} {a0 : Nat} {x1 : Int32} {x3 : Int32} {x4 : Int32} {sx0 : Int32} {sx1 : Int32} {sa2 : Nat} (k0 : mK M sa2 = 1) (pb0 : vp_in sx1 (mN M sa2)) (pw1 : Wp d mdX12_machine 179 [(0, .ref a0), (1, .int x1), (3, .int x3), (4, .int (x4 + (nI 1)))] [] (sI M sa2 sx1.toNatClampNeg sx0) Q) : Wp d mdX12_machine 219 [(0, .ref a0), (1, .int x1), (3, .int x3), (4, .int x4)] [.int sx0, .int sx1, .ref sa2] M Q := by
  refine r_iast dX12_machine_219 k0 pb0 ?_
  refine r_iinc dX12_machine_220 3 rfl (v := x4 + (nI 1)) rfl (by decide) (ls' := [(4, .int (x4 + (nI 1))), (0, .ref a0), (1, .int x1), (3, .int x3)]) rfl ?_
  refine r_goto (tgt := 179) dX12_machine_223 (by decide) ?_
  refine r_sub [1, 2, 3, 0] (ls' := [(0, .ref a0), (1, .int x1), (3, .int x3), (4, .int (x4 + (nI 1)))]) rfl ?_
  exact pw1
theorem gX12_machine_241 {d : Nat} {Q : Option Value → Mem → Prop} {M : Mem} {x1 : Int32}  (pq0 : Q (some (.int x1)) M) : Wp d mdX12_machine 241 [(1, .int x1)] [] M Q := by
  refine r_iload_n dX12_machine_241 rfl 0 rfl ?_
  exact r_ret (some (.int x1)) dX12_machine_242 rfl pq0
-- X12_draw
theorem gX12_draw_0 {d : Nat} {Q : Option Value → Mem → Prop} {M : Mem} {a0 : Nat} {x1 : Int32} (k0 : mK M a0 = 14) (pz0 : ¬ x1 = 0) (pq1 : Q (some (.int ((((mI (sI M a0 37 (((mI M a0 37) * (nI 1103515245)) + (nI 12345))) a0 37).toUInt32 >>> ((nI 16).toUInt32 &&& Int32.toUInt32 31)).toInt32) - (((mI (sI M a0 37 (((mI M a0 37) * (nI 1103515245)) + (nI 12345))) a0 37).toUInt32 >>> ((nI 16).toUInt32 &&& Int32.toUInt32 31)).toInt32) / x1 * x1))) (sI M a0 37 (((mI M a0 37) * (nI 1103515245)) + (nI 12345)))) : Wp d mdX12_draw 0 [(0, .ref a0), (1, .int x1)] [] M Q := by
  refine r_aload_n dX12_draw_0 rfl 0 rfl ?_
  refine r_aload_n dX12_draw_1 rfl 0 rfl ?_
  refine r_getI ck10 dX12_draw_2 flX12_317 rfl k0 ?_
  refine r_ldcw dX12_draw_5 kwX12_320 ?_
  refine r_imul dX12_draw_8 ?_
  refine r_sipush (v := (nI 12345)) dX12_draw_9 rfl ?_
  refine r_iadd dX12_draw_12 ?_
  refine r_putI ck10 dX12_draw_13 flX12_317 rfl (Or.inl rfl) k0 ?_
  refine r_aload_n dX12_draw_16 rfl 0 rfl ?_
  refine r_getI ck10 dX12_draw_17 flX12_317 rfl k0 ?_
  refine r_bipush (v := (nI 16)) dX12_draw_20 rfl ?_
  refine r_iushr dX12_draw_22 ?_
  refine r_iload_n dX12_draw_23 rfl 1 rfl ?_
  refine r_irem dX12_draw_24 pz0 ?_
  exact r_ret (some (.int ((((mI (sI M a0 37 (((mI M a0 37) * (nI 1103515245)) + (nI 12345))) a0 37).toUInt32 >>> ((nI 16).toUInt32 &&& Int32.toUInt32 31)).toInt32) - (((mI (sI M a0 37 (((mI M a0 37) * (nI 1103515245)) + (nI 12345))) a0 37).toUInt32 >>> ((nI 16).toUInt32 &&& Int32.toUInt32 31)).toInt32) / x1 * x1))) dX12_draw_25 rfl pq1
-- X12_draws
theorem gX12_draws_0 {d : Nat} {Q : Option Value → Mem → Prop} {M : Mem} {a0 : Nat} {x1 : Int32} {x2 : Int32} {x3 : Int32} {x4 : Int32} (k0 : mK M a0 = 14) (pf0 : ClD d mdX12_in [.long x2.toInt64, .long (lN 1), .long (lN 8)] (sI M a0 0 (nI 0)) (fun r1 M1 => Wp d mdX12_draws 14 [(0, .ref a0), (1, .int x1), (2, .int x2), (3, .int x3), (4, .int x4)] (r1.toList ++ []) M1 Q)) : Wp d mdX12_draws 0 [(0, .ref a0), (1, .int x1), (2, .int x2), (3, .int x3), (4, .int x4)] [] M Q := by
  refine r_aload_n dX12_draws_0 rfl 0 rfl ?_
  refine r_iconst (v := (nI 0)) dX12_draws_1 rfl ?_
  refine r_putI ck10 dX12_draws_2 flX12_1 rfl (Or.inl rfl) k0 ?_
  refine r_iload_n dX12_draws_5 rfl 2 rfl ?_
  refine r_i2l dX12_draws_6 ?_
  refine r_lconst (v := (lN 1)) dX12_draws_7 rfl ?_
  refine r_ldc2 dX12_draws_8 kwX12_321 ?_
  obtain ⟨e9, hlt, h9⟩ := pf0
  exact r_callS (As := [.long x2.toInt64, .long (lN 1), .long (lN 8)]) (rest := []) moX12_in dX12_draws_11 mlX12_24 saX12_in rfl hlt (Nat.le_of_ble_eq_true rfl) h9
theorem gX12_draws_14 {d : Nat} {Q : Option Value → Mem → Prop} {M : Mem} {a0 : Nat} {x1 : Int32} {x2 : Int32} {x3 : Int32} {x4 : Int32} {sx0 : Int32}  (pq0 : sx0 = 0 → Q (some (.int (-1 : Int32))) M) (pf1 : ¬ sx0 = 0 → ClD d mdX12_in [.long x3.toInt64, .long (lN 1), .long (lN 3)] M (fun r1 M1 => Wp d mdX12_draws 26 [(0, .ref a0), (1, .int x1), (2, .int x2), (3, .int x3), (4, .int x4)] (r1.toList ++ []) M1 Q)) : Wp d mdX12_draws 14 [(0, .ref a0), (1, .int x1), (2, .int x2), (3, .int x3), (4, .int x4)] [.int sx0] M Q := by
  refine r_if_eq (tgt := 42) dX12_draws_14 (by decide) (fun c0 => ?_) (fun c0 => ?_)
  · skip
    refine r_iconst (v := (-1)) dX12_draws_42 rfl ?_
    exact r_ret (some (.int (-1 : Int32))) dX12_draws_43 rfl (pq0 c0)
  · skip
    refine r_iload_n dX12_draws_17 rfl 3 rfl ?_
    refine r_i2l dX12_draws_18 ?_
    refine r_lconst (v := (lN 1)) dX12_draws_19 rfl ?_
    refine r_ldc2 dX12_draws_20 kwX12_28 ?_
    obtain ⟨e9, hlt, h9⟩ := (pf1 c0)
    exact r_callS (As := [.long x3.toInt64, .long (lN 1), .long (lN 3)]) (rest := []) moX12_in dX12_draws_23 mlX12_24 saX12_in rfl hlt (Nat.le_of_ble_eq_true rfl) h9
theorem gX12_draws_26 {d : Nat} {Q : Option Value → Mem → Prop} {M : Mem} {a0 : Nat} {x1 : Int32} {x2 : Int32} {x3 : Int32} {x4 : Int32} {sx0 : Int32}  (pq0 : sx0 = 0 → Q (some (.int (-1 : Int32))) M) (pf1 : ¬ sx0 = 0 → ClD d mdX12_in [.long x4.toInt64, .long (lN 1), .long (lN 4)] M (fun r1 M1 => Wp d mdX12_draws 39 [(0, .ref a0), (1, .int x1), (2, .int x2), (3, .int x3), (4, .int x4)] (r1.toList ++ []) M1 Q)) : Wp d mdX12_draws 26 [(0, .ref a0), (1, .int x1), (2, .int x2), (3, .int x3), (4, .int x4)] [.int sx0] M Q := by
  refine r_if_eq (tgt := 42) dX12_draws_26 (by decide) (fun c0 => ?_) (fun c0 => ?_)
  · skip
    refine r_iconst (v := (-1)) dX12_draws_42 rfl ?_
    exact r_ret (some (.int (-1 : Int32))) dX12_draws_43 rfl (pq0 c0)
  · skip
    refine r_iload dX12_draws_29 4 rfl ?_
    refine r_i2l dX12_draws_31 ?_
    refine r_lconst (v := (lN 1)) dX12_draws_32 rfl ?_
    refine r_ldc2 dX12_draws_33 kwX12_37 ?_
    obtain ⟨e9, hlt, h9⟩ := (pf1 c0)
    exact r_callS (As := [.long x4.toInt64, .long (lN 1), .long (lN 4)]) (rest := []) moX12_in dX12_draws_36 mlX12_24 saX12_in rfl hlt (Nat.le_of_ble_eq_true rfl) h9
theorem gX12_draws_39 {d : Nat} {Q : Option Value → Mem → Prop} {M : Mem} {a0 : Nat} {x1 : Int32} {x2 : Int32} {x3 : Int32} {x4 : Int32} {sx0 : Int32} (k0 : mK M a0 = 14) (k1 : mK M (mR (sI (sI M a0 37 x1) a0 3 x3) a0 4) = 1) (pb0 : ¬ sx0 = 0 → vp_in (nI 0) (mN (sI (sI M a0 37 x1) a0 3 x3) (mR (sI (sI M a0 37 x1) a0 3 x3) a0 4))) (pw1 : ¬ sx0 = 0 → Wp d mdX12_draws 64 [(0, .ref a0), (2, .int x2), (3, .int x3), (4, .int x4), (5, .int (nI 0))] [] (sI (sI (sI M a0 37 x1) a0 3 x3) (mR (sI (sI M a0 37 x1) a0 3 x3) a0 4) (nI 0).toNatClampNeg x2) Q) (pq2 : sx0 = 0 → Q (some (.int (-1 : Int32))) M) : Wp d mdX12_draws 39 [(0, .ref a0), (1, .int x1), (2, .int x2), (3, .int x3), (4, .int x4)] [.int sx0] M Q := by
  refine r_if_ne (tgt := 44) dX12_draws_39 (by decide) (fun c0 => ?_) (fun c0 => ?_)
  · skip
    refine r_aload_n dX12_draws_44 rfl 0 rfl ?_
    refine r_iload_n dX12_draws_45 rfl 1 rfl ?_
    refine r_putI ck10 dX12_draws_46 flX12_317 rfl (Or.inl rfl) k0 ?_
    refine r_aload_n dX12_draws_49 rfl 0 rfl ?_
    refine r_iload_n dX12_draws_50 rfl 3 rfl ?_
    refine r_putI ck10 dX12_draws_51 flX12_30 rfl (Or.inl rfl) k0 ?_
    refine r_aload_n dX12_draws_54 rfl 0 rfl ?_
    refine r_getR ck10 dX12_draws_55 flX12_21 rfl k0 ?_
    refine r_iconst (v := (nI 0)) dX12_draws_58 rfl ?_
    refine r_iload_n dX12_draws_59 rfl 2 rfl ?_
    refine r_iast dX12_draws_60 k1 (pb0 c0) ?_
    refine r_iconst (v := (nI 0)) dX12_draws_61 rfl ?_
    refine r_istore dX12_draws_62 (by decide) (ls' := [(5, .int (nI 0)), (0, .ref a0), (1, .int x1), (2, .int x2), (3, .int x3), (4, .int x4)]) rfl ?_
    refine r_sub [1, 3, 4, 5, 0] (ls' := [(0, .ref a0), (2, .int x2), (3, .int x3), (4, .int x4), (5, .int (nI 0))]) rfl ?_
    exact (pw1 c0)
  · skip
    refine r_iconst (v := (-1)) dX12_draws_42 rfl ?_
    exact r_ret (some (.int (-1 : Int32))) dX12_draws_43 rfl (pq2 c0)
theorem gX12_draws_64 {d : Nat} {Q : Option Value → Mem → Prop} {M : Mem} {a0 : Nat} {x2 : Int32} {x3 : Int32} {x4 : Int32} {x5 : Int32} (k0 : mK M a0 = 14) (pf0 : x2 ≤ x5 → ClD d mdX12_fresh [.ref a0, .int (nI 0), .int (mI M a0 7)] M (fun r1 M1 => Wp d mdX12_draws 140 [(0, .ref a0)] (r1.toList ++ []) M1 Q)) (pf1 : ¬ x2 ≤ x5 → ClD d mdX12_draw [.ref a0, .int x4] M (fun r1 M1 => Wp d mdX12_draws 82 [(0, .ref a0), (2, .int x2), (3, .int x3), (4, .int x4), (5, .int x5)] (r1.toList ++ [.int x5, .ref (mR M a0 5)]) M1 Q)) : Wp d mdX12_draws 64 [(0, .ref a0), (2, .int x2), (3, .int x3), (4, .int x4), (5, .int x5)] [] M Q := by
  refine r_iload dX12_draws_64 4 rfl ?_
  refine r_iload_n dX12_draws_66 rfl 1 rfl ?_
  refine r_icmp_ge (tgt := 131) dX12_draws_67 (by decide) (fun c0 => ?_) (fun c0 => ?_)
  · skip
    refine r_aload_n dX12_draws_131 rfl 0 rfl ?_
    refine r_iconst (v := (nI 0)) dX12_draws_132 rfl ?_
    refine r_aload_n dX12_draws_133 rfl 0 rfl ?_
    refine r_getI ck10 dX12_draws_134 flX12_314 rfl k0 ?_
    refine r_sub [0] (ls' := [(0, .ref a0)]) rfl ?_
    obtain ⟨e9, hlt, h9⟩ := (pf0 c0)
    exact r_callV (As := [.int (nI 0), .int (mI M a0 7)]) (rest := []) (ci := 10) moX12_fresh dX12_draws_137 mlX12_175 imX12_fresh seX12_fresh k0 rfl hlt (Nat.le_of_ble_eq_true rfl) h9
  · skip
    refine r_aload_n dX12_draws_70 rfl 0 rfl ?_
    refine r_getR ck10 dX12_draws_71 flX12_14 rfl k0 ?_
    refine r_iload dX12_draws_74 4 rfl ?_
    refine r_aload_n dX12_draws_76 rfl 0 rfl ?_
    refine r_iload dX12_draws_77 3 rfl ?_
    obtain ⟨e9, hlt, h9⟩ := (pf1 c0)
    exact r_callV (As := [.int x4]) (rest := [.int x5, .ref (mR M a0 5)]) (ci := 10) moX12_draw dX12_draws_79 mlX12_323 imX12_draw seX12_draw k0 rfl hlt (Nat.le_of_ble_eq_true rfl) h9
theorem gX12_draws_82 {d : Nat} {Q : Option Value → Mem → Prop} {M : Mem} {a0 : Nat} {x2 : Int32} {x3 : Int32} {x4 : Int32} {x5 : Int32} {sx0 : Int32} {sx1 : Int32} {sa2 : Nat} (k0 : mK M sa2 = 1) (pb0 : vp_in sx1 (mN M sa2)) (pw1 : Wp d mdX12_draws 86 [(0, .ref a0), (2, .int x2), (3, .int x3), (4, .int x4), (5, .int x5), (6, .int (nI 0))] [] (sI M sa2 sx1.toNatClampNeg sx0) Q) : Wp d mdX12_draws 82 [(0, .ref a0), (2, .int x2), (3, .int x3), (4, .int x4), (5, .int x5)] [.int sx0, .int sx1, .ref sa2] M Q := by
  refine r_iast dX12_draws_82 k0 pb0 ?_
  refine r_iconst (v := (nI 0)) dX12_draws_83 rfl ?_
  refine r_istore dX12_draws_84 (by decide) (ls' := [(6, .int (nI 0)), (0, .ref a0), (2, .int x2), (3, .int x3), (4, .int x4), (5, .int x5)]) rfl ?_
  refine r_sub [1, 2, 3, 4, 5, 0] (ls' := [(0, .ref a0), (2, .int x2), (3, .int x3), (4, .int x4), (5, .int x5), (6, .int (nI 0))]) rfl ?_
  exact pw1
theorem gX12_draws_86 {d : Nat} {Q : Option Value → Mem → Prop} {M : Mem} {a0 : Nat} {x2 : Int32} {x3 : Int32} {x4 : Int32} {x5 : Int32} {x6 : Int32} (k0 : mK M a0 = 14) (pw0 : (nI 3) ≤ x6 → Wp d mdX12_draws 64 [(0, .ref a0), (2, .int x2), (3, .int x3), (4, .int x4), (5, .int (x5 + (nI 1)))] [] M Q) (pw1 : ¬ (nI 3) ≤ x6 → x3 ≤ x6 → Wp d mdX12_draws 118 [(0, .ref a0), (2, .int x2), (3, .int x3), (4, .int x4), (5, .int x5), (6, .int x6)] [.int (nI 0), .int (((nI 3) * x5) + x6), .ref (mR M a0 6)] M Q) (pf2 : ¬ (nI 3) ≤ x6 → ¬ x3 ≤ x6 → ClD d mdX12_draw [.ref a0, .int x2] M (fun r1 M1 => Wp d mdX12_draws 114 [(0, .ref a0), (2, .int x2), (3, .int x3), (4, .int x4), (5, .int x5), (6, .int x6)] (r1.toList ++ [.int (((nI 3) * x5) + x6), .ref (mR M a0 6)]) M1 Q)) : Wp d mdX12_draws 86 [(0, .ref a0), (2, .int x2), (3, .int x3), (4, .int x4), (5, .int x5), (6, .int x6)] [] M Q := by
  refine r_iload dX12_draws_86 5 rfl ?_
  refine r_iconst (v := (nI 3)) dX12_draws_88 rfl ?_
  refine r_icmp_ge (tgt := 125) dX12_draws_89 (by decide) (fun c0 => ?_) (fun c0 => ?_)
  · skip
    refine r_iinc dX12_draws_125 4 rfl (v := x5 + (nI 1)) rfl (by decide) (ls' := [(5, .int (x5 + (nI 1))), (0, .ref a0), (2, .int x2), (3, .int x3), (4, .int x4), (6, .int x6)]) rfl ?_
    refine r_goto (tgt := 64) dX12_draws_128 (by decide) ?_
    refine r_sub [1, 2, 3, 4, 0] (ls' := [(0, .ref a0), (2, .int x2), (3, .int x3), (4, .int x4), (5, .int (x5 + (nI 1)))]) rfl ?_
    exact (pw0 c0)
  · skip
    refine r_aload_n dX12_draws_92 rfl 0 rfl ?_
    refine r_getR ck10 dX12_draws_93 flX12_18 rfl k0 ?_
    refine r_iconst (v := (nI 3)) dX12_draws_96 rfl ?_
    refine r_iload dX12_draws_97 4 rfl ?_
    refine r_imul dX12_draws_99 ?_
    refine r_iload dX12_draws_100 5 rfl ?_
    refine r_iadd dX12_draws_102 ?_
    refine r_iload dX12_draws_103 5 rfl ?_
    refine r_iload_n dX12_draws_105 rfl 2 rfl ?_
    refine r_icmp_ge (tgt := 117) dX12_draws_106 (by decide) (fun c1 => ?_) (fun c1 => ?_)
    · skip
      refine r_iconst (v := (nI 0)) dX12_draws_117 rfl ?_
      exact (pw1 c0 c1)
    · skip
      refine r_aload_n dX12_draws_109 rfl 0 rfl ?_
      refine r_iload_n dX12_draws_110 rfl 1 rfl ?_
      obtain ⟨e9, hlt, h9⟩ := (pf2 c0 c1)
      exact r_callV (As := [.int x2]) (rest := [.int (((nI 3) * x5) + x6), .ref (mR M a0 6)]) (ci := 10) moX12_draw dX12_draws_111 mlX12_323 imX12_draw seX12_draw k0 rfl hlt (Nat.le_of_ble_eq_true rfl) h9
theorem gX12_draws_114 {d : Nat} {Q : Option Value → Mem → Prop} {M : Mem} {a0 : Nat} {x2 : Int32} {x3 : Int32} {x4 : Int32} {x5 : Int32} {x6 : Int32} {sx0 : Int32} {sx1 : Int32} {sa2 : Nat}  (pw0 : Wp d mdX12_draws 118 [(0, .ref a0), (2, .int x2), (3, .int x3), (4, .int x4), (5, .int x5), (6, .int x6)] [.int sx0, .int sx1, .ref sa2] M Q) : Wp d mdX12_draws 114 [(0, .ref a0), (2, .int x2), (3, .int x3), (4, .int x4), (5, .int x5), (6, .int x6)] [.int sx0, .int sx1, .ref sa2] M Q := by
  refine r_goto (tgt := 118) dX12_draws_114 (by decide) ?_
  exact pw0
theorem gX12_draws_118 {d : Nat} {Q : Option Value → Mem → Prop} {M : Mem} {a0 : Nat} {x2 : Int32} {x3 : Int32} {x4 : Int32} {x5 : Int32} {x6 : Int32} {sx0 : Int32} {sx1 : Int32} {sa2 : Nat} (k0 : mK M sa2 = 1) (pb0 : vp_in sx1 (mN M sa2)) (pw1 : Wp d mdX12_draws 86 [(0, .ref a0), (2, .int x2), (3, .int x3), (4, .int x4), (5, .int x5), (6, .int (x6 + (nI 1)))] [] (sI M sa2 sx1.toNatClampNeg sx0) Q) : Wp d mdX12_draws 118 [(0, .ref a0), (2, .int x2), (3, .int x3), (4, .int x4), (5, .int x5), (6, .int x6)] [.int sx0, .int sx1, .ref sa2] M Q := by
  refine r_iast dX12_draws_118 k0 pb0 ?_
  refine r_iinc dX12_draws_119 5 rfl (v := x6 + (nI 1)) rfl (by decide) (ls' := [(6, .int (x6 + (nI 1))), (0, .ref a0), (2, .int x2), (3, .int x3), (4, .int x4), (5, .int x5)]) rfl ?_
  refine r_goto (tgt := 86) dX12_draws_122 (by decide) ?_
  refine r_sub [1, 2, 3, 4, 5, 0] (ls' := [(0, .ref a0), (2, .int x2), (3, .int x3), (4, .int x4), (5, .int x5), (6, .int (x6 + (nI 1)))]) rfl ?_
  exact pw1
theorem gX12_draws_140 {d : Nat} {Q : Option Value → Mem → Prop} {M : Mem} {a0 : Nat} (k0 : mK M a0 = 14) (pf0 : ClD d mdX12_unlikeMany [.ref a0] M (fun r1 M1 => Wp d mdX12_draws 144 [] (r1.toList ++ []) M1 Q)) : Wp d mdX12_draws 140 [(0, .ref a0)] [] M Q := by
  refine r_aload_n dX12_draws_140 rfl 0 rfl ?_
  refine r_sub [] (ls' := []) rfl ?_
  obtain ⟨e9, hlt, h9⟩ := pf0
  exact r_callV (As := []) (rest := []) (ci := 10) moX12_unlikeMany dX12_draws_141 mlX12_326 imX12_unlikeMany seX12_unlikeMany k0 rfl hlt (Nat.le_of_ble_eq_true rfl) h9
theorem gX12_draws_144 {d : Nat} {Q : Option Value → Mem → Prop} {M : Mem} {sx0 : Int32}  (pq0 : Q (some (.int sx0)) M) : Wp d mdX12_draws 144 [] [.int sx0] M Q := by
  exact r_ret (some (.int sx0)) dX12_draws_144 rfl pq0
-- X12_state
theorem gX12_state_0 {d : Nat} {Q : Option Value → Mem → Prop} {M : Mem} {a0 : Nat} {x1 : Int32} {x2 : Int32} (k0 : mK M a0 = 14) (pf0 : ClD d mdX12_isState [.ref a0, .int (nI 0), .int x1] (sI M a0 0 (nI 0)) (fun r1 M1 => Wp d mdX12_state 11 [(0, .ref a0), (1, .int x1), (2, .int x2)] (r1.toList ++ []) M1 Q)) : Wp d mdX12_state 0 [(0, .ref a0), (1, .int x1), (2, .int x2)] [] M Q := by
  refine r_aload_n dX12_state_0 rfl 0 rfl ?_
  refine r_iconst (v := (nI 0)) dX12_state_1 rfl ?_
  refine r_putI ck10 dX12_state_2 flX12_1 rfl (Or.inl rfl) k0 ?_
  refine r_aload_n dX12_state_5 rfl 0 rfl ?_
  refine r_iconst (v := (nI 0)) dX12_state_6 rfl ?_
  refine r_iload_n dX12_state_7 rfl 1 rfl ?_
  obtain ⟨e9, hlt, h9⟩ := pf0
  exact r_callV (As := [.int (nI 0), .int x1]) (rest := []) (ci := 10) moX12_isState dX12_state_8 mlX12_330 imX12_isState seX12_isState k0 rfl hlt (Nat.le_of_ble_eq_true rfl) h9
theorem gX12_state_11 {d : Nat} {Q : Option Value → Mem → Prop} {M : Mem} {a0 : Nat} {x1 : Int32} {x2 : Int32} {sx0 : Int32} (k0 : mK M a0 = 14) (pq0 : sx0 = 0 → Q (some (.int (-1 : Int32))) M) (pf1 : ¬ sx0 = 0 → ClD d mdX12_in [.long x2.toInt64, .long (lN 0), .long ((mI M a0 3).toInt64)] M (fun r1 M1 => Wp d mdX12_state 25 [(0, .ref a0), (1, .int x1), (2, .int x2)] (r1.toList ++ []) M1 Q)) : Wp d mdX12_state 11 [(0, .ref a0), (1, .int x1), (2, .int x2)] [.int sx0] M Q := by
  refine r_if_eq (tgt := 28) dX12_state_11 (by decide) (fun c0 => ?_) (fun c0 => ?_)
  · skip
    refine r_iconst (v := (-1)) dX12_state_28 rfl ?_
    exact r_ret (some (.int (-1 : Int32))) dX12_state_29 rfl (pq0 c0)
  · skip
    refine r_iload_n dX12_state_14 rfl 2 rfl ?_
    refine r_i2l dX12_state_15 ?_
    refine r_lconst (v := (lN 0)) dX12_state_16 rfl ?_
    refine r_aload_n dX12_state_17 rfl 0 rfl ?_
    refine r_getI ck10 dX12_state_18 flX12_30 rfl k0 ?_
    refine r_i2l dX12_state_21 ?_
    obtain ⟨e9, hlt, h9⟩ := (pf1 c0)
    exact r_callS (As := [.long x2.toInt64, .long (lN 0), .long ((mI M a0 3).toInt64)]) (rest := []) moX12_in dX12_state_22 mlX12_24 saX12_in rfl hlt (Nat.le_of_ble_eq_true rfl) h9
theorem gX12_state_25 {d : Nat} {Q : Option Value → Mem → Prop} {M : Mem} {a0 : Nat} {x1 : Int32} {x2 : Int32} {sx0 : Int32} (k0 : mK M a0 = 14) (pf0 : ¬ sx0 = 0 → ¬ x2 = 0 → ClD d mdX12_comes [.ref a0, .int (nI 0), .int x1, .int (x2 - (nI 1))] M (fun r1 M1 => Wp d mdX12_state 52 [] (r1.toList ++ []) M1 Q)) (pf1 : ¬ sx0 = 0 → x2 = 0 → ClD d mdX12_shown [.ref a0, .int (nI 0), .int x1] M (fun r1 M1 => Wp d mdX12_state 40 [] (r1.toList ++ []) M1 Q)) (pq2 : sx0 = 0 → Q (some (.int (-1 : Int32))) M) : Wp d mdX12_state 25 [(0, .ref a0), (1, .int x1), (2, .int x2)] [.int sx0] M Q := by
  refine r_if_ne (tgt := 30) dX12_state_25 (by decide) (fun c0 => ?_) (fun c0 => ?_)
  · skip
    refine r_iload_n dX12_state_30 rfl 2 rfl ?_
    refine r_if_ne (tgt := 43) dX12_state_31 (by decide) (fun c1 => ?_) (fun c1 => ?_)
    · skip
      refine r_aload_n dX12_state_43 rfl 0 rfl ?_
      refine r_iconst (v := (nI 0)) dX12_state_44 rfl ?_
      refine r_iload_n dX12_state_45 rfl 1 rfl ?_
      refine r_iload_n dX12_state_46 rfl 2 rfl ?_
      refine r_iconst (v := (nI 1)) dX12_state_47 rfl ?_
      refine r_isub dX12_state_48 ?_
      refine r_sub [] (ls' := []) rfl ?_
      obtain ⟨e9, hlt, h9⟩ := (pf0 c0 c1)
      exact r_callV (As := [.int (nI 0), .int x1, .int (x2 - (nI 1))]) (rest := []) (ci := 10) moX12_comes dX12_state_49 mlX12_43 imX12_comes seX12_comes k0 rfl hlt (Nat.le_of_ble_eq_true rfl) h9
    · skip
      refine r_aload_n dX12_state_34 rfl 0 rfl ?_
      refine r_iconst (v := (nI 0)) dX12_state_35 rfl ?_
      refine r_iload_n dX12_state_36 rfl 1 rfl ?_
      refine r_sub [] (ls' := []) rfl ?_
      obtain ⟨e9, hlt, h9⟩ := (pf1 c0 c1)
      exact r_callV (As := [.int (nI 0), .int x1]) (rest := []) (ci := 10) moX12_shown dX12_state_37 mlX12_51 imX12_shown seX12_shown k0 rfl hlt (Nat.le_of_ble_eq_true rfl) h9
  · skip
    refine r_iconst (v := (-1)) dX12_state_28 rfl ?_
    exact r_ret (some (.int (-1 : Int32))) dX12_state_29 rfl (pq2 c0)
theorem gX12_state_40 {d : Nat} {Q : Option Value → Mem → Prop} {M : Mem} {sx0 : Int32}  (pw0 : Wp d mdX12_state 52 [] [.int sx0] M Q) : Wp d mdX12_state 40 [] [.int sx0] M Q := by
  refine r_goto (tgt := 52) dX12_state_40 (by decide) ?_
  exact pw0
theorem gX12_state_52 {d : Nat} {Q : Option Value → Mem → Prop} {M : Mem} {sx0 : Int32}  (pq0 : Q (some (.int sx0)) M) : Wp d mdX12_state 52 [] [.int sx0] M Q := by
  exact r_ret (some (.int sx0)) dX12_state_52 rfl pq0
-- X12_prices
theorem gX12_prices_0 {d : Nat} {Q : Option Value → Mem → Prop} {M : Mem} {a0 : Nat} {x1 : Int32} {x2 : Int32} (k0 : mK M a0 = 14) (pf0 : ClD d mdX12_in [.long x1.toInt64, .long (lN 0), .long (lN 99)] (sI M a0 0 (nI 0)) (fun r1 M1 => Wp d mdX12_prices 14 [(0, .ref a0), (1, .int x1), (2, .int x2)] (r1.toList ++ []) M1 Q)) : Wp d mdX12_prices 0 [(0, .ref a0), (1, .int x1), (2, .int x2)] [] M Q := by
  refine r_aload_n dX12_prices_0 rfl 0 rfl ?_
  refine r_iconst (v := (nI 0)) dX12_prices_1 rfl ?_
  refine r_putI ck10 dX12_prices_2 flX12_1 rfl (Or.inl rfl) k0 ?_
  refine r_iload_n dX12_prices_5 rfl 1 rfl ?_
  refine r_i2l dX12_prices_6 ?_
  refine r_lconst (v := (lN 0)) dX12_prices_7 rfl ?_
  refine r_ldc2 dX12_prices_8 kwX12_334 ?_
  obtain ⟨e9, hlt, h9⟩ := pf0
  exact r_callS (As := [.long x1.toInt64, .long (lN 0), .long (lN 99)]) (rest := []) moX12_in dX12_prices_11 mlX12_24 saX12_in rfl hlt (Nat.le_of_ble_eq_true rfl) h9
theorem gX12_prices_14 {d : Nat} {Q : Option Value → Mem → Prop} {M : Mem} {a0 : Nat} {x1 : Int32} {x2 : Int32} {sx0 : Int32}  (pq0 : sx0 = 0 → Q (some (.int (nI 0))) M) (pf1 : ¬ sx0 = 0 → ClD d mdX12_in [.long x2.toInt64, .long (lN 0), .long (lN 99)] M (fun r1 M1 => Wp d mdX12_prices 26 [(0, .ref a0), (1, .int x1), (2, .int x2)] (r1.toList ++ []) M1 Q)) : Wp d mdX12_prices 14 [(0, .ref a0), (1, .int x1), (2, .int x2)] [.int sx0] M Q := by
  refine r_if_eq (tgt := 29) dX12_prices_14 (by decide) (fun c0 => ?_) (fun c0 => ?_)
  · skip
    refine r_iconst (v := (nI 0)) dX12_prices_29 rfl ?_
    exact r_ret (some (.int (nI 0))) dX12_prices_30 rfl (pq0 c0)
  · skip
    refine r_iload_n dX12_prices_17 rfl 2 rfl ?_
    refine r_i2l dX12_prices_18 ?_
    refine r_lconst (v := (lN 0)) dX12_prices_19 rfl ?_
    refine r_ldc2 dX12_prices_20 kwX12_334 ?_
    obtain ⟨e9, hlt, h9⟩ := (pf1 c0)
    exact r_callS (As := [.long x2.toInt64, .long (lN 0), .long (lN 99)]) (rest := []) moX12_in dX12_prices_23 mlX12_24 saX12_in rfl hlt (Nat.le_of_ble_eq_true rfl) h9
theorem gX12_prices_26 {d : Nat} {Q : Option Value → Mem → Prop} {M : Mem} {a0 : Nat} {x1 : Int32} {x2 : Int32} {sx0 : Int32} (k0 : mK M a0 = 14) (pq0 : ¬ sx0 = 0 → Q (some (.int (nI 1))) (sI (sI M a0 8 x1) a0 9 x2)) (pq1 : sx0 = 0 → Q (some (.int (nI 0))) M) : Wp d mdX12_prices 26 [(0, .ref a0), (1, .int x1), (2, .int x2)] [.int sx0] M Q := by
  refine r_if_ne (tgt := 31) dX12_prices_26 (by decide) (fun c0 => ?_) (fun c0 => ?_)
  · skip
    refine r_aload_n dX12_prices_31 rfl 0 rfl ?_
    refine r_iload_n dX12_prices_32 rfl 1 rfl ?_
    refine r_putI ck10 dX12_prices_33 flX12_89 rfl (Or.inl rfl) k0 ?_
    refine r_aload_n dX12_prices_36 rfl 0 rfl ?_
    refine r_iload_n dX12_prices_37 rfl 2 rfl ?_
    refine r_putI ck10 dX12_prices_38 flX12_92 rfl (Or.inl rfl) k0 ?_
    refine r_iconst (v := (nI 1)) dX12_prices_41 rfl ?_
    exact r_ret (some (.int (nI 1))) dX12_prices_42 rfl (pq0 c0)
  · skip
    refine r_iconst (v := (nI 0)) dX12_prices_29 rfl ?_
    exact r_ret (some (.int (nI 0))) dX12_prices_30 rfl (pq1 c0)
-- X12_method
theorem gX12_method_0 {d : Nat} {Q : Option Value → Mem → Prop} {M : Mem} {a0 : Nat} {x1 : Int32} (k0 : mK M a0 = 14) (pf0 : ClD d mdX12_in [.long x1.toInt64, .long (lN 0), .long (lN 3)] (sI M a0 0 (nI 0)) (fun r1 M1 => Wp d mdX12_method 14 [(0, .ref a0), (1, .int x1)] (r1.toList ++ []) M1 Q)) : Wp d mdX12_method 0 [(0, .ref a0), (1, .int x1)] [] M Q := by
  refine r_aload_n dX12_method_0 rfl 0 rfl ?_
  refine r_iconst (v := (nI 0)) dX12_method_1 rfl ?_
  refine r_putI ck10 dX12_method_2 flX12_1 rfl (Or.inl rfl) k0 ?_
  refine r_iload_n dX12_method_5 rfl 1 rfl ?_
  refine r_i2l dX12_method_6 ?_
  refine r_lconst (v := (lN 0)) dX12_method_7 rfl ?_
  refine r_ldc2 dX12_method_8 kwX12_28 ?_
  obtain ⟨e9, hlt, h9⟩ := pf0
  exact r_callS (As := [.long x1.toInt64, .long (lN 0), .long (lN 3)]) (rest := []) moX12_in dX12_method_11 mlX12_24 saX12_in rfl hlt (Nat.le_of_ble_eq_true rfl) h9
theorem gX12_method_14 {d : Nat} {Q : Option Value → Mem → Prop} {M : Mem} {a0 : Nat} {x1 : Int32} {sx0 : Int32} (k0 : mK M a0 = 14) (pf0 : ¬ sx0 = 0 → ClD d mdX12_fresh [.ref a0, .int (nI 0), .int x1] (sI M a0 7 x1) (fun r1 M1 => Wp d mdX12_method 35 [(2, .int (mI M a0 7))] (r1.toList ++ []) M1 Q)) (pq1 : sx0 = 0 → Q (some (.int (-1 : Int32))) M) : Wp d mdX12_method 14 [(0, .ref a0), (1, .int x1)] [.int sx0] M Q := by
  refine r_if_ne (tgt := 19) dX12_method_14 (by decide) (fun c0 => ?_) (fun c0 => ?_)
  · skip
    refine r_aload_n dX12_method_19 rfl 0 rfl ?_
    refine r_getI ck10 dX12_method_20 flX12_314 rfl k0 ?_
    refine r_istore_n dX12_method_23 rfl (by decide) (ls' := [(2, .int (mI M a0 7)), (0, .ref a0), (1, .int x1)]) rfl ?_
    refine r_aload_n dX12_method_24 rfl 1 rfl ?_
    refine r_iload_n dX12_method_25 rfl 2 rfl ?_
    refine r_putI ck10 dX12_method_26 flX12_314 rfl (Or.inl rfl) k0 ?_
    refine r_aload_n dX12_method_29 rfl 1 rfl ?_
    refine r_iconst (v := (nI 0)) dX12_method_30 rfl ?_
    refine r_iload_n dX12_method_31 rfl 2 rfl ?_
    refine r_sub [0] (ls' := [(2, .int (mI M a0 7))]) rfl ?_
    obtain ⟨e9, hlt, h9⟩ := (pf0 c0)
    exact r_callV (As := [.int (nI 0), .int x1]) (rest := []) (ci := 10) moX12_fresh dX12_method_32 mlX12_175 imX12_fresh seX12_fresh k0 rfl hlt (Nat.le_of_ble_eq_true rfl) h9
  · skip
    refine r_iconst (v := (-1)) dX12_method_17 rfl ?_
    exact r_ret (some (.int (-1 : Int32))) dX12_method_18 rfl (pq1 c0)
theorem gX12_method_35 {d : Nat} {Q : Option Value → Mem → Prop} {M : Mem} {x2 : Int32}  (pq0 : Q (some (.int x2)) M) : Wp d mdX12_method 35 [(2, .int x2)] [] M Q := by
  refine r_iload_n dX12_method_35 rfl 0 rfl ?_
  exact r_ret (some (.int x2)) dX12_method_36 rfl pq0
-- X12_asks
theorem gX12_asks_0 {d : Nat} {Q : Option Value → Mem → Prop} {M : Mem} {a0 : Nat} {w1 : Int64} (k0 : mK M a0 = 14) (pf0 : ClD d mdX12_isWord [.ref a0, .long w1] (sI M a0 0 (nI 0)) (fun r1 M1 => Wp d mdX12_asks 10 [(0, .ref a0), (1, .long w1)] (r1.toList ++ []) M1 Q)) : Wp d mdX12_asks 0 [(0, .ref a0), (1, .long w1)] [] M Q := by
  refine r_aload_n dX12_asks_0 rfl 0 rfl ?_
  refine r_iconst (v := (nI 0)) dX12_asks_1 rfl ?_
  refine r_putI ck10 dX12_asks_2 flX12_1 rfl (Or.inl rfl) k0 ?_
  refine r_aload_n dX12_asks_5 rfl 0 rfl ?_
  refine r_lload_n dX12_asks_6 rfl 1 rfl ?_
  obtain ⟨e9, hlt, h9⟩ := pf0
  exact r_callV (As := [.long w1]) (rest := []) (ci := 10) moX12_isWord dX12_asks_7 mlX12_55 imX12_isWord seX12_isWord k0 rfl hlt (Nat.le_of_ble_eq_true rfl) h9
theorem gX12_asks_10 {d : Nat} {Q : Option Value → Mem → Prop} {M : Mem} {a0 : Nat} {w1 : Int64} {sx0 : Int32} (k0 : mK M a0 = 14) (pq0 : sx0 = 0 → Q (some (.int (-1 : Int32))) M) (pf1 : ¬ sx0 = 0 → ClD d mdX12_ask [.ref a0, .int (nI 0), .long w1] M (fun r1 M1 => Wp d mdX12_asks 19 [] (r1.toList ++ []) M1 Q)) : Wp d mdX12_asks 10 [(0, .ref a0), (1, .long w1)] [.int sx0] M Q := by
  refine r_if_eq (tgt := 22) dX12_asks_10 (by decide) (fun c0 => ?_) (fun c0 => ?_)
  · skip
    refine r_iconst (v := (-1)) dX12_asks_22 rfl ?_
    exact r_ret (some (.int (-1 : Int32))) dX12_asks_23 rfl (pq0 c0)
  · skip
    refine r_aload_n dX12_asks_13 rfl 0 rfl ?_
    refine r_iconst (v := (nI 0)) dX12_asks_14 rfl ?_
    refine r_lload_n dX12_asks_15 rfl 1 rfl ?_
    refine r_sub [] (ls' := []) rfl ?_
    obtain ⟨e9, hlt, h9⟩ := (pf1 c0)
    exact r_callV (As := [.int (nI 0), .long w1]) (rest := []) (ci := 10) moX12_ask dX12_asks_16 mlX12_195 imX12_ask seX12_ask k0 rfl hlt (Nat.le_of_ble_eq_true rfl) h9
theorem gX12_asks_19 {d : Nat} {Q : Option Value → Mem → Prop} {M : Mem} {sx0 : Int32}  (pq0 : Q (some (.int sx0)) M) : Wp d mdX12_asks 19 [] [.int sx0] M Q := by
  refine r_goto (tgt := 23) dX12_asks_19 (by decide) ?_
  exact r_ret (some (.int sx0)) dX12_asks_23 rfl pq0
-- X12_known
theorem gX12_known_0 {d : Nat} {Q : Option Value → Mem → Prop} {M : Mem} {a0 : Nat} {w1 : Int64} (k0 : mK M a0 = 14) (pf0 : ClD d mdX12_isWord [.ref a0, .long w1] (sI M a0 0 (nI 0)) (fun r1 M1 => Wp d mdX12_known 10 [(0, .ref a0), (1, .long w1)] (r1.toList ++ []) M1 Q)) : Wp d mdX12_known 0 [(0, .ref a0), (1, .long w1)] [] M Q := by
  refine r_aload_n dX12_known_0 rfl 0 rfl ?_
  refine r_iconst (v := (nI 0)) dX12_known_1 rfl ?_
  refine r_putI ck10 dX12_known_2 flX12_1 rfl (Or.inl rfl) k0 ?_
  refine r_aload_n dX12_known_5 rfl 0 rfl ?_
  refine r_lload_n dX12_known_6 rfl 1 rfl ?_
  obtain ⟨e9, hlt, h9⟩ := pf0
  exact r_callV (As := [.long w1]) (rest := []) (ci := 10) moX12_isWord dX12_known_7 mlX12_55 imX12_isWord seX12_isWord k0 rfl hlt (Nat.le_of_ble_eq_true rfl) h9
theorem gX12_known_10 {d : Nat} {Q : Option Value → Mem → Prop} {M : Mem} {a0 : Nat} {w1 : Int64} {sx0 : Int32} (k0 : mK M a0 = 14) (pq0 : sx0 = 0 → Q (some (.int (-1 : Int32))) M) (pf1 : ¬ sx0 = 0 → ClD d mdX12_wasAsked [.ref a0, .int (nI 0), .long w1] M (fun r1 M1 => Wp d mdX12_known 19 [] (r1.toList ++ []) M1 Q)) : Wp d mdX12_known 10 [(0, .ref a0), (1, .long w1)] [.int sx0] M Q := by
  refine r_if_eq (tgt := 25) dX12_known_10 (by decide) (fun c0 => ?_) (fun c0 => ?_)
  · skip
    refine r_iconst (v := (-1)) dX12_known_25 rfl ?_
    exact r_ret (some (.int (-1 : Int32))) dX12_known_26 rfl (pq0 c0)
  · skip
    refine r_aload_n dX12_known_13 rfl 0 rfl ?_
    refine r_iconst (v := (nI 0)) dX12_known_14 rfl ?_
    refine r_lload_n dX12_known_15 rfl 1 rfl ?_
    refine r_sub [] (ls' := []) rfl ?_
    obtain ⟨e9, hlt, h9⟩ := (pf1 c0)
    exact r_callV (As := [.int (nI 0), .long w1]) (rest := []) (ci := 10) moX12_wasAsked dX12_known_16 mlX12_336 imX12_wasAsked seX12_wasAsked k0 rfl hlt (Nat.le_of_ble_eq_true rfl) h9
theorem gX12_known_19 {d : Nat} {Q : Option Value → Mem → Prop} {M : Mem} {sx0 : Int32}  (pf0 : ClD d mdX12_flag [.int sx0] M (fun r1 M1 => Wp d mdX12_known 22 [] (r1.toList ++ []) M1 Q)) : Wp d mdX12_known 19 [] [.int sx0] M Q := by
  obtain ⟨e9, hlt, h9⟩ := pf0
  exact r_callS (As := [.int sx0]) (rest := []) moX12_flag dX12_known_19 mlX12_339 saX12_flag rfl hlt (Nat.le_of_ble_eq_true rfl) h9
theorem gX12_known_22 {d : Nat} {Q : Option Value → Mem → Prop} {M : Mem} {sx0 : Int32}  (pq0 : Q (some (.int sx0)) M) : Wp d mdX12_known 22 [] [.int sx0] M Q := by
  refine r_goto (tgt := 26) dX12_known_22 (by decide) ?_
  exact r_ret (some (.int sx0)) dX12_known_26 rfl pq0
-- X12_step
theorem gX12_step_0 {d : Nat} {Q : Option Value → Mem → Prop} {M : Mem} {a0 : Nat} (k0 : mK M a0 = 14) (k1 : mK M (mR (sI M a0 0 (nI 0)) a0 20) = 3) (k2 : mK M (mR (sI M a0 0 (nI 0)) a0 17) = 1) (pb0 : vp_in (nI 0) (mN (sI M a0 0 (nI 0)) (mR (sI M a0 0 (nI 0)) a0 20))) (pb1 : (mI (sI M a0 0 (nI 0)) (mR (sI M a0 0 (nI 0)) a0 20) (nI 0).toNatClampNeg) = 0 → vp_in (nI 0) (mN (sI M a0 0 (nI 0)) (mR (sI M a0 0 (nI 0)) a0 17))) (pf2 : (mI (sI M a0 0 (nI 0)) (mR (sI M a0 0 (nI 0)) a0 20) (nI 0).toNatClampNeg) = 0 → ClD d mdX12_steps [.ref a0, .int (nI 0)] (sI M a0 0 (nI 0)) (fun r1 M1 => Wp d mdX12_step 29 [(0, .ref a0), (1, .int (mI (sI M a0 0 (nI 0)) (mR (sI M a0 0 (nI 0)) a0 17) (nI 0).toNatClampNeg))] (r1.toList ++ []) M1 Q)) (pq3 : ¬ (mI (sI M a0 0 (nI 0)) (mR (sI M a0 0 (nI 0)) a0 20) (nI 0).toNatClampNeg) = 0 → Q (some (.int (-2 : Int32))) (sI M a0 0 (nI 0))) : Wp d mdX12_step 0 [(0, .ref a0)] [] M Q := by
  refine r_aload_n dX12_step_0 rfl 0 rfl ?_
  refine r_iconst (v := (nI 0)) dX12_step_1 rfl ?_
  refine r_putI ck10 dX12_step_2 flX12_1 rfl (Or.inl rfl) k0 ?_
  refine r_aload_n dX12_step_5 rfl 0 rfl ?_
  refine r_getR ck10 dX12_step_6 flX12_126 rfl k0 ?_
  refine r_iconst (v := (nI 0)) dX12_step_9 rfl ?_
  refine r_zald dX12_step_10 k1 pb0 ?_
  refine r_if_eq (tgt := 17) dX12_step_11 (by decide) (fun c0 => ?_) (fun c0 => ?_)
  · skip
    refine r_aload_n dX12_step_17 rfl 0 rfl ?_
    refine r_getR ck10 dX12_step_18 flX12_117 rfl k0 ?_
    refine r_iconst (v := (nI 0)) dX12_step_21 rfl ?_
    refine r_iald dX12_step_22 k2 (pb1 c0) ?_
    refine r_istore_n dX12_step_23 rfl (by decide) (ls' := [(1, .int (mI (sI M a0 0 (nI 0)) (mR (sI M a0 0 (nI 0)) a0 17) (nI 0).toNatClampNeg)), (0, .ref a0)]) rfl ?_
    refine r_aload_n dX12_step_24 rfl 1 rfl ?_
    refine r_iconst (v := (nI 0)) dX12_step_25 rfl ?_
    refine r_sub [1, 0] (ls' := [(0, .ref a0), (1, .int (mI (sI M a0 0 (nI 0)) (mR (sI M a0 0 (nI 0)) a0 17) (nI 0).toNatClampNeg))]) rfl ?_
    obtain ⟨e9, hlt, h9⟩ := (pf2 c0)
    exact r_callV (As := [.int (nI 0)]) (rest := []) (ci := 10) moX12_steps dX12_step_26 mlX12_251 imX12_steps seX12_steps k0 rfl hlt (Nat.le_of_ble_eq_true rfl) h9
  · skip
    refine r_bipush (v := (-2)) dX12_step_14 rfl ?_
    exact r_ret (some (.int (-2 : Int32))) dX12_step_16 rfl (pq3 c0)
theorem gX12_step_29 {d : Nat} {Q : Option Value → Mem → Prop} {M : Mem} {a0 : Nat} {x1 : Int32} {sx0 : Int32} (k0 : mK M a0 = 14) (k1 : mK M (mR (sI M a0 1 (nI 0)) a0 17) = 1) (pb0 : vp_in (nI 0) (mN (sI M a0 1 (nI 0)) (mR (sI M a0 1 (nI 0)) a0 17))) (pf1 : ClD d mdX12_enters [.ref a0, .long (((mI (sI M a0 1 (nI 0)) (mR (sI M a0 1 (nI 0)) a0 17) (nI 0).toNatClampNeg) - x1).toInt64)] (sI M a0 1 (nI 0)) (fun r1 M1 => Wp d mdX12_step 48 [(0, .ref a0), (2, .int sx0)] (r1.toList ++ []) M1 Q)) : Wp d mdX12_step 29 [(0, .ref a0), (1, .int x1)] [.int sx0] M Q := by
  refine r_istore_n dX12_step_29 rfl (by decide) (ls' := [(2, .int sx0), (0, .ref a0), (1, .int x1)]) rfl ?_
  refine r_aload_n dX12_step_30 rfl 1 rfl ?_
  refine r_iconst (v := (nI 0)) dX12_step_31 rfl ?_
  refine r_putI ck10 dX12_step_32 flX12_11 rfl (Or.inl rfl) k0 ?_
  refine r_aload_n dX12_step_35 rfl 1 rfl ?_
  refine r_aload_n dX12_step_36 rfl 1 rfl ?_
  refine r_getR ck10 dX12_step_37 flX12_117 rfl k0 ?_
  refine r_iconst (v := (nI 0)) dX12_step_40 rfl ?_
  refine r_iald dX12_step_41 k1 pb0 ?_
  refine r_iload_n dX12_step_42 rfl 2 rfl ?_
  refine r_isub dX12_step_43 ?_
  refine r_i2l dX12_step_44 ?_
  refine r_sub [1, 0] (ls' := [(0, .ref a0), (2, .int sx0)]) rfl ?_
  obtain ⟨e9, hlt, h9⟩ := pf1
  exact r_callV (As := [.long (((mI (sI M a0 1 (nI 0)) (mR (sI M a0 1 (nI 0)) a0 17) (nI 0).toNatClampNeg) - x1).toInt64)]) (rest := []) (ci := 10) moX12_enters dX12_step_45 mlX12_343 imX12_enters seX12_enters k0 rfl hlt (Nat.le_of_ble_eq_true rfl) h9
theorem gX12_step_48 {d : Nat} {Q : Option Value → Mem → Prop} {M : Mem} {a0 : Nat} {x2 : Int32} (k0 : mK M a0 = 14) (pw0 : x2 ≤ 0 → Wp d mdX12_step 60 [(2, .int x2)] [] M Q) (pf1 : ¬ x2 ≤ 0 → ClD d mdX12_enters [.ref a0, .long (mJ M a0 23)] M (fun r1 M1 => Wp d mdX12_step 60 [(2, .int x2)] (r1.toList ++ []) M1 Q)) : Wp d mdX12_step 48 [(0, .ref a0), (2, .int x2)] [] M Q := by
  refine r_iload_n dX12_step_48 rfl 1 rfl ?_
  refine r_if_le (tgt := 60) dX12_step_49 (by decide) (fun c0 => ?_) (fun c0 => ?_)
  · skip
    refine r_sub [1] (ls' := [(2, .int x2)]) rfl ?_
    exact (pw0 c0)
  · skip
    refine r_aload_n dX12_step_52 rfl 0 rfl ?_
    refine r_aload_n dX12_step_53 rfl 0 rfl ?_
    refine r_getJ ck10 dX12_step_54 flX12_212 rfl k0 ?_
    refine r_sub [1] (ls' := [(2, .int x2)]) rfl ?_
    obtain ⟨e9, hlt, h9⟩ := (pf1 c0)
    exact r_callV (As := [.long (mJ M a0 23)]) (rest := []) (ci := 10) moX12_enters dX12_step_57 mlX12_343 imX12_enters seX12_enters k0 rfl hlt (Nat.le_of_ble_eq_true rfl) h9
theorem gX12_step_60 {d : Nat} {Q : Option Value → Mem → Prop} {M : Mem} {x2 : Int32}  (pq0 : Q (some (.int x2)) M) : Wp d mdX12_step 60 [(2, .int x2)] [] M Q := by
  refine r_iload_n dX12_step_60 rfl 0 rfl ?_
  exact r_ret (some (.int x2)) dX12_step_61 rfl pq0
-- X12_guess
theorem gX12_guess_0 {d : Nat} {Q : Option Value → Mem → Prop} {M : Mem} {a0 : Nat} (k0 : mK M a0 = 14) (pf0 : ClD d mdX12_stepsTillGuess [.ref a0, .int (nI 0)] (sI M a0 0 (nI 0)) (fun r1 M1 => Wp d mdX12_guess 10 [(0, .ref a0)] (r1.toList ++ []) M1 Q)) : Wp d mdX12_guess 0 [(0, .ref a0)] [] M Q := by
  refine r_aload_n dX12_guess_0 rfl 0 rfl ?_
  refine r_iconst (v := (nI 0)) dX12_guess_1 rfl ?_
  refine r_putI ck10 dX12_guess_2 flX12_1 rfl (Or.inl rfl) k0 ?_
  refine r_aload_n dX12_guess_5 rfl 0 rfl ?_
  refine r_iconst (v := (nI 0)) dX12_guess_6 rfl ?_
  obtain ⟨e9, hlt, h9⟩ := pf0
  exact r_callV (As := [.int (nI 0)]) (rest := []) (ci := 10) moX12_stepsTillGuess dX12_guess_7 mlX12_280 imX12_stepsTillGuess seX12_stepsTillGuess k0 rfl hlt (Nat.le_of_ble_eq_true rfl) h9
theorem gX12_guess_10 {d : Nat} {Q : Option Value → Mem → Prop} {M : Mem} {a0 : Nat} {sx0 : Int32} (k0 : mK M a0 = 14) (pf0 : ClD d mdX12_enters [.ref a0, .long sx0.toInt64] (sI M a0 1 (nI 0)) (fun r1 M1 => Wp d mdX12_guess 22 [(0, .ref a0)] (r1.toList ++ []) M1 Q)) : Wp d mdX12_guess 10 [(0, .ref a0)] [.int sx0] M Q := by
  refine r_istore_n dX12_guess_10 rfl (by decide) (ls' := [(1, .int sx0), (0, .ref a0)]) rfl ?_
  refine r_aload_n dX12_guess_11 rfl 1 rfl ?_
  refine r_iconst (v := (nI 0)) dX12_guess_12 rfl ?_
  refine r_putI ck10 dX12_guess_13 flX12_11 rfl (Or.inl rfl) k0 ?_
  refine r_aload_n dX12_guess_16 rfl 1 rfl ?_
  refine r_iload_n dX12_guess_17 rfl 0 rfl ?_
  refine r_i2l dX12_guess_18 ?_
  refine r_sub [1] (ls' := [(0, .ref a0)]) rfl ?_
  obtain ⟨e9, hlt, h9⟩ := pf0
  exact r_callV (As := [.long sx0.toInt64]) (rest := []) (ci := 10) moX12_enters dX12_guess_19 mlX12_343 imX12_enters seX12_enters k0 rfl hlt (Nat.le_of_ble_eq_true rfl) h9
theorem gX12_guess_22 {d : Nat} {Q : Option Value → Mem → Prop} {M : Mem} {a0 : Nat} (k0 : mK M a0 = 14) (k1 : mK M (mR M a0 4) = 1) (pb0 : vp_in (nI 1) (mN M (mR M a0 4))) (pq1 : Q (some (.int (mI M (mR M a0 4) (nI 1).toNatClampNeg))) M) : Wp d mdX12_guess 22 [(0, .ref a0)] [] M Q := by
  refine r_aload_n dX12_guess_22 rfl 0 rfl ?_
  refine r_getR ck10 dX12_guess_23 flX12_21 rfl k0 ?_
  refine r_iconst (v := (nI 1)) dX12_guess_26 rfl ?_
  refine r_iald dX12_guess_27 k1 pb0 ?_
  exact r_ret (some (.int (mI M (mR M a0 4) (nI 1).toNatClampNeg))) dX12_guess_28 rfl pq1
-- X12_tells
theorem gX12_tells_0 {d : Nat} {Q : Option Value → Mem → Prop} {M : Mem} {a0 : Nat} {w1 : Int64} (k0 : mK M a0 = 14) (pf0 : ClD d mdX12_isWord [.ref a0, .long w1] (sI M a0 0 (nI 0)) (fun r1 M1 => Wp d mdX12_tells 10 [(0, .ref a0), (1, .long w1)] (r1.toList ++ []) M1 Q)) : Wp d mdX12_tells 0 [(0, .ref a0), (1, .long w1)] [] M Q := by
  refine r_aload_n dX12_tells_0 rfl 0 rfl ?_
  refine r_iconst (v := (nI 0)) dX12_tells_1 rfl ?_
  refine r_putI ck10 dX12_tells_2 flX12_1 rfl (Or.inl rfl) k0 ?_
  refine r_aload_n dX12_tells_5 rfl 0 rfl ?_
  refine r_lload_n dX12_tells_6 rfl 1 rfl ?_
  obtain ⟨e9, hlt, h9⟩ := pf0
  exact r_callV (As := [.long w1]) (rest := []) (ci := 10) moX12_isWord dX12_tells_7 mlX12_55 imX12_isWord seX12_isWord k0 rfl hlt (Nat.le_of_ble_eq_true rfl) h9
theorem gX12_tells_10 {d : Nat} {Q : Option Value → Mem → Prop} {M : Mem} {a0 : Nat} {w1 : Int64} {sx0 : Int32}  (pq0 : sx0 = 0 → Q (some (.int (-1 : Int32))) M) (pf1 : ¬ sx0 = 0 → ClD d mdX12_lengthOf [.long w1] M (fun r1 M1 => Wp d mdX12_tells 17 [(0, .ref a0), (1, .long w1)] (r1.toList ++ []) M1 Q)) : Wp d mdX12_tells 10 [(0, .ref a0), (1, .long w1)] [.int sx0] M Q := by
  refine r_if_eq (tgt := 22) dX12_tells_10 (by decide) (fun c0 => ?_) (fun c0 => ?_)
  · skip
    refine r_iconst (v := (-1)) dX12_tells_22 rfl ?_
    exact r_ret (some (.int (-1 : Int32))) dX12_tells_23 rfl (pq0 c0)
  · skip
    refine r_lload_n dX12_tells_13 rfl 1 rfl ?_
    obtain ⟨e9, hlt, h9⟩ := (pf1 c0)
    exact r_callS (As := [.long w1]) (rest := []) moX12_lengthOf dX12_tells_14 mlX12_33 saX12_lengthOf rfl hlt (Nat.le_of_ble_eq_true rfl) h9
theorem gX12_tells_17 {d : Nat} {Q : Option Value → Mem → Prop} {M : Mem} {a0 : Nat} {w1 : Int64} {sx0 : Int32} (k0 : mK M a0 = 14) (k1 : mK M (mR M a0 20) = 3) (pb0 : sx0 ≤ (nI 14) → vp_in (nI 0) (mN M (mR M a0 20))) (pf1 : sx0 ≤ (nI 14) → ¬ (mI M (mR M a0 20) (nI 0).toNatClampNeg) = 0 → ClD d mdX12_answer [.ref a0, .int (nI 1), .long w1] M (fun r1 M1 => Wp d mdX12_tells 42 [(0, .ref a0), (1, .long w1)] (r1.toList ++ []) M1 Q)) (pq2 : sx0 ≤ (nI 14) → (mI M (mR M a0 20) (nI 0).toNatClampNeg) = 0 → Q (some (.int (-2 : Int32))) M) (pq3 : ¬ sx0 ≤ (nI 14) → Q (some (.int (-1 : Int32))) M) : Wp d mdX12_tells 17 [(0, .ref a0), (1, .long w1)] [.int sx0] M Q := by
  refine r_bipush (v := (nI 14)) dX12_tells_17 rfl ?_
  refine r_icmp_le (tgt := 24) dX12_tells_19 (by decide) (fun c0 => ?_) (fun c0 => ?_)
  · skip
    refine r_aload_n dX12_tells_24 rfl 0 rfl ?_
    refine r_getR ck10 dX12_tells_25 flX12_126 rfl k0 ?_
    refine r_iconst (v := (nI 0)) dX12_tells_28 rfl ?_
    refine r_zald dX12_tells_29 k1 (pb0 c0) ?_
    refine r_if_ne (tgt := 36) dX12_tells_30 (by decide) (fun c1 => ?_) (fun c1 => ?_)
    · skip
      refine r_aload_n dX12_tells_36 rfl 0 rfl ?_
      refine r_iconst (v := (nI 1)) dX12_tells_37 rfl ?_
      refine r_lload_n dX12_tells_38 rfl 1 rfl ?_
      obtain ⟨e9, hlt, h9⟩ := (pf1 c0 c1)
      exact r_callV (As := [.int (nI 1), .long w1]) (rest := []) (ci := 10) moX12_answer dX12_tells_39 mlX12_185 imX12_answer seX12_answer k0 rfl hlt (Nat.le_of_ble_eq_true rfl) h9
    · skip
      refine r_bipush (v := (-2)) dX12_tells_33 rfl ?_
      exact r_ret (some (.int (-2 : Int32))) dX12_tells_35 rfl (pq2 c0 c1)
  · skip
    refine r_iconst (v := (-1)) dX12_tells_22 rfl ?_
    exact r_ret (some (.int (-1 : Int32))) dX12_tells_23 rfl (pq3 c0)
theorem gX12_tells_42 {d : Nat} {Q : Option Value → Mem → Prop} {M : Mem} {a0 : Nat} {w1 : Int64} {sx0 : Int32} (k0 : mK M a0 = 14) (pf0 : ClD d mdX12_answer [.ref a0, .int (nI 0), .long w1] M (fun r1 M1 => Wp d mdX12_tells 48 [(0, .ref a0), (1, .long w1)] (r1.toList ++ [.int sx0]) M1 Q)) : Wp d mdX12_tells 42 [(0, .ref a0), (1, .long w1)] [.int sx0] M Q := by
  refine r_aload_n dX12_tells_42 rfl 0 rfl ?_
  refine r_iconst (v := (nI 0)) dX12_tells_43 rfl ?_
  refine r_lload_n dX12_tells_44 rfl 1 rfl ?_
  obtain ⟨e9, hlt, h9⟩ := pf0
  exact r_callV (As := [.int (nI 0), .long w1]) (rest := [.int sx0]) (ci := 10) moX12_answer dX12_tells_45 mlX12_185 imX12_answer seX12_answer k0 rfl hlt (Nat.le_of_ble_eq_true rfl) h9
theorem gX12_tells_48 {d : Nat} {Q : Option Value → Mem → Prop} {M : Mem} {a0 : Nat} {w1 : Int64} {sx0 : Int32} {sx1 : Int32} (k0 : mK M a0 = 14) (pf0 : ¬ sx1 = sx0 → ClD d mdX12_lesson [.ref a0, .int (nI 0), .long w1] M (fun r1 M1 => Wp d mdX12_tells 60 [] (r1.toList ++ []) M1 Q)) (pq1 : sx1 = sx0 → Q (some (.int (-3 : Int32))) M) : Wp d mdX12_tells 48 [(0, .ref a0), (1, .long w1)] [.int sx0, .int sx1] M Q := by
  refine r_icmp_ne (tgt := 54) dX12_tells_48 (by decide) (fun c0 => ?_) (fun c0 => ?_)
  · skip
    refine r_aload_n dX12_tells_54 rfl 0 rfl ?_
    refine r_iconst (v := (nI 0)) dX12_tells_55 rfl ?_
    refine r_lload_n dX12_tells_56 rfl 1 rfl ?_
    refine r_sub [] (ls' := []) rfl ?_
    obtain ⟨e9, hlt, h9⟩ := (pf0 c0)
    exact r_callV (As := [.int (nI 0), .long w1]) (rest := []) (ci := 10) moX12_lesson dX12_tells_57 mlX12_287 imX12_lesson seX12_lesson k0 rfl hlt (Nat.le_of_ble_eq_true rfl) h9
  · skip
    refine r_bipush (v := (-3)) dX12_tells_51 rfl ?_
    exact r_ret (some (.int (-3 : Int32))) dX12_tells_53 rfl (pq1 c0)
theorem gX12_tells_60 {d : Nat} {Q : Option Value → Mem → Prop} {M : Mem} {sx0 : Int32}  (pq0 : Q (some (.int sx0)) M) : Wp d mdX12_tells 60 [] [.int sx0] M Q := by
  exact r_ret (some (.int sx0)) dX12_tells_60 rfl pq0
-- X12_learns
theorem gX12_learns_0 {d : Nat} {Q : Option Value → Mem → Prop} {M : Mem} {a0 : Nat} (k0 : mK M a0 = 14) (pf0 : ClD d mdX12_learnsAll [.ref a0, .int (nI 0)] (sI M a0 0 (nI 0)) (fun r1 M1 => Wp d mdX12_learns 10 [(0, .ref a0)] (r1.toList ++ []) M1 Q)) : Wp d mdX12_learns 0 [(0, .ref a0)] [] M Q := by
  refine r_aload_n dX12_learns_0 rfl 0 rfl ?_
  refine r_iconst (v := (nI 0)) dX12_learns_1 rfl ?_
  refine r_putI ck10 dX12_learns_2 flX12_1 rfl (Or.inl rfl) k0 ?_
  refine r_aload_n dX12_learns_5 rfl 0 rfl ?_
  refine r_iconst (v := (nI 0)) dX12_learns_6 rfl ?_
  obtain ⟨e9, hlt, h9⟩ := pf0
  exact r_callV (As := [.int (nI 0)]) (rest := []) (ci := 10) moX12_learnsAll dX12_learns_7 mlX12_347 imX12_learnsAll seX12_learnsAll k0 rfl hlt (Nat.le_of_ble_eq_true rfl) h9
theorem gX12_learns_10 {d : Nat} {Q : Option Value → Mem → Prop} {M : Mem} {a0 : Nat} {sx0 : Int32} (k0 : mK M a0 = 14) (pf0 : ClD d mdX12_enters [.ref a0, .long sx0.toInt64] (sI M a0 1 (nI 0)) (fun r1 M1 => Wp d mdX12_learns 22 [(0, .ref a0)] (r1.toList ++ []) M1 Q)) : Wp d mdX12_learns 10 [(0, .ref a0)] [.int sx0] M Q := by
  refine r_istore_n dX12_learns_10 rfl (by decide) (ls' := [(1, .int sx0), (0, .ref a0)]) rfl ?_
  refine r_aload_n dX12_learns_11 rfl 1 rfl ?_
  refine r_iconst (v := (nI 0)) dX12_learns_12 rfl ?_
  refine r_putI ck10 dX12_learns_13 flX12_11 rfl (Or.inl rfl) k0 ?_
  refine r_aload_n dX12_learns_16 rfl 1 rfl ?_
  refine r_iload_n dX12_learns_17 rfl 0 rfl ?_
  refine r_i2l dX12_learns_18 ?_
  refine r_sub [1] (ls' := [(0, .ref a0)]) rfl ?_
  obtain ⟨e9, hlt, h9⟩ := pf0
  exact r_callV (As := [.long sx0.toInt64]) (rest := []) (ci := 10) moX12_enters dX12_learns_19 mlX12_343 imX12_enters seX12_enters k0 rfl hlt (Nat.le_of_ble_eq_true rfl) h9
theorem gX12_learns_22 {d : Nat} {Q : Option Value → Mem → Prop} {M : Mem} {a0 : Nat} (k0 : mK M a0 = 14) (k1 : mK M (mR M a0 19) = 1) (pb0 : vp_in (nI 0) (mN M (mR M a0 19))) (pf1 : ClD d mdX12_enters [.ref a0, .long ((mI M (mR M a0 19) (nI 0).toNatClampNeg).toInt64)] M (fun r1 M1 => Wp d mdX12_learns 33 [(0, .ref a0)] (r1.toList ++ []) M1 Q)) : Wp d mdX12_learns 22 [(0, .ref a0)] [] M Q := by
  refine r_aload_n dX12_learns_22 rfl 0 rfl ?_
  refine r_aload_n dX12_learns_23 rfl 0 rfl ?_
  refine r_getR ck10 dX12_learns_24 flX12_123 rfl k0 ?_
  refine r_iconst (v := (nI 0)) dX12_learns_27 rfl ?_
  refine r_iald dX12_learns_28 k1 pb0 ?_
  refine r_i2l dX12_learns_29 ?_
  obtain ⟨e9, hlt, h9⟩ := pf1
  exact r_callV (As := [.long ((mI M (mR M a0 19) (nI 0).toNatClampNeg).toInt64)]) (rest := []) (ci := 10) moX12_enters dX12_learns_30 mlX12_343 imX12_enters seX12_enters k0 rfl hlt (Nat.le_of_ble_eq_true rfl) h9
theorem gX12_learns_33 {d : Nat} {Q : Option Value → Mem → Prop} {M : Mem} {a0 : Nat} (k0 : mK M a0 = 14) (k1 : mK M (mR M a0 4) = 1) (pb0 : vp_in (nI 1) (mN M (mR M a0 4))) (pq1 : Q (some (.int (mI M (mR M a0 4) (nI 1).toNatClampNeg))) M) : Wp d mdX12_learns 33 [(0, .ref a0)] [] M Q := by
  refine r_aload_n dX12_learns_33 rfl 0 rfl ?_
  refine r_getR ck10 dX12_learns_34 flX12_21 rfl k0 ?_
  refine r_iconst (v := (nI 1)) dX12_learns_37 rfl ?_
  refine r_iald dX12_learns_38 k1 pb0 ?_
  exact r_ret (some (.int (mI M (mR M a0 4) (nI 1).toNatClampNeg))) dX12_learns_39 rfl pq1
-- X12_head
theorem gX12_head_0 {d : Nat} {Q : Option Value → Mem → Prop} {M : Mem} {a0 : Nat} {x1 : Int32} (k0 : mK M a0 = 14) (k1 : mK M (mR (sI M a0 0 (nI 0)) a0 11) = 1) (pb0 : ¬ x1 = (-1 : Int32) → vp_in (nI 0) (mN (sI M a0 0 (nI 0)) (mR (sI M a0 0 (nI 0)) a0 11))) (pf1 : ¬ x1 = (-1 : Int32) → ClD d mdX12_in [.long x1.toInt64, .long (lN 0), .long (((mI (sI M a0 0 (nI 0)) (mR (sI M a0 0 (nI 0)) a0 11) (nI 0).toNatClampNeg) - (nI 1)).toInt64)] (sI M a0 0 (nI 0)) (fun r1 M1 => Wp d mdX12_head 33 [(0, .ref a0), (1, .int x1)] (r1.toList ++ []) M1 Q)) (pb2 : x1 = (-1 : Int32) → vp_in (nI 0) (mN (sI M a0 0 (nI 0)) (mR (sI M a0 0 (nI 0)) a0 11))) (pq3 : x1 = (-1 : Int32) → Q (some (.long ((mI (sI M a0 0 (nI 0)) (mR (sI M a0 0 (nI 0)) a0 11) (nI 0).toNatClampNeg).toInt64))) (sI M a0 0 (nI 0))) : Wp d mdX12_head 0 [(0, .ref a0), (1, .int x1)] [] M Q := by
  refine r_aload_n dX12_head_0 rfl 0 rfl ?_
  refine r_iconst (v := (nI 0)) dX12_head_1 rfl ?_
  refine r_putI ck10 dX12_head_2 flX12_1 rfl (Or.inl rfl) k0 ?_
  refine r_iload_n dX12_head_5 rfl 1 rfl ?_
  refine r_iconst (v := (-1)) dX12_head_6 rfl ?_
  refine r_icmp_ne (tgt := 18) dX12_head_7 (by decide) (fun c0 => ?_) (fun c0 => ?_)
  · skip
    refine r_iload_n dX12_head_18 rfl 1 rfl ?_
    refine r_i2l dX12_head_19 ?_
    refine r_lconst (v := (lN 0)) dX12_head_20 rfl ?_
    refine r_aload_n dX12_head_21 rfl 0 rfl ?_
    refine r_getR ck10 dX12_head_22 flX12_98 rfl k0 ?_
    refine r_iconst (v := (nI 0)) dX12_head_25 rfl ?_
    refine r_iald dX12_head_26 k1 (pb0 c0) ?_
    refine r_iconst (v := (nI 1)) dX12_head_27 rfl ?_
    refine r_isub dX12_head_28 ?_
    refine r_i2l dX12_head_29 ?_
    obtain ⟨e9, hlt, h9⟩ := (pf1 c0)
    exact r_callS (As := [.long x1.toInt64, .long (lN 0), .long (((mI (sI M a0 0 (nI 0)) (mR (sI M a0 0 (nI 0)) a0 11) (nI 0).toNatClampNeg) - (nI 1)).toInt64)]) (rest := []) moX12_in dX12_head_30 mlX12_24 saX12_in rfl hlt (Nat.le_of_ble_eq_true rfl) h9
  · skip
    refine r_aload_n dX12_head_10 rfl 0 rfl ?_
    refine r_getR ck10 dX12_head_11 flX12_98 rfl k0 ?_
    refine r_iconst (v := (nI 0)) dX12_head_14 rfl ?_
    refine r_iald dX12_head_15 k1 (pb2 c0) ?_
    refine r_i2l dX12_head_16 ?_
    exact r_ret (some (.long ((mI (sI M a0 0 (nI 0)) (mR (sI M a0 0 (nI 0)) a0 11) (nI 0).toNatClampNeg).toInt64))) dX12_head_17 rfl (pq3 c0)
theorem gX12_head_33 {d : Nat} {Q : Option Value → Mem → Prop} {M : Mem} {a0 : Nat} {x1 : Int32} {sx0 : Int32} (k0 : mK M a0 = 14) (pq0 : sx0 = 0 → Q (some (.long (-1 : Int64))) M) (pf1 : ¬ sx0 = 0 → ClD d mdX12_headOf [.ref a0, .int (nI 0), .int x1] M (fun r1 M1 => Wp d mdX12_head 42 [] (r1.toList ++ []) M1 Q)) : Wp d mdX12_head 33 [(0, .ref a0), (1, .int x1)] [.int sx0] M Q := by
  refine r_if_eq (tgt := 45) dX12_head_33 (by decide) (fun c0 => ?_) (fun c0 => ?_)
  · skip
    refine r_ldc2 dX12_head_45 kwX12_59 ?_
    exact r_ret (some (.long (-1 : Int64))) dX12_head_48 rfl (pq0 c0)
  · skip
    refine r_aload_n dX12_head_36 rfl 0 rfl ?_
    refine r_iconst (v := (nI 0)) dX12_head_37 rfl ?_
    refine r_iload_n dX12_head_38 rfl 1 rfl ?_
    refine r_sub [] (ls' := []) rfl ?_
    obtain ⟨e9, hlt, h9⟩ := (pf1 c0)
    exact r_callV (As := [.int (nI 0), .int x1]) (rest := []) (ci := 10) moX12_headOf dX12_head_39 mlX12_206 imX12_headOf seX12_headOf k0 rfl hlt (Nat.le_of_ble_eq_true rfl) h9
theorem gX12_head_42 {d : Nat} {Q : Option Value → Mem → Prop} {M : Mem} {sw0 : Int64}  (pq0 : Q (some (.long sw0)) M) : Wp d mdX12_head 42 [] [.long sw0] M Q := by
  refine r_goto (tgt := 48) dX12_head_42 (by decide) ?_
  exact r_ret (some (.long sw0)) dX12_head_48 rfl pq0
-- X12_tail
theorem gX12_tail_0 {d : Nat} {Q : Option Value → Mem → Prop} {M : Mem} {a0 : Nat} {x1 : Int32} (k0 : mK M a0 = 14) (k1 : mK M (mR (sI M a0 0 (nI 0)) a0 12) = 1) (pb0 : ¬ x1 = (-1 : Int32) → vp_in (nI 0) (mN (sI M a0 0 (nI 0)) (mR (sI M a0 0 (nI 0)) a0 12))) (pf1 : ¬ x1 = (-1 : Int32) → ClD d mdX12_in [.long x1.toInt64, .long (lN 0), .long (((mI (sI M a0 0 (nI 0)) (mR (sI M a0 0 (nI 0)) a0 12) (nI 0).toNatClampNeg) - (nI 1)).toInt64)] (sI M a0 0 (nI 0)) (fun r1 M1 => Wp d mdX12_tail 33 [(0, .ref a0), (1, .int x1)] (r1.toList ++ []) M1 Q)) (pb2 : x1 = (-1 : Int32) → vp_in (nI 0) (mN (sI M a0 0 (nI 0)) (mR (sI M a0 0 (nI 0)) a0 12))) (pq3 : x1 = (-1 : Int32) → Q (some (.long ((mI (sI M a0 0 (nI 0)) (mR (sI M a0 0 (nI 0)) a0 12) (nI 0).toNatClampNeg).toInt64))) (sI M a0 0 (nI 0))) : Wp d mdX12_tail 0 [(0, .ref a0), (1, .int x1)] [] M Q := by
  refine r_aload_n dX12_tail_0 rfl 0 rfl ?_
  refine r_iconst (v := (nI 0)) dX12_tail_1 rfl ?_
  refine r_putI ck10 dX12_tail_2 flX12_1 rfl (Or.inl rfl) k0 ?_
  refine r_iload_n dX12_tail_5 rfl 1 rfl ?_
  refine r_iconst (v := (-1)) dX12_tail_6 rfl ?_
  refine r_icmp_ne (tgt := 18) dX12_tail_7 (by decide) (fun c0 => ?_) (fun c0 => ?_)
  · skip
    refine r_iload_n dX12_tail_18 rfl 1 rfl ?_
    refine r_i2l dX12_tail_19 ?_
    refine r_lconst (v := (lN 0)) dX12_tail_20 rfl ?_
    refine r_aload_n dX12_tail_21 rfl 0 rfl ?_
    refine r_getR ck10 dX12_tail_22 flX12_101 rfl k0 ?_
    refine r_iconst (v := (nI 0)) dX12_tail_25 rfl ?_
    refine r_iald dX12_tail_26 k1 (pb0 c0) ?_
    refine r_iconst (v := (nI 1)) dX12_tail_27 rfl ?_
    refine r_isub dX12_tail_28 ?_
    refine r_i2l dX12_tail_29 ?_
    obtain ⟨e9, hlt, h9⟩ := (pf1 c0)
    exact r_callS (As := [.long x1.toInt64, .long (lN 0), .long (((mI (sI M a0 0 (nI 0)) (mR (sI M a0 0 (nI 0)) a0 12) (nI 0).toNatClampNeg) - (nI 1)).toInt64)]) (rest := []) moX12_in dX12_tail_30 mlX12_24 saX12_in rfl hlt (Nat.le_of_ble_eq_true rfl) h9
  · skip
    refine r_aload_n dX12_tail_10 rfl 0 rfl ?_
    refine r_getR ck10 dX12_tail_11 flX12_101 rfl k0 ?_
    refine r_iconst (v := (nI 0)) dX12_tail_14 rfl ?_
    refine r_iald dX12_tail_15 k1 (pb2 c0) ?_
    refine r_i2l dX12_tail_16 ?_
    exact r_ret (some (.long ((mI (sI M a0 0 (nI 0)) (mR (sI M a0 0 (nI 0)) a0 12) (nI 0).toNatClampNeg).toInt64))) dX12_tail_17 rfl (pq3 c0)
theorem gX12_tail_33 {d : Nat} {Q : Option Value → Mem → Prop} {M : Mem} {a0 : Nat} {x1 : Int32} {sx0 : Int32} (k0 : mK M a0 = 14) (pq0 : sx0 = 0 → Q (some (.long (-1 : Int64))) M) (pf1 : ¬ sx0 = 0 → ClD d mdX12_tailOf [.ref a0, .int (nI 0), .int x1] M (fun r1 M1 => Wp d mdX12_tail 42 [] (r1.toList ++ []) M1 Q)) : Wp d mdX12_tail 33 [(0, .ref a0), (1, .int x1)] [.int sx0] M Q := by
  refine r_if_eq (tgt := 45) dX12_tail_33 (by decide) (fun c0 => ?_) (fun c0 => ?_)
  · skip
    refine r_ldc2 dX12_tail_45 kwX12_59 ?_
    exact r_ret (some (.long (-1 : Int64))) dX12_tail_48 rfl (pq0 c0)
  · skip
    refine r_aload_n dX12_tail_36 rfl 0 rfl ?_
    refine r_iconst (v := (nI 0)) dX12_tail_37 rfl ?_
    refine r_iload_n dX12_tail_38 rfl 1 rfl ?_
    refine r_sub [] (ls' := []) rfl ?_
    obtain ⟨e9, hlt, h9⟩ := (pf1 c0)
    exact r_callV (As := [.int (nI 0), .int x1]) (rest := []) (ci := 10) moX12_tailOf dX12_tail_39 mlX12_198 imX12_tailOf seX12_tailOf k0 rfl hlt (Nat.le_of_ble_eq_true rfl) h9
theorem gX12_tail_42 {d : Nat} {Q : Option Value → Mem → Prop} {M : Mem} {sw0 : Int64}  (pq0 : Q (some (.long sw0)) M) : Wp d mdX12_tail 42 [] [.long sw0] M Q := by
  refine r_goto (tgt := 48) dX12_tail_42 (by decide) ?_
  exact r_ret (some (.long sw0)) dX12_tail_48 rfl pq0
-- X12_cell
theorem gX12_cell_0 {d : Nat} {Q : Option Value → Mem → Prop} {M : Mem} {a0 : Nat} {x1 : Int32} {x2 : Int32} {x3 : Int32} (k0 : mK M a0 = 14) (k1 : mK M (mR (sI M a0 0 (nI 0)) a0 11) = 1) (pb0 : vp_in (nI 0) (mN (sI M a0 0 (nI 0)) (mR (sI M a0 0 (nI 0)) a0 11))) (pf1 : ClD d mdX12_in [.long x1.toInt64, .long (lN 0), .long (((mI (sI M a0 0 (nI 0)) (mR (sI M a0 0 (nI 0)) a0 11) (nI 0).toNatClampNeg) - (nI 1)).toInt64)] (sI M a0 0 (nI 0)) (fun r1 M1 => Wp d mdX12_cell 20 [(0, .ref a0), (1, .int x1), (2, .int x2), (3, .int x3)] (r1.toList ++ []) M1 Q)) : Wp d mdX12_cell 0 [(0, .ref a0), (1, .int x1), (2, .int x2), (3, .int x3)] [] M Q := by
  refine r_aload_n dX12_cell_0 rfl 0 rfl ?_
  refine r_iconst (v := (nI 0)) dX12_cell_1 rfl ?_
  refine r_putI ck10 dX12_cell_2 flX12_1 rfl (Or.inl rfl) k0 ?_
  refine r_iload_n dX12_cell_5 rfl 1 rfl ?_
  refine r_i2l dX12_cell_6 ?_
  refine r_lconst (v := (lN 0)) dX12_cell_7 rfl ?_
  refine r_aload_n dX12_cell_8 rfl 0 rfl ?_
  refine r_getR ck10 dX12_cell_9 flX12_98 rfl k0 ?_
  refine r_iconst (v := (nI 0)) dX12_cell_12 rfl ?_
  refine r_iald dX12_cell_13 k1 pb0 ?_
  refine r_iconst (v := (nI 1)) dX12_cell_14 rfl ?_
  refine r_isub dX12_cell_15 ?_
  refine r_i2l dX12_cell_16 ?_
  obtain ⟨e9, hlt, h9⟩ := pf1
  exact r_callS (As := [.long x1.toInt64, .long (lN 0), .long (((mI (sI M a0 0 (nI 0)) (mR (sI M a0 0 (nI 0)) a0 11) (nI 0).toNatClampNeg) - (nI 1)).toInt64)]) (rest := []) moX12_in dX12_cell_17 mlX12_24 saX12_in rfl hlt (Nat.le_of_ble_eq_true rfl) h9
theorem gX12_cell_20 {d : Nat} {Q : Option Value → Mem → Prop} {M : Mem} {a0 : Nat} {x1 : Int32} {x2 : Int32} {x3 : Int32} {sx0 : Int32} (k0 : mK M a0 = 14) (pq0 : sx0 = 0 → Q (some (.int (-1 : Int32))) M) (pf1 : ¬ sx0 = 0 → ClD d mdX12_in [.long x2.toInt64, .long (-1 : Int64), .long (((mI M a0 3) - (nI 1)).toInt64)] M (fun r1 M1 => Wp d mdX12_cell 38 [(0, .ref a0), (1, .int x1), (2, .int x2), (3, .int x3)] (r1.toList ++ []) M1 Q)) : Wp d mdX12_cell 20 [(0, .ref a0), (1, .int x1), (2, .int x2), (3, .int x3)] [.int sx0] M Q := by
  refine r_if_eq (tgt := 59) dX12_cell_20 (by decide) (fun c0 => ?_) (fun c0 => ?_)
  · skip
    refine r_iconst (v := (-1)) dX12_cell_59 rfl ?_
    exact r_ret (some (.int (-1 : Int32))) dX12_cell_60 rfl (pq0 c0)
  · skip
    refine r_iload_n dX12_cell_23 rfl 2 rfl ?_
    refine r_i2l dX12_cell_24 ?_
    refine r_ldc2 dX12_cell_25 kwX12_59 ?_
    refine r_aload_n dX12_cell_28 rfl 0 rfl ?_
    refine r_getI ck10 dX12_cell_29 flX12_30 rfl k0 ?_
    refine r_iconst (v := (nI 1)) dX12_cell_32 rfl ?_
    refine r_isub dX12_cell_33 ?_
    refine r_i2l dX12_cell_34 ?_
    obtain ⟨e9, hlt, h9⟩ := (pf1 c0)
    exact r_callS (As := [.long x2.toInt64, .long (-1 : Int64), .long (((mI M a0 3) - (nI 1)).toInt64)]) (rest := []) moX12_in dX12_cell_35 mlX12_24 saX12_in rfl hlt (Nat.le_of_ble_eq_true rfl) h9
theorem gX12_cell_38 {d : Nat} {Q : Option Value → Mem → Prop} {M : Mem} {a0 : Nat} {x1 : Int32} {x2 : Int32} {x3 : Int32} {sx0 : Int32} (k0 : mK M a0 = 14) (k1 : mK M (mR M a0 12) = 1) (pq0 : sx0 = 0 → Q (some (.int (-1 : Int32))) M) (pb1 : ¬ sx0 = 0 → vp_in (nI 0) (mN M (mR M a0 12))) (pf2 : ¬ sx0 = 0 → ClD d mdX12_in [.long x3.toInt64, .long (lN 0), .long (((mI M (mR M a0 12) (nI 0).toNatClampNeg) - (nI 1)).toInt64)] M (fun r1 M1 => Wp d mdX12_cell 56 [(0, .ref a0), (1, .int x1), (2, .int x2), (3, .int x3)] (r1.toList ++ []) M1 Q)) : Wp d mdX12_cell 38 [(0, .ref a0), (1, .int x1), (2, .int x2), (3, .int x3)] [.int sx0] M Q := by
  refine r_if_eq (tgt := 59) dX12_cell_38 (by decide) (fun c0 => ?_) (fun c0 => ?_)
  · skip
    refine r_iconst (v := (-1)) dX12_cell_59 rfl ?_
    exact r_ret (some (.int (-1 : Int32))) dX12_cell_60 rfl (pq0 c0)
  · skip
    refine r_iload_n dX12_cell_41 rfl 3 rfl ?_
    refine r_i2l dX12_cell_42 ?_
    refine r_lconst (v := (lN 0)) dX12_cell_43 rfl ?_
    refine r_aload_n dX12_cell_44 rfl 0 rfl ?_
    refine r_getR ck10 dX12_cell_45 flX12_101 rfl k0 ?_
    refine r_iconst (v := (nI 0)) dX12_cell_48 rfl ?_
    refine r_iald dX12_cell_49 k1 (pb1 c0) ?_
    refine r_iconst (v := (nI 1)) dX12_cell_50 rfl ?_
    refine r_isub dX12_cell_51 ?_
    refine r_i2l dX12_cell_52 ?_
    obtain ⟨e9, hlt, h9⟩ := (pf2 c0)
    exact r_callS (As := [.long x3.toInt64, .long (lN 0), .long (((mI M (mR M a0 12) (nI 0).toNatClampNeg) - (nI 1)).toInt64)]) (rest := []) moX12_in dX12_cell_53 mlX12_24 saX12_in rfl hlt (Nat.le_of_ble_eq_true rfl) h9
theorem gX12_cell_56 {d : Nat} {Q : Option Value → Mem → Prop} {M : Mem} {a0 : Nat} {x1 : Int32} {x2 : Int32} {x3 : Int32} {sx0 : Int32} (k0 : mK M a0 = 14) (pf0 : ¬ sx0 = 0 → ¬ (mI M a0 7) = (nI 3) → ¬ x2 = (-1 : Int32) → ClD d mdX12_headOf [.ref a0, .int (nI 0), .int x1] M (fun r1 M1 => Wp d mdX12_cell 92 [(0, .ref a0), (2, .int x2), (3, .int x3)] (r1.toList ++ []) M1 Q)) (pf1 : ¬ sx0 = 0 → ¬ (mI M a0 7) = (nI 3) → x2 = (-1 : Int32) → ClD d mdX12_headOf [.ref a0, .int (nI 0), .int x1] M (fun r1 M1 => Wp d mdX12_cell 83 [(0, .ref a0), (3, .int x3)] (r1.toList ++ []) M1 Q)) (pq2 : ¬ sx0 = 0 → (mI M a0 7) = (nI 3) → Q (some (.int (-2 : Int32))) M) (pq3 : sx0 = 0 → Q (some (.int (-1 : Int32))) M) : Wp d mdX12_cell 56 [(0, .ref a0), (1, .int x1), (2, .int x2), (3, .int x3)] [.int sx0] M Q := by
  refine r_if_ne (tgt := 61) dX12_cell_56 (by decide) (fun c0 => ?_) (fun c0 => ?_)
  · skip
    refine r_aload_n dX12_cell_61 rfl 0 rfl ?_
    refine r_getI ck10 dX12_cell_62 flX12_314 rfl k0 ?_
    refine r_iconst (v := (nI 3)) dX12_cell_65 rfl ?_
    refine r_icmp_ne (tgt := 72) dX12_cell_66 (by decide) (fun c1 => ?_) (fun c1 => ?_)
    · skip
      refine r_iload_n dX12_cell_72 rfl 2 rfl ?_
      refine r_iconst (v := (-1)) dX12_cell_73 rfl ?_
      refine r_icmp_ne (tgt := 86) dX12_cell_74 (by decide) (fun c2 => ?_) (fun c2 => ?_)
      · skip
        refine r_aload_n dX12_cell_86 rfl 0 rfl ?_
        refine r_iconst (v := (nI 0)) dX12_cell_87 rfl ?_
        refine r_iload_n dX12_cell_88 rfl 1 rfl ?_
        refine r_sub [0, 2, 3] (ls' := [(0, .ref a0), (2, .int x2), (3, .int x3)]) rfl ?_
        obtain ⟨e9, hlt, h9⟩ := (pf0 c0 c1 c2)
        exact r_callV (As := [.int (nI 0), .int x1]) (rest := []) (ci := 10) moX12_headOf dX12_cell_89 mlX12_206 imX12_headOf seX12_headOf k0 rfl hlt (Nat.le_of_ble_eq_true rfl) h9
      · skip
        refine r_aload_n dX12_cell_77 rfl 0 rfl ?_
        refine r_iconst (v := (nI 0)) dX12_cell_78 rfl ?_
        refine r_iload_n dX12_cell_79 rfl 1 rfl ?_
        refine r_sub [0, 3] (ls' := [(0, .ref a0), (3, .int x3)]) rfl ?_
        obtain ⟨e9, hlt, h9⟩ := (pf1 c0 c1 c2)
        exact r_callV (As := [.int (nI 0), .int x1]) (rest := []) (ci := 10) moX12_headOf dX12_cell_80 mlX12_206 imX12_headOf seX12_headOf k0 rfl hlt (Nat.le_of_ble_eq_true rfl) h9
    · skip
      refine r_bipush (v := (-2)) dX12_cell_69 rfl ?_
      exact r_ret (some (.int (-2 : Int32))) dX12_cell_71 rfl (pq2 c0 c1)
  · skip
    refine r_iconst (v := (-1)) dX12_cell_59 rfl ?_
    exact r_ret (some (.int (-1 : Int32))) dX12_cell_60 rfl (pq3 c0)
theorem gX12_cell_83 {d : Nat} {Q : Option Value → Mem → Prop} {M : Mem} {a0 : Nat} {x3 : Int32} {sw0 : Int64}  (pw0 : Wp d mdX12_cell 96 [(0, .ref a0), (3, .int x3)] [.long sw0] M Q) : Wp d mdX12_cell 83 [(0, .ref a0), (3, .int x3)] [.long sw0] M Q := by
  refine r_goto (tgt := 96) dX12_cell_83 (by decide) ?_
  exact pw0
theorem gX12_cell_92 {d : Nat} {Q : Option Value → Mem → Prop} {M : Mem} {a0 : Nat} {x2 : Int32} {x3 : Int32} {sw0 : Int64}  (pf0 : ClD d mdX12_longer [.long sw0, .int x2] M (fun r1 M1 => Wp d mdX12_cell 96 [(0, .ref a0), (3, .int x3)] (r1.toList ++ []) M1 Q)) : Wp d mdX12_cell 92 [(0, .ref a0), (2, .int x2), (3, .int x3)] [.long sw0] M Q := by
  refine r_iload_n dX12_cell_92 rfl 1 rfl ?_
  refine r_sub [0, 2] (ls' := [(0, .ref a0), (3, .int x3)]) rfl ?_
  obtain ⟨e9, hlt, h9⟩ := pf0
  exact r_callS (As := [.long sw0, .int x2]) (rest := []) moX12_longer dX12_cell_93 mlX12_80 saX12_longer rfl hlt (Nat.le_of_ble_eq_true rfl) h9
theorem gX12_cell_96 {d : Nat} {Q : Option Value → Mem → Prop} {M : Mem} {a0 : Nat} {x3 : Int32} {sw0 : Int64} (k0 : mK M a0 = 14) (pf0 : ClD d mdX12_tailOf [.ref a0, .int (nI 0), .int x3] M (fun r1 M1 => Wp d mdX12_cell 106 [(0, .ref a0)] (r1.toList ++ [.long sw0]) M1 Q)) : Wp d mdX12_cell 96 [(0, .ref a0), (3, .int x3)] [.long sw0] M Q := by
  refine r_lstore dX12_cell_96 (by decide) (ls' := [(4, .long sw0), (0, .ref a0), (3, .int x3)]) rfl ?_
  refine r_lload dX12_cell_98 0 rfl ?_
  refine r_aload_n dX12_cell_100 rfl 1 rfl ?_
  refine r_iconst (v := (nI 0)) dX12_cell_101 rfl ?_
  refine r_iload_n dX12_cell_102 rfl 2 rfl ?_
  refine r_sub [1] (ls' := [(0, .ref a0)]) rfl ?_
  obtain ⟨e9, hlt, h9⟩ := pf0
  exact r_callV (As := [.int (nI 0), .int x3]) (rest := [.long sw0]) (ci := 10) moX12_tailOf dX12_cell_103 mlX12_198 imX12_tailOf seX12_tailOf k0 rfl hlt (Nat.le_of_ble_eq_true rfl) h9
theorem gX12_cell_106 {d : Nat} {Q : Option Value → Mem → Prop} {M : Mem} {a0 : Nat} {sw0 : Int64} {sw1 : Int64}  (pf0 : ClD d mdX12_both [.long sw1, .long sw0] M (fun r1 M1 => Wp d mdX12_cell 109 [(0, .ref a0)] (r1.toList ++ []) M1 Q)) : Wp d mdX12_cell 106 [(0, .ref a0)] [.long sw0, .long sw1] M Q := by
  obtain ⟨e9, hlt, h9⟩ := pf0
  exact r_callS (As := [.long sw1, .long sw0]) (rest := []) moX12_both dX12_cell_106 mlX12_61 saX12_both rfl hlt (Nat.le_of_ble_eq_true rfl) h9
theorem gX12_cell_109 {d : Nat} {Q : Option Value → Mem → Prop} {M : Mem} {a0 : Nat} {sw0 : Int64} (k0 : mK M a0 = 14) (pf0 : ClD d mdX12_wasAsked [.ref a0, .int (nI 0), .long sw0] M (fun r1 M1 => Wp d mdX12_cell 118 [(0, .ref a0), (6, .long sw0)] (r1.toList ++ []) M1 Q)) : Wp d mdX12_cell 109 [(0, .ref a0)] [.long sw0] M Q := by
  refine r_lstore dX12_cell_109 (by decide) (ls' := [(6, .long sw0), (0, .ref a0)]) rfl ?_
  refine r_aload_n dX12_cell_111 rfl 1 rfl ?_
  refine r_iconst (v := (nI 0)) dX12_cell_112 rfl ?_
  refine r_lload dX12_cell_113 0 rfl ?_
  refine r_sub [1, 0] (ls' := [(0, .ref a0), (6, .long sw0)]) rfl ?_
  obtain ⟨e9, hlt, h9⟩ := pf0
  exact r_callV (As := [.int (nI 0), .long sw0]) (rest := []) (ci := 10) moX12_wasAsked dX12_cell_115 mlX12_336 imX12_wasAsked seX12_wasAsked k0 rfl hlt (Nat.le_of_ble_eq_true rfl) h9
theorem gX12_cell_118 {d : Nat} {Q : Option Value → Mem → Prop} {M : Mem} {a0 : Nat} {w6 : Int64} {sx0 : Int32} (k0 : mK M a0 = 14) (pq0 : sx0 = 0 → Q (some (.int (-3 : Int32))) M) (pf1 : ¬ sx0 = 0 → ClD d mdX12_answer [.ref a0, .int (nI 0), .long w6] M (fun r1 M1 => Wp d mdX12_cell 128 [] (r1.toList ++ []) M1 Q)) : Wp d mdX12_cell 118 [(0, .ref a0), (6, .long w6)] [.int sx0] M Q := by
  refine r_if_eq (tgt := 131) dX12_cell_118 (by decide) (fun c0 => ?_) (fun c0 => ?_)
  · skip
    refine r_bipush (v := (-3)) dX12_cell_131 rfl ?_
    exact r_ret (some (.int (-3 : Int32))) dX12_cell_133 rfl (pq0 c0)
  · skip
    refine r_aload_n dX12_cell_121 rfl 0 rfl ?_
    refine r_iconst (v := (nI 0)) dX12_cell_122 rfl ?_
    refine r_lload dX12_cell_123 1 rfl ?_
    refine r_sub [] (ls' := []) rfl ?_
    obtain ⟨e9, hlt, h9⟩ := (pf1 c0)
    exact r_callV (As := [.int (nI 0), .long w6]) (rest := []) (ci := 10) moX12_answer dX12_cell_125 mlX12_185 imX12_answer seX12_answer k0 rfl hlt (Nat.le_of_ble_eq_true rfl) h9
theorem gX12_cell_128 {d : Nat} {Q : Option Value → Mem → Prop} {M : Mem} {sx0 : Int32}  (pq0 : Q (some (.int sx0)) M) : Wp d mdX12_cell 128 [] [.int sx0] M Q := by
  refine r_goto (tgt := 133) dX12_cell_128 (by decide) ?_
  exact r_ret (some (.int sx0)) dX12_cell_133 rfl pq0
-- X12_areAllAsked
theorem gX12_areAllAsked_0 {d : Nat} {Q : Option Value → Mem → Prop} {M : Mem} {a0 : Nat}  (pw0 : Wp d mdX12_areAllAsked 4 [(0, .ref a0), (1, .int (nI 1)), (2, .int (nI 0))] [] M Q) : Wp d mdX12_areAllAsked 0 [(0, .ref a0)] [] M Q := by
  refine r_iconst (v := (nI 1)) dX12_areAllAsked_0 rfl ?_
  refine r_istore_n dX12_areAllAsked_1 rfl (by decide) (ls' := [(1, .int (nI 1)), (0, .ref a0)]) rfl ?_
  refine r_iconst (v := (nI 0)) dX12_areAllAsked_2 rfl ?_
  refine r_istore_n dX12_areAllAsked_3 rfl (by decide) (ls' := [(2, .int (nI 0)), (1, .int (nI 1)), (0, .ref a0)]) rfl ?_
  refine r_sub [2, 1, 0] (ls' := [(0, .ref a0), (1, .int (nI 1)), (2, .int (nI 0))]) rfl ?_
  exact pw0
theorem gX12_areAllAsked_4 {d : Nat} {Q : Option Value → Mem → Prop} {M : Mem} {a0 : Nat} {x1 : Int32} {x2 : Int32} (k0 : mK M a0 = 14) (k1 : mK M (mR M a0 11) = 1) (pb0 : vp_in (nI 0) (mN M (mR M a0 11))) (pq1 : (mI M (mR M a0 11) (nI 0).toNatClampNeg) ≤ x2 → Q (some (.int x1)) M) (pw2 : ¬ (mI M (mR M a0 11) (nI 0).toNatClampNeg) ≤ x2 → Wp d mdX12_areAllAsked 16 [(0, .ref a0), (1, .int x1), (2, .int x2), (3, .int (nI 0))] [] M Q) : Wp d mdX12_areAllAsked 4 [(0, .ref a0), (1, .int x1), (2, .int x2)] [] M Q := by
  refine r_iload_n dX12_areAllAsked_4 rfl 2 rfl ?_
  refine r_aload_n dX12_areAllAsked_5 rfl 0 rfl ?_
  refine r_getR ck10 dX12_areAllAsked_6 flX12_98 rfl k0 ?_
  refine r_iconst (v := (nI 0)) dX12_areAllAsked_9 rfl ?_
  refine r_iald dX12_areAllAsked_10 k1 pb0 ?_
  refine r_icmp_ge (tgt := 127) dX12_areAllAsked_11 (by decide) (fun c0 => ?_) (fun c0 => ?_)
  · skip
    refine r_iload_n dX12_areAllAsked_127 rfl 1 rfl ?_
    exact r_ret (some (.int x1)) dX12_areAllAsked_128 rfl (pq1 c0)
  · skip
    refine r_iconst (v := (nI 0)) dX12_areAllAsked_14 rfl ?_
    refine r_istore_n dX12_areAllAsked_15 rfl (by decide) (ls' := [(3, .int (nI 0)), (0, .ref a0), (1, .int x1), (2, .int x2)]) rfl ?_
    refine r_sub [1, 2, 3, 0] (ls' := [(0, .ref a0), (1, .int x1), (2, .int x2), (3, .int (nI 0))]) rfl ?_
    exact (pw2 c0)
theorem gX12_areAllAsked_16 {d : Nat} {Q : Option Value → Mem → Prop} {M : Mem} {a0 : Nat} {x1 : Int32} {x2 : Int32} {x3 : Int32} (k0 : mK M a0 = 14) (k1 : mK M (mR M a0 12) = 1) (pb0 : vp_in (nI 0) (mN M (mR M a0 12))) (pw1 : (mI M (mR M a0 12) (nI 0).toNatClampNeg) ≤ x3 → Wp d mdX12_areAllAsked 4 [(0, .ref a0), (1, .int x1), (2, .int (x2 + (nI 1)))] [] M Q) (pw2 : ¬ (mI M (mR M a0 12) (nI 0).toNatClampNeg) ≤ x3 → x1 = 0 → Wp d mdX12_areAllAsked 57 [(0, .ref a0), (2, .int x2), (3, .int x3)] [] M Q) (pf3 : ¬ (mI M (mR M a0 12) (nI 0).toNatClampNeg) ≤ x3 → ¬ x1 = 0 → ClD d mdX12_headOf [.ref a0, .int (nI 0), .int x2] M (fun r1 M1 => Wp d mdX12_areAllAsked 38 [(0, .ref a0), (2, .int x2), (3, .int x3)] (r1.toList ++ [.int (nI 0), .ref a0]) M1 Q)) : Wp d mdX12_areAllAsked 16 [(0, .ref a0), (1, .int x1), (2, .int x2), (3, .int x3)] [] M Q := by
  refine r_iload_n dX12_areAllAsked_16 rfl 3 rfl ?_
  refine r_aload_n dX12_areAllAsked_17 rfl 0 rfl ?_
  refine r_getR ck10 dX12_areAllAsked_18 flX12_101 rfl k0 ?_
  refine r_iconst (v := (nI 0)) dX12_areAllAsked_21 rfl ?_
  refine r_iald dX12_areAllAsked_22 k1 pb0 ?_
  refine r_icmp_ge (tgt := 121) dX12_areAllAsked_23 (by decide) (fun c0 => ?_) (fun c0 => ?_)
  · skip
    refine r_iinc dX12_areAllAsked_121 2 rfl (v := x2 + (nI 1)) rfl (by decide) (ls' := [(2, .int (x2 + (nI 1))), (0, .ref a0), (1, .int x1), (3, .int x3)]) rfl ?_
    refine r_goto (tgt := 4) dX12_areAllAsked_124 (by decide) ?_
    refine r_sub [1, 2, 0] (ls' := [(0, .ref a0), (1, .int x1), (2, .int (x2 + (nI 1)))]) rfl ?_
    exact (pw1 c0)
  · skip
    refine r_iload_n dX12_areAllAsked_26 rfl 1 rfl ?_
    refine r_if_eq (tgt := 57) dX12_areAllAsked_27 (by decide) (fun c1 => ?_) (fun c1 => ?_)
    · skip
      refine r_sub [0, 2, 3] (ls' := [(0, .ref a0), (2, .int x2), (3, .int x3)]) rfl ?_
      exact (pw2 c0 c1)
    · skip
      refine r_aload_n dX12_areAllAsked_30 rfl 0 rfl ?_
      refine r_iconst (v := (nI 0)) dX12_areAllAsked_31 rfl ?_
      refine r_aload_n dX12_areAllAsked_32 rfl 0 rfl ?_
      refine r_iconst (v := (nI 0)) dX12_areAllAsked_33 rfl ?_
      refine r_iload_n dX12_areAllAsked_34 rfl 2 rfl ?_
      refine r_sub [0, 2, 3] (ls' := [(0, .ref a0), (2, .int x2), (3, .int x3)]) rfl ?_
      obtain ⟨e9, hlt, h9⟩ := (pf3 c0 c1)
      exact r_callV (As := [.int (nI 0), .int x2]) (rest := [.int (nI 0), .ref a0]) (ci := 10) moX12_headOf dX12_areAllAsked_35 mlX12_206 imX12_headOf seX12_headOf k0 rfl hlt (Nat.le_of_ble_eq_true rfl) h9
theorem gX12_areAllAsked_38 {d : Nat} {Q : Option Value → Mem → Prop} {M : Mem} {a0 : Nat} {x2 : Int32} {x3 : Int32} {sw0 : Int64} {sx1 : Int32} {sa2 : Nat} (k0 : mK M a0 = 14) (pf0 : ClD d mdX12_tailOf [.ref a0, .int (nI 0), .int x3] M (fun r1 M1 => Wp d mdX12_areAllAsked 44 [(0, .ref a0), (2, .int x2), (3, .int x3)] (r1.toList ++ [.long sw0, .int sx1, .ref sa2]) M1 Q)) : Wp d mdX12_areAllAsked 38 [(0, .ref a0), (2, .int x2), (3, .int x3)] [.long sw0, .int sx1, .ref sa2] M Q := by
  refine r_aload_n dX12_areAllAsked_38 rfl 0 rfl ?_
  refine r_iconst (v := (nI 0)) dX12_areAllAsked_39 rfl ?_
  refine r_iload_n dX12_areAllAsked_40 rfl 2 rfl ?_
  obtain ⟨e9, hlt, h9⟩ := pf0
  exact r_callV (As := [.int (nI 0), .int x3]) (rest := [.long sw0, .int sx1, .ref sa2]) (ci := 10) moX12_tailOf dX12_areAllAsked_41 mlX12_198 imX12_tailOf seX12_tailOf k0 rfl hlt (Nat.le_of_ble_eq_true rfl) h9
theorem gX12_areAllAsked_44 {d : Nat} {Q : Option Value → Mem → Prop} {M : Mem} {a0 : Nat} {x2 : Int32} {x3 : Int32} {sw0 : Int64} {sw1 : Int64} {sx2 : Int32} {sa3 : Nat}  (pf0 : ClD d mdX12_both [.long sw1, .long sw0] M (fun r1 M1 => Wp d mdX12_areAllAsked 47 [(0, .ref a0), (2, .int x2), (3, .int x3)] (r1.toList ++ [.int sx2, .ref sa3]) M1 Q)) : Wp d mdX12_areAllAsked 44 [(0, .ref a0), (2, .int x2), (3, .int x3)] [.long sw0, .long sw1, .int sx2, .ref sa3] M Q := by
  obtain ⟨e9, hlt, h9⟩ := pf0
  exact r_callS (As := [.long sw1, .long sw0]) (rest := [.int sx2, .ref sa3]) moX12_both dX12_areAllAsked_44 mlX12_61 saX12_both rfl hlt (Nat.le_of_ble_eq_true rfl) h9
theorem gX12_areAllAsked_47 {d : Nat} {Q : Option Value → Mem → Prop} {M : Mem} {a0 : Nat} {x2 : Int32} {x3 : Int32} {sw0 : Int64} {sx1 : Int32} {sa2 : Nat} (k0 : mK M sa2 = 14) (pf0 : ClD d mdX12_wasAsked [.ref sa2, .int sx1, .long sw0] M (fun r1 M1 => Wp d mdX12_areAllAsked 50 [(0, .ref a0), (2, .int x2), (3, .int x3)] (r1.toList ++ []) M1 Q)) : Wp d mdX12_areAllAsked 47 [(0, .ref a0), (2, .int x2), (3, .int x3)] [.long sw0, .int sx1, .ref sa2] M Q := by
  obtain ⟨e9, hlt, h9⟩ := pf0
  exact r_callV (As := [.int sx1, .long sw0]) (rest := []) (ci := 10) moX12_wasAsked dX12_areAllAsked_47 mlX12_336 imX12_wasAsked seX12_wasAsked k0 rfl hlt (Nat.le_of_ble_eq_true rfl) h9
theorem gX12_areAllAsked_50 {d : Nat} {Q : Option Value → Mem → Prop} {M : Mem} {a0 : Nat} {x2 : Int32} {x3 : Int32} {sx0 : Int32}  (pw0 : sx0 = 0 → Wp d mdX12_areAllAsked 57 [(0, .ref a0), (2, .int x2), (3, .int x3)] [] M Q) (pw1 : ¬ sx0 = 0 → Wp d mdX12_areAllAsked 58 [(0, .ref a0), (2, .int x2), (3, .int x3)] [.int (nI 1)] M Q) : Wp d mdX12_areAllAsked 50 [(0, .ref a0), (2, .int x2), (3, .int x3)] [.int sx0] M Q := by
  refine r_if_eq (tgt := 57) dX12_areAllAsked_50 (by decide) (fun c0 => ?_) (fun c0 => ?_)
  · skip
    exact (pw0 c0)
  · skip
    refine r_iconst (v := (nI 1)) dX12_areAllAsked_53 rfl ?_
    refine r_goto (tgt := 58) dX12_areAllAsked_54 (by decide) ?_
    exact (pw1 c0)
theorem gX12_areAllAsked_57 {d : Nat} {Q : Option Value → Mem → Prop} {M : Mem} {a0 : Nat} {x2 : Int32} {x3 : Int32}  (pw0 : Wp d mdX12_areAllAsked 58 [(0, .ref a0), (2, .int x2), (3, .int x3)] [.int (nI 0)] M Q) : Wp d mdX12_areAllAsked 57 [(0, .ref a0), (2, .int x2), (3, .int x3)] [] M Q := by
  refine r_iconst (v := (nI 0)) dX12_areAllAsked_57 rfl ?_
  exact pw0
theorem gX12_areAllAsked_58 {d : Nat} {Q : Option Value → Mem → Prop} {M : Mem} {a0 : Nat} {x2 : Int32} {x3 : Int32} {sx0 : Int32}  (pw0 : Wp d mdX12_areAllAsked 62 [(0, .ref a0), (1, .int sx0), (2, .int x2), (3, .int x3), (4, .int (nI 0))] [] M Q) : Wp d mdX12_areAllAsked 58 [(0, .ref a0), (2, .int x2), (3, .int x3)] [.int sx0] M Q := by
  refine r_istore_n dX12_areAllAsked_58 rfl (by decide) (ls' := [(1, .int sx0), (0, .ref a0), (2, .int x2), (3, .int x3)]) rfl ?_
  refine r_iconst (v := (nI 0)) dX12_areAllAsked_59 rfl ?_
  refine r_istore dX12_areAllAsked_60 (by decide) (ls' := [(4, .int (nI 0)), (1, .int sx0), (0, .ref a0), (2, .int x2), (3, .int x3)]) rfl ?_
  refine r_sub [2, 1, 3, 4, 0] (ls' := [(0, .ref a0), (1, .int sx0), (2, .int x2), (3, .int x3), (4, .int (nI 0))]) rfl ?_
  exact pw0
theorem gX12_areAllAsked_62 {d : Nat} {Q : Option Value → Mem → Prop} {M : Mem} {a0 : Nat} {x1 : Int32} {x2 : Int32} {x3 : Int32} {x4 : Int32} (k0 : mK M a0 = 14) (pw0 : (mI M a0 3) ≤ x4 → Wp d mdX12_areAllAsked 16 [(0, .ref a0), (1, .int x1), (2, .int x2), (3, .int (x3 + (nI 1)))] [] M Q) (pw1 : ¬ (mI M a0 3) ≤ x4 → x1 = 0 → Wp d mdX12_areAllAsked 62 [(0, .ref a0), (1, .int (nI 0)), (2, .int x2), (3, .int x3), (4, .int (x4 + (nI 1)))] [] M Q) (pf2 : ¬ (mI M a0 3) ≤ x4 → ¬ x1 = 0 → ClD d mdX12_headOf [.ref a0, .int (nI 0), .int x2] M (fun r1 M1 => Wp d mdX12_areAllAsked 83 [(0, .ref a0), (2, .int x2), (3, .int x3), (4, .int x4)] (r1.toList ++ [.int (nI 0), .ref a0]) M1 Q)) : Wp d mdX12_areAllAsked 62 [(0, .ref a0), (1, .int x1), (2, .int x2), (3, .int x3), (4, .int x4)] [] M Q := by
  refine r_iload dX12_areAllAsked_62 4 rfl ?_
  refine r_aload_n dX12_areAllAsked_64 rfl 0 rfl ?_
  refine r_getI ck10 dX12_areAllAsked_65 flX12_30 rfl k0 ?_
  refine r_icmp_ge (tgt := 115) dX12_areAllAsked_68 (by decide) (fun c0 => ?_) (fun c0 => ?_)
  · skip
    refine r_iinc dX12_areAllAsked_115 3 rfl (v := x3 + (nI 1)) rfl (by decide) (ls' := [(3, .int (x3 + (nI 1))), (0, .ref a0), (1, .int x1), (2, .int x2), (4, .int x4)]) rfl ?_
    refine r_goto (tgt := 16) dX12_areAllAsked_118 (by decide) ?_
    refine r_sub [1, 2, 3, 0] (ls' := [(0, .ref a0), (1, .int x1), (2, .int x2), (3, .int (x3 + (nI 1)))]) rfl ?_
    exact (pw0 c0)
  · skip
    refine r_iload_n dX12_areAllAsked_71 rfl 1 rfl ?_
    refine r_if_eq (tgt := 107) dX12_areAllAsked_72 (by decide) (fun c1 => ?_) (fun c1 => ?_)
    · skip
      refine r_iconst (v := (nI 0)) dX12_areAllAsked_107 rfl ?_
      refine r_istore_n dX12_areAllAsked_108 rfl (by decide) (ls' := [(1, .int (nI 0)), (0, .ref a0), (2, .int x2), (3, .int x3), (4, .int x4)]) rfl ?_
      refine r_iinc dX12_areAllAsked_109 4 rfl (v := x4 + (nI 1)) rfl (by decide) (ls' := [(4, .int (x4 + (nI 1))), (1, .int (nI 0)), (0, .ref a0), (2, .int x2), (3, .int x3)]) rfl ?_
      refine r_goto (tgt := 62) dX12_areAllAsked_112 (by decide) ?_
      refine r_sub [2, 1, 3, 4, 0] (ls' := [(0, .ref a0), (1, .int (nI 0)), (2, .int x2), (3, .int x3), (4, .int (x4 + (nI 1)))]) rfl ?_
      exact (pw1 c0 c1)
    · skip
      refine r_aload_n dX12_areAllAsked_75 rfl 0 rfl ?_
      refine r_iconst (v := (nI 0)) dX12_areAllAsked_76 rfl ?_
      refine r_aload_n dX12_areAllAsked_77 rfl 0 rfl ?_
      refine r_iconst (v := (nI 0)) dX12_areAllAsked_78 rfl ?_
      refine r_iload_n dX12_areAllAsked_79 rfl 2 rfl ?_
      refine r_sub [0, 2, 3, 4] (ls' := [(0, .ref a0), (2, .int x2), (3, .int x3), (4, .int x4)]) rfl ?_
      obtain ⟨e9, hlt, h9⟩ := (pf2 c0 c1)
      exact r_callV (As := [.int (nI 0), .int x2]) (rest := [.int (nI 0), .ref a0]) (ci := 10) moX12_headOf dX12_areAllAsked_80 mlX12_206 imX12_headOf seX12_headOf k0 rfl hlt (Nat.le_of_ble_eq_true rfl) h9
theorem gX12_areAllAsked_83 {d : Nat} {Q : Option Value → Mem → Prop} {M : Mem} {a0 : Nat} {x2 : Int32} {x3 : Int32} {x4 : Int32} {sw0 : Int64} {sx1 : Int32} {sa2 : Nat}  (pf0 : ClD d mdX12_longer [.long sw0, .int x4] M (fun r1 M1 => Wp d mdX12_areAllAsked 88 [(0, .ref a0), (2, .int x2), (3, .int x3), (4, .int x4)] (r1.toList ++ [.int sx1, .ref sa2]) M1 Q)) : Wp d mdX12_areAllAsked 83 [(0, .ref a0), (2, .int x2), (3, .int x3), (4, .int x4)] [.long sw0, .int sx1, .ref sa2] M Q := by
  refine r_iload dX12_areAllAsked_83 3 rfl ?_
  obtain ⟨e9, hlt, h9⟩ := pf0
  exact r_callS (As := [.long sw0, .int x4]) (rest := [.int sx1, .ref sa2]) moX12_longer dX12_areAllAsked_85 mlX12_80 saX12_longer rfl hlt (Nat.le_of_ble_eq_true rfl) h9
theorem gX12_areAllAsked_88 {d : Nat} {Q : Option Value → Mem → Prop} {M : Mem} {a0 : Nat} {x2 : Int32} {x3 : Int32} {x4 : Int32} {sw0 : Int64} {sx1 : Int32} {sa2 : Nat} (k0 : mK M a0 = 14) (pf0 : ClD d mdX12_tailOf [.ref a0, .int (nI 0), .int x3] M (fun r1 M1 => Wp d mdX12_areAllAsked 94 [(0, .ref a0), (2, .int x2), (3, .int x3), (4, .int x4)] (r1.toList ++ [.long sw0, .int sx1, .ref sa2]) M1 Q)) : Wp d mdX12_areAllAsked 88 [(0, .ref a0), (2, .int x2), (3, .int x3), (4, .int x4)] [.long sw0, .int sx1, .ref sa2] M Q := by
  refine r_aload_n dX12_areAllAsked_88 rfl 0 rfl ?_
  refine r_iconst (v := (nI 0)) dX12_areAllAsked_89 rfl ?_
  refine r_iload_n dX12_areAllAsked_90 rfl 2 rfl ?_
  obtain ⟨e9, hlt, h9⟩ := pf0
  exact r_callV (As := [.int (nI 0), .int x3]) (rest := [.long sw0, .int sx1, .ref sa2]) (ci := 10) moX12_tailOf dX12_areAllAsked_91 mlX12_198 imX12_tailOf seX12_tailOf k0 rfl hlt (Nat.le_of_ble_eq_true rfl) h9
theorem gX12_areAllAsked_94 {d : Nat} {Q : Option Value → Mem → Prop} {M : Mem} {a0 : Nat} {x2 : Int32} {x3 : Int32} {x4 : Int32} {sw0 : Int64} {sw1 : Int64} {sx2 : Int32} {sa3 : Nat}  (pf0 : ClD d mdX12_both [.long sw1, .long sw0] M (fun r1 M1 => Wp d mdX12_areAllAsked 97 [(0, .ref a0), (2, .int x2), (3, .int x3), (4, .int x4)] (r1.toList ++ [.int sx2, .ref sa3]) M1 Q)) : Wp d mdX12_areAllAsked 94 [(0, .ref a0), (2, .int x2), (3, .int x3), (4, .int x4)] [.long sw0, .long sw1, .int sx2, .ref sa3] M Q := by
  obtain ⟨e9, hlt, h9⟩ := pf0
  exact r_callS (As := [.long sw1, .long sw0]) (rest := [.int sx2, .ref sa3]) moX12_both dX12_areAllAsked_94 mlX12_61 saX12_both rfl hlt (Nat.le_of_ble_eq_true rfl) h9
theorem gX12_areAllAsked_97 {d : Nat} {Q : Option Value → Mem → Prop} {M : Mem} {a0 : Nat} {x2 : Int32} {x3 : Int32} {x4 : Int32} {sw0 : Int64} {sx1 : Int32} {sa2 : Nat} (k0 : mK M sa2 = 14) (pf0 : ClD d mdX12_wasAsked [.ref sa2, .int sx1, .long sw0] M (fun r1 M1 => Wp d mdX12_areAllAsked 100 [(0, .ref a0), (2, .int x2), (3, .int x3), (4, .int x4)] (r1.toList ++ []) M1 Q)) : Wp d mdX12_areAllAsked 97 [(0, .ref a0), (2, .int x2), (3, .int x3), (4, .int x4)] [.long sw0, .int sx1, .ref sa2] M Q := by
  obtain ⟨e9, hlt, h9⟩ := pf0
  exact r_callV (As := [.int sx1, .long sw0]) (rest := []) (ci := 10) moX12_wasAsked dX12_areAllAsked_97 mlX12_336 imX12_wasAsked seX12_wasAsked k0 rfl hlt (Nat.le_of_ble_eq_true rfl) h9
theorem gX12_areAllAsked_100 {d : Nat} {Q : Option Value → Mem → Prop} {M : Mem} {a0 : Nat} {x2 : Int32} {x3 : Int32} {x4 : Int32} {sx0 : Int32}  (pw0 : sx0 = 0 → Wp d mdX12_areAllAsked 62 [(0, .ref a0), (1, .int (nI 0)), (2, .int x2), (3, .int x3), (4, .int (x4 + (nI 1)))] [] M Q) (pw1 : ¬ sx0 = 0 → Wp d mdX12_areAllAsked 62 [(0, .ref a0), (1, .int (nI 1)), (2, .int x2), (3, .int x3), (4, .int (x4 + (nI 1)))] [] M Q) : Wp d mdX12_areAllAsked 100 [(0, .ref a0), (2, .int x2), (3, .int x3), (4, .int x4)] [.int sx0] M Q := by
  refine r_if_eq (tgt := 107) dX12_areAllAsked_100 (by decide) (fun c0 => ?_) (fun c0 => ?_)
  · skip
    refine r_iconst (v := (nI 0)) dX12_areAllAsked_107 rfl ?_
    refine r_istore_n dX12_areAllAsked_108 rfl (by decide) (ls' := [(1, .int (nI 0)), (0, .ref a0), (2, .int x2), (3, .int x3), (4, .int x4)]) rfl ?_
    refine r_iinc dX12_areAllAsked_109 4 rfl (v := x4 + (nI 1)) rfl (by decide) (ls' := [(4, .int (x4 + (nI 1))), (1, .int (nI 0)), (0, .ref a0), (2, .int x2), (3, .int x3)]) rfl ?_
    refine r_goto (tgt := 62) dX12_areAllAsked_112 (by decide) ?_
    refine r_sub [2, 1, 3, 4, 0] (ls' := [(0, .ref a0), (1, .int (nI 0)), (2, .int x2), (3, .int x3), (4, .int (x4 + (nI 1)))]) rfl ?_
    exact (pw0 c0)
  · skip
    refine r_iconst (v := (nI 1)) dX12_areAllAsked_103 rfl ?_
    refine r_goto (tgt := 108) dX12_areAllAsked_104 (by decide) ?_
    refine r_istore_n dX12_areAllAsked_108 rfl (by decide) (ls' := [(1, .int (nI 1)), (0, .ref a0), (2, .int x2), (3, .int x3), (4, .int x4)]) rfl ?_
    refine r_iinc dX12_areAllAsked_109 4 rfl (v := x4 + (nI 1)) rfl (by decide) (ls' := [(4, .int (x4 + (nI 1))), (1, .int (nI 1)), (0, .ref a0), (2, .int x2), (3, .int x3)]) rfl ?_
    refine r_goto (tgt := 62) dX12_areAllAsked_112 (by decide) ?_
    refine r_sub [2, 1, 3, 4, 0] (ls' := [(0, .ref a0), (1, .int (nI 1)), (2, .int x2), (3, .int x3), (4, .int (x4 + (nI 1)))]) rfl ?_
    exact (pw1 c0)
-- X12_lines
theorem gX12_lines_0 {d : Nat} {Q : Option Value → Mem → Prop} {M : Mem} {a0 : Nat} (k0 : mK M a0 = 14) (pf0 : ¬ (mI (sI M a0 0 (nI 0)) a0 7) = (nI 3) → ClD d mdX12_areAllAsked [.ref a0] (sI M a0 0 (nI 0)) (fun r1 M1 => Wp d mdX12_lines 20 [(0, .ref a0)] (r1.toList ++ []) M1 Q)) (pq1 : (mI (sI M a0 0 (nI 0)) a0 7) = (nI 3) → Q (some (.int (-2 : Int32))) (sI M a0 0 (nI 0))) : Wp d mdX12_lines 0 [(0, .ref a0)] [] M Q := by
  refine r_aload_n dX12_lines_0 rfl 0 rfl ?_
  refine r_iconst (v := (nI 0)) dX12_lines_1 rfl ?_
  refine r_putI ck10 dX12_lines_2 flX12_1 rfl (Or.inl rfl) k0 ?_
  refine r_aload_n dX12_lines_5 rfl 0 rfl ?_
  refine r_getI ck10 dX12_lines_6 flX12_314 rfl k0 ?_
  refine r_iconst (v := (nI 3)) dX12_lines_9 rfl ?_
  refine r_icmp_ne (tgt := 16) dX12_lines_10 (by decide) (fun c0 => ?_) (fun c0 => ?_)
  · skip
    refine r_aload_n dX12_lines_16 rfl 0 rfl ?_
    obtain ⟨e9, hlt, h9⟩ := (pf0 c0)
    exact r_callV (As := []) (rest := []) (ci := 10) moX12_areAllAsked dX12_lines_17 mlX12_350 imX12_areAllAsked seX12_areAllAsked k0 rfl hlt (Nat.le_of_ble_eq_true rfl) h9
  · skip
    refine r_bipush (v := (-2)) dX12_lines_13 rfl ?_
    exact r_ret (some (.int (-2 : Int32))) dX12_lines_15 rfl (pq1 c0)
theorem gX12_lines_20 {d : Nat} {Q : Option Value → Mem → Prop} {M : Mem} {a0 : Nat} {sx0 : Int32}  (pw0 : ¬ sx0 = 0 → Wp d mdX12_lines 32 [(0, .ref a0), (1, .int (nI 0)), (2, .int (nI 0)), (3, .int (nI 0))] [] M Q) (pq1 : sx0 = 0 → Q (some (.int (-3 : Int32))) M) : Wp d mdX12_lines 20 [(0, .ref a0)] [.int sx0] M Q := by
  refine r_if_ne (tgt := 26) dX12_lines_20 (by decide) (fun c0 => ?_) (fun c0 => ?_)
  · skip
    refine r_iconst (v := (nI 0)) dX12_lines_26 rfl ?_
    refine r_istore_n dX12_lines_27 rfl (by decide) (ls' := [(1, .int (nI 0)), (0, .ref a0)]) rfl ?_
    refine r_iconst (v := (nI 0)) dX12_lines_28 rfl ?_
    refine r_istore_n dX12_lines_29 rfl (by decide) (ls' := [(2, .int (nI 0)), (1, .int (nI 0)), (0, .ref a0)]) rfl ?_
    refine r_iconst (v := (nI 0)) dX12_lines_30 rfl ?_
    refine r_istore_n dX12_lines_31 rfl (by decide) (ls' := [(3, .int (nI 0)), (2, .int (nI 0)), (1, .int (nI 0)), (0, .ref a0)]) rfl ?_
    refine r_sub [3, 2, 1, 0] (ls' := [(0, .ref a0), (1, .int (nI 0)), (2, .int (nI 0)), (3, .int (nI 0))]) rfl ?_
    exact (pw0 c0)
  · skip
    refine r_bipush (v := (-3)) dX12_lines_23 rfl ?_
    exact r_ret (some (.int (-3 : Int32))) dX12_lines_25 rfl (pq1 c0)
theorem gX12_lines_32 {d : Nat} {Q : Option Value → Mem → Prop} {M : Mem} {a0 : Nat} {x1 : Int32} {x2 : Int32} {x3 : Int32} (k0 : mK M a0 = 14) (k1 : mK M (mR M a0 11) = 1) (k2 : mK M (mR (sI M a0 1 (nI 0)) a0 11) = 1) (k3 : mK M (mR M a0 14) = 1) (pb0 : vp_in (nI 0) (mN M (mR M a0 11))) (pb1 : (mI M (mR M a0 11) (nI 0).toNatClampNeg) ≤ x3 → vp_in (nI 0) (mN (sI M a0 1 (nI 0)) (mR (sI M a0 1 (nI 0)) a0 11))) (pf2 : (mI M (mR M a0 11) (nI 0).toNatClampNeg) ≤ x3 → ClD d mdX12_enters [.ref a0, .long (((mI (sI M a0 1 (nI 0)) (mR (sI M a0 1 (nI 0)) a0 11) (nI 0).toNatClampNeg) - x1).toInt64)] (sI M a0 1 (nI 0)) (fun r1 M1 => Wp d mdX12_lines 174 [(0, .ref a0), (1, .int x1), (2, .int x2)] (r1.toList ++ []) M1 Q)) (pb3 : ¬ (mI M (mR M a0 11) (nI 0).toNatClampNeg) ≤ x3 → vp_in x3 (mN M (mR M a0 14))) (pf4 : ¬ (mI M (mR M a0 11) (nI 0).toNatClampNeg) ≤ x3 → ClD d mdX12_headLike [.ref a0, .int (nI 0), .int (mI M (mR M a0 14) x3.toNatClampNeg)] M (fun r1 M1 => Wp d mdX12_lines 54 [(0, .ref a0), (2, .int x2), (3, .int x3)] (r1.toList ++ [.int x1]) M1 Q)) : Wp d mdX12_lines 32 [(0, .ref a0), (1, .int x1), (2, .int x2), (3, .int x3)] [] M Q := by
  refine r_iload_n dX12_lines_32 rfl 3 rfl ?_
  refine r_aload_n dX12_lines_33 rfl 0 rfl ?_
  refine r_getR ck10 dX12_lines_34 flX12_98 rfl k0 ?_
  refine r_iconst (v := (nI 0)) dX12_lines_37 rfl ?_
  refine r_iald dX12_lines_38 k1 pb0 ?_
  refine r_icmp_ge (tgt := 156) dX12_lines_39 (by decide) (fun c0 => ?_) (fun c0 => ?_)
  · skip
    refine r_aload_n dX12_lines_156 rfl 0 rfl ?_
    refine r_iconst (v := (nI 0)) dX12_lines_157 rfl ?_
    refine r_putI ck10 dX12_lines_158 flX12_11 rfl (Or.inl rfl) k0 ?_
    refine r_aload_n dX12_lines_161 rfl 0 rfl ?_
    refine r_aload_n dX12_lines_162 rfl 0 rfl ?_
    refine r_getR ck10 dX12_lines_163 flX12_98 rfl k0 ?_
    refine r_iconst (v := (nI 0)) dX12_lines_166 rfl ?_
    refine r_iald dX12_lines_167 k2 (pb1 c0) ?_
    refine r_iload_n dX12_lines_168 rfl 1 rfl ?_
    refine r_isub dX12_lines_169 ?_
    refine r_i2l dX12_lines_170 ?_
    refine r_sub [0, 1, 2] (ls' := [(0, .ref a0), (1, .int x1), (2, .int x2)]) rfl ?_
    obtain ⟨e9, hlt, h9⟩ := (pf2 c0)
    exact r_callV (As := [.long (((mI (sI M a0 1 (nI 0)) (mR (sI M a0 1 (nI 0)) a0 11) (nI 0).toNatClampNeg) - x1).toInt64)]) (rest := []) (ci := 10) moX12_enters dX12_lines_171 mlX12_343 imX12_enters seX12_enters k0 rfl hlt (Nat.le_of_ble_eq_true rfl) h9
  · skip
    refine r_iload_n dX12_lines_42 rfl 1 rfl ?_
    refine r_aload_n dX12_lines_43 rfl 0 rfl ?_
    refine r_iconst (v := (nI 0)) dX12_lines_44 rfl ?_
    refine r_aload_n dX12_lines_45 rfl 0 rfl ?_
    refine r_getR ck10 dX12_lines_46 flX12_107 rfl k0 ?_
    refine r_iload_n dX12_lines_49 rfl 3 rfl ?_
    refine r_iald dX12_lines_50 k3 (pb3 c0) ?_
    refine r_sub [0, 2, 3] (ls' := [(0, .ref a0), (2, .int x2), (3, .int x3)]) rfl ?_
    obtain ⟨e9, hlt, h9⟩ := (pf4 c0)
    exact r_callV (As := [.int (nI 0), .int (mI M (mR M a0 14) x3.toNatClampNeg)]) (rest := [.int x1]) (ci := 10) moX12_headLike dX12_lines_51 mlX12_209 imX12_headLike seX12_headLike k0 rfl hlt (Nat.le_of_ble_eq_true rfl) h9
theorem gX12_lines_54 {d : Nat} {Q : Option Value → Mem → Prop} {M : Mem} {a0 : Nat} {x2 : Int32} {x3 : Int32} {sx0 : Int32} {sx1 : Int32}  (pw0 : ¬ sx0 = x3 → Wp d mdX12_lines 63 [(0, .ref a0), (2, .int x2), (3, .int x3)] [.int (nI 0), .int sx1] M Q) (pw1 : sx0 = x3 → Wp d mdX12_lines 63 [(0, .ref a0), (2, .int x2), (3, .int x3)] [.int (nI 1), .int sx1] M Q) : Wp d mdX12_lines 54 [(0, .ref a0), (2, .int x2), (3, .int x3)] [.int sx0, .int sx1] M Q := by
  refine r_iload_n dX12_lines_54 rfl 2 rfl ?_
  refine r_icmp_ne (tgt := 62) dX12_lines_55 (by decide) (fun c0 => ?_) (fun c0 => ?_)
  · skip
    refine r_iconst (v := (nI 0)) dX12_lines_62 rfl ?_
    exact (pw0 c0)
  · skip
    refine r_iconst (v := (nI 1)) dX12_lines_58 rfl ?_
    refine r_goto (tgt := 63) dX12_lines_59 (by decide) ?_
    exact (pw1 c0)
theorem gX12_lines_63 {d : Nat} {Q : Option Value → Mem → Prop} {M : Mem} {a0 : Nat} {x2 : Int32} {x3 : Int32} {sx0 : Int32} {sx1 : Int32}  (pf0 : ClD d mdX12_flag [.int sx0] M (fun r1 M1 => Wp d mdX12_lines 66 [(0, .ref a0), (2, .int x2), (3, .int x3)] (r1.toList ++ [.int sx1]) M1 Q)) : Wp d mdX12_lines 63 [(0, .ref a0), (2, .int x2), (3, .int x3)] [.int sx0, .int sx1] M Q := by
  obtain ⟨e9, hlt, h9⟩ := pf0
  exact r_callS (As := [.int sx0]) (rest := [.int sx1]) moX12_flag dX12_lines_63 mlX12_339 saX12_flag rfl hlt (Nat.le_of_ble_eq_true rfl) h9
theorem gX12_lines_66 {d : Nat} {Q : Option Value → Mem → Prop} {M : Mem} {a0 : Nat} {x2 : Int32} {x3 : Int32} {sx0 : Int32} {sx1 : Int32}  (pw0 : Wp d mdX12_lines 71 [(0, .ref a0), (1, .int (sx1 + sx0)), (2, .int x2), (3, .int x3), (4, .int (nI 0))] [] M Q) : Wp d mdX12_lines 66 [(0, .ref a0), (2, .int x2), (3, .int x3)] [.int sx0, .int sx1] M Q := by
  refine r_iadd dX12_lines_66 ?_
  refine r_istore_n dX12_lines_67 rfl (by decide) (ls' := [(1, .int (sx1 + sx0)), (0, .ref a0), (2, .int x2), (3, .int x3)]) rfl ?_
  refine r_iconst (v := (nI 0)) dX12_lines_68 rfl ?_
  refine r_istore dX12_lines_69 (by decide) (ls' := [(4, .int (nI 0)), (1, .int (sx1 + sx0)), (0, .ref a0), (2, .int x2), (3, .int x3)]) rfl ?_
  refine r_sub [2, 1, 3, 4, 0] (ls' := [(0, .ref a0), (1, .int (sx1 + sx0)), (2, .int x2), (3, .int x3), (4, .int (nI 0))]) rfl ?_
  exact pw0
theorem gX12_lines_71 {d : Nat} {Q : Option Value → Mem → Prop} {M : Mem} {a0 : Nat} {x1 : Int32} {x2 : Int32} {x3 : Int32} {x4 : Int32} (k0 : mK M a0 = 14) (k1 : mK M (mR M a0 14) = 1) (pw0 : (mI M a0 3) ≤ x4 → Wp d mdX12_lines 32 [(0, .ref a0), (1, .int x1), (2, .int x2), (3, .int (x3 + (nI 1)))] [] M Q) (pb1 : ¬ (mI M a0 3) ≤ x4 → vp_in x3 (mN M (mR M a0 14))) (pf2 : ¬ (mI M a0 3) ≤ x4 → ClD d mdX12_comes [.ref a0, .int (nI 0), .int (mI M (mR M a0 14) x3.toNatClampNeg), .int x4] M (fun r1 M1 => Wp d mdX12_lines 95 [(0, .ref a0), (1, .int x1), (2, .int x2), (3, .int x3), (4, .int x4)] (r1.toList ++ [.int (nI 0), .ref a0]) M1 Q)) : Wp d mdX12_lines 71 [(0, .ref a0), (1, .int x1), (2, .int x2), (3, .int x3), (4, .int x4)] [] M Q := by
  refine r_iload dX12_lines_71 4 rfl ?_
  refine r_aload_n dX12_lines_73 rfl 0 rfl ?_
  refine r_getI ck10 dX12_lines_74 flX12_30 rfl k0 ?_
  refine r_icmp_ge (tgt := 150) dX12_lines_77 (by decide) (fun c0 => ?_) (fun c0 => ?_)
  · skip
    refine r_iinc dX12_lines_150 3 rfl (v := x3 + (nI 1)) rfl (by decide) (ls' := [(3, .int (x3 + (nI 1))), (0, .ref a0), (1, .int x1), (2, .int x2), (4, .int x4)]) rfl ?_
    refine r_goto (tgt := 32) dX12_lines_153 (by decide) ?_
    refine r_sub [1, 2, 3, 0] (ls' := [(0, .ref a0), (1, .int x1), (2, .int x2), (3, .int (x3 + (nI 1)))]) rfl ?_
    exact (pw0 c0)
  · skip
    refine r_aload_n dX12_lines_80 rfl 0 rfl ?_
    refine r_iconst (v := (nI 0)) dX12_lines_81 rfl ?_
    refine r_aload_n dX12_lines_82 rfl 0 rfl ?_
    refine r_iconst (v := (nI 0)) dX12_lines_83 rfl ?_
    refine r_aload_n dX12_lines_84 rfl 0 rfl ?_
    refine r_getR ck10 dX12_lines_85 flX12_107 rfl k0 ?_
    refine r_iload_n dX12_lines_88 rfl 3 rfl ?_
    refine r_iald dX12_lines_89 k1 (pb1 c0) ?_
    refine r_iload dX12_lines_90 4 rfl ?_
    obtain ⟨e9, hlt, h9⟩ := (pf2 c0)
    exact r_callV (As := [.int (nI 0), .int (mI M (mR M a0 14) x3.toNatClampNeg), .int x4]) (rest := [.int (nI 0), .ref a0]) (ci := 10) moX12_comes dX12_lines_92 mlX12_43 imX12_comes seX12_comes k0 rfl hlt (Nat.le_of_ble_eq_true rfl) h9
theorem gX12_lines_95 {d : Nat} {Q : Option Value → Mem → Prop} {M : Mem} {a0 : Nat} {x1 : Int32} {x2 : Int32} {x3 : Int32} {x4 : Int32} {sx0 : Int32} {sx1 : Int32} {sa2 : Nat} (k0 : mK M sa2 = 14) (pf0 : ClD d mdX12_headLike [.ref sa2, .int sx1, .int sx0] M (fun r1 M1 => Wp d mdX12_lines 98 [(0, .ref a0), (1, .int x1), (2, .int x2), (3, .int x3), (4, .int x4)] (r1.toList ++ []) M1 Q)) : Wp d mdX12_lines 95 [(0, .ref a0), (1, .int x1), (2, .int x2), (3, .int x3), (4, .int x4)] [.int sx0, .int sx1, .ref sa2] M Q := by
  obtain ⟨e9, hlt, h9⟩ := pf0
  exact r_callV (As := [.int sx1, .int sx0]) (rest := []) (ci := 10) moX12_headLike dX12_lines_95 mlX12_209 imX12_headLike seX12_headLike k0 rfl hlt (Nat.le_of_ble_eq_true rfl) h9
theorem gX12_lines_98 {d : Nat} {Q : Option Value → Mem → Prop} {M : Mem} {a0 : Nat} {x1 : Int32} {x2 : Int32} {x3 : Int32} {x4 : Int32} {sx0 : Int32}  (pw0 : ¬ sx0 = (-1 : Int32) → Wp d mdX12_lines 107 [(0, .ref a0), (1, .int x1), (2, .int x2), (3, .int x3), (4, .int x4)] [.int (nI 0)] M Q) (pw1 : sx0 = (-1 : Int32) → Wp d mdX12_lines 107 [(0, .ref a0), (1, .int x1), (2, .int x2), (3, .int x3), (4, .int x4)] [.int (nI 1)] M Q) : Wp d mdX12_lines 98 [(0, .ref a0), (1, .int x1), (2, .int x2), (3, .int x3), (4, .int x4)] [.int sx0] M Q := by
  refine r_iconst (v := (-1)) dX12_lines_98 rfl ?_
  refine r_icmp_ne (tgt := 106) dX12_lines_99 (by decide) (fun c0 => ?_) (fun c0 => ?_)
  · skip
    refine r_iconst (v := (nI 0)) dX12_lines_106 rfl ?_
    exact (pw0 c0)
  · skip
    refine r_iconst (v := (nI 1)) dX12_lines_102 rfl ?_
    refine r_goto (tgt := 107) dX12_lines_103 (by decide) ?_
    exact (pw1 c0)
theorem gX12_lines_107 {d : Nat} {Q : Option Value → Mem → Prop} {M : Mem} {a0 : Nat} {x1 : Int32} {x2 : Int32} {x3 : Int32} {x4 : Int32} {sx0 : Int32} (k0 : mK M a0 = 14) (pw0 : sx0 = 0 → Wp d mdX12_lines 138 [(0, .ref a0), (1, .int x1), (3, .int x3), (4, .int x4)] [.int x2] M Q) (pf1 : ¬ sx0 = 0 → ClD d mdX12_headOf [.ref a0, .int (nI 0), .int x3] M (fun r1 M1 => Wp d mdX12_lines 123 [(0, .ref a0), (1, .int x1), (3, .int x3), (4, .int x4)] (r1.toList ++ [.int (nI 0), .ref a0, .int x2]) M1 Q)) : Wp d mdX12_lines 107 [(0, .ref a0), (1, .int x1), (2, .int x2), (3, .int x3), (4, .int x4)] [.int sx0] M Q := by
  refine r_istore dX12_lines_107 (by decide) (ls' := [(5, .int sx0), (0, .ref a0), (1, .int x1), (2, .int x2), (3, .int x3), (4, .int x4)]) rfl ?_
  refine r_iload_n dX12_lines_109 rfl 3 rfl ?_
  refine r_iload dX12_lines_110 0 rfl ?_
  refine r_if_eq (tgt := 138) dX12_lines_112 (by decide) (fun c0 => ?_) (fun c0 => ?_)
  · skip
    refine r_sub [1, 2, 4, 5] (ls' := [(0, .ref a0), (1, .int x1), (3, .int x3), (4, .int x4)]) rfl ?_
    exact (pw0 c0)
  · skip
    refine r_aload_n dX12_lines_115 rfl 1 rfl ?_
    refine r_iconst (v := (nI 0)) dX12_lines_116 rfl ?_
    refine r_aload_n dX12_lines_117 rfl 1 rfl ?_
    refine r_iconst (v := (nI 0)) dX12_lines_118 rfl ?_
    refine r_iload_n dX12_lines_119 rfl 4 rfl ?_
    refine r_sub [1, 2, 4, 5] (ls' := [(0, .ref a0), (1, .int x1), (3, .int x3), (4, .int x4)]) rfl ?_
    obtain ⟨e9, hlt, h9⟩ := (pf1 c0)
    exact r_callV (As := [.int (nI 0), .int x3]) (rest := [.int (nI 0), .ref a0, .int x2]) (ci := 10) moX12_headOf dX12_lines_120 mlX12_206 imX12_headOf seX12_headOf k0 rfl hlt (Nat.le_of_ble_eq_true rfl) h9
theorem gX12_lines_123 {d : Nat} {Q : Option Value → Mem → Prop} {M : Mem} {a0 : Nat} {x1 : Int32} {x3 : Int32} {x4 : Int32} {sw0 : Int64} {sx1 : Int32} {sa2 : Nat} {sx3 : Int32}  (pf0 : ClD d mdX12_longer [.long sw0, .int x4] M (fun r1 M1 => Wp d mdX12_lines 128 [(0, .ref a0), (1, .int x1), (3, .int x3), (4, .int x4)] (r1.toList ++ [.int sx1, .ref sa2, .int sx3]) M1 Q)) : Wp d mdX12_lines 123 [(0, .ref a0), (1, .int x1), (3, .int x3), (4, .int x4)] [.long sw0, .int sx1, .ref sa2, .int sx3] M Q := by
  refine r_iload dX12_lines_123 3 rfl ?_
  obtain ⟨e9, hlt, h9⟩ := pf0
  exact r_callS (As := [.long sw0, .int x4]) (rest := [.int sx1, .ref sa2, .int sx3]) moX12_longer dX12_lines_125 mlX12_80 saX12_longer rfl hlt (Nat.le_of_ble_eq_true rfl) h9
theorem gX12_lines_128 {d : Nat} {Q : Option Value → Mem → Prop} {M : Mem} {a0 : Nat} {x1 : Int32} {x3 : Int32} {x4 : Int32} {sw0 : Int64} {sx1 : Int32} {sa2 : Nat} {sx3 : Int32} (k0 : mK M sa2 = 14) (pf0 : ClD d mdX12_isHead [.ref sa2, .int sx1, .long sw0] M (fun r1 M1 => Wp d mdX12_lines 131 [(0, .ref a0), (1, .int x1), (3, .int x3), (4, .int x4)] (r1.toList ++ [.int sx3]) M1 Q)) : Wp d mdX12_lines 128 [(0, .ref a0), (1, .int x1), (3, .int x3), (4, .int x4)] [.long sw0, .int sx1, .ref sa2, .int sx3] M Q := by
  obtain ⟨e9, hlt, h9⟩ := pf0
  exact r_callV (As := [.int sx1, .long sw0]) (rest := [.int sx3]) (ci := 10) moX12_isHead dX12_lines_128 mlX12_261 imX12_isHead seX12_isHead k0 rfl hlt (Nat.le_of_ble_eq_true rfl) h9
theorem gX12_lines_131 {d : Nat} {Q : Option Value → Mem → Prop} {M : Mem} {a0 : Nat} {x1 : Int32} {x3 : Int32} {x4 : Int32} {sx0 : Int32} {sx1 : Int32}  (pw0 : ¬ sx0 = 0 → Wp d mdX12_lines 138 [(0, .ref a0), (1, .int x1), (3, .int x3), (4, .int x4)] [.int sx1] M Q) (pw1 : sx0 = 0 → Wp d mdX12_lines 139 [(0, .ref a0), (1, .int x1), (3, .int x3), (4, .int x4)] [.int (nI 1), .int sx1] M Q) : Wp d mdX12_lines 131 [(0, .ref a0), (1, .int x1), (3, .int x3), (4, .int x4)] [.int sx0, .int sx1] M Q := by
  refine r_if_ne (tgt := 138) dX12_lines_131 (by decide) (fun c0 => ?_) (fun c0 => ?_)
  · skip
    exact (pw0 c0)
  · skip
    refine r_iconst (v := (nI 1)) dX12_lines_134 rfl ?_
    refine r_goto (tgt := 139) dX12_lines_135 (by decide) ?_
    exact (pw1 c0)
theorem gX12_lines_138 {d : Nat} {Q : Option Value → Mem → Prop} {M : Mem} {a0 : Nat} {x1 : Int32} {x3 : Int32} {x4 : Int32} {sx0 : Int32}  (pw0 : Wp d mdX12_lines 139 [(0, .ref a0), (1, .int x1), (3, .int x3), (4, .int x4)] [.int (nI 0), .int sx0] M Q) : Wp d mdX12_lines 138 [(0, .ref a0), (1, .int x1), (3, .int x3), (4, .int x4)] [.int sx0] M Q := by
  refine r_iconst (v := (nI 0)) dX12_lines_138 rfl ?_
  exact pw0
theorem gX12_lines_139 {d : Nat} {Q : Option Value → Mem → Prop} {M : Mem} {a0 : Nat} {x1 : Int32} {x3 : Int32} {x4 : Int32} {sx0 : Int32} {sx1 : Int32}  (pf0 : ClD d mdX12_flag [.int sx0] M (fun r1 M1 => Wp d mdX12_lines 142 [(0, .ref a0), (1, .int x1), (3, .int x3), (4, .int x4)] (r1.toList ++ [.int sx1]) M1 Q)) : Wp d mdX12_lines 139 [(0, .ref a0), (1, .int x1), (3, .int x3), (4, .int x4)] [.int sx0, .int sx1] M Q := by
  obtain ⟨e9, hlt, h9⟩ := pf0
  exact r_callS (As := [.int sx0]) (rest := [.int sx1]) moX12_flag dX12_lines_139 mlX12_339 saX12_flag rfl hlt (Nat.le_of_ble_eq_true rfl) h9
theorem gX12_lines_142 {d : Nat} {Q : Option Value → Mem → Prop} {M : Mem} {a0 : Nat} {x1 : Int32} {x3 : Int32} {x4 : Int32} {sx0 : Int32} {sx1 : Int32}  (pw0 : Wp d mdX12_lines 71 [(0, .ref a0), (1, .int x1), (2, .int (sx1 + sx0)), (3, .int x3), (4, .int (x4 + (nI 1)))] [] M Q) : Wp d mdX12_lines 142 [(0, .ref a0), (1, .int x1), (3, .int x3), (4, .int x4)] [.int sx0, .int sx1] M Q := by
  refine r_iadd dX12_lines_142 ?_
  refine r_istore_n dX12_lines_143 rfl (by decide) (ls' := [(2, .int (sx1 + sx0)), (0, .ref a0), (1, .int x1), (3, .int x3), (4, .int x4)]) rfl ?_
  refine r_iinc dX12_lines_144 4 rfl (v := x4 + (nI 1)) rfl (by decide) (ls' := [(4, .int (x4 + (nI 1))), (2, .int (sx1 + sx0)), (0, .ref a0), (1, .int x1), (3, .int x3)]) rfl ?_
  refine r_goto (tgt := 71) dX12_lines_147 (by decide) ?_
  refine r_sub [2, 3, 1, 4, 0] (ls' := [(0, .ref a0), (1, .int x1), (2, .int (sx1 + sx0)), (3, .int x3), (4, .int (x4 + (nI 1)))]) rfl ?_
  exact pw0
theorem gX12_lines_174 {d : Nat} {Q : Option Value → Mem → Prop} {M : Mem} {a0 : Nat} {x1 : Int32} {x2 : Int32} (k0 : mK M a0 = 14) (pf0 : ClD d mdX12_enters [.ref a0, .long x2.toInt64] M (fun r1 M1 => Wp d mdX12_lines 180 [(1, .int x1)] (r1.toList ++ []) M1 Q)) : Wp d mdX12_lines 174 [(0, .ref a0), (1, .int x1), (2, .int x2)] [] M Q := by
  refine r_aload_n dX12_lines_174 rfl 0 rfl ?_
  refine r_iload_n dX12_lines_175 rfl 2 rfl ?_
  refine r_i2l dX12_lines_176 ?_
  refine r_sub [1] (ls' := [(1, .int x1)]) rfl ?_
  obtain ⟨e9, hlt, h9⟩ := pf0
  exact r_callV (As := [.long x2.toInt64]) (rest := []) (ci := 10) moX12_enters dX12_lines_177 mlX12_343 imX12_enters seX12_enters k0 rfl hlt (Nat.le_of_ble_eq_true rfl) h9
theorem gX12_lines_180 {d : Nat} {Q : Option Value → Mem → Prop} {M : Mem} {x1 : Int32}  (pq0 : Q (some (.int x1)) M) : Wp d mdX12_lines 180 [(1, .int x1)] [] M Q := by
  refine r_iload_n dX12_lines_180 rfl 0 rfl ?_
  exact r_ret (some (.int x1)) dX12_lines_181 rfl pq0
-- X12_knot
theorem gX12_knot_0 {d : Nat} {Q : Option Value → Mem → Prop} {M : Mem} {a0 : Nat} {x1 : Int32} {x2 : Int32} (k0 : mK M a0 = 14) (pf0 : ClD d mdX12_in [.long x2.toInt64, .long (lN 0), .long (lN 3)] (sI M a0 0 (nI 0)) (fun r1 M1 => Wp d mdX12_knot 14 [(0, .ref a0), (1, .int x1), (2, .int x2)] (r1.toList ++ []) M1 Q)) : Wp d mdX12_knot 0 [(0, .ref a0), (1, .int x1), (2, .int x2)] [] M Q := by
  refine r_aload_n dX12_knot_0 rfl 0 rfl ?_
  refine r_iconst (v := (nI 0)) dX12_knot_1 rfl ?_
  refine r_putI ck10 dX12_knot_2 flX12_1 rfl (Or.inl rfl) k0 ?_
  refine r_iload_n dX12_knot_5 rfl 2 rfl ?_
  refine r_i2l dX12_knot_6 ?_
  refine r_lconst (v := (lN 0)) dX12_knot_7 rfl ?_
  refine r_ldc2 dX12_knot_8 kwX12_28 ?_
  obtain ⟨e9, hlt, h9⟩ := pf0
  exact r_callS (As := [.long x2.toInt64, .long (lN 0), .long (lN 3)]) (rest := []) moX12_in dX12_knot_11 mlX12_24 saX12_in rfl hlt (Nat.le_of_ble_eq_true rfl) h9
theorem gX12_knot_14 {d : Nat} {Q : Option Value → Mem → Prop} {M : Mem} {a0 : Nat} {x1 : Int32} {x2 : Int32} {sx0 : Int32} (k0 : mK M a0 = 14) (k1 : mK M (mR M a0 12) = 1) (pb0 : ¬ sx0 = 0 → (mI M a0 7) = (nI 3) → vp_in (nI 0) (mN M (mR M a0 12))) (pf1 : ¬ sx0 = 0 → (mI M a0 7) = (nI 3) → ClD d mdX12_in [.long x1.toInt64, .long (lN 0), .long (((mI M (mR M a0 12) (nI 0).toNatClampNeg) - (nI 1)).toInt64)] M (fun r1 M1 => Wp d mdX12_knot 45 [(0, .ref a0), (1, .int x1), (2, .int x2)] (r1.toList ++ []) M1 Q)) (pq2 : ¬ sx0 = 0 → ¬ (mI M a0 7) = (nI 3) → Q (some (.int (-2 : Int32))) M) (pq3 : sx0 = 0 → Q (some (.int (-1 : Int32))) M) : Wp d mdX12_knot 14 [(0, .ref a0), (1, .int x1), (2, .int x2)] [.int sx0] M Q := by
  refine r_if_ne (tgt := 19) dX12_knot_14 (by decide) (fun c0 => ?_) (fun c0 => ?_)
  · skip
    refine r_aload_n dX12_knot_19 rfl 0 rfl ?_
    refine r_getI ck10 dX12_knot_20 flX12_314 rfl k0 ?_
    refine r_iconst (v := (nI 3)) dX12_knot_23 rfl ?_
    refine r_icmp_eq (tgt := 30) dX12_knot_24 (by decide) (fun c1 => ?_) (fun c1 => ?_)
    · skip
      refine r_iload_n dX12_knot_30 rfl 1 rfl ?_
      refine r_i2l dX12_knot_31 ?_
      refine r_lconst (v := (lN 0)) dX12_knot_32 rfl ?_
      refine r_aload_n dX12_knot_33 rfl 0 rfl ?_
      refine r_getR ck10 dX12_knot_34 flX12_101 rfl k0 ?_
      refine r_iconst (v := (nI 0)) dX12_knot_37 rfl ?_
      refine r_iald dX12_knot_38 k1 (pb0 c0 c1) ?_
      refine r_iconst (v := (nI 1)) dX12_knot_39 rfl ?_
      refine r_isub dX12_knot_40 ?_
      refine r_i2l dX12_knot_41 ?_
      obtain ⟨e9, hlt, h9⟩ := (pf1 c0 c1)
      exact r_callS (As := [.long x1.toInt64, .long (lN 0), .long (((mI M (mR M a0 12) (nI 0).toNatClampNeg) - (nI 1)).toInt64)]) (rest := []) moX12_in dX12_knot_42 mlX12_24 saX12_in rfl hlt (Nat.le_of_ble_eq_true rfl) h9
    · skip
      refine r_bipush (v := (-2)) dX12_knot_27 rfl ?_
      exact r_ret (some (.int (-2 : Int32))) dX12_knot_29 rfl (pq2 c0 c1)
  · skip
    refine r_iconst (v := (-1)) dX12_knot_17 rfl ?_
    exact r_ret (some (.int (-1 : Int32))) dX12_knot_18 rfl (pq3 c0)
theorem gX12_knot_45 {d : Nat} {Q : Option Value → Mem → Prop} {M : Mem} {a0 : Nat} {x1 : Int32} {x2 : Int32} {sx0 : Int32} (k0 : mK M a0 = 14) (k1 : mK M (mR M a0 22) = 1) (pb0 : ¬ sx0 = 0 → vp_in (((nI 4) * x1) + x2) (mN M (mR M a0 22))) (pq1 : ¬ sx0 = 0 → ¬ (mI M (mR M a0 22) (((nI 4) * x1) + x2).toNatClampNeg) = 0 → (nI 100) ≤ (mI M (mR M a0 22) (((nI 4) * x1) + x2).toNatClampNeg) → Q (some (.int (mI M (mR M a0 22) (((nI 4) * x1) + x2).toNatClampNeg))) M) (pq2 : ¬ sx0 = 0 → ¬ (mI M (mR M a0 22) (((nI 4) * x1) + x2).toNatClampNeg) = 0 → ¬ (nI 100) ≤ (mI M (mR M a0 22) (((nI 4) * x1) + x2).toNatClampNeg) → Q (some (.int ((mI M (mR M a0 22) (((nI 4) * x1) + x2).toNatClampNeg) - (nI 1)))) M) (pq3 : ¬ sx0 = 0 → (mI M (mR M a0 22) (((nI 4) * x1) + x2).toNatClampNeg) = 0 → Q (some (.int (-3 : Int32))) M) (pq4 : sx0 = 0 → Q (some (.int (-1 : Int32))) M) : Wp d mdX12_knot 45 [(0, .ref a0), (1, .int x1), (2, .int x2)] [.int sx0] M Q := by
  refine r_if_ne (tgt := 50) dX12_knot_45 (by decide) (fun c0 => ?_) (fun c0 => ?_)
  · skip
    refine r_aload_n dX12_knot_50 rfl 0 rfl ?_
    refine r_getR ck10 dX12_knot_51 flX12_133 rfl k0 ?_
    refine r_iconst (v := (nI 4)) dX12_knot_54 rfl ?_
    refine r_iload_n dX12_knot_55 rfl 1 rfl ?_
    refine r_imul dX12_knot_56 ?_
    refine r_iload_n dX12_knot_57 rfl 2 rfl ?_
    refine r_iadd dX12_knot_58 ?_
    refine r_iald dX12_knot_59 k1 (pb0 c0) ?_
    refine r_istore_n dX12_knot_60 rfl (by decide) (ls' := [(3, .int (mI M (mR M a0 22) (((nI 4) * x1) + x2).toNatClampNeg)), (0, .ref a0), (1, .int x1), (2, .int x2)]) rfl ?_
    refine r_iload_n dX12_knot_61 rfl 0 rfl ?_
    refine r_if_ne (tgt := 70) dX12_knot_62 (by decide) (fun c1 => ?_) (fun c1 => ?_)
    · skip
      refine r_iload_n dX12_knot_70 rfl 0 rfl ?_
      refine r_bipush (v := (nI 100)) dX12_knot_71 rfl ?_
      refine r_icmp_ge (tgt := 82) dX12_knot_73 (by decide) (fun c2 => ?_) (fun c2 => ?_)
      · skip
        refine r_iload_n dX12_knot_82 rfl 0 rfl ?_
        exact r_ret (some (.int (mI M (mR M a0 22) (((nI 4) * x1) + x2).toNatClampNeg))) dX12_knot_83 rfl (pq1 c0 c1 c2)
      · skip
        refine r_iload_n dX12_knot_76 rfl 0 rfl ?_
        refine r_iconst (v := (nI 1)) dX12_knot_77 rfl ?_
        refine r_isub dX12_knot_78 ?_
        refine r_goto (tgt := 83) dX12_knot_79 (by decide) ?_
        exact r_ret (some (.int ((mI M (mR M a0 22) (((nI 4) * x1) + x2).toNatClampNeg) - (nI 1)))) dX12_knot_83 rfl (pq2 c0 c1 c2)
    · skip
      refine r_bipush (v := (-3)) dX12_knot_65 rfl ?_
      refine r_goto (tgt := 83) dX12_knot_67 (by decide) ?_
      exact r_ret (some (.int (-3 : Int32))) dX12_knot_83 rfl (pq3 c0 c1)
  · skip
    refine r_iconst (v := (-1)) dX12_knot_48 rfl ?_
    exact r_ret (some (.int (-1 : Int32))) dX12_knot_49 rfl (pq4 c0)
-- X12_sift
theorem gX12_sift_0 {d : Nat} {Q : Option Value → Mem → Prop} {M : Mem} {a0 : Nat} {w1 : Int64} (k0 : mK M a0 = 14) (pf0 : ClD d mdX12_isWord [.ref a0, .long w1] (sI M a0 0 (nI 0)) (fun r1 M1 => Wp d mdX12_sift 10 [(0, .ref a0), (1, .long w1)] (r1.toList ++ []) M1 Q)) : Wp d mdX12_sift 0 [(0, .ref a0), (1, .long w1)] [] M Q := by
  refine r_aload_n dX12_sift_0 rfl 0 rfl ?_
  refine r_iconst (v := (nI 0)) dX12_sift_1 rfl ?_
  refine r_putI ck10 dX12_sift_2 flX12_1 rfl (Or.inl rfl) k0 ?_
  refine r_aload_n dX12_sift_5 rfl 0 rfl ?_
  refine r_lload_n dX12_sift_6 rfl 1 rfl ?_
  obtain ⟨e9, hlt, h9⟩ := pf0
  exact r_callV (As := [.long w1]) (rest := []) (ci := 10) moX12_isWord dX12_sift_7 mlX12_55 imX12_isWord seX12_isWord k0 rfl hlt (Nat.le_of_ble_eq_true rfl) h9
theorem gX12_sift_10 {d : Nat} {Q : Option Value → Mem → Prop} {M : Mem} {a0 : Nat} {w1 : Int64} {sx0 : Int32}  (pq0 : sx0 = 0 → Q (some (.int (-1 : Int32))) M) (pf1 : ¬ sx0 = 0 → ClD d mdX12_lengthOf [.long w1] M (fun r1 M1 => Wp d mdX12_sift 17 [(0, .ref a0), (1, .long w1)] (r1.toList ++ []) M1 Q)) : Wp d mdX12_sift 10 [(0, .ref a0), (1, .long w1)] [.int sx0] M Q := by
  refine r_if_eq (tgt := 22) dX12_sift_10 (by decide) (fun c0 => ?_) (fun c0 => ?_)
  · skip
    refine r_iconst (v := (-1)) dX12_sift_22 rfl ?_
    exact r_ret (some (.int (-1 : Int32))) dX12_sift_23 rfl (pq0 c0)
  · skip
    refine r_lload_n dX12_sift_13 rfl 1 rfl ?_
    obtain ⟨e9, hlt, h9⟩ := (pf1 c0)
    exact r_callS (As := [.long w1]) (rest := []) moX12_lengthOf dX12_sift_14 mlX12_33 saX12_lengthOf rfl hlt (Nat.le_of_ble_eq_true rfl) h9
theorem gX12_sift_17 {d : Nat} {Q : Option Value → Mem → Prop} {M : Mem} {a0 : Nat} {w1 : Int64} {sx0 : Int32} (k0 : mK M a0 = 14) (pf0 : sx0 ≤ (nI 15) → (mI M a0 7) = (nI 3) → ClD d mdX12_sifts [.ref a0, .int (nI 0), .long w1] M (fun r1 M1 => Wp d mdX12_sift 41 [(0, .ref a0)] (r1.toList ++ []) M1 Q)) (pq1 : sx0 ≤ (nI 15) → ¬ (mI M a0 7) = (nI 3) → Q (some (.int (-2 : Int32))) M) (pq2 : ¬ sx0 ≤ (nI 15) → Q (some (.int (-1 : Int32))) M) : Wp d mdX12_sift 17 [(0, .ref a0), (1, .long w1)] [.int sx0] M Q := by
  refine r_bipush (v := (nI 15)) dX12_sift_17 rfl ?_
  refine r_icmp_le (tgt := 24) dX12_sift_19 (by decide) (fun c0 => ?_) (fun c0 => ?_)
  · skip
    refine r_aload_n dX12_sift_24 rfl 0 rfl ?_
    refine r_getI ck10 dX12_sift_25 flX12_314 rfl k0 ?_
    refine r_iconst (v := (nI 3)) dX12_sift_28 rfl ?_
    refine r_icmp_eq (tgt := 35) dX12_sift_29 (by decide) (fun c1 => ?_) (fun c1 => ?_)
    · skip
      refine r_aload_n dX12_sift_35 rfl 0 rfl ?_
      refine r_iconst (v := (nI 0)) dX12_sift_36 rfl ?_
      refine r_lload_n dX12_sift_37 rfl 1 rfl ?_
      refine r_sub [0] (ls' := [(0, .ref a0)]) rfl ?_
      obtain ⟨e9, hlt, h9⟩ := (pf0 c0 c1)
      exact r_callV (As := [.int (nI 0), .long w1]) (rest := []) (ci := 10) moX12_sifts dX12_sift_38 mlX12_228 imX12_sifts seX12_sifts k0 rfl hlt (Nat.le_of_ble_eq_true rfl) h9
    · skip
      refine r_bipush (v := (-2)) dX12_sift_32 rfl ?_
      exact r_ret (some (.int (-2 : Int32))) dX12_sift_34 rfl (pq1 c0 c1)
  · skip
    refine r_iconst (v := (-1)) dX12_sift_22 rfl ?_
    exact r_ret (some (.int (-1 : Int32))) dX12_sift_23 rfl (pq2 c0)
theorem gX12_sift_41 {d : Nat} {Q : Option Value → Mem → Prop} {M : Mem} {a0 : Nat} {sx0 : Int32} (k0 : mK M a0 = 14) (pf0 : ¬ sx0 = (-1 : Int32) → ClD d mdX12_enters [.ref a0, .long ((mI (sI M a0 1 (nI 0)) a0 24).toInt64)] (sI M a0 1 (nI 0)) (fun r1 M1 => Wp d mdX12_sift 64 [(3, .int sx0)] (r1.toList ++ []) M1 Q)) (pq1 : sx0 = (-1 : Int32) → Q (some (.int (-3 : Int32))) M) : Wp d mdX12_sift 41 [(0, .ref a0)] [.int sx0] M Q := by
  refine r_istore_n dX12_sift_41 rfl (by decide) (ls' := [(3, .int sx0), (0, .ref a0)]) rfl ?_
  refine r_iload_n dX12_sift_42 rfl 0 rfl ?_
  refine r_iconst (v := (-1)) dX12_sift_43 rfl ?_
  refine r_icmp_ne (tgt := 50) dX12_sift_44 (by decide) (fun c0 => ?_) (fun c0 => ?_)
  · skip
    refine r_aload_n dX12_sift_50 rfl 1 rfl ?_
    refine r_iconst (v := (nI 0)) dX12_sift_51 rfl ?_
    refine r_putI ck10 dX12_sift_52 flX12_11 rfl (Or.inl rfl) k0 ?_
    refine r_aload_n dX12_sift_55 rfl 1 rfl ?_
    refine r_aload_n dX12_sift_56 rfl 1 rfl ?_
    refine r_getI ck10 dX12_sift_57 flX12_222 rfl k0 ?_
    refine r_i2l dX12_sift_60 ?_
    refine r_sub [0] (ls' := [(3, .int sx0)]) rfl ?_
    obtain ⟨e9, hlt, h9⟩ := (pf0 c0)
    exact r_callV (As := [.long ((mI (sI M a0 1 (nI 0)) a0 24).toInt64)]) (rest := []) (ci := 10) moX12_enters dX12_sift_61 mlX12_343 imX12_enters seX12_enters k0 rfl hlt (Nat.le_of_ble_eq_true rfl) h9
  · skip
    refine r_bipush (v := (-3)) dX12_sift_47 rfl ?_
    exact r_ret (some (.int (-3 : Int32))) dX12_sift_49 rfl (pq1 c0)
theorem gX12_sift_64 {d : Nat} {Q : Option Value → Mem → Prop} {M : Mem} {x3 : Int32}  (pq0 : Q (some (.int x3)) M) : Wp d mdX12_sift 64 [(3, .int x3)] [] M Q := by
  refine r_iload_n dX12_sift_64 rfl 0 rfl ?_
  exact r_ret (some (.int x3)) dX12_sift_65 rfl pq0
-- X12_why
theorem gX12_why_0 {d : Nat} {Q : Option Value → Mem → Prop} {M : Mem} {a0 : Nat} {x1 : Int32}  (pf0 : ClD d mdX12_in [.long x1.toInt64, .long (lN 0), .long (lN 7)] M (fun r1 M1 => Wp d mdX12_why 9 [(0, .ref a0), (1, .int x1)] (r1.toList ++ []) M1 Q)) : Wp d mdX12_why 0 [(0, .ref a0), (1, .int x1)] [] M Q := by
  refine r_iload_n dX12_why_0 rfl 1 rfl ?_
  refine r_i2l dX12_why_1 ?_
  refine r_lconst (v := (lN 0)) dX12_why_2 rfl ?_
  refine r_ldc2 dX12_why_3 kwX12_354 ?_
  obtain ⟨e9, hlt, h9⟩ := pf0
  exact r_callS (As := [.long x1.toInt64, .long (lN 0), .long (lN 7)]) (rest := []) moX12_in dX12_why_6 mlX12_24 saX12_in rfl hlt (Nat.le_of_ble_eq_true rfl) h9
theorem gX12_why_9 {d : Nat} {Q : Option Value → Mem → Prop} {M : Mem} {a0 : Nat} {x1 : Int32} {sx0 : Int32} (k0 : mK M a0 = 14) (k1 : mK M (mR M a0 20) = 3) (pb0 : ¬ sx0 = 0 → vp_in (nI 0) (mN M (mR M a0 20))) (pf1 : ¬ sx0 = 0 → ¬ (mI M (mR M a0 20) (nI 0).toNatClampNeg) = 0 → ClD d mdX12_isState [.ref a0, .int (nI 1), .int x1] M (fun r1 M1 => Wp d mdX12_why 34 [] (r1.toList ++ []) M1 Q)) (pq2 : ¬ sx0 = 0 → (mI M (mR M a0 20) (nI 0).toNatClampNeg) = 0 → Q (some (.int (-2 : Int32))) M) (pq3 : sx0 = 0 → Q (some (.int (-1 : Int32))) M) : Wp d mdX12_why 9 [(0, .ref a0), (1, .int x1)] [.int sx0] M Q := by
  refine r_if_ne (tgt := 14) dX12_why_9 (by decide) (fun c0 => ?_) (fun c0 => ?_)
  · skip
    refine r_aload_n dX12_why_14 rfl 0 rfl ?_
    refine r_getR ck10 dX12_why_15 flX12_126 rfl k0 ?_
    refine r_iconst (v := (nI 0)) dX12_why_18 rfl ?_
    refine r_zald dX12_why_19 k1 (pb0 c0) ?_
    refine r_if_ne (tgt := 28) dX12_why_20 (by decide) (fun c1 => ?_) (fun c1 => ?_)
    · skip
      refine r_aload_n dX12_why_28 rfl 0 rfl ?_
      refine r_iconst (v := (nI 1)) dX12_why_29 rfl ?_
      refine r_iload_n dX12_why_30 rfl 1 rfl ?_
      refine r_sub [] (ls' := []) rfl ?_
      obtain ⟨e9, hlt, h9⟩ := (pf1 c0 c1)
      exact r_callV (As := [.int (nI 1), .int x1]) (rest := []) (ci := 10) moX12_isState dX12_why_31 mlX12_330 imX12_isState seX12_isState k0 rfl hlt (Nat.le_of_ble_eq_true rfl) h9
    · skip
      refine r_bipush (v := (-2)) dX12_why_23 rfl ?_
      refine r_goto (tgt := 42) dX12_why_25 (by decide) ?_
      exact r_ret (some (.int (-2 : Int32))) dX12_why_42 rfl (pq2 c0 c1)
  · skip
    refine r_iconst (v := (-1)) dX12_why_12 rfl ?_
    exact r_ret (some (.int (-1 : Int32))) dX12_why_13 rfl (pq3 c0)
theorem gX12_why_34 {d : Nat} {Q : Option Value → Mem → Prop} {M : Mem} {sx0 : Int32}  (pq0 : sx0 = 0 → Q (some (.int (-1 : Int32))) M) (pq1 : ¬ sx0 = 0 → Q (some (.int (nI 0))) M) : Wp d mdX12_why 34 [] [.int sx0] M Q := by
  refine r_if_eq (tgt := 41) dX12_why_34 (by decide) (fun c0 => ?_) (fun c0 => ?_)
  · skip
    refine r_iconst (v := (-1)) dX12_why_41 rfl ?_
    exact r_ret (some (.int (-1 : Int32))) dX12_why_42 rfl (pq0 c0)
  · skip
    refine r_iconst (v := (nI 0)) dX12_why_37 rfl ?_
    refine r_goto (tgt := 42) dX12_why_38 (by decide) ?_
    exact r_ret (some (.int (nI 0))) dX12_why_42 rfl (pq1 c0)
-- X12_guessed
theorem gX12_guessed_0 {d : Nat} {Q : Option Value → Mem → Prop} {M : Mem} {a0 : Nat} {x1 : Int32} {x2 : Int32} (k0 : mK M a0 = 14) (pf0 : ClD d mdX12_in [.long x2.toInt64, .long (lN 0), .long ((mI (sI M a0 0 (nI 0)) a0 3).toInt64)] (sI M a0 0 (nI 0)) (fun r1 M1 => Wp d mdX12_guessed 16 [(0, .ref a0), (1, .int x1), (2, .int x2)] (r1.toList ++ []) M1 Q)) : Wp d mdX12_guessed 0 [(0, .ref a0), (1, .int x1), (2, .int x2)] [] M Q := by
  refine r_aload_n dX12_guessed_0 rfl 0 rfl ?_
  refine r_iconst (v := (nI 0)) dX12_guessed_1 rfl ?_
  refine r_putI ck10 dX12_guessed_2 flX12_1 rfl (Or.inl rfl) k0 ?_
  refine r_iload_n dX12_guessed_5 rfl 2 rfl ?_
  refine r_i2l dX12_guessed_6 ?_
  refine r_lconst (v := (lN 0)) dX12_guessed_7 rfl ?_
  refine r_aload_n dX12_guessed_8 rfl 0 rfl ?_
  refine r_getI ck10 dX12_guessed_9 flX12_30 rfl k0 ?_
  refine r_i2l dX12_guessed_12 ?_
  obtain ⟨e9, hlt, h9⟩ := pf0
  exact r_callS (As := [.long x2.toInt64, .long (lN 0), .long ((mI (sI M a0 0 (nI 0)) a0 3).toInt64)]) (rest := []) moX12_in dX12_guessed_13 mlX12_24 saX12_in rfl hlt (Nat.le_of_ble_eq_true rfl) h9
theorem gX12_guessed_16 {d : Nat} {Q : Option Value → Mem → Prop} {M : Mem} {a0 : Nat} {x1 : Int32} {x2 : Int32} {sx0 : Int32} (k0 : mK M a0 = 14) (pq0 : sx0 = 0 → Q (some (.int (-1 : Int32))) M) (pf1 : ¬ sx0 = 0 → ClD d mdX12_why [.ref a0, .int x1] M (fun r1 M1 => Wp d mdX12_guessed 24 [(0, .ref a0), (1, .int x1), (2, .int x2)] (r1.toList ++ []) M1 Q)) : Wp d mdX12_guessed 16 [(0, .ref a0), (1, .int x1), (2, .int x2)] [.int sx0] M Q := by
  refine r_if_eq (tgt := 28) dX12_guessed_16 (by decide) (fun c0 => ?_) (fun c0 => ?_)
  · skip
    refine r_iconst (v := (-1)) dX12_guessed_28 rfl ?_
    exact r_ret (some (.int (-1 : Int32))) dX12_guessed_29 rfl (pq0 c0)
  · skip
    refine r_aload_n dX12_guessed_19 rfl 0 rfl ?_
    refine r_iload_n dX12_guessed_20 rfl 1 rfl ?_
    obtain ⟨e9, hlt, h9⟩ := (pf1 c0)
    exact r_callV (As := [.int x1]) (rest := []) (ci := 10) moX12_why dX12_guessed_21 mlX12_356 imX12_why seX12_why k0 rfl hlt (Nat.le_of_ble_eq_true rfl) h9
theorem gX12_guessed_24 {d : Nat} {Q : Option Value → Mem → Prop} {M : Mem} {a0 : Nat} {x1 : Int32} {x2 : Int32} {sx0 : Int32} (k0 : mK M a0 = 14) (pf0 : ¬ sx0 = (-1 : Int32) → ClD d mdX12_why [.ref a0, .int x1] M (fun r1 M1 => Wp d mdX12_guessed 35 [(0, .ref a0), (1, .int x1), (2, .int x2)] (r1.toList ++ []) M1 Q)) (pq1 : sx0 = (-1 : Int32) → Q (some (.int (-1 : Int32))) M) : Wp d mdX12_guessed 24 [(0, .ref a0), (1, .int x1), (2, .int x2)] [.int sx0] M Q := by
  refine r_iconst (v := (-1)) dX12_guessed_24 rfl ?_
  refine r_icmp_ne (tgt := 30) dX12_guessed_25 (by decide) (fun c0 => ?_) (fun c0 => ?_)
  · skip
    refine r_aload_n dX12_guessed_30 rfl 0 rfl ?_
    refine r_iload_n dX12_guessed_31 rfl 1 rfl ?_
    obtain ⟨e9, hlt, h9⟩ := (pf0 c0)
    exact r_callV (As := [.int x1]) (rest := []) (ci := 10) moX12_why dX12_guessed_32 mlX12_356 imX12_why seX12_why k0 rfl hlt (Nat.le_of_ble_eq_true rfl) h9
  · skip
    refine r_iconst (v := (-1)) dX12_guessed_28 rfl ?_
    exact r_ret (some (.int (-1 : Int32))) dX12_guessed_29 rfl (pq1 c0)
theorem gX12_guessed_35 {d : Nat} {Q : Option Value → Mem → Prop} {M : Mem} {a0 : Nat} {x1 : Int32} {x2 : Int32} {sx0 : Int32} (k0 : mK M a0 = 14) (pf0 : sx0 = 0 → ¬ x2 = 0 → ClD d mdX12_comes [.ref a0, .int (nI 1), .int x1, .int (x2 - (nI 1))] M (fun r1 M1 => Wp d mdX12_guessed 63 [] (r1.toList ++ []) M1 Q)) (pf1 : sx0 = 0 → x2 = 0 → ClD d mdX12_shown [.ref a0, .int (nI 1), .int x1] M (fun r1 M1 => Wp d mdX12_guessed 51 [] (r1.toList ++ []) M1 Q)) (pq2 : ¬ sx0 = 0 → Q (some (.int (-2 : Int32))) M) : Wp d mdX12_guessed 35 [(0, .ref a0), (1, .int x1), (2, .int x2)] [.int sx0] M Q := by
  refine r_if_eq (tgt := 41) dX12_guessed_35 (by decide) (fun c0 => ?_) (fun c0 => ?_)
  · skip
    refine r_iload_n dX12_guessed_41 rfl 2 rfl ?_
    refine r_if_ne (tgt := 54) dX12_guessed_42 (by decide) (fun c1 => ?_) (fun c1 => ?_)
    · skip
      refine r_aload_n dX12_guessed_54 rfl 0 rfl ?_
      refine r_iconst (v := (nI 1)) dX12_guessed_55 rfl ?_
      refine r_iload_n dX12_guessed_56 rfl 1 rfl ?_
      refine r_iload_n dX12_guessed_57 rfl 2 rfl ?_
      refine r_iconst (v := (nI 1)) dX12_guessed_58 rfl ?_
      refine r_isub dX12_guessed_59 ?_
      refine r_sub [] (ls' := []) rfl ?_
      obtain ⟨e9, hlt, h9⟩ := (pf0 c0 c1)
      exact r_callV (As := [.int (nI 1), .int x1, .int (x2 - (nI 1))]) (rest := []) (ci := 10) moX12_comes dX12_guessed_60 mlX12_43 imX12_comes seX12_comes k0 rfl hlt (Nat.le_of_ble_eq_true rfl) h9
    · skip
      refine r_aload_n dX12_guessed_45 rfl 0 rfl ?_
      refine r_iconst (v := (nI 1)) dX12_guessed_46 rfl ?_
      refine r_iload_n dX12_guessed_47 rfl 1 rfl ?_
      refine r_sub [] (ls' := []) rfl ?_
      obtain ⟨e9, hlt, h9⟩ := (pf1 c0 c1)
      exact r_callV (As := [.int (nI 1), .int x1]) (rest := []) (ci := 10) moX12_shown dX12_guessed_48 mlX12_51 imX12_shown seX12_shown k0 rfl hlt (Nat.le_of_ble_eq_true rfl) h9
  · skip
    refine r_bipush (v := (-2)) dX12_guessed_38 rfl ?_
    exact r_ret (some (.int (-2 : Int32))) dX12_guessed_40 rfl (pq2 c0)
theorem gX12_guessed_51 {d : Nat} {Q : Option Value → Mem → Prop} {M : Mem} {sx0 : Int32}  (pw0 : Wp d mdX12_guessed 63 [] [.int sx0] M Q) : Wp d mdX12_guessed 51 [] [.int sx0] M Q := by
  refine r_goto (tgt := 63) dX12_guessed_51 (by decide) ?_
  exact pw0
theorem gX12_guessed_63 {d : Nat} {Q : Option Value → Mem → Prop} {M : Mem} {sx0 : Int32}  (pq0 : Q (some (.int sx0)) M) : Wp d mdX12_guessed 63 [] [.int sx0] M Q := by
  exact r_ret (some (.int sx0)) dX12_guessed_63 rfl pq0
-- X12_access
theorem gX12_access_0 {d : Nat} {Q : Option Value → Mem → Prop} {M : Mem} {a0 : Nat} {x1 : Int32} (k0 : mK M a0 = 14) (pf0 : ClD d mdX12_why [.ref a0, .int x1] (sI M a0 0 (nI 0)) (fun r1 M1 => Wp d mdX12_access 10 [(0, .ref a0), (1, .int x1)] (r1.toList ++ []) M1 Q)) : Wp d mdX12_access 0 [(0, .ref a0), (1, .int x1)] [] M Q := by
  refine r_aload_n dX12_access_0 rfl 0 rfl ?_
  refine r_iconst (v := (nI 0)) dX12_access_1 rfl ?_
  refine r_putI ck10 dX12_access_2 flX12_1 rfl (Or.inl rfl) k0 ?_
  refine r_aload_n dX12_access_5 rfl 0 rfl ?_
  refine r_iload_n dX12_access_6 rfl 1 rfl ?_
  obtain ⟨e9, hlt, h9⟩ := pf0
  exact r_callV (As := [.int x1]) (rest := []) (ci := 10) moX12_why dX12_access_7 mlX12_356 imX12_why seX12_why k0 rfl hlt (Nat.le_of_ble_eq_true rfl) h9
theorem gX12_access_10 {d : Nat} {Q : Option Value → Mem → Prop} {M : Mem} {a0 : Nat} {x1 : Int32} {sx0 : Int32} (k0 : mK M a0 = 14) (k1 : mK M (mR M a0 21) = 2) (pb0 : sx0 = 0 → vp_in x1 (mN M (mR M a0 21))) (pq1 : sx0 = 0 → Q (some (.long (mJ M (mR M a0 21) x1.toNatClampNeg))) M) (pf2 : ¬ sx0 = 0 → ClD d mdX12_why [.ref a0, .int x1] M (fun r1 M1 => Wp d mdX12_access 18 [] (r1.toList ++ []) M1 Q)) : Wp d mdX12_access 10 [(0, .ref a0), (1, .int x1)] [.int sx0] M Q := by
  refine r_if_eq (tgt := 22) dX12_access_10 (by decide) (fun c0 => ?_) (fun c0 => ?_)
  · skip
    refine r_aload_n dX12_access_22 rfl 0 rfl ?_
    refine r_getR ck10 dX12_access_23 flX12_130 rfl k0 ?_
    refine r_iload_n dX12_access_26 rfl 1 rfl ?_
    refine r_lald dX12_access_27 k1 (pb0 c0) ?_
    exact r_ret (some (.long (mJ M (mR M a0 21) x1.toNatClampNeg))) dX12_access_28 rfl (pq1 c0)
  · skip
    refine r_aload_n dX12_access_13 rfl 0 rfl ?_
    refine r_iload_n dX12_access_14 rfl 1 rfl ?_
    refine r_sub [] (ls' := []) rfl ?_
    obtain ⟨e9, hlt, h9⟩ := (pf2 c0)
    exact r_callV (As := [.int x1]) (rest := []) (ci := 10) moX12_why dX12_access_15 mlX12_356 imX12_why seX12_why k0 rfl hlt (Nat.le_of_ble_eq_true rfl) h9
theorem gX12_access_18 {d : Nat} {Q : Option Value → Mem → Prop} {M : Mem} {sx0 : Int32}  (pq0 : Q (some (.long sx0.toInt64)) M) : Wp d mdX12_access 18 [] [.int sx0] M Q := by
  refine r_i2l dX12_access_18 ?_
  refine r_goto (tgt := 28) dX12_access_19 (by decide) ?_
  exact r_ret (some (.long sx0.toInt64)) dX12_access_28 rfl pq0
-- X12_reads
theorem gX12_reads_0 {d : Nat} {Q : Option Value → Mem → Prop} {M : Mem} {a0 : Nat} {w1 : Int64} (k0 : mK M a0 = 14) (pf0 : ClD d mdX12_isWord [.ref a0, .long w1] (sI M a0 0 (nI 0)) (fun r1 M1 => Wp d mdX12_reads 10 [(0, .ref a0), (1, .long w1)] (r1.toList ++ []) M1 Q)) : Wp d mdX12_reads 0 [(0, .ref a0), (1, .long w1)] [] M Q := by
  refine r_aload_n dX12_reads_0 rfl 0 rfl ?_
  refine r_iconst (v := (nI 0)) dX12_reads_1 rfl ?_
  refine r_putI ck10 dX12_reads_2 flX12_1 rfl (Or.inl rfl) k0 ?_
  refine r_aload_n dX12_reads_5 rfl 0 rfl ?_
  refine r_lload_n dX12_reads_6 rfl 1 rfl ?_
  obtain ⟨e9, hlt, h9⟩ := pf0
  exact r_callV (As := [.long w1]) (rest := []) (ci := 10) moX12_isWord dX12_reads_7 mlX12_55 imX12_isWord seX12_isWord k0 rfl hlt (Nat.le_of_ble_eq_true rfl) h9
theorem gX12_reads_10 {d : Nat} {Q : Option Value → Mem → Prop} {M : Mem} {a0 : Nat} {w1 : Int64} {sx0 : Int32} (k0 : mK M a0 = 14) (k1 : mK M (mR M a0 20) = 3) (pb0 : ¬ sx0 = 0 → vp_in (nI 0) (mN M (mR M a0 20))) (pf1 : ¬ sx0 = 0 → ¬ (mI M (mR M a0 20) (nI 0).toNatClampNeg) = 0 → ClD d mdX12_answer [.ref a0, .int (nI 1), .long w1] (sI M a0 1 (nI 0)) (fun r1 M1 => Wp d mdX12_reads 39 [(0, .ref a0), (1, .long w1)] (r1.toList ++ [.ref a0]) M1 Q)) (pq2 : ¬ sx0 = 0 → (mI M (mR M a0 20) (nI 0).toNatClampNeg) = 0 → Q (some (.int (-2 : Int32))) M) (pq3 : sx0 = 0 → Q (some (.int (-1 : Int32))) M) : Wp d mdX12_reads 10 [(0, .ref a0), (1, .long w1)] [.int sx0] M Q := by
  refine r_if_ne (tgt := 15) dX12_reads_10 (by decide) (fun c0 => ?_) (fun c0 => ?_)
  · skip
    refine r_aload_n dX12_reads_15 rfl 0 rfl ?_
    refine r_getR ck10 dX12_reads_16 flX12_126 rfl k0 ?_
    refine r_iconst (v := (nI 0)) dX12_reads_19 rfl ?_
    refine r_zald dX12_reads_20 k1 (pb0 c0) ?_
    refine r_if_ne (tgt := 27) dX12_reads_21 (by decide) (fun c1 => ?_) (fun c1 => ?_)
    · skip
      refine r_aload_n dX12_reads_27 rfl 0 rfl ?_
      refine r_iconst (v := (nI 0)) dX12_reads_28 rfl ?_
      refine r_putI ck10 dX12_reads_29 flX12_11 rfl (Or.inl rfl) k0 ?_
      refine r_aload_n dX12_reads_32 rfl 0 rfl ?_
      refine r_aload_n dX12_reads_33 rfl 0 rfl ?_
      refine r_iconst (v := (nI 1)) dX12_reads_34 rfl ?_
      refine r_lload_n dX12_reads_35 rfl 1 rfl ?_
      obtain ⟨e9, hlt, h9⟩ := (pf1 c0 c1)
      exact r_callV (As := [.int (nI 1), .long w1]) (rest := [.ref a0]) (ci := 10) moX12_answer dX12_reads_36 mlX12_185 imX12_answer seX12_answer k0 rfl hlt (Nat.le_of_ble_eq_true rfl) h9
    · skip
      refine r_bipush (v := (-2)) dX12_reads_24 rfl ?_
      exact r_ret (some (.int (-2 : Int32))) dX12_reads_26 rfl (pq2 c0 c1)
  · skip
    refine r_iconst (v := (-1)) dX12_reads_13 rfl ?_
    exact r_ret (some (.int (-1 : Int32))) dX12_reads_14 rfl (pq3 c0)
theorem gX12_reads_39 {d : Nat} {Q : Option Value → Mem → Prop} {M : Mem} {a0 : Nat} {w1 : Int64} {sx0 : Int32} {sa1 : Nat} (k0 : mK M sa1 = 14) (pf0 : ClD d mdX12_enters [.ref sa1, .long sx0.toInt64] M (fun r1 M1 => Wp d mdX12_reads 43 [(0, .ref a0), (1, .long w1)] (r1.toList ++ []) M1 Q)) : Wp d mdX12_reads 39 [(0, .ref a0), (1, .long w1)] [.int sx0, .ref sa1] M Q := by
  refine r_i2l dX12_reads_39 ?_
  obtain ⟨e9, hlt, h9⟩ := pf0
  exact r_callV (As := [.long sx0.toInt64]) (rest := []) (ci := 10) moX12_enters dX12_reads_40 mlX12_343 imX12_enters seX12_enters k0 rfl hlt (Nat.le_of_ble_eq_true rfl) h9
theorem gX12_reads_43 {d : Nat} {Q : Option Value → Mem → Prop} {M : Mem} {a0 : Nat} {w1 : Int64} (k0 : mK M a0 = 14) (pf0 : ClD d mdX12_endInGuess [.ref a0, .int (nI 0), .long w1] M (fun r1 M1 => Wp d mdX12_reads 49 [] (r1.toList ++ []) M1 Q)) : Wp d mdX12_reads 43 [(0, .ref a0), (1, .long w1)] [] M Q := by
  refine r_aload_n dX12_reads_43 rfl 0 rfl ?_
  refine r_iconst (v := (nI 0)) dX12_reads_44 rfl ?_
  refine r_lload_n dX12_reads_45 rfl 1 rfl ?_
  refine r_sub [] (ls' := []) rfl ?_
  obtain ⟨e9, hlt, h9⟩ := pf0
  exact r_callV (As := [.int (nI 0), .long w1]) (rest := []) (ci := 10) moX12_endInGuess dX12_reads_46 mlX12_255 imX12_endInGuess seX12_endInGuess k0 rfl hlt (Nat.le_of_ble_eq_true rfl) h9
theorem gX12_reads_49 {d : Nat} {Q : Option Value → Mem → Prop} {M : Mem} {sx0 : Int32}  (pq0 : Q (some (.int sx0)) M) : Wp d mdX12_reads 49 [] [.int sx0] M Q := by
  exact r_ret (some (.int sx0)) dX12_reads_49 rfl pq0
-- X12_errs
theorem gX12_errs_0 {d : Nat} {Q : Option Value → Mem → Prop} {M : Mem} {a0 : Nat} (k0 : mK M a0 = 14) (k1 : mK M (mR (sI M a0 0 (nI 0)) a0 20) = 3) (pb0 : vp_in (nI 0) (mN (sI M a0 0 (nI 0)) (mR (sI M a0 0 (nI 0)) a0 20))) (pq1 : (mI (sI M a0 0 (nI 0)) (mR (sI M a0 0 (nI 0)) a0 20) (nI 0).toNatClampNeg) = 0 → Q (some (.long (-2 : Int64))) (sI M a0 0 (nI 0))) (pf2 : ¬ (mI (sI M a0 0 (nI 0)) (mR (sI M a0 0 (nI 0)) a0 20) (nI 0).toNatClampNeg) = 0 → ClD d mdX12_wrongFirst [.ref a0, .int (nI 0)] (sI M a0 0 (nI 0)) (fun r1 M1 => Wp d mdX12_errs 19 [] (r1.toList ++ []) M1 Q)) : Wp d mdX12_errs 0 [(0, .ref a0)] [] M Q := by
  refine r_aload_n dX12_errs_0 rfl 0 rfl ?_
  refine r_iconst (v := (nI 0)) dX12_errs_1 rfl ?_
  refine r_putI ck10 dX12_errs_2 flX12_1 rfl (Or.inl rfl) k0 ?_
  refine r_aload_n dX12_errs_5 rfl 0 rfl ?_
  refine r_getR ck10 dX12_errs_6 flX12_126 rfl k0 ?_
  refine r_iconst (v := (nI 0)) dX12_errs_9 rfl ?_
  refine r_zald dX12_errs_10 k1 pb0 ?_
  refine r_if_eq (tgt := 22) dX12_errs_11 (by decide) (fun c0 => ?_) (fun c0 => ?_)
  · skip
    refine r_ldc2 dX12_errs_22 kwX12_359 ?_
    exact r_ret (some (.long (-2 : Int64))) dX12_errs_25 rfl (pq1 c0)
  · skip
    refine r_aload_n dX12_errs_14 rfl 0 rfl ?_
    refine r_iconst (v := (nI 0)) dX12_errs_15 rfl ?_
    refine r_sub [] (ls' := []) rfl ?_
    obtain ⟨e9, hlt, h9⟩ := (pf2 c0)
    exact r_callV (As := [.int (nI 0)]) (rest := []) (ci := 10) moX12_wrongFirst dX12_errs_16 mlX12_283 imX12_wrongFirst seX12_wrongFirst k0 rfl hlt (Nat.le_of_ble_eq_true rfl) h9
theorem gX12_errs_19 {d : Nat} {Q : Option Value → Mem → Prop} {M : Mem} {sw0 : Int64}  (pq0 : Q (some (.long sw0)) M) : Wp d mdX12_errs 19 [] [.long sw0] M Q := by
  refine r_goto (tgt := 25) dX12_errs_19 (by decide) ?_
  exact r_ret (some (.long sw0)) dX12_errs_25 rfl pq0
-- X12_goesOn
theorem gX12_goesOn_0 {d : Nat} {Q : Option Value → Mem → Prop} {M : Mem} {a0 : Nat}  (pw0 : Wp d mdX12_goesOn 2 [(0, .ref a0), (1, .int (nI 0))] [] M Q) : Wp d mdX12_goesOn 0 [(0, .ref a0)] [] M Q := by
  refine r_iconst (v := (nI 0)) dX12_goesOn_0 rfl ?_
  refine r_istore_n dX12_goesOn_1 rfl (by decide) (ls' := [(1, .int (nI 0)), (0, .ref a0)]) rfl ?_
  refine r_sub [1, 0] (ls' := [(0, .ref a0), (1, .int (nI 0))]) rfl ?_
  exact pw0
theorem gX12_goesOn_2 {d : Nat} {Q : Option Value → Mem → Prop} {M : Mem} {a0 : Nat} {x1 : Int32} (k0 : mK M a0 = 14) (k1 : mK M (mR M a0 39) = 1) (pw0 : (nI 64) ≤ x1 → Wp d mdX12_goesOn 23 [(0, .ref a0), (1, .int (nI 0))] [] M Q) (pb1 : ¬ (nI 64) ≤ x1 → vp_in x1 (mN M (mR M a0 39))) (pw2 : ¬ (nI 64) ≤ x1 → Wp d mdX12_goesOn 2 [(0, .ref a0), (1, .int (x1 + (nI 1)))] [] (sI M (mR M a0 39) x1.toNatClampNeg (nI 0)) Q) : Wp d mdX12_goesOn 2 [(0, .ref a0), (1, .int x1)] [] M Q := by
  refine r_iload_n dX12_goesOn_2 rfl 1 rfl ?_
  refine r_bipush (v := (nI 64)) dX12_goesOn_3 rfl ?_
  refine r_icmp_ge (tgt := 21) dX12_goesOn_5 (by decide) (fun c0 => ?_) (fun c0 => ?_)
  · skip
    refine r_iconst (v := (nI 0)) dX12_goesOn_21 rfl ?_
    refine r_istore_n dX12_goesOn_22 rfl (by decide) (ls' := [(1, .int (nI 0)), (0, .ref a0)]) rfl ?_
    refine r_sub [1, 0] (ls' := [(0, .ref a0), (1, .int (nI 0))]) rfl ?_
    exact (pw0 c0)
  · skip
    refine r_aload_n dX12_goesOn_8 rfl 0 rfl ?_
    refine r_getR ck10 dX12_goesOn_9 flX12_157 rfl k0 ?_
    refine r_iload_n dX12_goesOn_12 rfl 1 rfl ?_
    refine r_iconst (v := (nI 0)) dX12_goesOn_13 rfl ?_
    refine r_iast dX12_goesOn_14 k1 (pb1 c0) ?_
    refine r_iinc dX12_goesOn_15 1 rfl (v := x1 + (nI 1)) rfl (by decide) (ls' := [(1, .int (x1 + (nI 1))), (0, .ref a0)]) rfl ?_
    refine r_goto (tgt := 2) dX12_goesOn_18 (by decide) ?_
    refine r_sub [1, 0] (ls' := [(0, .ref a0), (1, .int (x1 + (nI 1)))]) rfl ?_
    exact (pw2 c0)
theorem gX12_goesOn_23 {d : Nat} {Q : Option Value → Mem → Prop} {M : Mem} {a0 : Nat} {x1 : Int32}  (pw0 : (nI 64) ≤ x1 → Wp d mdX12_goesOn 100 [(0, .ref a0), (1, .int (nI 0))] [] M Q) (pw1 : ¬ (nI 64) ≤ x1 → Wp d mdX12_goesOn 31 [(0, .ref a0), (1, .int x1), (2, .int (nI 0))] [] M Q) : Wp d mdX12_goesOn 23 [(0, .ref a0), (1, .int x1)] [] M Q := by
  refine r_iload_n dX12_goesOn_23 rfl 1 rfl ?_
  refine r_bipush (v := (nI 64)) dX12_goesOn_24 rfl ?_
  refine r_icmp_ge (tgt := 98) dX12_goesOn_26 (by decide) (fun c0 => ?_) (fun c0 => ?_)
  · skip
    refine r_iconst (v := (nI 0)) dX12_goesOn_98 rfl ?_
    refine r_istore_n dX12_goesOn_99 rfl (by decide) (ls' := [(1, .int (nI 0)), (0, .ref a0)]) rfl ?_
    refine r_sub [1, 0] (ls' := [(0, .ref a0), (1, .int (nI 0))]) rfl ?_
    exact (pw0 c0)
  · skip
    refine r_iconst (v := (nI 0)) dX12_goesOn_29 rfl ?_
    refine r_istore_n dX12_goesOn_30 rfl (by decide) (ls' := [(2, .int (nI 0)), (0, .ref a0), (1, .int x1)]) rfl ?_
    refine r_sub [1, 2, 0] (ls' := [(0, .ref a0), (1, .int x1), (2, .int (nI 0))]) rfl ?_
    exact (pw1 c0)
theorem gX12_goesOn_31 {d : Nat} {Q : Option Value → Mem → Prop} {M : Mem} {a0 : Nat} {x1 : Int32} {x2 : Int32} (k0 : mK M a0 = 14) (k1 : mK M (mR M a0 38) = 1) (pw0 : (mI M a0 3) ≤ x2 → Wp d mdX12_goesOn 23 [(0, .ref a0), (1, .int (x1 + (nI 1)))] [] M Q) (pb1 : ¬ (mI M a0 3) ≤ x2 → vp_in x1 (mN M (mR M a0 38))) (pw2 : ¬ (mI M a0 3) ≤ x2 → (mI M (mR M a0 38) x1.toNatClampNeg) ≤ 0 → Wp d mdX12_goesOn 23 [(0, .ref a0), (1, .int (x1 + (nI 1)))] [] M Q) (pf3 : ¬ (mI M a0 3) ≤ x2 → ¬ (mI M (mR M a0 38) x1.toNatClampNeg) ≤ 0 → ClD d mdX12_comes [.ref a0, .int (nI 1), .int (x1 / (nI 8)), .int x2] M (fun r1 M1 => Wp d mdX12_goesOn 64 [(0, .ref a0), (1, .int x1), (2, .int x2)] (r1.toList ++ [.int (nI 8), .ref (mR M a0 39)]) M1 Q)) : Wp d mdX12_goesOn 31 [(0, .ref a0), (1, .int x1), (2, .int x2)] [] M Q := by
  refine r_iload_n dX12_goesOn_31 rfl 2 rfl ?_
  refine r_aload_n dX12_goesOn_32 rfl 0 rfl ?_
  refine r_getI ck10 dX12_goesOn_33 flX12_30 rfl k0 ?_
  refine r_icmp_ge (tgt := 92) dX12_goesOn_36 (by decide) (fun c0 => ?_) (fun c0 => ?_)
  · skip
    refine r_iinc dX12_goesOn_92 1 rfl (v := x1 + (nI 1)) rfl (by decide) (ls' := [(1, .int (x1 + (nI 1))), (0, .ref a0), (2, .int x2)]) rfl ?_
    refine r_goto (tgt := 23) dX12_goesOn_95 (by decide) ?_
    refine r_sub [1, 0] (ls' := [(0, .ref a0), (1, .int (x1 + (nI 1)))]) rfl ?_
    exact (pw0 c0)
  · skip
    refine r_aload_n dX12_goesOn_39 rfl 0 rfl ?_
    refine r_getR ck10 dX12_goesOn_40 flX12_154 rfl k0 ?_
    refine r_iload_n dX12_goesOn_43 rfl 1 rfl ?_
    refine r_iald dX12_goesOn_44 k1 (pb1 c0) ?_
    refine r_if_le (tgt := 92) dX12_goesOn_45 (by decide) (fun c1 => ?_) (fun c1 => ?_)
    · skip
      refine r_iinc dX12_goesOn_92 1 rfl (v := x1 + (nI 1)) rfl (by decide) (ls' := [(1, .int (x1 + (nI 1))), (0, .ref a0), (2, .int x2)]) rfl ?_
      refine r_goto (tgt := 23) dX12_goesOn_95 (by decide) ?_
      refine r_sub [1, 0] (ls' := [(0, .ref a0), (1, .int (x1 + (nI 1)))]) rfl ?_
      exact (pw2 c0 c1)
    · skip
      refine r_aload_n dX12_goesOn_48 rfl 0 rfl ?_
      refine r_getR ck10 dX12_goesOn_49 flX12_157 rfl k0 ?_
      refine r_bipush (v := (nI 8)) dX12_goesOn_52 rfl ?_
      refine r_aload_n dX12_goesOn_54 rfl 0 rfl ?_
      refine r_iconst (v := (nI 1)) dX12_goesOn_55 rfl ?_
      refine r_iload_n dX12_goesOn_56 rfl 1 rfl ?_
      refine r_bipush (v := (nI 8)) dX12_goesOn_57 rfl ?_
      refine r_idiv dX12_goesOn_59 (by decide) ?_
      refine r_iload_n dX12_goesOn_60 rfl 2 rfl ?_
      obtain ⟨e9, hlt, h9⟩ := (pf3 c0 c1)
      exact r_callV (As := [.int (nI 1), .int (x1 / (nI 8)), .int x2]) (rest := [.int (nI 8), .ref (mR M a0 39)]) (ci := 10) moX12_comes dX12_goesOn_61 mlX12_43 imX12_comes seX12_comes k0 rfl hlt (Nat.le_of_ble_eq_true rfl) h9
theorem gX12_goesOn_64 {d : Nat} {Q : Option Value → Mem → Prop} {M : Mem} {a0 : Nat} {x1 : Int32} {x2 : Int32} {sx0 : Int32} {sx1 : Int32} {sa2 : Nat} (k0 : mK M a0 = 14) (pf0 : ClD d mdX12_comes [.ref a0, .int (nI 0), .int (x1 - x1 / (nI 8) * (nI 8)), .int x2] M (fun r1 M1 => Wp d mdX12_goesOn 75 [(0, .ref a0), (1, .int x1), (2, .int x2)] (r1.toList ++ [.int (sx1 * sx0), .ref sa2]) M1 Q)) : Wp d mdX12_goesOn 64 [(0, .ref a0), (1, .int x1), (2, .int x2)] [.int sx0, .int sx1, .ref sa2] M Q := by
  refine r_imul dX12_goesOn_64 ?_
  refine r_aload_n dX12_goesOn_65 rfl 0 rfl ?_
  refine r_iconst (v := (nI 0)) dX12_goesOn_66 rfl ?_
  refine r_iload_n dX12_goesOn_67 rfl 1 rfl ?_
  refine r_bipush (v := (nI 8)) dX12_goesOn_68 rfl ?_
  refine r_irem dX12_goesOn_70 (by decide) ?_
  refine r_iload_n dX12_goesOn_71 rfl 2 rfl ?_
  obtain ⟨e9, hlt, h9⟩ := pf0
  exact r_callV (As := [.int (nI 0), .int (x1 - x1 / (nI 8) * (nI 8)), .int x2]) (rest := [.int (sx1 * sx0), .ref sa2]) (ci := 10) moX12_comes dX12_goesOn_72 mlX12_43 imX12_comes seX12_comes k0 rfl hlt (Nat.le_of_ble_eq_true rfl) h9
theorem gX12_goesOn_75 {d : Nat} {Q : Option Value → Mem → Prop} {M : Mem} {a0 : Nat} {x1 : Int32} {x2 : Int32} {sx0 : Int32} {sx1 : Int32} {sa2 : Nat} (k0 : mK M sa2 = 1) (k1 : mK M a0 = 14) (k2 : mK M (mR M a0 38) = 1) (pb0 : vp_in (sx1 + sx0) (mN M sa2)) (pb1 : vp_in x1 (mN M (mR M a0 38))) (pw2 : Wp d mdX12_goesOn 31 [(0, .ref a0), (1, .int x1), (2, .int (x2 + (nI 1)))] [] (sI M sa2 (sx1 + sx0).toNatClampNeg ((mI M sa2 (sx1 + sx0).toNatClampNeg) + (mI M (mR M a0 38) x1.toNatClampNeg))) Q) : Wp d mdX12_goesOn 75 [(0, .ref a0), (1, .int x1), (2, .int x2)] [.int sx0, .int sx1, .ref sa2] M Q := by
  refine r_iadd dX12_goesOn_75 ?_
  refine r_dup2 dX12_goesOn_76 rfl rfl ?_
  refine r_iald dX12_goesOn_77 k0 pb0 ?_
  refine r_aload_n dX12_goesOn_78 rfl 0 rfl ?_
  refine r_getR ck10 dX12_goesOn_79 flX12_154 rfl k1 ?_
  refine r_iload_n dX12_goesOn_82 rfl 1 rfl ?_
  refine r_iald dX12_goesOn_83 k2 pb1 ?_
  refine r_iadd dX12_goesOn_84 ?_
  refine r_iast dX12_goesOn_85 k0 pb0 ?_
  refine r_iinc dX12_goesOn_86 2 rfl (v := x2 + (nI 1)) rfl (by decide) (ls' := [(2, .int (x2 + (nI 1))), (0, .ref a0), (1, .int x1)]) rfl ?_
  refine r_goto (tgt := 31) dX12_goesOn_89 (by decide) ?_
  refine r_sub [1, 2, 0] (ls' := [(0, .ref a0), (1, .int x1), (2, .int (x2 + (nI 1)))]) rfl ?_
  exact pw2
theorem gX12_goesOn_100 {d : Nat} {Q : Option Value → Mem → Prop} {M : Mem} {a0 : Nat} {x1 : Int32} (k0 : mK M a0 = 14) (k1 : mK M (mR M a0 39) = 1) (k2 : mK M (mR M a0 38) = 1) (pq0 : (nI 64) ≤ x1 → Q none M) (pb1 : ¬ (nI 64) ≤ x1 → vp_in x1 (mN M (mR M a0 39))) (pb2 : ¬ (nI 64) ≤ x1 → vp_in x1 (mN M (mR M a0 38))) (pw3 : ¬ (nI 64) ≤ x1 → Wp d mdX12_goesOn 100 [(0, .ref a0), (1, .int (x1 + (nI 1)))] [] (sI M (mR M a0 38) x1.toNatClampNeg (mI M (mR M a0 39) x1.toNatClampNeg)) Q) : Wp d mdX12_goesOn 100 [(0, .ref a0), (1, .int x1)] [] M Q := by
  refine r_iload_n dX12_goesOn_100 rfl 1 rfl ?_
  refine r_bipush (v := (nI 64)) dX12_goesOn_101 rfl ?_
  refine r_icmp_ge (tgt := 124) dX12_goesOn_103 (by decide) (fun c0 => ?_) (fun c0 => ?_)
  · skip
    exact r_ret none dX12_goesOn_124 rfl (pq0 c0)
  · skip
    refine r_aload_n dX12_goesOn_106 rfl 0 rfl ?_
    refine r_getR ck10 dX12_goesOn_107 flX12_154 rfl k0 ?_
    refine r_iload_n dX12_goesOn_110 rfl 1 rfl ?_
    refine r_aload_n dX12_goesOn_111 rfl 0 rfl ?_
    refine r_getR ck10 dX12_goesOn_112 flX12_157 rfl k0 ?_
    refine r_iload_n dX12_goesOn_115 rfl 1 rfl ?_
    refine r_iald dX12_goesOn_116 k1 (pb1 c0) ?_
    refine r_iast dX12_goesOn_117 k2 (pb2 c0) ?_
    refine r_iinc dX12_goesOn_118 1 rfl (v := x1 + (nI 1)) rfl (by decide) (ls' := [(1, .int (x1 + (nI 1))), (0, .ref a0)]) rfl ?_
    refine r_goto (tgt := 100) dX12_goesOn_121 (by decide) ?_
    refine r_sub [1, 0] (ls' := [(0, .ref a0), (1, .int (x1 + (nI 1)))]) rfl ?_
    exact (pw3 c0)
-- X12_wrong
theorem gX12_wrong_0 {d : Nat} {Q : Option Value → Mem → Prop} {M : Mem} {a0 : Nat} {x1 : Int32} (k0 : mK M a0 = 14) (pf0 : ClD d mdX12_in [.long x1.toInt64, .long (lN 0), .long (lN 8)] (sI M a0 0 (nI 0)) (fun r1 M1 => Wp d mdX12_wrong 14 [(0, .ref a0), (1, .int x1)] (r1.toList ++ []) M1 Q)) : Wp d mdX12_wrong 0 [(0, .ref a0), (1, .int x1)] [] M Q := by
  refine r_aload_n dX12_wrong_0 rfl 0 rfl ?_
  refine r_iconst (v := (nI 0)) dX12_wrong_1 rfl ?_
  refine r_putI ck10 dX12_wrong_2 flX12_1 rfl (Or.inl rfl) k0 ?_
  refine r_iload_n dX12_wrong_5 rfl 1 rfl ?_
  refine r_i2l dX12_wrong_6 ?_
  refine r_lconst (v := (lN 0)) dX12_wrong_7 rfl ?_
  refine r_ldc2 dX12_wrong_8 kwX12_321 ?_
  obtain ⟨e9, hlt, h9⟩ := pf0
  exact r_callS (As := [.long x1.toInt64, .long (lN 0), .long (lN 8)]) (rest := []) moX12_in dX12_wrong_11 mlX12_24 saX12_in rfl hlt (Nat.le_of_ble_eq_true rfl) h9
theorem gX12_wrong_14 {d : Nat} {Q : Option Value → Mem → Prop} {M : Mem} {a0 : Nat} {x1 : Int32} {sx0 : Int32} (k0 : mK M a0 = 14) (k1 : mK M (mR M a0 20) = 3) (pb0 : ¬ sx0 = 0 → vp_in (nI 0) (mN M (mR M a0 20))) (pw1 : ¬ sx0 = 0 → ¬ (mI M (mR M a0 20) (nI 0).toNatClampNeg) = 0 → Wp d mdX12_wrong 33 [(0, .ref a0), (1, .int x1), (2, .int (nI 0))] [] M Q) (pq2 : ¬ sx0 = 0 → (mI M (mR M a0 20) (nI 0).toNatClampNeg) = 0 → Q (some (.int (-2 : Int32))) M) (pq3 : sx0 = 0 → Q (some (.int (-1 : Int32))) M) : Wp d mdX12_wrong 14 [(0, .ref a0), (1, .int x1)] [.int sx0] M Q := by
  refine r_if_ne (tgt := 19) dX12_wrong_14 (by decide) (fun c0 => ?_) (fun c0 => ?_)
  · skip
    refine r_aload_n dX12_wrong_19 rfl 0 rfl ?_
    refine r_getR ck10 dX12_wrong_20 flX12_126 rfl k0 ?_
    refine r_iconst (v := (nI 0)) dX12_wrong_23 rfl ?_
    refine r_zald dX12_wrong_24 k1 (pb0 c0) ?_
    refine r_if_ne (tgt := 31) dX12_wrong_25 (by decide) (fun c1 => ?_) (fun c1 => ?_)
    · skip
      refine r_iconst (v := (nI 0)) dX12_wrong_31 rfl ?_
      refine r_istore_n dX12_wrong_32 rfl (by decide) (ls' := [(2, .int (nI 0)), (0, .ref a0), (1, .int x1)]) rfl ?_
      refine r_sub [1, 2, 0] (ls' := [(0, .ref a0), (1, .int x1), (2, .int (nI 0))]) rfl ?_
      exact (pw1 c0 c1)
    · skip
      refine r_bipush (v := (-2)) dX12_wrong_28 rfl ?_
      exact r_ret (some (.int (-2 : Int32))) dX12_wrong_30 rfl (pq2 c0 c1)
  · skip
    refine r_iconst (v := (-1)) dX12_wrong_17 rfl ?_
    exact r_ret (some (.int (-1 : Int32))) dX12_wrong_18 rfl (pq3 c0)
theorem gX12_wrong_33 {d : Nat} {Q : Option Value → Mem → Prop} {M : Mem} {a0 : Nat} {x1 : Int32} {x2 : Int32} (k0 : mK M a0 = 14) (pw0 : (nI 64) ≤ x2 → Wp d mdX12_wrong 70 [(0, .ref a0), (1, .int x1), (2, .int (nI 0)), (3, .int (nI 0)), (4, .int (nI 0))] [] M Q) (pw1 : ¬ (nI 64) ≤ x2 → ¬ x2 = 0 → Wp d mdX12_wrong 53 [(0, .ref a0), (1, .int x1), (2, .int x2)] [.int (nI 0), .int x2, .ref (mR M a0 38)] M Q) (pw2 : ¬ (nI 64) ≤ x2 → x2 = 0 → Wp d mdX12_wrong 53 [(0, .ref a0), (1, .int x1), (2, .int x2)] [.int (nI 1), .int x2, .ref (mR M a0 38)] M Q) : Wp d mdX12_wrong 33 [(0, .ref a0), (1, .int x1), (2, .int x2)] [] M Q := by
  refine r_iload_n dX12_wrong_33 rfl 2 rfl ?_
  refine r_bipush (v := (nI 64)) dX12_wrong_34 rfl ?_
  refine r_icmp_ge (tgt := 63) dX12_wrong_36 (by decide) (fun c0 => ?_) (fun c0 => ?_)
  · skip
    refine r_iconst (v := (nI 0)) dX12_wrong_63 rfl ?_
    refine r_istore_n dX12_wrong_64 rfl (by decide) (ls' := [(2, .int (nI 0)), (0, .ref a0), (1, .int x1)]) rfl ?_
    refine r_iconst (v := (nI 0)) dX12_wrong_65 rfl ?_
    refine r_istore_n dX12_wrong_66 rfl (by decide) (ls' := [(3, .int (nI 0)), (2, .int (nI 0)), (0, .ref a0), (1, .int x1)]) rfl ?_
    refine r_iconst (v := (nI 0)) dX12_wrong_67 rfl ?_
    refine r_istore dX12_wrong_68 (by decide) (ls' := [(4, .int (nI 0)), (3, .int (nI 0)), (2, .int (nI 0)), (0, .ref a0), (1, .int x1)]) rfl ?_
    refine r_sub [3, 4, 2, 1, 0] (ls' := [(0, .ref a0), (1, .int x1), (2, .int (nI 0)), (3, .int (nI 0)), (4, .int (nI 0))]) rfl ?_
    exact (pw0 c0)
  · skip
    refine r_aload_n dX12_wrong_39 rfl 0 rfl ?_
    refine r_getR ck10 dX12_wrong_40 flX12_154 rfl k0 ?_
    refine r_iload_n dX12_wrong_43 rfl 2 rfl ?_
    refine r_iload_n dX12_wrong_44 rfl 2 rfl ?_
    refine r_if_ne (tgt := 52) dX12_wrong_45 (by decide) (fun c1 => ?_) (fun c1 => ?_)
    · skip
      refine r_iconst (v := (nI 0)) dX12_wrong_52 rfl ?_
      exact (pw1 c0 c1)
    · skip
      refine r_iconst (v := (nI 1)) dX12_wrong_48 rfl ?_
      refine r_goto (tgt := 53) dX12_wrong_49 (by decide) ?_
      exact (pw2 c0 c1)
theorem gX12_wrong_53 {d : Nat} {Q : Option Value → Mem → Prop} {M : Mem} {a0 : Nat} {x1 : Int32} {x2 : Int32} {sx0 : Int32} {sx1 : Int32} {sa2 : Nat}  (pf0 : ClD d mdX12_flag [.int sx0] M (fun r1 M1 => Wp d mdX12_wrong 56 [(0, .ref a0), (1, .int x1), (2, .int x2)] (r1.toList ++ [.int sx1, .ref sa2]) M1 Q)) : Wp d mdX12_wrong 53 [(0, .ref a0), (1, .int x1), (2, .int x2)] [.int sx0, .int sx1, .ref sa2] M Q := by
  obtain ⟨e9, hlt, h9⟩ := pf0
  exact r_callS (As := [.int sx0]) (rest := [.int sx1, .ref sa2]) moX12_flag dX12_wrong_53 mlX12_339 saX12_flag rfl hlt (Nat.le_of_ble_eq_true rfl) h9
theorem gX12_wrong_56 {d : Nat} {Q : Option Value → Mem → Prop} {M : Mem} {a0 : Nat} {x1 : Int32} {x2 : Int32} {sx0 : Int32} {sx1 : Int32} {sa2 : Nat} (k0 : mK M sa2 = 1) (pb0 : vp_in sx1 (mN M sa2)) (pw1 : Wp d mdX12_wrong 33 [(0, .ref a0), (1, .int x1), (2, .int (x2 + (nI 1)))] [] (sI M sa2 sx1.toNatClampNeg sx0) Q) : Wp d mdX12_wrong 56 [(0, .ref a0), (1, .int x1), (2, .int x2)] [.int sx0, .int sx1, .ref sa2] M Q := by
  refine r_iast dX12_wrong_56 k0 pb0 ?_
  refine r_iinc dX12_wrong_57 2 rfl (v := x2 + (nI 1)) rfl (by decide) (ls' := [(2, .int (x2 + (nI 1))), (0, .ref a0), (1, .int x1)]) rfl ?_
  refine r_goto (tgt := 33) dX12_wrong_60 (by decide) ?_
  refine r_sub [1, 2, 0] (ls' := [(0, .ref a0), (1, .int x1), (2, .int (x2 + (nI 1)))]) rfl ?_
  exact pw1
theorem gX12_wrong_70 {d : Nat} {Q : Option Value → Mem → Prop} {M : Mem} {a0 : Nat} {x1 : Int32} {x2 : Int32} {x3 : Int32} {x4 : Int32} (k0 : mK M a0 = 14) (pf0 : x1 < x4 → ClD d mdX12_enters [.ref a0, .long x3.toInt64] (sI M a0 1 (nI 0)) (fun r1 M1 => Wp d mdX12_wrong 166 [(2, .int x2)] (r1.toList ++ []) M1 Q)) (pw1 : ¬ x1 < x4 → Wp d mdX12_wrong 79 [(0, .ref a0), (1, .int x1), (2, .int x2), (3, .int x3), (4, .int x4), (5, .int (nI 0))] [] M Q) : Wp d mdX12_wrong 70 [(0, .ref a0), (1, .int x1), (2, .int x2), (3, .int x3), (4, .int x4)] [] M Q := by
  refine r_iload dX12_wrong_70 4 rfl ?_
  refine r_iload_n dX12_wrong_72 rfl 1 rfl ?_
  refine r_icmp_gt (tgt := 155) dX12_wrong_73 (by decide) (fun c0 => ?_) (fun c0 => ?_)
  · skip
    refine r_aload_n dX12_wrong_155 rfl 0 rfl ?_
    refine r_iconst (v := (nI 0)) dX12_wrong_156 rfl ?_
    refine r_putI ck10 dX12_wrong_157 flX12_11 rfl (Or.inl rfl) k0 ?_
    refine r_aload_n dX12_wrong_160 rfl 0 rfl ?_
    refine r_iload_n dX12_wrong_161 rfl 3 rfl ?_
    refine r_i2l dX12_wrong_162 ?_
    refine r_sub [2] (ls' := [(2, .int x2)]) rfl ?_
    obtain ⟨e9, hlt, h9⟩ := (pf0 c0)
    exact r_callV (As := [.long x3.toInt64]) (rest := []) (ci := 10) moX12_enters dX12_wrong_163 mlX12_343 imX12_enters seX12_enters k0 rfl hlt (Nat.le_of_ble_eq_true rfl) h9
  · skip
    refine r_iconst (v := (nI 0)) dX12_wrong_76 rfl ?_
    refine r_istore dX12_wrong_77 (by decide) (ls' := [(5, .int (nI 0)), (0, .ref a0), (1, .int x1), (2, .int x2), (3, .int x3), (4, .int x4)]) rfl ?_
    refine r_sub [1, 2, 3, 4, 5, 0] (ls' := [(0, .ref a0), (1, .int x1), (2, .int x2), (3, .int x3), (4, .int x4), (5, .int (nI 0))]) rfl ?_
    exact (pw1 c0)
theorem gX12_wrong_79 {d : Nat} {Q : Option Value → Mem → Prop} {M : Mem} {a0 : Nat} {x1 : Int32} {x2 : Int32} {x3 : Int32} {x4 : Int32} {x5 : Int32} (k0 : mK M a0 = 14) (k1 : mK M (mR M a0 38) = 1) (pf0 : (nI 64) ≤ x5 → ClD d mdX12_goesOn [.ref a0] M (fun r1 M1 => Wp d mdX12_wrong 149 [(0, .ref a0), (1, .int x1), (2, .int x2), (3, .int x3), (4, .int x4)] (r1.toList ++ []) M1 Q)) (pb1 : ¬ (nI 64) ≤ x5 → vp_in x5 (mN M (mR M a0 38))) (pw2 : ¬ (nI 64) ≤ x5 → (mI M (mR M a0 38) x5.toNatClampNeg) ≤ 0 → Wp d mdX12_wrong 79 [(0, .ref a0), (1, .int x1), (2, .int x2), (3, .int (x3 + (mI M (mR M a0 38) x5.toNatClampNeg))), (4, .int x4), (5, .int (x5 + (nI 1)))] [] M Q) (pf3 : ¬ (nI 64) ≤ x5 → ¬ (mI M (mR M a0 38) x5.toNatClampNeg) ≤ 0 → ClD d mdX12_shown [.ref a0, .int (nI 1), .int (x5 / (nI 8))] M (fun r1 M1 => Wp d mdX12_wrong 116 [(0, .ref a0), (1, .int x1), (2, .int x2), (3, .int (x3 + (mI M (mR M a0 38) x5.toNatClampNeg))), (4, .int x4), (5, .int x5)] (r1.toList ++ []) M1 Q)) : Wp d mdX12_wrong 79 [(0, .ref a0), (1, .int x1), (2, .int x2), (3, .int x3), (4, .int x4), (5, .int x5)] [] M Q := by
  refine r_iload dX12_wrong_79 5 rfl ?_
  refine r_bipush (v := (nI 64)) dX12_wrong_81 rfl ?_
  refine r_icmp_ge (tgt := 145) dX12_wrong_83 (by decide) (fun c0 => ?_) (fun c0 => ?_)
  · skip
    refine r_aload_n dX12_wrong_145 rfl 0 rfl ?_
    refine r_sub [0, 1, 2, 3, 4] (ls' := [(0, .ref a0), (1, .int x1), (2, .int x2), (3, .int x3), (4, .int x4)]) rfl ?_
    obtain ⟨e9, hlt, h9⟩ := (pf0 c0)
    exact r_callV (As := []) (rest := []) (ci := 10) moX12_goesOn dX12_wrong_146 mlX12_361 imX12_goesOn seX12_goesOn k0 rfl hlt (Nat.le_of_ble_eq_true rfl) h9
  · skip
    refine r_iload_n dX12_wrong_86 rfl 3 rfl ?_
    refine r_aload_n dX12_wrong_87 rfl 0 rfl ?_
    refine r_getR ck10 dX12_wrong_88 flX12_154 rfl k0 ?_
    refine r_iload dX12_wrong_91 5 rfl ?_
    refine r_iald dX12_wrong_93 k1 (pb1 c0) ?_
    refine r_iadd dX12_wrong_94 ?_
    refine r_istore_n dX12_wrong_95 rfl (by decide) (ls' := [(3, .int (x3 + (mI M (mR M a0 38) x5.toNatClampNeg))), (0, .ref a0), (1, .int x1), (2, .int x2), (4, .int x4), (5, .int x5)]) rfl ?_
    refine r_aload_n dX12_wrong_96 rfl 1 rfl ?_
    refine r_getR ck10 dX12_wrong_97 flX12_154 rfl k0 ?_
    refine r_iload dX12_wrong_100 5 rfl ?_
    refine r_iald dX12_wrong_102 k1 (pb1 c0) ?_
    refine r_if_le (tgt := 139) dX12_wrong_103 (by decide) (fun c1 => ?_) (fun c1 => ?_)
    · skip
      refine r_iinc dX12_wrong_139 5 rfl (v := x5 + (nI 1)) rfl (by decide) (ls' := [(5, .int (x5 + (nI 1))), (3, .int (x3 + (mI M (mR M a0 38) x5.toNatClampNeg))), (0, .ref a0), (1, .int x1), (2, .int x2), (4, .int x4)]) rfl ?_
      refine r_goto (tgt := 79) dX12_wrong_142 (by decide) ?_
      refine r_sub [2, 3, 4, 1, 5, 0] (ls' := [(0, .ref a0), (1, .int x1), (2, .int x2), (3, .int (x3 + (mI M (mR M a0 38) x5.toNatClampNeg))), (4, .int x4), (5, .int (x5 + (nI 1)))]) rfl ?_
      exact (pw2 c0 c1)
    · skip
      refine r_aload_n dX12_wrong_106 rfl 1 rfl ?_
      refine r_iconst (v := (nI 1)) dX12_wrong_107 rfl ?_
      refine r_iload dX12_wrong_108 5 rfl ?_
      refine r_bipush (v := (nI 8)) dX12_wrong_110 rfl ?_
      refine r_idiv dX12_wrong_112 (by decide) ?_
      refine r_sub [1, 2, 3, 0, 4, 5] (ls' := [(0, .ref a0), (1, .int x1), (2, .int x2), (3, .int (x3 + (mI M (mR M a0 38) x5.toNatClampNeg))), (4, .int x4), (5, .int x5)]) rfl ?_
      obtain ⟨e9, hlt, h9⟩ := (pf3 c0 c1)
      exact r_callV (As := [.int (nI 1), .int (x5 / (nI 8))]) (rest := []) (ci := 10) moX12_shown dX12_wrong_113 mlX12_51 imX12_shown seX12_shown k0 rfl hlt (Nat.le_of_ble_eq_true rfl) h9
theorem gX12_wrong_116 {d : Nat} {Q : Option Value → Mem → Prop} {M : Mem} {a0 : Nat} {x1 : Int32} {x2 : Int32} {x3 : Int32} {x4 : Int32} {x5 : Int32} {sx0 : Int32} (k0 : mK M a0 = 14) (pf0 : ClD d mdX12_shown [.ref a0, .int (nI 0), .int (x5 - x5 / (nI 8) * (nI 8))] M (fun r1 M1 => Wp d mdX12_wrong 126 [(0, .ref a0), (1, .int x1), (2, .int x2), (3, .int x3), (4, .int x4), (5, .int x5)] (r1.toList ++ [.int sx0]) M1 Q)) : Wp d mdX12_wrong 116 [(0, .ref a0), (1, .int x1), (2, .int x2), (3, .int x3), (4, .int x4), (5, .int x5)] [.int sx0] M Q := by
  refine r_aload_n dX12_wrong_116 rfl 0 rfl ?_
  refine r_iconst (v := (nI 0)) dX12_wrong_117 rfl ?_
  refine r_iload dX12_wrong_118 5 rfl ?_
  refine r_bipush (v := (nI 8)) dX12_wrong_120 rfl ?_
  refine r_irem dX12_wrong_122 (by decide) ?_
  obtain ⟨e9, hlt, h9⟩ := pf0
  exact r_callV (As := [.int (nI 0), .int (x5 - x5 / (nI 8) * (nI 8))]) (rest := [.int sx0]) (ci := 10) moX12_shown dX12_wrong_123 mlX12_51 imX12_shown seX12_shown k0 rfl hlt (Nat.le_of_ble_eq_true rfl) h9
theorem gX12_wrong_126 {d : Nat} {Q : Option Value → Mem → Prop} {M : Mem} {a0 : Nat} {x1 : Int32} {x2 : Int32} {x3 : Int32} {x4 : Int32} {x5 : Int32} {sx0 : Int32} {sx1 : Int32} (k0 : mK M a0 = 14) (k1 : mK M (mR M a0 38) = 1) (pw0 : sx1 = sx0 → Wp d mdX12_wrong 79 [(0, .ref a0), (1, .int x1), (2, .int x2), (3, .int x3), (4, .int x4), (5, .int (x5 + (nI 1)))] [] M Q) (pb1 : ¬ sx1 = sx0 → vp_in x5 (mN M (mR M a0 38))) (pw2 : ¬ sx1 = sx0 → Wp d mdX12_wrong 79 [(0, .ref a0), (1, .int x1), (2, .int (x2 + (mI M (mR M a0 38) x5.toNatClampNeg))), (3, .int x3), (4, .int x4), (5, .int (x5 + (nI 1)))] [] M Q) : Wp d mdX12_wrong 126 [(0, .ref a0), (1, .int x1), (2, .int x2), (3, .int x3), (4, .int x4), (5, .int x5)] [.int sx0, .int sx1] M Q := by
  refine r_icmp_eq (tgt := 139) dX12_wrong_126 (by decide) (fun c0 => ?_) (fun c0 => ?_)
  · skip
    refine r_iinc dX12_wrong_139 5 rfl (v := x5 + (nI 1)) rfl (by decide) (ls' := [(5, .int (x5 + (nI 1))), (0, .ref a0), (1, .int x1), (2, .int x2), (3, .int x3), (4, .int x4)]) rfl ?_
    refine r_goto (tgt := 79) dX12_wrong_142 (by decide) ?_
    refine r_sub [1, 2, 3, 4, 5, 0] (ls' := [(0, .ref a0), (1, .int x1), (2, .int x2), (3, .int x3), (4, .int x4), (5, .int (x5 + (nI 1)))]) rfl ?_
    exact (pw0 c0)
  · skip
    refine r_iload_n dX12_wrong_129 rfl 2 rfl ?_
    refine r_aload_n dX12_wrong_130 rfl 0 rfl ?_
    refine r_getR ck10 dX12_wrong_131 flX12_154 rfl k0 ?_
    refine r_iload dX12_wrong_134 5 rfl ?_
    refine r_iald dX12_wrong_136 k1 (pb1 c0) ?_
    refine r_iadd dX12_wrong_137 ?_
    refine r_istore_n dX12_wrong_138 rfl (by decide) (ls' := [(2, .int (x2 + (mI M (mR M a0 38) x5.toNatClampNeg))), (0, .ref a0), (1, .int x1), (3, .int x3), (4, .int x4), (5, .int x5)]) rfl ?_
    refine r_iinc dX12_wrong_139 5 rfl (v := x5 + (nI 1)) rfl (by decide) (ls' := [(5, .int (x5 + (nI 1))), (2, .int (x2 + (mI M (mR M a0 38) x5.toNatClampNeg))), (0, .ref a0), (1, .int x1), (3, .int x3), (4, .int x4)]) rfl ?_
    refine r_goto (tgt := 79) dX12_wrong_142 (by decide) ?_
    refine r_sub [2, 3, 1, 4, 5, 0] (ls' := [(0, .ref a0), (1, .int x1), (2, .int (x2 + (mI M (mR M a0 38) x5.toNatClampNeg))), (3, .int x3), (4, .int x4), (5, .int (x5 + (nI 1)))]) rfl ?_
    exact (pw2 c0)
theorem gX12_wrong_149 {d : Nat} {Q : Option Value → Mem → Prop} {M : Mem} {a0 : Nat} {x1 : Int32} {x2 : Int32} {x3 : Int32} {x4 : Int32}  (pw0 : Wp d mdX12_wrong 70 [(0, .ref a0), (1, .int x1), (2, .int x2), (3, .int x3), (4, .int (x4 + (nI 1)))] [] M Q) : Wp d mdX12_wrong 149 [(0, .ref a0), (1, .int x1), (2, .int x2), (3, .int x3), (4, .int x4)] [] M Q := by
  refine r_iinc dX12_wrong_149 4 rfl (v := x4 + (nI 1)) rfl (by decide) (ls' := [(4, .int (x4 + (nI 1))), (0, .ref a0), (1, .int x1), (2, .int x2), (3, .int x3)]) rfl ?_
  refine r_goto (tgt := 70) dX12_wrong_152 (by decide) ?_
  refine r_sub [1, 2, 3, 4, 0] (ls' := [(0, .ref a0), (1, .int x1), (2, .int x2), (3, .int x3), (4, .int (x4 + (nI 1)))]) rfl ?_
  exact pw0
theorem gX12_wrong_166 {d : Nat} {Q : Option Value → Mem → Prop} {M : Mem} {x2 : Int32}  (pq0 : Q (some (.int x2)) M) : Wp d mdX12_wrong 166 [(2, .int x2)] [] M Q := by
  refine r_iload_n dX12_wrong_166 rfl 0 rfl ?_
  exact r_ret (some (.int x2)) dX12_wrong_167 rfl pq0
-- X12_laysReaching
theorem gX12_laysReaching_0 {d : Nat} {Q : Option Value → Mem → Prop} {M : Mem} {a0 : Nat} {x1 : Int32}  (pw0 : Wp d mdX12_laysReaching 2 [(0, .ref a0), (1, .int x1), (2, .int (nI 0))] [] M Q) : Wp d mdX12_laysReaching 0 [(0, .ref a0), (1, .int x1)] [] M Q := by
  refine r_iconst (v := (nI 0)) dX12_laysReaching_0 rfl ?_
  refine r_istore_n dX12_laysReaching_1 rfl (by decide) (ls' := [(2, .int (nI 0)), (0, .ref a0), (1, .int x1)]) rfl ?_
  refine r_sub [1, 2, 0] (ls' := [(0, .ref a0), (1, .int x1), (2, .int (nI 0))]) rfl ?_
  exact pw0
theorem gX12_laysReaching_2 {d : Nat} {Q : Option Value → Mem → Prop} {M : Mem} {a0 : Nat} {x1 : Int32} {x2 : Int32} (k0 : mK M a0 = 14) (k1 : mK M (mR M a0 40) = 2) (k2 : mK M (mR (sJ M (mR M a0 40) (nI 0).toNatClampNeg (lN 1)) a0 27) = 1) (pb0 : (nI 8) ≤ x2 → vp_in (nI 0) (mN M (mR M a0 40))) (pb1 : (nI 8) ≤ x2 → vp_in (nI 0) (mN (sJ M (mR M a0 40) (nI 0).toNatClampNeg (lN 1)) (mR (sJ M (mR M a0 40) (nI 0).toNatClampNeg (lN 1)) a0 27))) (pw2 : (nI 8) ≤ x2 → Wp d mdX12_laysReaching 39 [(0, .ref a0), (1, .int x1), (2, .int (nI 1)), (3, .int (nI 0))] [] (sI (sJ M (mR M a0 40) (nI 0).toNatClampNeg (lN 1)) (mR (sJ M (mR M a0 40) (nI 0).toNatClampNeg (lN 1)) a0 27) (nI 0).toNatClampNeg (nI 0)) Q) (pb3 : ¬ (nI 8) ≤ x2 → vp_in x2 (mN M (mR M a0 40))) (pw4 : ¬ (nI 8) ≤ x2 → Wp d mdX12_laysReaching 2 [(0, .ref a0), (1, .int x1), (2, .int (x2 + (nI 1)))] [] (sJ M (mR M a0 40) x2.toNatClampNeg (lN 0)) Q) : Wp d mdX12_laysReaching 2 [(0, .ref a0), (1, .int x1), (2, .int x2)] [] M Q := by
  refine r_iload_n dX12_laysReaching_2 rfl 2 rfl ?_
  refine r_bipush (v := (nI 8)) dX12_laysReaching_3 rfl ?_
  refine r_icmp_ge (tgt := 21) dX12_laysReaching_5 (by decide) (fun c0 => ?_) (fun c0 => ?_)
  · skip
    refine r_aload_n dX12_laysReaching_21 rfl 0 rfl ?_
    refine r_getR ck10 dX12_laysReaching_22 flX12_160 rfl k0 ?_
    refine r_iconst (v := (nI 0)) dX12_laysReaching_25 rfl ?_
    refine r_lconst (v := (lN 1)) dX12_laysReaching_26 rfl ?_
    refine r_last dX12_laysReaching_27 k1 (pb0 c0) ?_
    refine r_aload_n dX12_laysReaching_28 rfl 0 rfl ?_
    refine r_getR ck10 dX12_laysReaching_29 flX12_139 rfl k0 ?_
    refine r_iconst (v := (nI 0)) dX12_laysReaching_32 rfl ?_
    refine r_iconst (v := (nI 0)) dX12_laysReaching_33 rfl ?_
    refine r_iast dX12_laysReaching_34 k2 (pb1 c0) ?_
    refine r_iconst (v := (nI 1)) dX12_laysReaching_35 rfl ?_
    refine r_istore_n dX12_laysReaching_36 rfl (by decide) (ls' := [(2, .int (nI 1)), (0, .ref a0), (1, .int x1)]) rfl ?_
    refine r_iconst (v := (nI 0)) dX12_laysReaching_37 rfl ?_
    refine r_istore_n dX12_laysReaching_38 rfl (by decide) (ls' := [(3, .int (nI 0)), (2, .int (nI 1)), (0, .ref a0), (1, .int x1)]) rfl ?_
    refine r_sub [2, 3, 1, 0] (ls' := [(0, .ref a0), (1, .int x1), (2, .int (nI 1)), (3, .int (nI 0))]) rfl ?_
    exact (pw2 c0)
  · skip
    refine r_aload_n dX12_laysReaching_8 rfl 0 rfl ?_
    refine r_getR ck10 dX12_laysReaching_9 flX12_160 rfl k0 ?_
    refine r_iload_n dX12_laysReaching_12 rfl 2 rfl ?_
    refine r_lconst (v := (lN 0)) dX12_laysReaching_13 rfl ?_
    refine r_last dX12_laysReaching_14 k1 (pb3 c0) ?_
    refine r_iinc dX12_laysReaching_15 2 rfl (v := x2 + (nI 1)) rfl (by decide) (ls' := [(2, .int (x2 + (nI 1))), (0, .ref a0), (1, .int x1)]) rfl ?_
    refine r_goto (tgt := 2) dX12_laysReaching_18 (by decide) ?_
    refine r_sub [1, 2, 0] (ls' := [(0, .ref a0), (1, .int x1), (2, .int (x2 + (nI 1)))]) rfl ?_
    exact (pw4 c0)
theorem gX12_laysReaching_39 {d : Nat} {Q : Option Value → Mem → Prop} {M : Mem} {a0 : Nat} {x1 : Int32} {x2 : Int32} {x3 : Int32} (k0 : mK M a0 = 14) (k1 : mK M (mR M a0 27) = 1) (pq0 : x2 ≤ x3 → Q none M) (pb1 : ¬ x2 ≤ x3 → vp_in x3 (mN M (mR M a0 27))) (pw2 : ¬ x2 ≤ x3 → Wp d mdX12_laysReaching 55 [(0, .ref a0), (1, .int x1), (2, .int x2), (3, .int x3), (4, .int (mI M (mR M a0 27) x3.toNatClampNeg)), (5, .int (nI 0))] [] M Q) : Wp d mdX12_laysReaching 39 [(0, .ref a0), (1, .int x1), (2, .int x2), (3, .int x3)] [] M Q := by
  refine r_iload_n dX12_laysReaching_39 rfl 3 rfl ?_
  refine r_iload_n dX12_laysReaching_40 rfl 2 rfl ?_
  refine r_icmp_ge (tgt := 132) dX12_laysReaching_41 (by decide) (fun c0 => ?_) (fun c0 => ?_)
  · skip
    exact r_ret none dX12_laysReaching_132 rfl (pq0 c0)
  · skip
    refine r_aload_n dX12_laysReaching_44 rfl 0 rfl ?_
    refine r_getR ck10 dX12_laysReaching_45 flX12_139 rfl k0 ?_
    refine r_iload_n dX12_laysReaching_48 rfl 3 rfl ?_
    refine r_iald dX12_laysReaching_49 k1 (pb1 c0) ?_
    refine r_istore dX12_laysReaching_50 (by decide) (ls' := [(4, .int (mI M (mR M a0 27) x3.toNatClampNeg)), (0, .ref a0), (1, .int x1), (2, .int x2), (3, .int x3)]) rfl ?_
    refine r_iconst (v := (nI 0)) dX12_laysReaching_52 rfl ?_
    refine r_istore dX12_laysReaching_53 (by decide) (ls' := [(5, .int (nI 0)), (4, .int (mI M (mR M a0 27) x3.toNatClampNeg)), (0, .ref a0), (1, .int x1), (2, .int x2), (3, .int x3)]) rfl ?_
    refine r_sub [2, 3, 4, 5, 1, 0] (ls' := [(0, .ref a0), (1, .int x1), (2, .int x2), (3, .int x3), (4, .int (mI M (mR M a0 27) x3.toNatClampNeg)), (5, .int (nI 0))]) rfl ?_
    exact (pw2 c0)
theorem gX12_laysReaching_55 {d : Nat} {Q : Option Value → Mem → Prop} {M : Mem} {a0 : Nat} {x1 : Int32} {x2 : Int32} {x3 : Int32} {x4 : Int32} {x5 : Int32} (k0 : mK M a0 = 14) (pw0 : (mI M a0 3) ≤ x5 → Wp d mdX12_laysReaching 39 [(0, .ref a0), (1, .int x1), (2, .int x2), (3, .int (x3 + (nI 1)))] [] M Q) (pf1 : ¬ (mI M a0 3) ≤ x5 → ClD d mdX12_comes [.ref a0, .int x1, .int x4, .int x5] M (fun r1 M1 => Wp d mdX12_laysReaching 73 [(0, .ref a0), (1, .int x1), (2, .int x2), (3, .int x3), (4, .int x4), (5, .int x5)] (r1.toList ++ []) M1 Q)) : Wp d mdX12_laysReaching 55 [(0, .ref a0), (1, .int x1), (2, .int x2), (3, .int x3), (4, .int x4), (5, .int x5)] [] M Q := by
  refine r_iload dX12_laysReaching_55 5 rfl ?_
  refine r_aload_n dX12_laysReaching_57 rfl 0 rfl ?_
  refine r_getI ck10 dX12_laysReaching_58 flX12_30 rfl k0 ?_
  refine r_icmp_ge (tgt := 126) dX12_laysReaching_61 (by decide) (fun c0 => ?_) (fun c0 => ?_)
  · skip
    refine r_iinc dX12_laysReaching_126 3 rfl (v := x3 + (nI 1)) rfl (by decide) (ls' := [(3, .int (x3 + (nI 1))), (0, .ref a0), (1, .int x1), (2, .int x2), (4, .int x4), (5, .int x5)]) rfl ?_
    refine r_goto (tgt := 39) dX12_laysReaching_129 (by decide) ?_
    refine r_sub [1, 2, 3, 0] (ls' := [(0, .ref a0), (1, .int x1), (2, .int x2), (3, .int (x3 + (nI 1)))]) rfl ?_
    exact (pw0 c0)
  · skip
    refine r_aload_n dX12_laysReaching_64 rfl 0 rfl ?_
    refine r_iload_n dX12_laysReaching_65 rfl 1 rfl ?_
    refine r_iload dX12_laysReaching_66 4 rfl ?_
    refine r_iload dX12_laysReaching_68 5 rfl ?_
    obtain ⟨e9, hlt, h9⟩ := (pf1 c0)
    exact r_callV (As := [.int x1, .int x4, .int x5]) (rest := []) (ci := 10) moX12_comes dX12_laysReaching_70 mlX12_43 imX12_comes seX12_comes k0 rfl hlt (Nat.le_of_ble_eq_true rfl) h9
theorem gX12_laysReaching_73 {d : Nat} {Q : Option Value → Mem → Prop} {M : Mem} {a0 : Nat} {x1 : Int32} {x2 : Int32} {x3 : Int32} {x4 : Int32} {x5 : Int32} {sx0 : Int32} (k0 : mK M a0 = 14) (k1 : mK M (mR M a0 40) = 2) (pb0 : vp_in sx0 (mN M (mR M a0 40))) (pb1 : (mJ M (mR M a0 40) sx0.toNatClampNeg) = (lN 0) → vp_in x4 (mN M (mR M a0 40))) (pf2 : (mJ M (mR M a0 40) sx0.toNatClampNeg) = (lN 0) → ClD d mdX12_longer [.long (mJ M (mR M a0 40) x4.toNatClampNeg), .int x5] M (fun r1 M1 => Wp d mdX12_laysReaching 108 [(0, .ref a0), (1, .int x1), (2, .int x2), (3, .int x3), (4, .int x4), (5, .int x5), (6, .int sx0)] (r1.toList ++ [.int sx0, .ref (mR M a0 40)]) M1 Q)) (pw3 : ¬ (mJ M (mR M a0 40) sx0.toNatClampNeg) = (lN 0) → Wp d mdX12_laysReaching 55 [(0, .ref a0), (1, .int x1), (2, .int x2), (3, .int x3), (4, .int x4), (5, .int (x5 + (nI 1)))] [] M Q) : Wp d mdX12_laysReaching 73 [(0, .ref a0), (1, .int x1), (2, .int x2), (3, .int x3), (4, .int x4), (5, .int x5)] [.int sx0] M Q := by
  refine r_istore dX12_laysReaching_73 (by decide) (ls' := [(6, .int sx0), (0, .ref a0), (1, .int x1), (2, .int x2), (3, .int x3), (4, .int x4), (5, .int x5)]) rfl ?_
  refine r_aload_n dX12_laysReaching_75 rfl 1 rfl ?_
  refine r_getR ck10 dX12_laysReaching_76 flX12_160 rfl k0 ?_
  refine r_iload dX12_laysReaching_79 0 rfl ?_
  refine r_lald dX12_laysReaching_81 k1 pb0 ?_
  refine r_lconst (v := (lN 0)) dX12_laysReaching_82 rfl ?_
  refine r_lif_eq (tgt := 90) dX12_laysReaching_83 dX12_laysReaching_84 (by decide) (fun c0 => ?_) (fun c0 => ?_)
  · skip
    refine r_aload_n dX12_laysReaching_90 rfl 1 rfl ?_
    refine r_getR ck10 dX12_laysReaching_91 flX12_160 rfl k0 ?_
    refine r_iload dX12_laysReaching_94 0 rfl ?_
    refine r_aload_n dX12_laysReaching_96 rfl 1 rfl ?_
    refine r_getR ck10 dX12_laysReaching_97 flX12_160 rfl k0 ?_
    refine r_iload dX12_laysReaching_100 5 rfl ?_
    refine r_lald dX12_laysReaching_102 k1 (pb1 c0) ?_
    refine r_iload dX12_laysReaching_103 6 rfl ?_
    refine r_sub [1, 2, 3, 4, 5, 6, 0] (ls' := [(0, .ref a0), (1, .int x1), (2, .int x2), (3, .int x3), (4, .int x4), (5, .int x5), (6, .int sx0)]) rfl ?_
    obtain ⟨e9, hlt, h9⟩ := (pf2 c0)
    exact r_callS (As := [.long (mJ M (mR M a0 40) x4.toNatClampNeg), .int x5]) (rest := [.int sx0, .ref (mR M a0 40)]) moX12_longer dX12_laysReaching_105 mlX12_80 saX12_longer rfl hlt (Nat.le_of_ble_eq_true rfl) h9
  · skip
    refine r_goto (tgt := 120) dX12_laysReaching_87 (by decide) ?_
    refine r_iinc dX12_laysReaching_120 6 rfl (v := x5 + (nI 1)) rfl (by decide) (ls' := [(5, .int (x5 + (nI 1))), (6, .int sx0), (0, .ref a0), (1, .int x1), (2, .int x2), (3, .int x3), (4, .int x4)]) rfl ?_
    refine r_goto (tgt := 55) dX12_laysReaching_123 (by decide) ?_
    refine r_sub [2, 3, 4, 5, 6, 0] (ls' := [(0, .ref a0), (1, .int x1), (2, .int x2), (3, .int x3), (4, .int x4), (5, .int (x5 + (nI 1)))]) rfl ?_
    exact (pw3 c0)
theorem gX12_laysReaching_108 {d : Nat} {Q : Option Value → Mem → Prop} {M : Mem} {a0 : Nat} {x1 : Int32} {x2 : Int32} {x3 : Int32} {x4 : Int32} {x5 : Int32} {x6 : Int32} {sw0 : Int64} {sx1 : Int32} {sa2 : Nat} (k0 : mK M sa2 = 2) (k1 : mK M a0 = 14) (k2 : mK M (mR (sJ M sa2 sx1.toNatClampNeg sw0) a0 27) = 1) (pb0 : vp_in sx1 (mN M sa2)) (pb1 : vp_in x2 (mN (sJ M sa2 sx1.toNatClampNeg sw0) (mR (sJ M sa2 sx1.toNatClampNeg sw0) a0 27))) (pw2 : Wp d mdX12_laysReaching 55 [(0, .ref a0), (1, .int x1), (2, .int (x2 + (nI 1))), (3, .int x3), (4, .int x4), (5, .int (x5 + (nI 1)))] [] (sI (sJ M sa2 sx1.toNatClampNeg sw0) (mR (sJ M sa2 sx1.toNatClampNeg sw0) a0 27) x2.toNatClampNeg x6) Q) : Wp d mdX12_laysReaching 108 [(0, .ref a0), (1, .int x1), (2, .int x2), (3, .int x3), (4, .int x4), (5, .int x5), (6, .int x6)] [.long sw0, .int sx1, .ref sa2] M Q := by
  refine r_last dX12_laysReaching_108 k0 pb0 ?_
  refine r_aload_n dX12_laysReaching_109 rfl 0 rfl ?_
  refine r_getR ck10 dX12_laysReaching_110 flX12_139 rfl k1 ?_
  refine r_iload_n dX12_laysReaching_113 rfl 2 rfl ?_
  refine r_iload dX12_laysReaching_114 6 rfl ?_
  refine r_iast dX12_laysReaching_116 k2 pb1 ?_
  refine r_iinc dX12_laysReaching_117 2 rfl (v := x2 + (nI 1)) rfl (by decide) (ls' := [(2, .int (x2 + (nI 1))), (0, .ref a0), (1, .int x1), (3, .int x3), (4, .int x4), (5, .int x5), (6, .int x6)]) rfl ?_
  refine r_iinc dX12_laysReaching_120 5 rfl (v := x5 + (nI 1)) rfl (by decide) (ls' := [(5, .int (x5 + (nI 1))), (2, .int (x2 + (nI 1))), (0, .ref a0), (1, .int x1), (3, .int x3), (4, .int x4), (6, .int x6)]) rfl ?_
  refine r_goto (tgt := 55) dX12_laysReaching_123 (by decide) ?_
  refine r_sub [2, 3, 1, 4, 5, 0] (ls' := [(0, .ref a0), (1, .int x1), (2, .int (x2 + (nI 1))), (3, .int x3), (4, .int x4), (5, .int (x5 + (nI 1)))]) rfl ?_
  exact pw2
-- X12_tests
theorem gX12_tests_0 {d : Nat} {Q : Option Value → Mem → Prop} {M : Mem} {a0 : Nat} {w1 : Int64}  (pw0 : Wp d mdX12_tests 10 [(0, .ref a0), (1, .long w1), (3, .int ((((w1 * (-7046029254386353131 : Int64)).toUInt64 >>> ((nI 49).toInt64.toUInt64 &&& Int64.toUInt64 63)).toInt64).toInt32))] [] M Q) : Wp d mdX12_tests 0 [(0, .ref a0), (1, .long w1)] [] M Q := by
  refine r_lload_n dX12_tests_0 rfl 1 rfl ?_
  refine r_ldc2 dX12_tests_1 kwX12_179 ?_
  refine r_lmul dX12_tests_4 ?_
  refine r_bipush (v := (nI 49)) dX12_tests_5 rfl ?_
  refine r_lushr dX12_tests_7 ?_
  refine r_l2i dX12_tests_8 ?_
  refine r_istore_n dX12_tests_9 rfl (by decide) (ls' := [(3, .int ((((w1 * (-7046029254386353131 : Int64)).toUInt64 >>> ((nI 49).toInt64.toUInt64 &&& Int64.toUInt64 63)).toInt64).toInt32)), (0, .ref a0), (1, .long w1)]) rfl ?_
  refine r_sub [1, 2, 0] (ls' := [(0, .ref a0), (1, .long w1), (3, .int ((((w1 * (-7046029254386353131 : Int64)).toUInt64 >>> ((nI 49).toInt64.toUInt64 &&& Int64.toUInt64 63)).toInt64).toInt32))]) rfl ?_
  exact pw0
theorem gX12_tests_10 {d : Nat} {Q : Option Value → Mem → Prop} {M : Mem} {a0 : Nat} {w1 : Int64} {x3 : Int32} (k0 : mK M a0 = 14) (k1 : mK M (mR M a0 41) = 2) (pb0 : vp_in x3 (mN M (mR M a0 41))) (pw1 : (mJ M (mR M a0 41) x3.toNatClampNeg) = (lN 0) → Wp d mdX12_tests 42 [(0, .ref a0), (1, .long w1), (3, .int x3)] [] M Q) (pb2 : ¬ (mJ M (mR M a0 41) x3.toNatClampNeg) = (lN 0) → vp_in x3 (mN M (mR M a0 41))) (pw3 : ¬ (mJ M (mR M a0 41) x3.toNatClampNeg) = (lN 0) → (mJ M (mR M a0 41) x3.toNatClampNeg) = w1 → Wp d mdX12_tests 42 [(0, .ref a0), (1, .long w1), (3, .int x3)] [] M Q) (pw4 : ¬ (mJ M (mR M a0 41) x3.toNatClampNeg) = (lN 0) → ¬ (mJ M (mR M a0 41) x3.toNatClampNeg) = w1 → Wp d mdX12_tests 10 [(0, .ref a0), (1, .long w1), (3, .int ((x3 + (nI 1)) - (x3 + (nI 1)) / (nI 32768) * (nI 32768)))] [] M Q) : Wp d mdX12_tests 10 [(0, .ref a0), (1, .long w1), (3, .int x3)] [] M Q := by
  refine r_aload_n dX12_tests_10 rfl 0 rfl ?_
  refine r_getR ck10 dX12_tests_11 flX12_163 rfl k0 ?_
  refine r_iload_n dX12_tests_14 rfl 2 rfl ?_
  refine r_lald dX12_tests_15 k1 pb0 ?_
  refine r_lconst (v := (lN 0)) dX12_tests_16 rfl ?_
  refine r_lif_eq (tgt := 42) dX12_tests_17 dX12_tests_18 (by decide) (fun c0 => ?_) (fun c0 => ?_)
  · skip
    exact (pw1 c0)
  · skip
    refine r_aload_n dX12_tests_21 rfl 0 rfl ?_
    refine r_getR ck10 dX12_tests_22 flX12_163 rfl k0 ?_
    refine r_iload_n dX12_tests_25 rfl 2 rfl ?_
    refine r_lald dX12_tests_26 k1 (pb2 c0) ?_
    refine r_lload_n dX12_tests_27 rfl 1 rfl ?_
    refine r_lif_eq (tgt := 42) dX12_tests_28 dX12_tests_29 (by decide) (fun c1 => ?_) (fun c1 => ?_)
    · skip
      exact (pw3 c0 c1)
    · skip
      refine r_iload_n dX12_tests_32 rfl 2 rfl ?_
      refine r_iconst (v := (nI 1)) dX12_tests_33 rfl ?_
      refine r_iadd dX12_tests_34 ?_
      refine r_ldc dX12_tests_35 kwX12_113 ?_
      refine r_irem dX12_tests_37 (by decide) ?_
      refine r_istore_n dX12_tests_38 rfl (by decide) (ls' := [(3, .int ((x3 + (nI 1)) - (x3 + (nI 1)) / (nI 32768) * (nI 32768))), (0, .ref a0), (1, .long w1)]) rfl ?_
      refine r_goto (tgt := 10) dX12_tests_39 (by decide) ?_
      refine r_sub [1, 2, 0] (ls' := [(0, .ref a0), (1, .long w1), (3, .int ((x3 + (nI 1)) - (x3 + (nI 1)) / (nI 32768) * (nI 32768)))]) rfl ?_
      exact (pw4 c0 c1)
theorem gX12_tests_42 {d : Nat} {Q : Option Value → Mem → Prop} {M : Mem} {a0 : Nat} {w1 : Int64} {x3 : Int32} (k0 : mK M a0 = 14) (k1 : mK M (mR M a0 41) = 2) (pb0 : vp_in x3 (mN M (mR M a0 41))) (pb1 : ¬ (mJ M (mR M a0 41) x3.toNatClampNeg) = w1 → vp_in x3 (mN M (mR M a0 41))) (pf2 : ¬ (mJ M (mR M a0 41) x3.toNatClampNeg) = w1 → ClD d mdX12_lengthOf [.long w1] (sI (sJ M (mR M a0 41) x3.toNatClampNeg w1) a0 42 ((mI (sJ M (mR M a0 41) x3.toNatClampNeg w1) a0 42) + (nI 1))) (fun r1 M1 => Wp d mdX12_tests 80 [(0, .ref a0), (1, .long w1)] (r1.toList ++ [.int (mI (sI (sJ M (mR M a0 41) x3.toNatClampNeg w1) a0 42 ((mI (sJ M (mR M a0 41) x3.toNatClampNeg w1) a0 42) + (nI 1))) a0 43), .ref a0]) M1 Q)) (pq3 : (mJ M (mR M a0 41) x3.toNatClampNeg) = w1 → Q none M) : Wp d mdX12_tests 42 [(0, .ref a0), (1, .long w1), (3, .int x3)] [] M Q := by
  refine r_aload_n dX12_tests_42 rfl 0 rfl ?_
  refine r_getR ck10 dX12_tests_43 flX12_163 rfl k0 ?_
  refine r_iload_n dX12_tests_46 rfl 2 rfl ?_
  refine r_lald dX12_tests_47 k1 pb0 ?_
  refine r_lload_n dX12_tests_48 rfl 1 rfl ?_
  refine r_lif_ne (tgt := 54) dX12_tests_49 dX12_tests_50 (by decide) (fun c0 => ?_) (fun c0 => ?_)
  · skip
    refine r_aload_n dX12_tests_54 rfl 0 rfl ?_
    refine r_getR ck10 dX12_tests_55 flX12_163 rfl k0 ?_
    refine r_iload_n dX12_tests_58 rfl 2 rfl ?_
    refine r_lload_n dX12_tests_59 rfl 1 rfl ?_
    refine r_last dX12_tests_60 k1 (pb1 c0) ?_
    refine r_aload_n dX12_tests_61 rfl 0 rfl ?_
    refine r_dup dX12_tests_62 rfl ?_
    refine r_getI ck10 dX12_tests_63 flX12_364 rfl k0 ?_
    refine r_iconst (v := (nI 1)) dX12_tests_66 rfl ?_
    refine r_iadd dX12_tests_67 ?_
    refine r_putI ck10 dX12_tests_68 flX12_364 rfl (Or.inl rfl) k0 ?_
    refine r_aload_n dX12_tests_71 rfl 0 rfl ?_
    refine r_dup dX12_tests_72 rfl ?_
    refine r_getI ck10 dX12_tests_73 flX12_367 rfl k0 ?_
    refine r_lload_n dX12_tests_76 rfl 1 rfl ?_
    refine r_sub [0, 1] (ls' := [(0, .ref a0), (1, .long w1)]) rfl ?_
    obtain ⟨e9, hlt, h9⟩ := (pf2 c0)
    exact r_callS (As := [.long w1]) (rest := [.int (mI (sI (sJ M (mR M a0 41) x3.toNatClampNeg w1) a0 42 ((mI (sJ M (mR M a0 41) x3.toNatClampNeg w1) a0 42) + (nI 1))) a0 43), .ref a0]) moX12_lengthOf dX12_tests_77 mlX12_33 saX12_lengthOf rfl hlt (Nat.le_of_ble_eq_true rfl) h9
  · skip
    exact r_ret none dX12_tests_53 rfl (pq3 c0)
theorem gX12_tests_80 {d : Nat} {Q : Option Value → Mem → Prop} {M : Mem} {a0 : Nat} {w1 : Int64} {sx0 : Int32} {sx1 : Int32} {sa2 : Nat} (k0 : mK M sa2 = 14) (k1 : mK M a0 = 14) (pf0 : ClD d mdX12_lengthOf [.long w1] (sI M sa2 43 (sx1 + sx0)) (fun r1 M1 => Wp d mdX12_tests 93 [(0, .ref a0), (1, .long w1)] (r1.toList ++ [.int (mI (sI M sa2 43 (sx1 + sx0)) a0 44), .ref a0]) M1 Q)) : Wp d mdX12_tests 80 [(0, .ref a0), (1, .long w1)] [.int sx0, .int sx1, .ref sa2] M Q := by
  refine r_iadd dX12_tests_80 ?_
  refine r_putI ck10 dX12_tests_81 flX12_367 rfl (Or.inl rfl) k0 ?_
  refine r_aload_n dX12_tests_84 rfl 0 rfl ?_
  refine r_aload_n dX12_tests_85 rfl 0 rfl ?_
  refine r_getI ck10 dX12_tests_86 flX12_370 rfl k1 ?_
  refine r_lload_n dX12_tests_89 rfl 1 rfl ?_
  obtain ⟨e9, hlt, h9⟩ := pf0
  exact r_callS (As := [.long w1]) (rest := [.int (mI (sI M sa2 43 (sx1 + sx0)) a0 44), .ref a0]) moX12_lengthOf dX12_tests_90 mlX12_33 saX12_lengthOf rfl hlt (Nat.le_of_ble_eq_true rfl) h9
theorem gX12_tests_93 {d : Nat} {Q : Option Value → Mem → Prop} {M : Mem} {a0 : Nat} {w1 : Int64} {sx0 : Int32} {sx1 : Int32} {sa2 : Nat} (hd1 : 1 ≤ d) (k0 : mK M sa2 = 14) (k1 : mK M a0 = 14) (pf0 : ClD d mdX12_wasAsked [.ref a0, .int (nI 0), .long w1] (sI M sa2 44 (jmax sx1 sx0)) (fun r1 M1 => Wp d mdX12_tests 110 [(0, .ref a0), (1, .long w1)] (r1.toList ++ [.int (mI (sI M sa2 44 (jmax sx1 sx0)) a0 45), .ref a0]) M1 Q)) : Wp d mdX12_tests 93 [(0, .ref a0), (1, .long w1)] [.int sx0, .int sx1, .ref sa2] M Q := by
  refine r_math_max dX12_tests_93 mlX12_373 hd1 (Nat.le_of_ble_eq_true rfl) ?_
  refine r_putI ck10 dX12_tests_96 flX12_370 rfl (Or.inl rfl) k0 ?_
  refine r_aload_n dX12_tests_99 rfl 0 rfl ?_
  refine r_dup dX12_tests_100 rfl ?_
  refine r_getI ck10 dX12_tests_101 flX12_376 rfl k1 ?_
  refine r_aload_n dX12_tests_104 rfl 0 rfl ?_
  refine r_iconst (v := (nI 0)) dX12_tests_105 rfl ?_
  refine r_lload_n dX12_tests_106 rfl 1 rfl ?_
  obtain ⟨e9, hlt, h9⟩ := pf0
  exact r_callV (As := [.int (nI 0), .long w1]) (rest := [.int (mI (sI M sa2 44 (jmax sx1 sx0)) a0 45), .ref a0]) (ci := 10) moX12_wasAsked dX12_tests_107 mlX12_336 imX12_wasAsked seX12_wasAsked k1 rfl hlt (Nat.le_of_ble_eq_true rfl) h9
theorem gX12_tests_110 {d : Nat} {Q : Option Value → Mem → Prop} {M : Mem} {a0 : Nat} {w1 : Int64} {sx0 : Int32} {sx1 : Int32} {sa2 : Nat}  (pf0 : ClD d mdX12_flag [.int sx0] M (fun r1 M1 => Wp d mdX12_tests 113 [(0, .ref a0), (1, .long w1)] (r1.toList ++ [.int sx1, .ref sa2]) M1 Q)) : Wp d mdX12_tests 110 [(0, .ref a0), (1, .long w1)] [.int sx0, .int sx1, .ref sa2] M Q := by
  obtain ⟨e9, hlt, h9⟩ := pf0
  exact r_callS (As := [.int sx0]) (rest := [.int sx1, .ref sa2]) moX12_flag dX12_tests_110 mlX12_339 saX12_flag rfl hlt (Nat.le_of_ble_eq_true rfl) h9
theorem gX12_tests_113 {d : Nat} {Q : Option Value → Mem → Prop} {M : Mem} {a0 : Nat} {w1 : Int64} {sx0 : Int32} {sx1 : Int32} {sa2 : Nat} (k0 : mK M sa2 = 14) (k1 : mK M a0 = 14) (pf0 : ClD d mdX12_answer [.ref a0, .int (nI 0), .long w1] (sI M sa2 45 (sx1 + sx0)) (fun r1 M1 => Wp d mdX12_tests 123 [(0, .ref a0), (1, .long w1)] (r1.toList ++ []) M1 Q)) : Wp d mdX12_tests 113 [(0, .ref a0), (1, .long w1)] [.int sx0, .int sx1, .ref sa2] M Q := by
  refine r_iadd dX12_tests_113 ?_
  refine r_putI ck10 dX12_tests_114 flX12_376 rfl (Or.inl rfl) k0 ?_
  refine r_aload_n dX12_tests_117 rfl 0 rfl ?_
  refine r_iconst (v := (nI 0)) dX12_tests_118 rfl ?_
  refine r_lload_n dX12_tests_119 rfl 1 rfl ?_
  obtain ⟨e9, hlt, h9⟩ := pf0
  exact r_callV (As := [.int (nI 0), .long w1]) (rest := []) (ci := 10) moX12_answer dX12_tests_120 mlX12_185 imX12_answer seX12_answer k1 rfl hlt (Nat.le_of_ble_eq_true rfl) h9
theorem gX12_tests_123 {d : Nat} {Q : Option Value → Mem → Prop} {M : Mem} {a0 : Nat} {w1 : Int64} {sx0 : Int32} (k0 : mK M a0 = 14) (pf0 : ClD d mdX12_answer [.ref a0, .int (nI 1), .long w1] M (fun r1 M1 => Wp d mdX12_tests 129 [(0, .ref a0), (1, .long w1)] (r1.toList ++ [.int sx0]) M1 Q)) : Wp d mdX12_tests 123 [(0, .ref a0), (1, .long w1)] [.int sx0] M Q := by
  refine r_aload_n dX12_tests_123 rfl 0 rfl ?_
  refine r_iconst (v := (nI 1)) dX12_tests_124 rfl ?_
  refine r_lload_n dX12_tests_125 rfl 1 rfl ?_
  obtain ⟨e9, hlt, h9⟩ := pf0
  exact r_callV (As := [.int (nI 1), .long w1]) (rest := [.int sx0]) (ci := 10) moX12_answer dX12_tests_126 mlX12_185 imX12_answer seX12_answer k0 rfl hlt (Nat.le_of_ble_eq_true rfl) h9
theorem gX12_tests_129 {d : Nat} {Q : Option Value → Mem → Prop} {M : Mem} {a0 : Nat} {w1 : Int64} {sx0 : Int32} {sx1 : Int32} (k0 : mK M a0 = 14) (pq0 : sx1 = sx0 → Q none M) (pw1 : ¬ sx1 = sx0 → (mJ M a0 46) = (lN 0) → Wp d mdX12_tests 150 [(0, .ref a0), (1, .long w1)] [] M Q) (pq2 : ¬ sx1 = sx0 → ¬ (mJ M a0 46) = (lN 0) → (mJ M a0 46) ≤ w1 → Q none M) (pw3 : ¬ sx1 = sx0 → ¬ (mJ M a0 46) = (lN 0) → ¬ (mJ M a0 46) ≤ w1 → Wp d mdX12_tests 150 [(0, .ref a0), (1, .long w1)] [] M Q) : Wp d mdX12_tests 129 [(0, .ref a0), (1, .long w1)] [.int sx0, .int sx1] M Q := by
  refine r_icmp_eq (tgt := 155) dX12_tests_129 (by decide) (fun c0 => ?_) (fun c0 => ?_)
  · skip
    exact r_ret none dX12_tests_155 rfl (pq0 c0)
  · skip
    refine r_aload_n dX12_tests_132 rfl 0 rfl ?_
    refine r_getJ ck10 dX12_tests_133 flX12_379 rfl k0 ?_
    refine r_lconst (v := (lN 0)) dX12_tests_136 rfl ?_
    refine r_lif_eq (tgt := 150) dX12_tests_137 dX12_tests_138 (by decide) (fun c1 => ?_) (fun c1 => ?_)
    · skip
      exact (pw1 c0 c1)
    · skip
      refine r_lload_n dX12_tests_141 rfl 1 rfl ?_
      refine r_aload_n dX12_tests_142 rfl 0 rfl ?_
      refine r_getJ ck10 dX12_tests_143 flX12_379 rfl k0 ?_
      refine r_lif_ge (tgt := 155) dX12_tests_146 dX12_tests_147 (by decide) (fun c2 => ?_) (fun c2 => ?_)
      · skip
        exact r_ret none dX12_tests_155 rfl (pq2 c0 c1 c2)
      · skip
        exact (pw3 c0 c1 c2)
theorem gX12_tests_150 {d : Nat} {Q : Option Value → Mem → Prop} {M : Mem} {a0 : Nat} {w1 : Int64} (k0 : mK M a0 = 14) (pq0 : Q none (sJ M a0 46 w1)) : Wp d mdX12_tests 150 [(0, .ref a0), (1, .long w1)] [] M Q := by
  refine r_aload_n dX12_tests_150 rfl 0 rfl ?_
  refine r_lload_n dX12_tests_151 rfl 1 rfl ?_
  refine r_putJ ck10 dX12_tests_152 flX12_379 rfl (Or.inl rfl) k0 ?_
  exact r_ret none dX12_tests_155 rfl pq0
-- X12_laysEnds
theorem gX12_laysEnds_0 {d : Nat} {Q : Option Value → Mem → Prop} {M : Mem} {a0 : Nat} (k0 : mK M a0 = 14) (pw0 : Wp d mdX12_laysEnds 7 [(0, .ref a0), (1, .int (nI 0))] [] (sI M a0 48 (nI 0)) Q) : Wp d mdX12_laysEnds 0 [(0, .ref a0)] [] M Q := by
  refine r_aload_n dX12_laysEnds_0 rfl 0 rfl ?_
  refine r_iconst (v := (nI 0)) dX12_laysEnds_1 rfl ?_
  refine r_putI ck10 dX12_laysEnds_2 flX12_382 rfl (Or.inl rfl) k0 ?_
  refine r_iconst (v := (nI 0)) dX12_laysEnds_5 rfl ?_
  refine r_istore_n dX12_laysEnds_6 rfl (by decide) (ls' := [(1, .int (nI 0)), (0, .ref a0)]) rfl ?_
  refine r_sub [1, 0] (ls' := [(0, .ref a0), (1, .int (nI 0))]) rfl ?_
  exact pw0
theorem gX12_laysEnds_7 {d : Nat} {Q : Option Value → Mem → Prop} {M : Mem} {a0 : Nat} {x1 : Int32} (k0 : mK M a0 = 14) (k1 : mK M (mR M a0 4) = 1) (k2 : mK M (mR M a0 47) = 2) (pb0 : vp_in (nI 1) (mN M (mR M a0 4))) (pq1 : (mI M (mR M a0 4) (nI 1).toNatClampNeg) ≤ x1 → ¬ (mI M a0 48) = 0 → Q none M) (pb2 : (mI M (mR M a0 4) (nI 1).toNatClampNeg) ≤ x1 → (mI M a0 48) = 0 → vp_in (nI 0) (mN M (mR M a0 47))) (pq3 : (mI M (mR M a0 4) (nI 1).toNatClampNeg) ≤ x1 → (mI M a0 48) = 0 → Q none (sI (sJ M (mR M a0 47) (nI 0).toNatClampNeg (lN 1)) a0 48 (nI 1))) (pw4 : ¬ (mI M (mR M a0 4) (nI 1).toNatClampNeg) ≤ x1 → Wp d mdX12_laysEnds 21 [(0, .ref a0), (1, .int x1), (2, .int (x1 + (nI 1)))] [] M Q) : Wp d mdX12_laysEnds 7 [(0, .ref a0), (1, .int x1)] [] M Q := by
  refine r_iload_n dX12_laysEnds_7 rfl 1 rfl ?_
  refine r_aload_n dX12_laysEnds_8 rfl 0 rfl ?_
  refine r_getR ck10 dX12_laysEnds_9 flX12_21 rfl k0 ?_
  refine r_iconst (v := (nI 1)) dX12_laysEnds_12 rfl ?_
  refine r_iald dX12_laysEnds_13 k1 pb0 ?_
  refine r_icmp_ge (tgt := 81) dX12_laysEnds_14 (by decide) (fun c0 => ?_) (fun c0 => ?_)
  · skip
    refine r_aload_n dX12_laysEnds_81 rfl 0 rfl ?_
    refine r_getI ck10 dX12_laysEnds_82 flX12_382 rfl k0 ?_
    refine r_if_ne (tgt := 100) dX12_laysEnds_85 (by decide) (fun c1 => ?_) (fun c1 => ?_)
    · skip
      exact r_ret none dX12_laysEnds_100 rfl (pq1 c0 c1)
    · skip
      refine r_aload_n dX12_laysEnds_88 rfl 0 rfl ?_
      refine r_getR ck10 dX12_laysEnds_89 flX12_166 rfl k0 ?_
      refine r_iconst (v := (nI 0)) dX12_laysEnds_92 rfl ?_
      refine r_lconst (v := (lN 1)) dX12_laysEnds_93 rfl ?_
      refine r_last dX12_laysEnds_94 k2 (pb2 c0 c1) ?_
      refine r_aload_n dX12_laysEnds_95 rfl 0 rfl ?_
      refine r_iconst (v := (nI 1)) dX12_laysEnds_96 rfl ?_
      refine r_putI ck10 dX12_laysEnds_97 flX12_382 rfl (Or.inl rfl) k0 ?_
      exact r_ret none dX12_laysEnds_100 rfl (pq3 c0 c1)
  · skip
    refine r_iload_n dX12_laysEnds_17 rfl 1 rfl ?_
    refine r_iconst (v := (nI 1)) dX12_laysEnds_18 rfl ?_
    refine r_iadd dX12_laysEnds_19 ?_
    refine r_istore_n dX12_laysEnds_20 rfl (by decide) (ls' := [(2, .int (x1 + (nI 1))), (0, .ref a0), (1, .int x1)]) rfl ?_
    refine r_sub [1, 2, 0] (ls' := [(0, .ref a0), (1, .int x1), (2, .int (x1 + (nI 1)))]) rfl ?_
    exact (pw4 c0)
theorem gX12_laysEnds_21 {d : Nat} {Q : Option Value → Mem → Prop} {M : Mem} {a0 : Nat} {x1 : Int32} {x2 : Int32} (k0 : mK M a0 = 14) (k1 : mK M (mR M a0 4) = 1) (pb0 : vp_in (nI 1) (mN M (mR M a0 4))) (pw1 : (mI M (mR M a0 4) (nI 1).toNatClampNeg) ≤ x2 → Wp d mdX12_laysEnds 7 [(0, .ref a0), (1, .int (x1 + (nI 1)))] [] M Q) (pf2 : ¬ (mI M (mR M a0 4) (nI 1).toNatClampNeg) ≤ x2 → ClD d mdX12_firstUnlike [.ref a0, .int (nI 1), .int x1, .int (nI 1), .int x2] M (fun r1 M1 => Wp d mdX12_laysEnds 39 [(0, .ref a0), (1, .int x1), (2, .int x2)] (r1.toList ++ []) M1 Q)) : Wp d mdX12_laysEnds 21 [(0, .ref a0), (1, .int x1), (2, .int x2)] [] M Q := by
  refine r_iload_n dX12_laysEnds_21 rfl 2 rfl ?_
  refine r_aload_n dX12_laysEnds_22 rfl 0 rfl ?_
  refine r_getR ck10 dX12_laysEnds_23 flX12_21 rfl k0 ?_
  refine r_iconst (v := (nI 1)) dX12_laysEnds_26 rfl ?_
  refine r_iald dX12_laysEnds_27 k1 pb0 ?_
  refine r_icmp_ge (tgt := 75) dX12_laysEnds_28 (by decide) (fun c0 => ?_) (fun c0 => ?_)
  · skip
    refine r_iinc dX12_laysEnds_75 1 rfl (v := x1 + (nI 1)) rfl (by decide) (ls' := [(1, .int (x1 + (nI 1))), (0, .ref a0), (2, .int x2)]) rfl ?_
    refine r_goto (tgt := 7) dX12_laysEnds_78 (by decide) ?_
    refine r_sub [1, 0] (ls' := [(0, .ref a0), (1, .int (x1 + (nI 1)))]) rfl ?_
    exact (pw1 c0)
  · skip
    refine r_aload_n dX12_laysEnds_31 rfl 0 rfl ?_
    refine r_iconst (v := (nI 1)) dX12_laysEnds_32 rfl ?_
    refine r_iload_n dX12_laysEnds_33 rfl 1 rfl ?_
    refine r_iconst (v := (nI 1)) dX12_laysEnds_34 rfl ?_
    refine r_iload_n dX12_laysEnds_35 rfl 2 rfl ?_
    obtain ⟨e9, hlt, h9⟩ := (pf2 c0)
    exact r_callV (As := [.int (nI 1), .int x1, .int (nI 1), .int x2]) (rest := []) (ci := 10) moX12_firstUnlike dX12_laysEnds_36 mlX12_276 imX12_firstUnlike seX12_firstUnlike k0 rfl hlt (Nat.le_of_ble_eq_true rfl) h9
theorem gX12_laysEnds_39 {d : Nat} {Q : Option Value → Mem → Prop} {M : Mem} {a0 : Nat} {x1 : Int32} {x2 : Int32} {sw0 : Int64} (k0 : mK M a0 = 14) (k1 : mK M (mR M a0 47) = 2) (pb0 : ¬ sw0 = (lN 0) → vp_in (mI M a0 48) (mN M (mR M a0 47))) (pw1 : ¬ sw0 = (lN 0) → Wp d mdX12_laysEnds 21 [(0, .ref a0), (1, .int x1), (2, .int (x2 + (nI 1)))] [] (sI (sJ M (mR M a0 47) (mI M a0 48).toNatClampNeg sw0) a0 48 ((mI (sJ M (mR M a0 47) (mI M a0 48).toNatClampNeg sw0) a0 48) + (nI 1))) Q) (pw2 : sw0 = (lN 0) → Wp d mdX12_laysEnds 21 [(0, .ref a0), (1, .int x1), (2, .int (x2 + (nI 1)))] [] M Q) : Wp d mdX12_laysEnds 39 [(0, .ref a0), (1, .int x1), (2, .int x2)] [.long sw0] M Q := by
  refine r_lstore_n dX12_laysEnds_39 rfl (by decide) (ls' := [(3, .long sw0), (0, .ref a0), (1, .int x1), (2, .int x2)]) rfl ?_
  refine r_lload_n dX12_laysEnds_40 rfl 0 rfl ?_
  refine r_lconst (v := (lN 0)) dX12_laysEnds_41 rfl ?_
  refine r_lif_ne (tgt := 49) dX12_laysEnds_42 dX12_laysEnds_43 (by decide) (fun c0 => ?_) (fun c0 => ?_)
  · skip
    refine r_aload_n dX12_laysEnds_49 rfl 1 rfl ?_
    refine r_getR ck10 dX12_laysEnds_50 flX12_166 rfl k0 ?_
    refine r_aload_n dX12_laysEnds_53 rfl 1 rfl ?_
    refine r_getI ck10 dX12_laysEnds_54 flX12_382 rfl k0 ?_
    refine r_lload_n dX12_laysEnds_57 rfl 0 rfl ?_
    refine r_last dX12_laysEnds_58 k1 (pb0 c0) ?_
    refine r_aload_n dX12_laysEnds_59 rfl 1 rfl ?_
    refine r_dup dX12_laysEnds_60 rfl ?_
    refine r_getI ck10 dX12_laysEnds_61 flX12_382 rfl k0 ?_
    refine r_iconst (v := (nI 1)) dX12_laysEnds_64 rfl ?_
    refine r_iadd dX12_laysEnds_65 ?_
    refine r_putI ck10 dX12_laysEnds_66 flX12_382 rfl (Or.inl rfl) k0 ?_
    refine r_iinc dX12_laysEnds_69 3 rfl (v := x2 + (nI 1)) rfl (by decide) (ls' := [(2, .int (x2 + (nI 1))), (3, .long sw0), (0, .ref a0), (1, .int x1)]) rfl ?_
    refine r_goto (tgt := 21) dX12_laysEnds_72 (by decide) ?_
    refine r_sub [2, 3, 0] (ls' := [(0, .ref a0), (1, .int x1), (2, .int (x2 + (nI 1)))]) rfl ?_
    exact (pw1 c0)
  · skip
    refine r_goto (tgt := 69) dX12_laysEnds_46 (by decide) ?_
    refine r_iinc dX12_laysEnds_69 3 rfl (v := x2 + (nI 1)) rfl (by decide) (ls' := [(2, .int (x2 + (nI 1))), (3, .long sw0), (0, .ref a0), (1, .int x1)]) rfl ?_
    refine r_goto (tgt := 21) dX12_laysEnds_72 (by decide) ?_
    refine r_sub [2, 3, 0] (ls' := [(0, .ref a0), (1, .int x1), (2, .int (x2 + (nI 1)))]) rfl ?_
    exact (pw2 c0)
-- X12_testsBehind
theorem gX12_testsBehind_0 {d : Nat} {Q : Option Value → Mem → Prop} {M : Mem} {a0 : Nat} {w1 : Int64} {x3 : Int32}  (pw0 : Wp d mdX12_testsBehind 3 [(0, .ref a0), (1, .long w1), (3, .int x3), (4, .int (nI 0))] [] M Q) : Wp d mdX12_testsBehind 0 [(0, .ref a0), (1, .long w1), (3, .int x3)] [] M Q := by
  refine r_iconst (v := (nI 0)) dX12_testsBehind_0 rfl ?_
  refine r_istore dX12_testsBehind_1 (by decide) (ls' := [(4, .int (nI 0)), (0, .ref a0), (1, .long w1), (3, .int x3)]) rfl ?_
  refine r_sub [1, 2, 3, 0] (ls' := [(0, .ref a0), (1, .long w1), (3, .int x3), (4, .int (nI 0))]) rfl ?_
  exact pw0
theorem gX12_testsBehind_3 {d : Nat} {Q : Option Value → Mem → Prop} {M : Mem} {a0 : Nat} {w1 : Int64} {x3 : Int32} {x4 : Int32} (k0 : mK M a0 = 14) (k1 : mK M (mR M a0 47) = 2) (pw0 : (mI M a0 48) ≤ x4 → Wp d mdX12_testsBehind 36 [(0, .ref a0), (1, .long w1), (3, .int x3), (4, .int (nI 0))] [] M Q) (pb1 : ¬ (mI M a0 48) ≤ x4 → vp_in x4 (mN M (mR M a0 47))) (pf2 : ¬ (mI M a0 48) ≤ x4 → ClD d mdX12_both [.long w1, .long (mJ M (mR M a0 47) x4.toNatClampNeg)] M (fun r1 M1 => Wp d mdX12_testsBehind 24 [(0, .ref a0), (1, .long w1), (3, .int x3), (4, .int x4)] (r1.toList ++ [.ref a0]) M1 Q)) : Wp d mdX12_testsBehind 3 [(0, .ref a0), (1, .long w1), (3, .int x3), (4, .int x4)] [] M Q := by
  refine r_iload dX12_testsBehind_3 3 rfl ?_
  refine r_aload_n dX12_testsBehind_5 rfl 0 rfl ?_
  refine r_getI ck10 dX12_testsBehind_6 flX12_382 rfl k0 ?_
  refine r_icmp_ge (tgt := 33) dX12_testsBehind_9 (by decide) (fun c0 => ?_) (fun c0 => ?_)
  · skip
    refine r_iconst (v := (nI 0)) dX12_testsBehind_33 rfl ?_
    refine r_istore dX12_testsBehind_34 (by decide) (ls' := [(4, .int (nI 0)), (0, .ref a0), (1, .long w1), (3, .int x3)]) rfl ?_
    refine r_sub [1, 2, 3, 0] (ls' := [(0, .ref a0), (1, .long w1), (3, .int x3), (4, .int (nI 0))]) rfl ?_
    exact (pw0 c0)
  · skip
    refine r_aload_n dX12_testsBehind_12 rfl 0 rfl ?_
    refine r_lload_n dX12_testsBehind_13 rfl 1 rfl ?_
    refine r_aload_n dX12_testsBehind_14 rfl 0 rfl ?_
    refine r_getR ck10 dX12_testsBehind_15 flX12_166 rfl k0 ?_
    refine r_iload dX12_testsBehind_18 3 rfl ?_
    refine r_lald dX12_testsBehind_20 k1 (pb1 c0) ?_
    obtain ⟨e9, hlt, h9⟩ := (pf2 c0)
    exact r_callS (As := [.long w1, .long (mJ M (mR M a0 47) x4.toNatClampNeg)]) (rest := [.ref a0]) moX12_both dX12_testsBehind_21 mlX12_61 saX12_both rfl hlt (Nat.le_of_ble_eq_true rfl) h9
theorem gX12_testsBehind_24 {d : Nat} {Q : Option Value → Mem → Prop} {M : Mem} {a0 : Nat} {w1 : Int64} {x3 : Int32} {x4 : Int32} {sw0 : Int64} {sa1 : Nat} (k0 : mK M sa1 = 14) (pf0 : ClD d mdX12_tests [.ref sa1, .long sw0] M (fun r1 M1 => Wp d mdX12_testsBehind 27 [(0, .ref a0), (1, .long w1), (3, .int x3), (4, .int x4)] (r1.toList ++ []) M1 Q)) : Wp d mdX12_testsBehind 24 [(0, .ref a0), (1, .long w1), (3, .int x3), (4, .int x4)] [.long sw0, .ref sa1] M Q := by
  obtain ⟨e9, hlt, h9⟩ := pf0
  exact r_callV (As := [.long sw0]) (rest := []) (ci := 10) moX12_tests dX12_testsBehind_24 mlX12_385 imX12_tests seX12_tests k0 rfl hlt (Nat.le_of_ble_eq_true rfl) h9
theorem gX12_testsBehind_27 {d : Nat} {Q : Option Value → Mem → Prop} {M : Mem} {a0 : Nat} {w1 : Int64} {x3 : Int32} {x4 : Int32}  (pw0 : Wp d mdX12_testsBehind 3 [(0, .ref a0), (1, .long w1), (3, .int x3), (4, .int (x4 + (nI 1)))] [] M Q) : Wp d mdX12_testsBehind 27 [(0, .ref a0), (1, .long w1), (3, .int x3), (4, .int x4)] [] M Q := by
  refine r_iinc dX12_testsBehind_27 3 rfl (v := x4 + (nI 1)) rfl (by decide) (ls' := [(4, .int (x4 + (nI 1))), (0, .ref a0), (1, .long w1), (3, .int x3)]) rfl ?_
  refine r_goto (tgt := 3) dX12_testsBehind_30 (by decide) ?_
  refine r_sub [1, 2, 3, 0] (ls' := [(0, .ref a0), (1, .long w1), (3, .int x3), (4, .int (x4 + (nI 1)))]) rfl ?_
  exact pw0
theorem gX12_testsBehind_36 {d : Nat} {Q : Option Value → Mem → Prop} {M : Mem} {a0 : Nat} {w1 : Int64} {x3 : Int32} {x4 : Int32} (k0 : mK M a0 = 14) (pq0 : (mI M a0 3) ≤ x4 → Q none M) (pq1 : ¬ (mI M a0 3) ≤ x4 → x3 ≤ 0 → Q none M) (pf2 : ¬ (mI M a0 3) ≤ x4 → ¬ x3 ≤ 0 → ClD d mdX12_longer [.long w1, .int x4] M (fun r1 M1 => Wp d mdX12_testsBehind 56 [(0, .ref a0), (1, .long w1), (3, .int x3), (4, .int x4)] (r1.toList ++ [.ref a0]) M1 Q)) : Wp d mdX12_testsBehind 36 [(0, .ref a0), (1, .long w1), (3, .int x3), (4, .int x4)] [] M Q := by
  refine r_iload dX12_testsBehind_36 3 rfl ?_
  refine r_aload_n dX12_testsBehind_38 rfl 0 rfl ?_
  refine r_getI ck10 dX12_testsBehind_39 flX12_30 rfl k0 ?_
  refine r_icmp_ge (tgt := 68) dX12_testsBehind_42 (by decide) (fun c0 => ?_) (fun c0 => ?_)
  · skip
    exact r_ret none dX12_testsBehind_68 rfl (pq0 c0)
  · skip
    refine r_iload_n dX12_testsBehind_45 rfl 2 rfl ?_
    refine r_if_le (tgt := 68) dX12_testsBehind_46 (by decide) (fun c1 => ?_) (fun c1 => ?_)
    · skip
      exact r_ret none dX12_testsBehind_68 rfl (pq1 c0 c1)
    · skip
      refine r_aload_n dX12_testsBehind_49 rfl 0 rfl ?_
      refine r_lload_n dX12_testsBehind_50 rfl 1 rfl ?_
      refine r_iload dX12_testsBehind_51 3 rfl ?_
      obtain ⟨e9, hlt, h9⟩ := (pf2 c0 c1)
      exact r_callS (As := [.long w1, .int x4]) (rest := [.ref a0]) moX12_longer dX12_testsBehind_53 mlX12_80 saX12_longer rfl hlt (Nat.le_of_ble_eq_true rfl) h9
theorem gX12_testsBehind_56 {d : Nat} {Q : Option Value → Mem → Prop} {M : Mem} {a0 : Nat} {w1 : Int64} {x3 : Int32} {x4 : Int32} {sw0 : Int64} {sa1 : Nat} (k0 : mK M sa1 = 14) (pf0 : ClD d mdX12_testsBehind [.ref sa1, .long sw0, .int (x3 - (nI 1))] M (fun r1 M1 => Wp d mdX12_testsBehind 62 [(0, .ref a0), (1, .long w1), (3, .int x3), (4, .int x4)] (r1.toList ++ []) M1 Q)) : Wp d mdX12_testsBehind 56 [(0, .ref a0), (1, .long w1), (3, .int x3), (4, .int x4)] [.long sw0, .ref sa1] M Q := by
  refine r_iload_n dX12_testsBehind_56 rfl 2 rfl ?_
  refine r_iconst (v := (nI 1)) dX12_testsBehind_57 rfl ?_
  refine r_isub dX12_testsBehind_58 ?_
  obtain ⟨e9, hlt, h9⟩ := pf0
  exact r_callV (As := [.long sw0, .int (x3 - (nI 1))]) (rest := []) (ci := 10) moX12_testsBehind dX12_testsBehind_59 mlX12_388 imX12_testsBehind seX12_testsBehind k0 rfl hlt (Nat.le_of_ble_eq_true rfl) h9
theorem gX12_testsBehind_62 {d : Nat} {Q : Option Value → Mem → Prop} {M : Mem} {a0 : Nat} {w1 : Int64} {x3 : Int32} {x4 : Int32}  (pw0 : Wp d mdX12_testsBehind 36 [(0, .ref a0), (1, .long w1), (3, .int x3), (4, .int (x4 + (nI 1)))] [] M Q) : Wp d mdX12_testsBehind 62 [(0, .ref a0), (1, .long w1), (3, .int x3), (4, .int x4)] [] M Q := by
  refine r_iinc dX12_testsBehind_62 3 rfl (v := x4 + (nI 1)) rfl (by decide) (ls' := [(4, .int (x4 + (nI 1))), (0, .ref a0), (1, .long w1), (3, .int x3)]) rfl ?_
  refine r_goto (tgt := 36) dX12_testsBehind_65 (by decide) ?_
  refine r_sub [1, 2, 3, 0] (ls' := [(0, .ref a0), (1, .long w1), (3, .int x3), (4, .int (x4 + (nI 1)))]) rfl ?_
  exact pw0
-- X12_laysTests
theorem gX12_laysTests_0 {d : Nat} {Q : Option Value → Mem → Prop} {M : Mem} {a0 : Nat} {x1 : Int32}  (pw0 : Wp d mdX12_laysTests 2 [(0, .ref a0), (1, .int x1), (2, .int (nI 0))] [] M Q) : Wp d mdX12_laysTests 0 [(0, .ref a0), (1, .int x1)] [] M Q := by
  refine r_iconst (v := (nI 0)) dX12_laysTests_0 rfl ?_
  refine r_istore_n dX12_laysTests_1 rfl (by decide) (ls' := [(2, .int (nI 0)), (0, .ref a0), (1, .int x1)]) rfl ?_
  refine r_sub [1, 2, 0] (ls' := [(0, .ref a0), (1, .int x1), (2, .int (nI 0))]) rfl ?_
  exact pw0
theorem gX12_laysTests_2 {d : Nat} {Q : Option Value → Mem → Prop} {M : Mem} {a0 : Nat} {x1 : Int32} {x2 : Int32} (k0 : mK M a0 = 14) (k1 : mK M (mR M a0 41) = 2) (pf0 : (nI 32768) ≤ x2 → ClD d mdX12_laysEnds [.ref a0] (sJ (sI (sI (sI (sI M a0 42 (nI 0)) a0 43 (nI 0)) a0 44 (nI 0)) a0 45 (nI 0)) a0 46 (lN 0)) (fun r1 M1 => Wp d mdX12_laysTests 50 [(0, .ref a0), (1, .int x1)] (r1.toList ++ []) M1 Q)) (pb1 : ¬ (nI 32768) ≤ x2 → vp_in x2 (mN M (mR M a0 41))) (pw2 : ¬ (nI 32768) ≤ x2 → Wp d mdX12_laysTests 2 [(0, .ref a0), (1, .int x1), (2, .int (x2 + (nI 1)))] [] (sJ M (mR M a0 41) x2.toNatClampNeg (lN 0)) Q) : Wp d mdX12_laysTests 2 [(0, .ref a0), (1, .int x1), (2, .int x2)] [] M Q := by
  refine r_iload_n dX12_laysTests_2 rfl 2 rfl ?_
  refine r_ldc dX12_laysTests_3 kwX12_113 ?_
  refine r_icmp_ge (tgt := 21) dX12_laysTests_5 (by decide) (fun c0 => ?_) (fun c0 => ?_)
  · skip
    refine r_aload_n dX12_laysTests_21 rfl 0 rfl ?_
    refine r_iconst (v := (nI 0)) dX12_laysTests_22 rfl ?_
    refine r_putI ck10 dX12_laysTests_23 flX12_364 rfl (Or.inl rfl) k0 ?_
    refine r_aload_n dX12_laysTests_26 rfl 0 rfl ?_
    refine r_iconst (v := (nI 0)) dX12_laysTests_27 rfl ?_
    refine r_putI ck10 dX12_laysTests_28 flX12_367 rfl (Or.inl rfl) k0 ?_
    refine r_aload_n dX12_laysTests_31 rfl 0 rfl ?_
    refine r_iconst (v := (nI 0)) dX12_laysTests_32 rfl ?_
    refine r_putI ck10 dX12_laysTests_33 flX12_370 rfl (Or.inl rfl) k0 ?_
    refine r_aload_n dX12_laysTests_36 rfl 0 rfl ?_
    refine r_iconst (v := (nI 0)) dX12_laysTests_37 rfl ?_
    refine r_putI ck10 dX12_laysTests_38 flX12_376 rfl (Or.inl rfl) k0 ?_
    refine r_aload_n dX12_laysTests_41 rfl 0 rfl ?_
    refine r_lconst (v := (lN 0)) dX12_laysTests_42 rfl ?_
    refine r_putJ ck10 dX12_laysTests_43 flX12_379 rfl (Or.inl rfl) k0 ?_
    refine r_aload_n dX12_laysTests_46 rfl 0 rfl ?_
    refine r_sub [0, 1] (ls' := [(0, .ref a0), (1, .int x1)]) rfl ?_
    obtain ⟨e9, hlt, h9⟩ := (pf0 c0)
    exact r_callV (As := []) (rest := []) (ci := 10) moX12_laysEnds dX12_laysTests_47 mlX12_392 imX12_laysEnds seX12_laysEnds k0 rfl hlt (Nat.le_of_ble_eq_true rfl) h9
  · skip
    refine r_aload_n dX12_laysTests_8 rfl 0 rfl ?_
    refine r_getR ck10 dX12_laysTests_9 flX12_163 rfl k0 ?_
    refine r_iload_n dX12_laysTests_12 rfl 2 rfl ?_
    refine r_lconst (v := (lN 0)) dX12_laysTests_13 rfl ?_
    refine r_last dX12_laysTests_14 k1 (pb1 c0) ?_
    refine r_iinc dX12_laysTests_15 2 rfl (v := x2 + (nI 1)) rfl (by decide) (ls' := [(2, .int (x2 + (nI 1))), (0, .ref a0), (1, .int x1)]) rfl ?_
    refine r_goto (tgt := 2) dX12_laysTests_18 (by decide) ?_
    refine r_sub [1, 2, 0] (ls' := [(0, .ref a0), (1, .int x1), (2, .int (x2 + (nI 1)))]) rfl ?_
    exact (pw2 c0)
theorem gX12_laysTests_50 {d : Nat} {Q : Option Value → Mem → Prop} {M : Mem} {a0 : Nat} {x1 : Int32} (k0 : mK M a0 = 14) (pf0 : ClD d mdX12_laysReaching [.ref a0, .int (nI 1)] M (fun r1 M1 => Wp d mdX12_laysTests 55 [(0, .ref a0), (1, .int x1)] (r1.toList ++ []) M1 Q)) : Wp d mdX12_laysTests 50 [(0, .ref a0), (1, .int x1)] [] M Q := by
  refine r_aload_n dX12_laysTests_50 rfl 0 rfl ?_
  refine r_iconst (v := (nI 1)) dX12_laysTests_51 rfl ?_
  obtain ⟨e9, hlt, h9⟩ := pf0
  exact r_callV (As := [.int (nI 1)]) (rest := []) (ci := 10) moX12_laysReaching dX12_laysTests_52 mlX12_395 imX12_laysReaching seX12_laysReaching k0 rfl hlt (Nat.le_of_ble_eq_true rfl) h9
theorem gX12_laysTests_55 {d : Nat} {Q : Option Value → Mem → Prop} {M : Mem} {a0 : Nat} {x1 : Int32}  (pw0 : Wp d mdX12_laysTests 57 [(0, .ref a0), (1, .int x1), (2, .int (nI 0))] [] M Q) : Wp d mdX12_laysTests 55 [(0, .ref a0), (1, .int x1)] [] M Q := by
  refine r_iconst (v := (nI 0)) dX12_laysTests_55 rfl ?_
  refine r_istore_n dX12_laysTests_56 rfl (by decide) (ls' := [(2, .int (nI 0)), (0, .ref a0), (1, .int x1)]) rfl ?_
  refine r_sub [1, 2, 0] (ls' := [(0, .ref a0), (1, .int x1), (2, .int (nI 0))]) rfl ?_
  exact pw0
theorem gX12_laysTests_57 {d : Nat} {Q : Option Value → Mem → Prop} {M : Mem} {a0 : Nat} {x1 : Int32} {x2 : Int32} (k0 : mK M a0 = 14) (k1 : mK M (mR M a0 4) = 1) (k2 : mK M (mR M a0 40) = 2) (pb0 : vp_in (nI 1) (mN M (mR M a0 4))) (pq1 : (mI M (mR M a0 4) (nI 1).toNatClampNeg) ≤ x2 → Q none M) (pb2 : ¬ (mI M (mR M a0 4) (nI 1).toNatClampNeg) ≤ x2 → vp_in x2 (mN M (mR M a0 40))) (pb3 : ¬ (mI M (mR M a0 4) (nI 1).toNatClampNeg) ≤ x2 → ¬ (mJ M (mR M a0 40) x2.toNatClampNeg) = (lN 0) → vp_in x2 (mN M (mR M a0 40))) (pf4 : ¬ (mI M (mR M a0 4) (nI 1).toNatClampNeg) ≤ x2 → ¬ (mJ M (mR M a0 40) x2.toNatClampNeg) = (lN 0) → ClD d mdX12_testsBehind [.ref a0, .long (mJ M (mR M a0 40) x2.toNatClampNeg), .int x1] M (fun r1 M1 => Wp d mdX12_laysTests 92 [(0, .ref a0), (1, .int x1), (2, .int x2)] (r1.toList ++ []) M1 Q)) (pw5 : ¬ (mI M (mR M a0 4) (nI 1).toNatClampNeg) ≤ x2 → (mJ M (mR M a0 40) x2.toNatClampNeg) = (lN 0) → Wp d mdX12_laysTests 57 [(0, .ref a0), (1, .int x1), (2, .int (x2 + (nI 1)))] [] M Q) : Wp d mdX12_laysTests 57 [(0, .ref a0), (1, .int x1), (2, .int x2)] [] M Q := by
  refine r_iload_n dX12_laysTests_57 rfl 2 rfl ?_
  refine r_aload_n dX12_laysTests_58 rfl 0 rfl ?_
  refine r_getR ck10 dX12_laysTests_59 flX12_21 rfl k0 ?_
  refine r_iconst (v := (nI 1)) dX12_laysTests_62 rfl ?_
  refine r_iald dX12_laysTests_63 k1 pb0 ?_
  refine r_icmp_ge (tgt := 129) dX12_laysTests_64 (by decide) (fun c0 => ?_) (fun c0 => ?_)
  · skip
    exact r_ret none dX12_laysTests_129 rfl (pq1 c0)
  · skip
    refine r_aload_n dX12_laysTests_67 rfl 0 rfl ?_
    refine r_getR ck10 dX12_laysTests_68 flX12_160 rfl k0 ?_
    refine r_iload_n dX12_laysTests_71 rfl 2 rfl ?_
    refine r_lald dX12_laysTests_72 k2 (pb2 c0) ?_
    refine r_lconst (v := (lN 0)) dX12_laysTests_73 rfl ?_
    refine r_lif_ne (tgt := 81) dX12_laysTests_74 dX12_laysTests_75 (by decide) (fun c1 => ?_) (fun c1 => ?_)
    · skip
      refine r_aload_n dX12_laysTests_81 rfl 0 rfl ?_
      refine r_aload_n dX12_laysTests_82 rfl 0 rfl ?_
      refine r_getR ck10 dX12_laysTests_83 flX12_160 rfl k0 ?_
      refine r_iload_n dX12_laysTests_86 rfl 2 rfl ?_
      refine r_lald dX12_laysTests_87 k2 (pb3 c0 c1) ?_
      refine r_iload_n dX12_laysTests_88 rfl 1 rfl ?_
      obtain ⟨e9, hlt, h9⟩ := (pf4 c0 c1)
      exact r_callV (As := [.long (mJ M (mR M a0 40) x2.toNatClampNeg), .int x1]) (rest := []) (ci := 10) moX12_testsBehind dX12_laysTests_89 mlX12_388 imX12_testsBehind seX12_testsBehind k0 rfl hlt (Nat.le_of_ble_eq_true rfl) h9
    · skip
      refine r_goto (tgt := 123) dX12_laysTests_78 (by decide) ?_
      refine r_iinc dX12_laysTests_123 2 rfl (v := x2 + (nI 1)) rfl (by decide) (ls' := [(2, .int (x2 + (nI 1))), (0, .ref a0), (1, .int x1)]) rfl ?_
      refine r_goto (tgt := 57) dX12_laysTests_126 (by decide) ?_
      refine r_sub [1, 2, 0] (ls' := [(0, .ref a0), (1, .int x1), (2, .int (x2 + (nI 1)))]) rfl ?_
      exact (pw5 c0 c1)
theorem gX12_laysTests_92 {d : Nat} {Q : Option Value → Mem → Prop} {M : Mem} {a0 : Nat} {x1 : Int32} {x2 : Int32}  (pw0 : Wp d mdX12_laysTests 94 [(0, .ref a0), (1, .int x1), (2, .int x2), (3, .int (nI 0))] [] M Q) : Wp d mdX12_laysTests 92 [(0, .ref a0), (1, .int x1), (2, .int x2)] [] M Q := by
  refine r_iconst (v := (nI 0)) dX12_laysTests_92 rfl ?_
  refine r_istore_n dX12_laysTests_93 rfl (by decide) (ls' := [(3, .int (nI 0)), (0, .ref a0), (1, .int x1), (2, .int x2)]) rfl ?_
  refine r_sub [1, 2, 3, 0] (ls' := [(0, .ref a0), (1, .int x1), (2, .int x2), (3, .int (nI 0))]) rfl ?_
  exact pw0
theorem gX12_laysTests_94 {d : Nat} {Q : Option Value → Mem → Prop} {M : Mem} {a0 : Nat} {x1 : Int32} {x2 : Int32} {x3 : Int32} (k0 : mK M a0 = 14) (k1 : mK M (mR M a0 40) = 2) (pw0 : (mI M a0 3) ≤ x3 → Wp d mdX12_laysTests 57 [(0, .ref a0), (1, .int x1), (2, .int (x2 + (nI 1)))] [] M Q) (pb1 : ¬ (mI M a0 3) ≤ x3 → vp_in x2 (mN M (mR M a0 40))) (pf2 : ¬ (mI M a0 3) ≤ x3 → ClD d mdX12_longer [.long (mJ M (mR M a0 40) x2.toNatClampNeg), .int x3] M (fun r1 M1 => Wp d mdX12_laysTests 113 [(0, .ref a0), (1, .int x1), (2, .int x2), (3, .int x3)] (r1.toList ++ [.ref a0]) M1 Q)) : Wp d mdX12_laysTests 94 [(0, .ref a0), (1, .int x1), (2, .int x2), (3, .int x3)] [] M Q := by
  refine r_iload_n dX12_laysTests_94 rfl 3 rfl ?_
  refine r_aload_n dX12_laysTests_95 rfl 0 rfl ?_
  refine r_getI ck10 dX12_laysTests_96 flX12_30 rfl k0 ?_
  refine r_icmp_ge (tgt := 123) dX12_laysTests_99 (by decide) (fun c0 => ?_) (fun c0 => ?_)
  · skip
    refine r_iinc dX12_laysTests_123 2 rfl (v := x2 + (nI 1)) rfl (by decide) (ls' := [(2, .int (x2 + (nI 1))), (0, .ref a0), (1, .int x1), (3, .int x3)]) rfl ?_
    refine r_goto (tgt := 57) dX12_laysTests_126 (by decide) ?_
    refine r_sub [1, 2, 0] (ls' := [(0, .ref a0), (1, .int x1), (2, .int (x2 + (nI 1)))]) rfl ?_
    exact (pw0 c0)
  · skip
    refine r_aload_n dX12_laysTests_102 rfl 0 rfl ?_
    refine r_aload_n dX12_laysTests_103 rfl 0 rfl ?_
    refine r_getR ck10 dX12_laysTests_104 flX12_160 rfl k0 ?_
    refine r_iload_n dX12_laysTests_107 rfl 2 rfl ?_
    refine r_lald dX12_laysTests_108 k1 (pb1 c0) ?_
    refine r_iload_n dX12_laysTests_109 rfl 3 rfl ?_
    obtain ⟨e9, hlt, h9⟩ := (pf2 c0)
    exact r_callS (As := [.long (mJ M (mR M a0 40) x2.toNatClampNeg), .int x3]) (rest := [.ref a0]) moX12_longer dX12_laysTests_110 mlX12_80 saX12_longer rfl hlt (Nat.le_of_ble_eq_true rfl) h9
theorem gX12_laysTests_113 {d : Nat} {Q : Option Value → Mem → Prop} {M : Mem} {a0 : Nat} {x1 : Int32} {x2 : Int32} {x3 : Int32} {sw0 : Int64} {sa1 : Nat} (k0 : mK M sa1 = 14) (pf0 : ClD d mdX12_testsBehind [.ref sa1, .long sw0, .int x1] M (fun r1 M1 => Wp d mdX12_laysTests 117 [(0, .ref a0), (1, .int x1), (2, .int x2), (3, .int x3)] (r1.toList ++ []) M1 Q)) : Wp d mdX12_laysTests 113 [(0, .ref a0), (1, .int x1), (2, .int x2), (3, .int x3)] [.long sw0, .ref sa1] M Q := by
  refine r_iload_n dX12_laysTests_113 rfl 1 rfl ?_
  obtain ⟨e9, hlt, h9⟩ := pf0
  exact r_callV (As := [.long sw0, .int x1]) (rest := []) (ci := 10) moX12_testsBehind dX12_laysTests_114 mlX12_388 imX12_testsBehind seX12_testsBehind k0 rfl hlt (Nat.le_of_ble_eq_true rfl) h9
theorem gX12_laysTests_117 {d : Nat} {Q : Option Value → Mem → Prop} {M : Mem} {a0 : Nat} {x1 : Int32} {x2 : Int32} {x3 : Int32}  (pw0 : Wp d mdX12_laysTests 94 [(0, .ref a0), (1, .int x1), (2, .int x2), (3, .int (x3 + (nI 1)))] [] M Q) : Wp d mdX12_laysTests 117 [(0, .ref a0), (1, .int x1), (2, .int x2), (3, .int x3)] [] M Q := by
  refine r_iinc dX12_laysTests_117 3 rfl (v := x3 + (nI 1)) rfl (by decide) (ls' := [(3, .int (x3 + (nI 1))), (0, .ref a0), (1, .int x1), (2, .int x2)]) rfl ?_
  refine r_goto (tgt := 94) dX12_laysTests_120 (by decide) ?_
  refine r_sub [1, 2, 3, 0] (ls' := [(0, .ref a0), (1, .int x1), (2, .int x2), (3, .int (x3 + (nI 1)))]) rfl ?_
  exact pw0
-- X12_tests_
theorem gX12_tests__0 {d : Nat} {Q : Option Value → Mem → Prop} {M : Mem} {a0 : Nat} {x1 : Int32} (k0 : mK M a0 = 14) (pf0 : ClD d mdX12_in [.long x1.toInt64, .long (lN 0), .long (lN 2)] (sI M a0 0 (nI 0)) (fun r1 M1 => Wp d mdX12_tests_ 14 [(0, .ref a0), (1, .int x1)] (r1.toList ++ []) M1 Q)) : Wp d mdX12_tests_ 0 [(0, .ref a0), (1, .int x1)] [] M Q := by
  refine r_aload_n dX12_tests__0 rfl 0 rfl ?_
  refine r_iconst (v := (nI 0)) dX12_tests__1 rfl ?_
  refine r_putI ck10 dX12_tests__2 flX12_1 rfl (Or.inl rfl) k0 ?_
  refine r_iload_n dX12_tests__5 rfl 1 rfl ?_
  refine r_i2l dX12_tests__6 ?_
  refine r_lconst (v := (lN 0)) dX12_tests__7 rfl ?_
  refine r_ldc2 dX12_tests__8 kwX12_398 ?_
  obtain ⟨e9, hlt, h9⟩ := pf0
  exact r_callS (As := [.long x1.toInt64, .long (lN 0), .long (lN 2)]) (rest := []) moX12_in dX12_tests__11 mlX12_24 saX12_in rfl hlt (Nat.le_of_ble_eq_true rfl) h9
theorem gX12_tests__14 {d : Nat} {Q : Option Value → Mem → Prop} {M : Mem} {a0 : Nat} {x1 : Int32} {sx0 : Int32} (k0 : mK M a0 = 14) (k1 : mK M (mR M a0 20) = 3) (pb0 : ¬ sx0 = 0 → vp_in (nI 0) (mN M (mR M a0 20))) (pf1 : ¬ sx0 = 0 → ¬ (mI M (mR M a0 20) (nI 0).toNatClampNeg) = 0 → ClD d mdX12_laysTests [.ref a0, .int x1] M (fun r1 M1 => Wp d mdX12_tests_ 36 [(0, .ref a0)] (r1.toList ++ []) M1 Q)) (pq2 : ¬ sx0 = 0 → (mI M (mR M a0 20) (nI 0).toNatClampNeg) = 0 → Q (some (.int (-2 : Int32))) M) (pq3 : sx0 = 0 → Q (some (.int (-1 : Int32))) M) : Wp d mdX12_tests_ 14 [(0, .ref a0), (1, .int x1)] [.int sx0] M Q := by
  refine r_if_ne (tgt := 19) dX12_tests__14 (by decide) (fun c0 => ?_) (fun c0 => ?_)
  · skip
    refine r_aload_n dX12_tests__19 rfl 0 rfl ?_
    refine r_getR ck10 dX12_tests__20 flX12_126 rfl k0 ?_
    refine r_iconst (v := (nI 0)) dX12_tests__23 rfl ?_
    refine r_zald dX12_tests__24 k1 (pb0 c0) ?_
    refine r_if_ne (tgt := 31) dX12_tests__25 (by decide) (fun c1 => ?_) (fun c1 => ?_)
    · skip
      refine r_aload_n dX12_tests__31 rfl 0 rfl ?_
      refine r_iload_n dX12_tests__32 rfl 1 rfl ?_
      refine r_sub [0] (ls' := [(0, .ref a0)]) rfl ?_
      obtain ⟨e9, hlt, h9⟩ := (pf1 c0 c1)
      exact r_callV (As := [.int x1]) (rest := []) (ci := 10) moX12_laysTests dX12_tests__33 mlX12_400 imX12_laysTests seX12_laysTests k0 rfl hlt (Nat.le_of_ble_eq_true rfl) h9
    · skip
      refine r_bipush (v := (-2)) dX12_tests__28 rfl ?_
      exact r_ret (some (.int (-2 : Int32))) dX12_tests__30 rfl (pq2 c0 c1)
  · skip
    refine r_iconst (v := (-1)) dX12_tests__17 rfl ?_
    exact r_ret (some (.int (-1 : Int32))) dX12_tests__18 rfl (pq3 c0)
theorem gX12_tests__36 {d : Nat} {Q : Option Value → Mem → Prop} {M : Mem} {a0 : Nat} (k0 : mK M a0 = 14) (pf0 : ClD d mdX12_enters [.ref a0, .long ((mI (sI M a0 1 (nI 0)) a0 43).toInt64)] (sI M a0 1 (nI 0)) (fun r1 M1 => Wp d mdX12_tests_ 50 [(0, .ref a0)] (r1.toList ++ []) M1 Q)) : Wp d mdX12_tests_ 36 [(0, .ref a0)] [] M Q := by
  refine r_aload_n dX12_tests__36 rfl 0 rfl ?_
  refine r_iconst (v := (nI 0)) dX12_tests__37 rfl ?_
  refine r_putI ck10 dX12_tests__38 flX12_11 rfl (Or.inl rfl) k0 ?_
  refine r_aload_n dX12_tests__41 rfl 0 rfl ?_
  refine r_aload_n dX12_tests__42 rfl 0 rfl ?_
  refine r_getI ck10 dX12_tests__43 flX12_367 rfl k0 ?_
  refine r_i2l dX12_tests__46 ?_
  obtain ⟨e9, hlt, h9⟩ := pf0
  exact r_callV (As := [.long ((mI (sI M a0 1 (nI 0)) a0 43).toInt64)]) (rest := []) (ci := 10) moX12_enters dX12_tests__47 mlX12_343 imX12_enters seX12_enters k0 rfl hlt (Nat.le_of_ble_eq_true rfl) h9
theorem gX12_tests__50 {d : Nat} {Q : Option Value → Mem → Prop} {M : Mem} {a0 : Nat} (k0 : mK M a0 = 14) (pf0 : ClD d mdX12_enters [.ref a0, .long ((mI M a0 44).toInt64)] M (fun r1 M1 => Wp d mdX12_tests_ 59 [(0, .ref a0)] (r1.toList ++ []) M1 Q)) : Wp d mdX12_tests_ 50 [(0, .ref a0)] [] M Q := by
  refine r_aload_n dX12_tests__50 rfl 0 rfl ?_
  refine r_aload_n dX12_tests__51 rfl 0 rfl ?_
  refine r_getI ck10 dX12_tests__52 flX12_370 rfl k0 ?_
  refine r_i2l dX12_tests__55 ?_
  obtain ⟨e9, hlt, h9⟩ := pf0
  exact r_callV (As := [.long ((mI M a0 44).toInt64)]) (rest := []) (ci := 10) moX12_enters dX12_tests__56 mlX12_343 imX12_enters seX12_enters k0 rfl hlt (Nat.le_of_ble_eq_true rfl) h9
theorem gX12_tests__59 {d : Nat} {Q : Option Value → Mem → Prop} {M : Mem} {a0 : Nat} (k0 : mK M a0 = 14) (pf0 : ClD d mdX12_enters [.ref a0, .long ((mI M a0 45).toInt64)] M (fun r1 M1 => Wp d mdX12_tests_ 68 [(0, .ref a0)] (r1.toList ++ []) M1 Q)) : Wp d mdX12_tests_ 59 [(0, .ref a0)] [] M Q := by
  refine r_aload_n dX12_tests__59 rfl 0 rfl ?_
  refine r_aload_n dX12_tests__60 rfl 0 rfl ?_
  refine r_getI ck10 dX12_tests__61 flX12_376 rfl k0 ?_
  refine r_i2l dX12_tests__64 ?_
  obtain ⟨e9, hlt, h9⟩ := pf0
  exact r_callV (As := [.long ((mI M a0 45).toInt64)]) (rest := []) (ci := 10) moX12_enters dX12_tests__65 mlX12_343 imX12_enters seX12_enters k0 rfl hlt (Nat.le_of_ble_eq_true rfl) h9
theorem gX12_tests__68 {d : Nat} {Q : Option Value → Mem → Prop} {M : Mem} {a0 : Nat} (k0 : mK M a0 = 14) (pq0 : Q (some (.int (mI M a0 42))) M) : Wp d mdX12_tests_ 68 [(0, .ref a0)] [] M Q := by
  refine r_aload_n dX12_tests__68 rfl 0 rfl ?_
  refine r_getI ck10 dX12_tests__69 flX12_364 rfl k0 ?_
  exact r_ret (some (.int (mI M a0 42))) dX12_tests__72 rfl pq0
-- X12_passes
theorem gX12_passes_0 {d : Nat} {Q : Option Value → Mem → Prop} {M : Mem} {a0 : Nat} {x1 : Int32} (k0 : mK M a0 = 14) (pf0 : ClD d mdX12_in [.long x1.toInt64, .long (lN 0), .long (lN 2)] (sI M a0 0 (nI 0)) (fun r1 M1 => Wp d mdX12_passes 14 [(0, .ref a0), (1, .int x1)] (r1.toList ++ []) M1 Q)) : Wp d mdX12_passes 0 [(0, .ref a0), (1, .int x1)] [] M Q := by
  refine r_aload_n dX12_passes_0 rfl 0 rfl ?_
  refine r_iconst (v := (nI 0)) dX12_passes_1 rfl ?_
  refine r_putI ck10 dX12_passes_2 flX12_1 rfl (Or.inl rfl) k0 ?_
  refine r_iload_n dX12_passes_5 rfl 1 rfl ?_
  refine r_i2l dX12_passes_6 ?_
  refine r_lconst (v := (lN 0)) dX12_passes_7 rfl ?_
  refine r_ldc2 dX12_passes_8 kwX12_398 ?_
  obtain ⟨e9, hlt, h9⟩ := pf0
  exact r_callS (As := [.long x1.toInt64, .long (lN 0), .long (lN 2)]) (rest := []) moX12_in dX12_passes_11 mlX12_24 saX12_in rfl hlt (Nat.le_of_ble_eq_true rfl) h9
theorem gX12_passes_14 {d : Nat} {Q : Option Value → Mem → Prop} {M : Mem} {a0 : Nat} {x1 : Int32} {sx0 : Int32} (k0 : mK M a0 = 14) (k1 : mK M (mR M a0 20) = 3) (pb0 : ¬ sx0 = 0 → vp_in (nI 0) (mN M (mR M a0 20))) (pf1 : ¬ sx0 = 0 → ¬ (mI M (mR M a0 20) (nI 0).toNatClampNeg) = 0 → ClD d mdX12_laysTests [.ref a0, .int x1] M (fun r1 M1 => Wp d mdX12_passes 39 [(0, .ref a0)] (r1.toList ++ []) M1 Q)) (pq2 : ¬ sx0 = 0 → (mI M (mR M a0 20) (nI 0).toNatClampNeg) = 0 → Q (some (.long (-2 : Int64))) M) (pq3 : sx0 = 0 → Q (some (.long (-1 : Int64))) M) : Wp d mdX12_passes 14 [(0, .ref a0), (1, .int x1)] [.int sx0] M Q := by
  refine r_if_ne (tgt := 21) dX12_passes_14 (by decide) (fun c0 => ?_) (fun c0 => ?_)
  · skip
    refine r_aload_n dX12_passes_21 rfl 0 rfl ?_
    refine r_getR ck10 dX12_passes_22 flX12_126 rfl k0 ?_
    refine r_iconst (v := (nI 0)) dX12_passes_25 rfl ?_
    refine r_zald dX12_passes_26 k1 (pb0 c0) ?_
    refine r_if_ne (tgt := 34) dX12_passes_27 (by decide) (fun c1 => ?_) (fun c1 => ?_)
    · skip
      refine r_aload_n dX12_passes_34 rfl 0 rfl ?_
      refine r_iload_n dX12_passes_35 rfl 1 rfl ?_
      refine r_sub [0] (ls' := [(0, .ref a0)]) rfl ?_
      obtain ⟨e9, hlt, h9⟩ := (pf1 c0 c1)
      exact r_callV (As := [.int x1]) (rest := []) (ci := 10) moX12_laysTests dX12_passes_36 mlX12_400 imX12_laysTests seX12_laysTests k0 rfl hlt (Nat.le_of_ble_eq_true rfl) h9
    · skip
      refine r_ldc2 dX12_passes_30 kwX12_359 ?_
      exact r_ret (some (.long (-2 : Int64))) dX12_passes_33 rfl (pq2 c0 c1)
  · skip
    refine r_ldc2 dX12_passes_17 kwX12_59 ?_
    exact r_ret (some (.long (-1 : Int64))) dX12_passes_20 rfl (pq3 c0)
theorem gX12_passes_39 {d : Nat} {Q : Option Value → Mem → Prop} {M : Mem} {a0 : Nat} (k0 : mK M a0 = 14) (pq0 : Q (some (.long (mJ M a0 46))) M) : Wp d mdX12_passes 39 [(0, .ref a0)] [] M Q := by
  refine r_aload_n dX12_passes_39 rfl 0 rfl ?_
  refine r_getJ ck10 dX12_passes_40 flX12_379 rfl k0 ?_
  exact r_ret (some (.long (mJ M a0 46))) dX12_passes_43 rfl pq0
-- X12_parted
theorem gX12_parted_0 {d : Nat} {Q : Option Value → Mem → Prop} {M : Mem} {a0 : Nat} {x1 : Int32} {x2 : Int32} (k0 : mK M a0 = 14) (pf0 : ClD d mdX12_why [.ref a0, .int x1] (sI M a0 0 (nI 0)) (fun r1 M1 => Wp d mdX12_parted 10 [(0, .ref a0), (1, .int x1), (2, .int x2)] (r1.toList ++ []) M1 Q)) : Wp d mdX12_parted 0 [(0, .ref a0), (1, .int x1), (2, .int x2)] [] M Q := by
  refine r_aload_n dX12_parted_0 rfl 0 rfl ?_
  refine r_iconst (v := (nI 0)) dX12_parted_1 rfl ?_
  refine r_putI ck10 dX12_parted_2 flX12_1 rfl (Or.inl rfl) k0 ?_
  refine r_aload_n dX12_parted_5 rfl 0 rfl ?_
  refine r_iload_n dX12_parted_6 rfl 1 rfl ?_
  obtain ⟨e9, hlt, h9⟩ := pf0
  exact r_callV (As := [.int x1]) (rest := []) (ci := 10) moX12_why dX12_parted_7 mlX12_356 imX12_why seX12_why k0 rfl hlt (Nat.le_of_ble_eq_true rfl) h9
theorem gX12_parted_10 {d : Nat} {Q : Option Value → Mem → Prop} {M : Mem} {a0 : Nat} {x1 : Int32} {x2 : Int32} {sx0 : Int32} (k0 : mK M a0 = 14) (pq0 : sx0 = (-1 : Int32) → Q (some (.long (-1 : Int64))) M) (pf1 : ¬ sx0 = (-1 : Int32) → ClD d mdX12_why [.ref a0, .int x2] M (fun r1 M1 => Wp d mdX12_parted 19 [(0, .ref a0), (1, .int x1), (2, .int x2)] (r1.toList ++ []) M1 Q)) : Wp d mdX12_parted 10 [(0, .ref a0), (1, .int x1), (2, .int x2)] [.int sx0] M Q := by
  refine r_iconst (v := (-1)) dX12_parted_10 rfl ?_
  refine r_icmp_eq (tgt := 23) dX12_parted_11 (by decide) (fun c0 => ?_) (fun c0 => ?_)
  · skip
    refine r_ldc2 dX12_parted_23 kwX12_59 ?_
    exact r_ret (some (.long (-1 : Int64))) dX12_parted_26 rfl (pq0 c0)
  · skip
    refine r_aload_n dX12_parted_14 rfl 0 rfl ?_
    refine r_iload_n dX12_parted_15 rfl 2 rfl ?_
    obtain ⟨e9, hlt, h9⟩ := (pf1 c0)
    exact r_callV (As := [.int x2]) (rest := []) (ci := 10) moX12_why dX12_parted_16 mlX12_356 imX12_why seX12_why k0 rfl hlt (Nat.le_of_ble_eq_true rfl) h9
theorem gX12_parted_19 {d : Nat} {Q : Option Value → Mem → Prop} {M : Mem} {a0 : Nat} {x1 : Int32} {x2 : Int32} {sx0 : Int32} (k0 : mK M a0 = 14) (k1 : mK M (mR M a0 20) = 3) (pb0 : ¬ sx0 = (-1 : Int32) → vp_in (nI 0) (mN M (mR M a0 20))) (pq1 : ¬ sx0 = (-1 : Int32) → (mI M (mR M a0 20) (nI 0).toNatClampNeg) = 0 → Q (some (.long (-2 : Int64))) M) (pf2 : ¬ sx0 = (-1 : Int32) → ¬ (mI M (mR M a0 20) (nI 0).toNatClampNeg) = 0 → ClD d mdX12_firstUnlike [.ref a0, .int (nI 1), .int x1, .int (nI 1), .int x2] M (fun r1 M1 => Wp d mdX12_parted 44 [] (r1.toList ++ []) M1 Q)) (pq3 : sx0 = (-1 : Int32) → Q (some (.long (-1 : Int64))) M) : Wp d mdX12_parted 19 [(0, .ref a0), (1, .int x1), (2, .int x2)] [.int sx0] M Q := by
  refine r_iconst (v := (-1)) dX12_parted_19 rfl ?_
  refine r_icmp_ne (tgt := 27) dX12_parted_20 (by decide) (fun c0 => ?_) (fun c0 => ?_)
  · skip
    refine r_aload_n dX12_parted_27 rfl 0 rfl ?_
    refine r_getR ck10 dX12_parted_28 flX12_126 rfl k0 ?_
    refine r_iconst (v := (nI 0)) dX12_parted_31 rfl ?_
    refine r_zald dX12_parted_32 k1 (pb0 c0) ?_
    refine r_if_eq (tgt := 47) dX12_parted_33 (by decide) (fun c1 => ?_) (fun c1 => ?_)
    · skip
      refine r_ldc2 dX12_parted_47 kwX12_359 ?_
      exact r_ret (some (.long (-2 : Int64))) dX12_parted_50 rfl (pq1 c0 c1)
    · skip
      refine r_aload_n dX12_parted_36 rfl 0 rfl ?_
      refine r_iconst (v := (nI 1)) dX12_parted_37 rfl ?_
      refine r_iload_n dX12_parted_38 rfl 1 rfl ?_
      refine r_iconst (v := (nI 1)) dX12_parted_39 rfl ?_
      refine r_iload_n dX12_parted_40 rfl 2 rfl ?_
      refine r_sub [] (ls' := []) rfl ?_
      obtain ⟨e9, hlt, h9⟩ := (pf2 c0 c1)
      exact r_callV (As := [.int (nI 1), .int x1, .int (nI 1), .int x2]) (rest := []) (ci := 10) moX12_firstUnlike dX12_parted_41 mlX12_276 imX12_firstUnlike seX12_firstUnlike k0 rfl hlt (Nat.le_of_ble_eq_true rfl) h9
  · skip
    refine r_ldc2 dX12_parted_23 kwX12_59 ?_
    exact r_ret (some (.long (-1 : Int64))) dX12_parted_26 rfl (pq3 c0)
theorem gX12_parted_44 {d : Nat} {Q : Option Value → Mem → Prop} {M : Mem} {sw0 : Int64}  (pq0 : Q (some (.long sw0)) M) : Wp d mdX12_parted 44 [] [.long sw0] M Q := by
  refine r_goto (tgt := 50) dX12_parted_44 (by decide) ?_
  exact r_ret (some (.long sw0)) dX12_parted_50 rfl pq0
-- X12_like
theorem gX12_like_0 {d : Nat} {Q : Option Value → Mem → Prop} {M : Mem} {a0 : Nat} {x1 : Int32} {x2 : Int32} (k0 : mK M a0 = 14) (pf0 : ClD d mdX12_isState [.ref a0, .int (nI 0), .int x1] (sI M a0 0 (nI 0)) (fun r1 M1 => Wp d mdX12_like 11 [(0, .ref a0), (1, .int x1), (2, .int x2)] (r1.toList ++ []) M1 Q)) : Wp d mdX12_like 0 [(0, .ref a0), (1, .int x1), (2, .int x2)] [] M Q := by
  refine r_aload_n dX12_like_0 rfl 0 rfl ?_
  refine r_iconst (v := (nI 0)) dX12_like_1 rfl ?_
  refine r_putI ck10 dX12_like_2 flX12_1 rfl (Or.inl rfl) k0 ?_
  refine r_aload_n dX12_like_5 rfl 0 rfl ?_
  refine r_iconst (v := (nI 0)) dX12_like_6 rfl ?_
  refine r_iload_n dX12_like_7 rfl 1 rfl ?_
  obtain ⟨e9, hlt, h9⟩ := pf0
  exact r_callV (As := [.int (nI 0), .int x1]) (rest := []) (ci := 10) moX12_isState dX12_like_8 mlX12_330 imX12_isState seX12_isState k0 rfl hlt (Nat.le_of_ble_eq_true rfl) h9
theorem gX12_like_11 {d : Nat} {Q : Option Value → Mem → Prop} {M : Mem} {a0 : Nat} {x1 : Int32} {x2 : Int32} {sx0 : Int32} (k0 : mK M a0 = 14) (pq0 : sx0 = 0 → Q (some (.long (-1 : Int64))) M) (pf1 : ¬ sx0 = 0 → ClD d mdX12_isState [.ref a0, .int (nI 0), .int x2] M (fun r1 M1 => Wp d mdX12_like 20 [(0, .ref a0), (1, .int x1), (2, .int x2)] (r1.toList ++ []) M1 Q)) : Wp d mdX12_like 11 [(0, .ref a0), (1, .int x1), (2, .int x2)] [.int sx0] M Q := by
  refine r_if_eq (tgt := 34) dX12_like_11 (by decide) (fun c0 => ?_) (fun c0 => ?_)
  · skip
    refine r_ldc2 dX12_like_34 kwX12_59 ?_
    exact r_ret (some (.long (-1 : Int64))) dX12_like_37 rfl (pq0 c0)
  · skip
    refine r_aload_n dX12_like_14 rfl 0 rfl ?_
    refine r_iconst (v := (nI 0)) dX12_like_15 rfl ?_
    refine r_iload_n dX12_like_16 rfl 2 rfl ?_
    obtain ⟨e9, hlt, h9⟩ := (pf1 c0)
    exact r_callV (As := [.int (nI 0), .int x2]) (rest := []) (ci := 10) moX12_isState dX12_like_17 mlX12_330 imX12_isState seX12_isState k0 rfl hlt (Nat.le_of_ble_eq_true rfl) h9
theorem gX12_like_20 {d : Nat} {Q : Option Value → Mem → Prop} {M : Mem} {a0 : Nat} {x1 : Int32} {x2 : Int32} {sx0 : Int32} (k0 : mK M a0 = 14) (pq0 : sx0 = 0 → Q (some (.long (-1 : Int64))) M) (pf1 : ¬ sx0 = 0 → ClD d mdX12_firstUnlike [.ref a0, .int (nI 0), .int x1, .int (nI 0), .int x2] M (fun r1 M1 => Wp d mdX12_like 31 [] (r1.toList ++ []) M1 Q)) : Wp d mdX12_like 20 [(0, .ref a0), (1, .int x1), (2, .int x2)] [.int sx0] M Q := by
  refine r_if_eq (tgt := 34) dX12_like_20 (by decide) (fun c0 => ?_) (fun c0 => ?_)
  · skip
    refine r_ldc2 dX12_like_34 kwX12_59 ?_
    exact r_ret (some (.long (-1 : Int64))) dX12_like_37 rfl (pq0 c0)
  · skip
    refine r_aload_n dX12_like_23 rfl 0 rfl ?_
    refine r_iconst (v := (nI 0)) dX12_like_24 rfl ?_
    refine r_iload_n dX12_like_25 rfl 1 rfl ?_
    refine r_iconst (v := (nI 0)) dX12_like_26 rfl ?_
    refine r_iload_n dX12_like_27 rfl 2 rfl ?_
    refine r_sub [] (ls' := []) rfl ?_
    obtain ⟨e9, hlt, h9⟩ := (pf1 c0)
    exact r_callV (As := [.int (nI 0), .int x1, .int (nI 0), .int x2]) (rest := []) (ci := 10) moX12_firstUnlike dX12_like_28 mlX12_276 imX12_firstUnlike seX12_firstUnlike k0 rfl hlt (Nat.le_of_ble_eq_true rfl) h9
theorem gX12_like_31 {d : Nat} {Q : Option Value → Mem → Prop} {M : Mem} {sw0 : Int64}  (pq0 : Q (some (.long sw0)) M) : Wp d mdX12_like 31 [] [.long sw0] M Q := by
  refine r_goto (tgt := 37) dX12_like_31 (by decide) ?_
  exact r_ret (some (.long sw0)) dX12_like_37 rfl pq0
-- X12_leastLike
theorem gX12_leastLike_0 {d : Nat} {Q : Option Value → Mem → Prop} {M : Mem} {a0 : Nat} {x1 : Int32} {x2 : Int32}  (pw0 : Wp d mdX12_leastLike 2 [(0, .ref a0), (1, .int x1), (2, .int x2), (3, .int (nI 0))] [] M Q) : Wp d mdX12_leastLike 0 [(0, .ref a0), (1, .int x1), (2, .int x2)] [] M Q := by
  refine r_iconst (v := (nI 0)) dX12_leastLike_0 rfl ?_
  refine r_istore_n dX12_leastLike_1 rfl (by decide) (ls' := [(3, .int (nI 0)), (0, .ref a0), (1, .int x1), (2, .int x2)]) rfl ?_
  refine r_sub [1, 2, 3, 0] (ls' := [(0, .ref a0), (1, .int x1), (2, .int x2), (3, .int (nI 0))]) rfl ?_
  exact pw0
theorem gX12_leastLike_2 {d : Nat} {Q : Option Value → Mem → Prop} {M : Mem} {a0 : Nat} {x1 : Int32} {x2 : Int32} {x3 : Int32} (k0 : mK M a0 = 14) (k1 : mK M (mR M a0 40) = 2) (pq0 : x1 ≤ x3 → Q (some (.int x1)) M) (pw1 : ¬ x1 ≤ x3 → x2 = 0 → Wp d mdX12_leastLike 22 [(0, .ref a0), (1, .int x1), (2, .int x2), (3, .int x3)] [] M Q) (pb2 : ¬ x1 ≤ x3 → ¬ x2 = 0 → vp_in x3 (mN M (mR M a0 40))) (pw3 : ¬ x1 ≤ x3 → ¬ x2 = 0 → (mJ M (mR M a0 40) x3.toNatClampNeg) = (lN 0) → Wp d mdX12_leastLike 2 [(0, .ref a0), (1, .int x1), (2, .int x2), (3, .int (x3 + (nI 1)))] [] M Q) (pw4 : ¬ x1 ≤ x3 → ¬ x2 = 0 → ¬ (mJ M (mR M a0 40) x3.toNatClampNeg) = (lN 0) → Wp d mdX12_leastLike 22 [(0, .ref a0), (1, .int x1), (2, .int x2), (3, .int x3)] [] M Q) : Wp d mdX12_leastLike 2 [(0, .ref a0), (1, .int x1), (2, .int x2), (3, .int x3)] [] M Q := by
  refine r_iload_n dX12_leastLike_2 rfl 3 rfl ?_
  refine r_iload_n dX12_leastLike_3 rfl 1 rfl ?_
  refine r_icmp_ge (tgt := 43) dX12_leastLike_4 (by decide) (fun c0 => ?_) (fun c0 => ?_)
  · skip
    refine r_iload_n dX12_leastLike_43 rfl 1 rfl ?_
    exact r_ret (some (.int x1)) dX12_leastLike_44 rfl (pq0 c0)
  · skip
    refine r_iload_n dX12_leastLike_7 rfl 2 rfl ?_
    refine r_if_eq (tgt := 22) dX12_leastLike_8 (by decide) (fun c1 => ?_) (fun c1 => ?_)
    · skip
      exact (pw1 c0 c1)
    · skip
      refine r_aload_n dX12_leastLike_11 rfl 0 rfl ?_
      refine r_getR ck10 dX12_leastLike_12 flX12_160 rfl k0 ?_
      refine r_iload_n dX12_leastLike_15 rfl 3 rfl ?_
      refine r_lald dX12_leastLike_16 k1 (pb2 c0 c1) ?_
      refine r_lconst (v := (lN 0)) dX12_leastLike_17 rfl ?_
      refine r_lif_eq (tgt := 37) dX12_leastLike_18 dX12_leastLike_19 (by decide) (fun c2 => ?_) (fun c2 => ?_)
      · skip
        refine r_iinc dX12_leastLike_37 3 rfl (v := x3 + (nI 1)) rfl (by decide) (ls' := [(3, .int (x3 + (nI 1))), (0, .ref a0), (1, .int x1), (2, .int x2)]) rfl ?_
        refine r_goto (tgt := 2) dX12_leastLike_40 (by decide) ?_
        refine r_sub [1, 2, 3, 0] (ls' := [(0, .ref a0), (1, .int x1), (2, .int x2), (3, .int (x3 + (nI 1)))]) rfl ?_
        exact (pw3 c0 c1 c2)
      · skip
        exact (pw4 c0 c1 c2)
theorem gX12_leastLike_22 {d : Nat} {Q : Option Value → Mem → Prop} {M : Mem} {a0 : Nat} {x1 : Int32} {x2 : Int32} {x3 : Int32} (k0 : mK M a0 = 14) (pf0 : ClD d mdX12_firstUnlike [.ref a0, .int (nI 0), .int x1, .int (nI 0), .int x3] M (fun r1 M1 => Wp d mdX12_leastLike 30 [(0, .ref a0), (1, .int x1), (2, .int x2), (3, .int x3)] (r1.toList ++ []) M1 Q)) : Wp d mdX12_leastLike 22 [(0, .ref a0), (1, .int x1), (2, .int x2), (3, .int x3)] [] M Q := by
  refine r_aload_n dX12_leastLike_22 rfl 0 rfl ?_
  refine r_iconst (v := (nI 0)) dX12_leastLike_23 rfl ?_
  refine r_iload_n dX12_leastLike_24 rfl 1 rfl ?_
  refine r_iconst (v := (nI 0)) dX12_leastLike_25 rfl ?_
  refine r_iload_n dX12_leastLike_26 rfl 3 rfl ?_
  obtain ⟨e9, hlt, h9⟩ := pf0
  exact r_callV (As := [.int (nI 0), .int x1, .int (nI 0), .int x3]) (rest := []) (ci := 10) moX12_firstUnlike dX12_leastLike_27 mlX12_276 imX12_firstUnlike seX12_firstUnlike k0 rfl hlt (Nat.le_of_ble_eq_true rfl) h9
theorem gX12_leastLike_30 {d : Nat} {Q : Option Value → Mem → Prop} {M : Mem} {a0 : Nat} {x1 : Int32} {x2 : Int32} {x3 : Int32} {sw0 : Int64}  (pw0 : ¬ sw0 = (lN 0) → Wp d mdX12_leastLike 2 [(0, .ref a0), (1, .int x1), (2, .int x2), (3, .int (x3 + (nI 1)))] [] M Q) (pq1 : sw0 = (lN 0) → Q (some (.int x3)) M) : Wp d mdX12_leastLike 30 [(0, .ref a0), (1, .int x1), (2, .int x2), (3, .int x3)] [.long sw0] M Q := by
  refine r_lconst (v := (lN 0)) dX12_leastLike_30 rfl ?_
  refine r_lif_ne (tgt := 37) dX12_leastLike_31 dX12_leastLike_32 (by decide) (fun c0 => ?_) (fun c0 => ?_)
  · skip
    refine r_iinc dX12_leastLike_37 3 rfl (v := x3 + (nI 1)) rfl (by decide) (ls' := [(3, .int (x3 + (nI 1))), (0, .ref a0), (1, .int x1), (2, .int x2)]) rfl ?_
    refine r_goto (tgt := 2) dX12_leastLike_40 (by decide) ?_
    refine r_sub [1, 2, 3, 0] (ls' := [(0, .ref a0), (1, .int x1), (2, .int x2), (3, .int (x3 + (nI 1)))]) rfl ?_
    exact (pw0 c0)
  · skip
    refine r_iload_n dX12_leastLike_35 rfl 3 rfl ?_
    exact r_ret (some (.int x3)) dX12_leastLike_36 rfl (pq1 c0)
-- X12_unlikeMany
theorem gX12_unlikeMany_0 {d : Nat} {Q : Option Value → Mem → Prop} {M : Mem} {a0 : Nat} (k0 : mK M a0 = 14) (pf0 : ClD d mdX12_laysReaching [.ref a0, .int (nI 0)] M (fun r1 M1 => Wp d mdX12_unlikeMany 5 [(0, .ref a0)] (r1.toList ++ []) M1 Q)) : Wp d mdX12_unlikeMany 0 [(0, .ref a0)] [] M Q := by
  refine r_aload_n dX12_unlikeMany_0 rfl 0 rfl ?_
  refine r_iconst (v := (nI 0)) dX12_unlikeMany_1 rfl ?_
  obtain ⟨e9, hlt, h9⟩ := pf0
  exact r_callV (As := [.int (nI 0)]) (rest := []) (ci := 10) moX12_laysReaching dX12_unlikeMany_2 mlX12_395 imX12_laysReaching seX12_laysReaching k0 rfl hlt (Nat.le_of_ble_eq_true rfl) h9
theorem gX12_unlikeMany_5 {d : Nat} {Q : Option Value → Mem → Prop} {M : Mem} {a0 : Nat}  (pw0 : Wp d mdX12_unlikeMany 9 [(0, .ref a0), (1, .int (nI 0)), (2, .int (nI 0))] [] M Q) : Wp d mdX12_unlikeMany 5 [(0, .ref a0)] [] M Q := by
  refine r_iconst (v := (nI 0)) dX12_unlikeMany_5 rfl ?_
  refine r_istore_n dX12_unlikeMany_6 rfl (by decide) (ls' := [(1, .int (nI 0)), (0, .ref a0)]) rfl ?_
  refine r_iconst (v := (nI 0)) dX12_unlikeMany_7 rfl ?_
  refine r_istore_n dX12_unlikeMany_8 rfl (by decide) (ls' := [(2, .int (nI 0)), (1, .int (nI 0)), (0, .ref a0)]) rfl ?_
  refine r_sub [2, 1, 0] (ls' := [(0, .ref a0), (1, .int (nI 0)), (2, .int (nI 0))]) rfl ?_
  exact pw0
theorem gX12_unlikeMany_9 {d : Nat} {Q : Option Value → Mem → Prop} {M : Mem} {a0 : Nat} {x1 : Int32} {x2 : Int32} (k0 : mK M a0 = 14) (k1 : mK M (mR M a0 4) = 1) (k2 : mK M (mR M a0 40) = 2) (pb0 : vp_in (nI 0) (mN M (mR M a0 4))) (pq1 : (mI M (mR M a0 4) (nI 0).toNatClampNeg) ≤ x2 → Q (some (.int x1)) M) (pb2 : ¬ (mI M (mR M a0 4) (nI 0).toNatClampNeg) ≤ x2 → vp_in x2 (mN M (mR M a0 40))) (pw3 : ¬ (mI M (mR M a0 4) (nI 0).toNatClampNeg) ≤ x2 → (mJ M (mR M a0 40) x2.toNatClampNeg) = (lN 0) → Wp d mdX12_unlikeMany 45 [(0, .ref a0), (2, .int x2)] [.int x1] M Q) (pf4 : ¬ (mI M (mR M a0 4) (nI 0).toNatClampNeg) ≤ x2 → ¬ (mJ M (mR M a0 40) x2.toNatClampNeg) = (lN 0) → ClD d mdX12_leastLike [.ref a0, .int x2, .int (nI 1)] M (fun r1 M1 => Wp d mdX12_unlikeMany 37 [(0, .ref a0), (2, .int x2)] (r1.toList ++ [.int x1]) M1 Q)) : Wp d mdX12_unlikeMany 9 [(0, .ref a0), (1, .int x1), (2, .int x2)] [] M Q := by
  refine r_iload_n dX12_unlikeMany_9 rfl 2 rfl ?_
  refine r_aload_n dX12_unlikeMany_10 rfl 0 rfl ?_
  refine r_getR ck10 dX12_unlikeMany_11 flX12_21 rfl k0 ?_
  refine r_iconst (v := (nI 0)) dX12_unlikeMany_14 rfl ?_
  refine r_iald dX12_unlikeMany_15 k1 pb0 ?_
  refine r_icmp_ge (tgt := 57) dX12_unlikeMany_16 (by decide) (fun c0 => ?_) (fun c0 => ?_)
  · skip
    refine r_iload_n dX12_unlikeMany_57 rfl 1 rfl ?_
    exact r_ret (some (.int x1)) dX12_unlikeMany_58 rfl (pq1 c0)
  · skip
    refine r_iload_n dX12_unlikeMany_19 rfl 1 rfl ?_
    refine r_aload_n dX12_unlikeMany_20 rfl 0 rfl ?_
    refine r_getR ck10 dX12_unlikeMany_21 flX12_160 rfl k0 ?_
    refine r_iload_n dX12_unlikeMany_24 rfl 2 rfl ?_
    refine r_lald dX12_unlikeMany_25 k2 (pb2 c0) ?_
    refine r_lconst (v := (lN 0)) dX12_unlikeMany_26 rfl ?_
    refine r_lif_eq (tgt := 45) dX12_unlikeMany_27 dX12_unlikeMany_28 (by decide) (fun c1 => ?_) (fun c1 => ?_)
    · skip
      refine r_sub [0, 2] (ls' := [(0, .ref a0), (2, .int x2)]) rfl ?_
      exact (pw3 c0 c1)
    · skip
      refine r_aload_n dX12_unlikeMany_31 rfl 0 rfl ?_
      refine r_iload_n dX12_unlikeMany_32 rfl 2 rfl ?_
      refine r_iconst (v := (nI 1)) dX12_unlikeMany_33 rfl ?_
      refine r_sub [0, 2] (ls' := [(0, .ref a0), (2, .int x2)]) rfl ?_
      obtain ⟨e9, hlt, h9⟩ := (pf4 c0 c1)
      exact r_callV (As := [.int x2, .int (nI 1)]) (rest := [.int x1]) (ci := 10) moX12_leastLike dX12_unlikeMany_34 mlX12_403 imX12_leastLike seX12_leastLike k0 rfl hlt (Nat.le_of_ble_eq_true rfl) h9
theorem gX12_unlikeMany_37 {d : Nat} {Q : Option Value → Mem → Prop} {M : Mem} {a0 : Nat} {x2 : Int32} {sx0 : Int32} {sx1 : Int32}  (pw0 : ¬ sx0 = x2 → Wp d mdX12_unlikeMany 45 [(0, .ref a0), (2, .int x2)] [.int sx1] M Q) (pw1 : sx0 = x2 → Wp d mdX12_unlikeMany 46 [(0, .ref a0), (2, .int x2)] [.int (nI 1), .int sx1] M Q) : Wp d mdX12_unlikeMany 37 [(0, .ref a0), (2, .int x2)] [.int sx0, .int sx1] M Q := by
  refine r_iload_n dX12_unlikeMany_37 rfl 1 rfl ?_
  refine r_icmp_ne (tgt := 45) dX12_unlikeMany_38 (by decide) (fun c0 => ?_) (fun c0 => ?_)
  · skip
    exact (pw0 c0)
  · skip
    refine r_iconst (v := (nI 1)) dX12_unlikeMany_41 rfl ?_
    refine r_goto (tgt := 46) dX12_unlikeMany_42 (by decide) ?_
    exact (pw1 c0)
theorem gX12_unlikeMany_45 {d : Nat} {Q : Option Value → Mem → Prop} {M : Mem} {a0 : Nat} {x2 : Int32} {sx0 : Int32}  (pw0 : Wp d mdX12_unlikeMany 46 [(0, .ref a0), (2, .int x2)] [.int (nI 0), .int sx0] M Q) : Wp d mdX12_unlikeMany 45 [(0, .ref a0), (2, .int x2)] [.int sx0] M Q := by
  refine r_iconst (v := (nI 0)) dX12_unlikeMany_45 rfl ?_
  exact pw0
theorem gX12_unlikeMany_46 {d : Nat} {Q : Option Value → Mem → Prop} {M : Mem} {a0 : Nat} {x2 : Int32} {sx0 : Int32} {sx1 : Int32}  (pf0 : ClD d mdX12_flag [.int sx0] M (fun r1 M1 => Wp d mdX12_unlikeMany 49 [(0, .ref a0), (2, .int x2)] (r1.toList ++ [.int sx1]) M1 Q)) : Wp d mdX12_unlikeMany 46 [(0, .ref a0), (2, .int x2)] [.int sx0, .int sx1] M Q := by
  obtain ⟨e9, hlt, h9⟩ := pf0
  exact r_callS (As := [.int sx0]) (rest := [.int sx1]) moX12_flag dX12_unlikeMany_46 mlX12_339 saX12_flag rfl hlt (Nat.le_of_ble_eq_true rfl) h9
theorem gX12_unlikeMany_49 {d : Nat} {Q : Option Value → Mem → Prop} {M : Mem} {a0 : Nat} {x2 : Int32} {sx0 : Int32} {sx1 : Int32}  (pw0 : Wp d mdX12_unlikeMany 9 [(0, .ref a0), (1, .int (sx1 + sx0)), (2, .int (x2 + (nI 1)))] [] M Q) : Wp d mdX12_unlikeMany 49 [(0, .ref a0), (2, .int x2)] [.int sx0, .int sx1] M Q := by
  refine r_iadd dX12_unlikeMany_49 ?_
  refine r_istore_n dX12_unlikeMany_50 rfl (by decide) (ls' := [(1, .int (sx1 + sx0)), (0, .ref a0), (2, .int x2)]) rfl ?_
  refine r_iinc dX12_unlikeMany_51 2 rfl (v := x2 + (nI 1)) rfl (by decide) (ls' := [(2, .int (x2 + (nI 1))), (1, .int (sx1 + sx0)), (0, .ref a0)]) rfl ?_
  refine r_goto (tgt := 9) dX12_unlikeMany_54 (by decide) ?_
  refine r_sub [2, 1, 0] (ls' := [(0, .ref a0), (1, .int (sx1 + sx0)), (2, .int (x2 + (nI 1)))]) rfl ?_
  exact pw0
-- X12_least
theorem gX12_least_0 {d : Nat} {Q : Option Value → Mem → Prop} {M : Mem} {a0 : Nat} (k0 : mK M a0 = 14) (pw0 : Wp d mdX12_least 12 [(0, .ref a0), (1, .int (nI 0))] [] (sI (sI M a0 0 (nI 0)) a0 1 (nI 0)) Q) : Wp d mdX12_least 0 [(0, .ref a0)] [] M Q := by
  refine r_aload_n dX12_least_0 rfl 0 rfl ?_
  refine r_iconst (v := (nI 0)) dX12_least_1 rfl ?_
  refine r_putI ck10 dX12_least_2 flX12_1 rfl (Or.inl rfl) k0 ?_
  refine r_aload_n dX12_least_5 rfl 0 rfl ?_
  refine r_iconst (v := (nI 0)) dX12_least_6 rfl ?_
  refine r_putI ck10 dX12_least_7 flX12_11 rfl (Or.inl rfl) k0 ?_
  refine r_iconst (v := (nI 0)) dX12_least_10 rfl ?_
  refine r_istore_n dX12_least_11 rfl (by decide) (ls' := [(1, .int (nI 0)), (0, .ref a0)]) rfl ?_
  refine r_sub [1, 0] (ls' := [(0, .ref a0), (1, .int (nI 0))]) rfl ?_
  exact pw0
theorem gX12_least_12 {d : Nat} {Q : Option Value → Mem → Prop} {M : Mem} {a0 : Nat} {x1 : Int32} (k0 : mK M a0 = 14) (k1 : mK M (mR M a0 4) = 1) (pb0 : vp_in (nI 0) (mN M (mR M a0 4))) (pf1 : (mI M (mR M a0 4) (nI 0).toNatClampNeg) ≤ x1 → ClD d mdX12_unlikeMany [.ref a0] M (fun r1 M1 => Wp d mdX12_least 43 [] (r1.toList ++ []) M1 Q)) (pf2 : ¬ (mI M (mR M a0 4) (nI 0).toNatClampNeg) ≤ x1 → ClD d mdX12_leastLike [.ref a0, .int x1, .int (nI 0)] M (fun r1 M1 => Wp d mdX12_least 29 [(0, .ref a0), (1, .int x1)] (r1.toList ++ [.ref a0]) M1 Q)) : Wp d mdX12_least 12 [(0, .ref a0), (1, .int x1)] [] M Q := by
  refine r_iload_n dX12_least_12 rfl 1 rfl ?_
  refine r_aload_n dX12_least_13 rfl 0 rfl ?_
  refine r_getR ck10 dX12_least_14 flX12_21 rfl k0 ?_
  refine r_iconst (v := (nI 0)) dX12_least_17 rfl ?_
  refine r_iald dX12_least_18 k1 pb0 ?_
  refine r_icmp_ge (tgt := 39) dX12_least_19 (by decide) (fun c0 => ?_) (fun c0 => ?_)
  · skip
    refine r_aload_n dX12_least_39 rfl 0 rfl ?_
    refine r_sub [] (ls' := []) rfl ?_
    obtain ⟨e9, hlt, h9⟩ := (pf1 c0)
    exact r_callV (As := []) (rest := []) (ci := 10) moX12_unlikeMany dX12_least_40 mlX12_326 imX12_unlikeMany seX12_unlikeMany k0 rfl hlt (Nat.le_of_ble_eq_true rfl) h9
  · skip
    refine r_aload_n dX12_least_22 rfl 0 rfl ?_
    refine r_aload_n dX12_least_23 rfl 0 rfl ?_
    refine r_iload_n dX12_least_24 rfl 1 rfl ?_
    refine r_iconst (v := (nI 0)) dX12_least_25 rfl ?_
    obtain ⟨e9, hlt, h9⟩ := (pf2 c0)
    exact r_callV (As := [.int x1, .int (nI 0)]) (rest := [.ref a0]) (ci := 10) moX12_leastLike dX12_least_26 mlX12_403 imX12_leastLike seX12_leastLike k0 rfl hlt (Nat.le_of_ble_eq_true rfl) h9
theorem gX12_least_29 {d : Nat} {Q : Option Value → Mem → Prop} {M : Mem} {a0 : Nat} {x1 : Int32} {sx0 : Int32} {sa1 : Nat} (k0 : mK M sa1 = 14) (pf0 : ClD d mdX12_enters [.ref sa1, .long sx0.toInt64] M (fun r1 M1 => Wp d mdX12_least 33 [(0, .ref a0), (1, .int x1)] (r1.toList ++ []) M1 Q)) : Wp d mdX12_least 29 [(0, .ref a0), (1, .int x1)] [.int sx0, .ref sa1] M Q := by
  refine r_i2l dX12_least_29 ?_
  obtain ⟨e9, hlt, h9⟩ := pf0
  exact r_callV (As := [.long sx0.toInt64]) (rest := []) (ci := 10) moX12_enters dX12_least_30 mlX12_343 imX12_enters seX12_enters k0 rfl hlt (Nat.le_of_ble_eq_true rfl) h9
theorem gX12_least_33 {d : Nat} {Q : Option Value → Mem → Prop} {M : Mem} {a0 : Nat} {x1 : Int32}  (pw0 : Wp d mdX12_least 12 [(0, .ref a0), (1, .int (x1 + (nI 1)))] [] M Q) : Wp d mdX12_least 33 [(0, .ref a0), (1, .int x1)] [] M Q := by
  refine r_iinc dX12_least_33 1 rfl (v := x1 + (nI 1)) rfl (by decide) (ls' := [(1, .int (x1 + (nI 1))), (0, .ref a0)]) rfl ?_
  refine r_goto (tgt := 12) dX12_least_36 (by decide) ?_
  refine r_sub [1, 0] (ls' := [(0, .ref a0), (1, .int (x1 + (nI 1)))]) rfl ?_
  exact pw0
theorem gX12_least_43 {d : Nat} {Q : Option Value → Mem → Prop} {M : Mem} {sx0 : Int32}  (pq0 : Q (some (.int sx0)) M) : Wp d mdX12_least 43 [] [.int sx0] M Q := by
  exact r_ret (some (.int sx0)) dX12_least_43 rfl pq0
-- X12_reach
theorem gX12_reach_0 {d : Nat} {Q : Option Value → Mem → Prop} {M : Mem} {a0 : Nat} {x1 : Int32} (k0 : mK M a0 = 14) (pf0 : ClD d mdX12_isState [.ref a0, .int (nI 0), .int x1] (sI M a0 0 (nI 0)) (fun r1 M1 => Wp d mdX12_reach 11 [(0, .ref a0), (1, .int x1)] (r1.toList ++ []) M1 Q)) : Wp d mdX12_reach 0 [(0, .ref a0), (1, .int x1)] [] M Q := by
  refine r_aload_n dX12_reach_0 rfl 0 rfl ?_
  refine r_iconst (v := (nI 0)) dX12_reach_1 rfl ?_
  refine r_putI ck10 dX12_reach_2 flX12_1 rfl (Or.inl rfl) k0 ?_
  refine r_aload_n dX12_reach_5 rfl 0 rfl ?_
  refine r_iconst (v := (nI 0)) dX12_reach_6 rfl ?_
  refine r_iload_n dX12_reach_7 rfl 1 rfl ?_
  obtain ⟨e9, hlt, h9⟩ := pf0
  exact r_callV (As := [.int (nI 0), .int x1]) (rest := []) (ci := 10) moX12_isState dX12_reach_8 mlX12_330 imX12_isState seX12_isState k0 rfl hlt (Nat.le_of_ble_eq_true rfl) h9
theorem gX12_reach_11 {d : Nat} {Q : Option Value → Mem → Prop} {M : Mem} {a0 : Nat} {x1 : Int32} {sx0 : Int32} (k0 : mK M a0 = 14) (pf0 : ¬ sx0 = 0 → ClD d mdX12_laysReaching [.ref a0, .int (nI 0)] M (fun r1 M1 => Wp d mdX12_reach 23 [(0, .ref a0), (1, .int x1)] (r1.toList ++ []) M1 Q)) (pq1 : sx0 = 0 → Q (some (.long (-1 : Int64))) M) : Wp d mdX12_reach 11 [(0, .ref a0), (1, .int x1)] [.int sx0] M Q := by
  refine r_if_ne (tgt := 18) dX12_reach_11 (by decide) (fun c0 => ?_) (fun c0 => ?_)
  · skip
    refine r_aload_n dX12_reach_18 rfl 0 rfl ?_
    refine r_iconst (v := (nI 0)) dX12_reach_19 rfl ?_
    obtain ⟨e9, hlt, h9⟩ := (pf0 c0)
    exact r_callV (As := [.int (nI 0)]) (rest := []) (ci := 10) moX12_laysReaching dX12_reach_20 mlX12_395 imX12_laysReaching seX12_laysReaching k0 rfl hlt (Nat.le_of_ble_eq_true rfl) h9
  · skip
    refine r_ldc2 dX12_reach_14 kwX12_59 ?_
    exact r_ret (some (.long (-1 : Int64))) dX12_reach_17 rfl (pq1 c0)
theorem gX12_reach_23 {d : Nat} {Q : Option Value → Mem → Prop} {M : Mem} {a0 : Nat} {x1 : Int32} (k0 : mK M a0 = 14) (k1 : mK M (mR M a0 40) = 2) (pb0 : vp_in x1 (mN M (mR M a0 40))) (pq1 : Q (some (.long (mJ M (mR M a0 40) x1.toNatClampNeg))) M) : Wp d mdX12_reach 23 [(0, .ref a0), (1, .int x1)] [] M Q := by
  refine r_aload_n dX12_reach_23 rfl 0 rfl ?_
  refine r_getR ck10 dX12_reach_24 flX12_160 rfl k0 ?_
  refine r_iload_n dX12_reach_27 rfl 1 rfl ?_
  refine r_lald dX12_reach_28 k1 pb0 ?_
  exact r_ret (some (.long (mJ M (mR M a0 40) x1.toNatClampNeg))) dX12_reach_29 rfl pq1
-- X12_staysTogether
theorem gX12_staysTogether_0 {d : Nat} {Q : Option Value → Mem → Prop} {M : Mem} {a0 : Nat} {x1 : Int32} {x2 : Int32} (k0 : mK M a0 = 14) (k1 : mK M (mR M a0 49) = 1) (pb0 : vp_in x1 (mN M (mR M a0 49))) (pb1 : vp_in x2 (mN M (mR M a0 49))) (pw2 : ¬ (mI M (mR M a0 49) x1.toNatClampNeg) = (mI M (mR M a0 49) x2.toNatClampNeg) → Wp d mdX12_staysTogether 20 [(0, .ref a0), (1, .int x1), (2, .int x2)] [.int (nI 0)] M Q) (pw3 : (mI M (mR M a0 49) x1.toNatClampNeg) = (mI M (mR M a0 49) x2.toNatClampNeg) → Wp d mdX12_staysTogether 20 [(0, .ref a0), (1, .int x1), (2, .int x2)] [.int (nI 1)] M Q) : Wp d mdX12_staysTogether 0 [(0, .ref a0), (1, .int x1), (2, .int x2)] [] M Q := by
  refine r_aload_n dX12_staysTogether_0 rfl 0 rfl ?_
  refine r_getR ck10 dX12_staysTogether_1 flX12_169 rfl k0 ?_
  refine r_iload_n dX12_staysTogether_4 rfl 1 rfl ?_
  refine r_iald dX12_staysTogether_5 k1 pb0 ?_
  refine r_aload_n dX12_staysTogether_6 rfl 0 rfl ?_
  refine r_getR ck10 dX12_staysTogether_7 flX12_169 rfl k0 ?_
  refine r_iload_n dX12_staysTogether_10 rfl 2 rfl ?_
  refine r_iald dX12_staysTogether_11 k1 pb1 ?_
  refine r_icmp_ne (tgt := 19) dX12_staysTogether_12 (by decide) (fun c0 => ?_) (fun c0 => ?_)
  · skip
    refine r_iconst (v := (nI 0)) dX12_staysTogether_19 rfl ?_
    exact (pw2 c0)
  · skip
    refine r_iconst (v := (nI 1)) dX12_staysTogether_15 rfl ?_
    refine r_goto (tgt := 20) dX12_staysTogether_16 (by decide) ?_
    exact (pw3 c0)
theorem gX12_staysTogether_20 {d : Nat} {Q : Option Value → Mem → Prop} {M : Mem} {a0 : Nat} {x1 : Int32} {x2 : Int32} {sx0 : Int32}  (pw0 : Wp d mdX12_staysTogether 24 [(0, .ref a0), (1, .int x1), (2, .int x2), (3, .int sx0), (4, .int (nI 0))] [] M Q) : Wp d mdX12_staysTogether 20 [(0, .ref a0), (1, .int x1), (2, .int x2)] [.int sx0] M Q := by
  refine r_istore_n dX12_staysTogether_20 rfl (by decide) (ls' := [(3, .int sx0), (0, .ref a0), (1, .int x1), (2, .int x2)]) rfl ?_
  refine r_iconst (v := (nI 0)) dX12_staysTogether_21 rfl ?_
  refine r_istore dX12_staysTogether_22 (by decide) (ls' := [(4, .int (nI 0)), (3, .int sx0), (0, .ref a0), (1, .int x1), (2, .int x2)]) rfl ?_
  refine r_sub [2, 3, 4, 1, 0] (ls' := [(0, .ref a0), (1, .int x1), (2, .int x2), (3, .int sx0), (4, .int (nI 0))]) rfl ?_
  exact pw0
theorem gX12_staysTogether_24 {d : Nat} {Q : Option Value → Mem → Prop} {M : Mem} {a0 : Nat} {x1 : Int32} {x2 : Int32} {x3 : Int32} {x4 : Int32} (k0 : mK M a0 = 14) (pq0 : (mI M a0 3) ≤ x4 → Q (some (.int x3)) M) (pw1 : ¬ (mI M a0 3) ≤ x4 → x3 = 0 → Wp d mdX12_staysTogether 24 [(0, .ref a0), (1, .int x1), (2, .int x2), (3, .int (nI 0)), (4, .int (x4 + (nI 1)))] [] M Q) (pf2 : ¬ (mI M a0 3) ≤ x4 → ¬ x3 = 0 → ClD d mdX12_comes [.ref a0, .int (nI 0), .int x1, .int x4] M (fun r1 M1 => Wp d mdX12_staysTogether 49 [(0, .ref a0), (1, .int x1), (2, .int x2), (4, .int x4)] (r1.toList ++ [.ref (mR M a0 49)]) M1 Q)) : Wp d mdX12_staysTogether 24 [(0, .ref a0), (1, .int x1), (2, .int x2), (3, .int x3), (4, .int x4)] [] M Q := by
  refine r_iload dX12_staysTogether_24 4 rfl ?_
  refine r_aload_n dX12_staysTogether_26 rfl 0 rfl ?_
  refine r_getI ck10 dX12_staysTogether_27 flX12_30 rfl k0 ?_
  refine r_icmp_ge (tgt := 78) dX12_staysTogether_30 (by decide) (fun c0 => ?_) (fun c0 => ?_)
  · skip
    refine r_iload_n dX12_staysTogether_78 rfl 3 rfl ?_
    exact r_ret (some (.int x3)) dX12_staysTogether_79 rfl (pq0 c0)
  · skip
    refine r_iload_n dX12_staysTogether_33 rfl 3 rfl ?_
    refine r_if_eq (tgt := 70) dX12_staysTogether_34 (by decide) (fun c1 => ?_) (fun c1 => ?_)
    · skip
      refine r_iconst (v := (nI 0)) dX12_staysTogether_70 rfl ?_
      refine r_istore_n dX12_staysTogether_71 rfl (by decide) (ls' := [(3, .int (nI 0)), (0, .ref a0), (1, .int x1), (2, .int x2), (4, .int x4)]) rfl ?_
      refine r_iinc dX12_staysTogether_72 4 rfl (v := x4 + (nI 1)) rfl (by decide) (ls' := [(4, .int (x4 + (nI 1))), (3, .int (nI 0)), (0, .ref a0), (1, .int x1), (2, .int x2)]) rfl ?_
      refine r_goto (tgt := 24) dX12_staysTogether_75 (by decide) ?_
      refine r_sub [2, 3, 4, 1, 0] (ls' := [(0, .ref a0), (1, .int x1), (2, .int x2), (3, .int (nI 0)), (4, .int (x4 + (nI 1)))]) rfl ?_
      exact (pw1 c0 c1)
    · skip
      refine r_aload_n dX12_staysTogether_37 rfl 0 rfl ?_
      refine r_getR ck10 dX12_staysTogether_38 flX12_169 rfl k0 ?_
      refine r_aload_n dX12_staysTogether_41 rfl 0 rfl ?_
      refine r_iconst (v := (nI 0)) dX12_staysTogether_42 rfl ?_
      refine r_iload_n dX12_staysTogether_43 rfl 1 rfl ?_
      refine r_iload dX12_staysTogether_44 4 rfl ?_
      refine r_sub [0, 1, 2, 4] (ls' := [(0, .ref a0), (1, .int x1), (2, .int x2), (4, .int x4)]) rfl ?_
      obtain ⟨e9, hlt, h9⟩ := (pf2 c0 c1)
      exact r_callV (As := [.int (nI 0), .int x1, .int x4]) (rest := [.ref (mR M a0 49)]) (ci := 10) moX12_comes dX12_staysTogether_46 mlX12_43 imX12_comes seX12_comes k0 rfl hlt (Nat.le_of_ble_eq_true rfl) h9
theorem gX12_staysTogether_49 {d : Nat} {Q : Option Value → Mem → Prop} {M : Mem} {a0 : Nat} {x1 : Int32} {x2 : Int32} {x4 : Int32} {sx0 : Int32} {sa1 : Nat} (k0 : mK M sa1 = 1) (k1 : mK M a0 = 14) (pb0 : vp_in sx0 (mN M sa1)) (pf1 : ClD d mdX12_comes [.ref a0, .int (nI 0), .int x2, .int x4] M (fun r1 M1 => Wp d mdX12_staysTogether 62 [(0, .ref a0), (1, .int x1), (2, .int x2), (4, .int x4)] (r1.toList ++ [.ref (mR M a0 49), .int (mI M sa1 sx0.toNatClampNeg)]) M1 Q)) : Wp d mdX12_staysTogether 49 [(0, .ref a0), (1, .int x1), (2, .int x2), (4, .int x4)] [.int sx0, .ref sa1] M Q := by
  refine r_iald dX12_staysTogether_49 k0 pb0 ?_
  refine r_aload_n dX12_staysTogether_50 rfl 0 rfl ?_
  refine r_getR ck10 dX12_staysTogether_51 flX12_169 rfl k1 ?_
  refine r_aload_n dX12_staysTogether_54 rfl 0 rfl ?_
  refine r_iconst (v := (nI 0)) dX12_staysTogether_55 rfl ?_
  refine r_iload_n dX12_staysTogether_56 rfl 2 rfl ?_
  refine r_iload dX12_staysTogether_57 3 rfl ?_
  obtain ⟨e9, hlt, h9⟩ := pf1
  exact r_callV (As := [.int (nI 0), .int x2, .int x4]) (rest := [.ref (mR M a0 49), .int (mI M sa1 sx0.toNatClampNeg)]) (ci := 10) moX12_comes dX12_staysTogether_59 mlX12_43 imX12_comes seX12_comes k1 rfl hlt (Nat.le_of_ble_eq_true rfl) h9
theorem gX12_staysTogether_62 {d : Nat} {Q : Option Value → Mem → Prop} {M : Mem} {a0 : Nat} {x1 : Int32} {x2 : Int32} {x4 : Int32} {sx0 : Int32} {sa1 : Nat} {sx2 : Int32} (k0 : mK M sa1 = 1) (pb0 : vp_in sx0 (mN M sa1)) (pw1 : ¬ sx2 = (mI M sa1 sx0.toNatClampNeg) → Wp d mdX12_staysTogether 24 [(0, .ref a0), (1, .int x1), (2, .int x2), (3, .int (nI 0)), (4, .int (x4 + (nI 1)))] [] M Q) (pw2 : sx2 = (mI M sa1 sx0.toNatClampNeg) → Wp d mdX12_staysTogether 24 [(0, .ref a0), (1, .int x1), (2, .int x2), (3, .int (nI 1)), (4, .int (x4 + (nI 1)))] [] M Q) : Wp d mdX12_staysTogether 62 [(0, .ref a0), (1, .int x1), (2, .int x2), (4, .int x4)] [.int sx0, .ref sa1, .int sx2] M Q := by
  refine r_iald dX12_staysTogether_62 k0 pb0 ?_
  refine r_icmp_ne (tgt := 70) dX12_staysTogether_63 (by decide) (fun c0 => ?_) (fun c0 => ?_)
  · skip
    refine r_iconst (v := (nI 0)) dX12_staysTogether_70 rfl ?_
    refine r_istore_n dX12_staysTogether_71 rfl (by decide) (ls' := [(3, .int (nI 0)), (0, .ref a0), (1, .int x1), (2, .int x2), (4, .int x4)]) rfl ?_
    refine r_iinc dX12_staysTogether_72 4 rfl (v := x4 + (nI 1)) rfl (by decide) (ls' := [(4, .int (x4 + (nI 1))), (3, .int (nI 0)), (0, .ref a0), (1, .int x1), (2, .int x2)]) rfl ?_
    refine r_goto (tgt := 24) dX12_staysTogether_75 (by decide) ?_
    refine r_sub [2, 3, 4, 1, 0] (ls' := [(0, .ref a0), (1, .int x1), (2, .int x2), (3, .int (nI 0)), (4, .int (x4 + (nI 1)))]) rfl ?_
    exact (pw1 c0)
  · skip
    refine r_iconst (v := (nI 1)) dX12_staysTogether_66 rfl ?_
    refine r_goto (tgt := 71) dX12_staysTogether_67 (by decide) ?_
    refine r_istore_n dX12_staysTogether_71 rfl (by decide) (ls' := [(3, .int (nI 1)), (0, .ref a0), (1, .int x1), (2, .int x2), (4, .int x4)]) rfl ?_
    refine r_iinc dX12_staysTogether_72 4 rfl (v := x4 + (nI 1)) rfl (by decide) (ls' := [(4, .int (x4 + (nI 1))), (3, .int (nI 1)), (0, .ref a0), (1, .int x1), (2, .int x2)]) rfl ?_
    refine r_goto (tgt := 24) dX12_staysTogether_75 (by decide) ?_
    refine r_sub [2, 3, 4, 1, 0] (ls' := [(0, .ref a0), (1, .int x1), (2, .int x2), (3, .int (nI 1)), (4, .int (x4 + (nI 1)))]) rfl ?_
    exact (pw2 c0)
-- X12_regroups
theorem gX12_regroups_0 {d : Nat} {Q : Option Value → Mem → Prop} {M : Mem} {a0 : Nat} {x1 : Int32}  (pw0 : Wp d mdX12_regroups 2 [(0, .ref a0), (1, .int x1), (2, .int (nI 0))] [] M Q) : Wp d mdX12_regroups 0 [(0, .ref a0), (1, .int x1)] [] M Q := by
  refine r_iconst (v := (nI 0)) dX12_regroups_0 rfl ?_
  refine r_istore_n dX12_regroups_1 rfl (by decide) (ls' := [(2, .int (nI 0)), (0, .ref a0), (1, .int x1)]) rfl ?_
  refine r_sub [1, 2, 0] (ls' := [(0, .ref a0), (1, .int x1), (2, .int (nI 0))]) rfl ?_
  exact pw0
theorem gX12_regroups_2 {d : Nat} {Q : Option Value → Mem → Prop} {M : Mem} {a0 : Nat} {x1 : Int32} {x2 : Int32} (k0 : mK M a0 = 14) (k1 : mK M (mR M a0 4) = 1) (pb0 : vp_in (nI 0) (mN M (mR M a0 4))) (pw1 : (mI M (mR M a0 4) (nI 0).toNatClampNeg) ≤ x2 → Wp d mdX12_regroups 85 [(0, .ref a0), (2, .int (nI 0))] [] M Q) (pw2 : ¬ (mI M (mR M a0 4) (nI 0).toNatClampNeg) ≤ x2 → Wp d mdX12_regroups 19 [(0, .ref a0), (1, .int x1), (2, .int x2), (3, .int x2), (4, .int (x2 - (nI 1)))] [] M Q) : Wp d mdX12_regroups 2 [(0, .ref a0), (1, .int x1), (2, .int x2)] [] M Q := by
  refine r_iload_n dX12_regroups_2 rfl 2 rfl ?_
  refine r_aload_n dX12_regroups_3 rfl 0 rfl ?_
  refine r_getR ck10 dX12_regroups_4 flX12_21 rfl k0 ?_
  refine r_iconst (v := (nI 0)) dX12_regroups_7 rfl ?_
  refine r_iald dX12_regroups_8 k1 pb0 ?_
  refine r_icmp_ge (tgt := 83) dX12_regroups_9 (by decide) (fun c0 => ?_) (fun c0 => ?_)
  · skip
    refine r_iconst (v := (nI 0)) dX12_regroups_83 rfl ?_
    refine r_istore_n dX12_regroups_84 rfl (by decide) (ls' := [(2, .int (nI 0)), (0, .ref a0), (1, .int x1)]) rfl ?_
    refine r_sub [1, 0] (ls' := [(0, .ref a0), (2, .int (nI 0))]) rfl ?_
    exact (pw1 c0)
  · skip
    refine r_iload_n dX12_regroups_12 rfl 2 rfl ?_
    refine r_istore_n dX12_regroups_13 rfl (by decide) (ls' := [(3, .int x2), (0, .ref a0), (1, .int x1), (2, .int x2)]) rfl ?_
    refine r_iload_n dX12_regroups_14 rfl 3 rfl ?_
    refine r_iconst (v := (nI 1)) dX12_regroups_15 rfl ?_
    refine r_isub dX12_regroups_16 ?_
    refine r_istore dX12_regroups_17 (by decide) (ls' := [(4, .int (x2 - (nI 1))), (3, .int x2), (0, .ref a0), (1, .int x1), (2, .int x2)]) rfl ?_
    refine r_sub [2, 3, 4, 1, 0] (ls' := [(0, .ref a0), (1, .int x1), (2, .int x2), (3, .int x2), (4, .int (x2 - (nI 1)))]) rfl ?_
    exact (pw2 c0)
theorem gX12_regroups_19 {d : Nat} {Q : Option Value → Mem → Prop} {M : Mem} {a0 : Nat} {x1 : Int32} {x2 : Int32} {x3 : Int32} {x4 : Int32} (k0 : mK M a0 = 14) (k1 : mK M (mR M a0 50) = 1) (pb0 : x4 < 0 → vp_in x2 (mN M (mR M a0 50))) (pw1 : x4 < 0 → Wp d mdX12_regroups 2 [(0, .ref a0), (1, .int x1), (2, .int (x2 + (nI 1)))] [] (sI M (mR M a0 50) x2.toNatClampNeg x3) Q) (pf2 : ¬ x4 < 0 → x1 = 0 → ClD d mdX12_staysTogether [.ref a0, .int x2, .int x4] M (fun r1 M1 => Wp d mdX12_regroups 54 [(0, .ref a0), (1, .int x1), (2, .int x2), (3, .int x3), (4, .int x4)] (r1.toList ++ []) M1 Q)) (pf3 : ¬ x4 < 0 → ¬ x1 = 0 → ClD d mdX12_shown [.ref a0, .int (nI 0), .int x2] M (fun r1 M1 => Wp d mdX12_regroups 34 [(0, .ref a0), (1, .int x1), (2, .int x2), (3, .int x3), (4, .int x4)] (r1.toList ++ []) M1 Q)) : Wp d mdX12_regroups 19 [(0, .ref a0), (1, .int x1), (2, .int x2), (3, .int x3), (4, .int x4)] [] M Q := by
  refine r_iload dX12_regroups_19 4 rfl ?_
  refine r_if_lt (tgt := 70) dX12_regroups_21 (by decide) (fun c0 => ?_) (fun c0 => ?_)
  · skip
    refine r_aload_n dX12_regroups_70 rfl 0 rfl ?_
    refine r_getR ck10 dX12_regroups_71 flX12_172 rfl k0 ?_
    refine r_iload_n dX12_regroups_74 rfl 2 rfl ?_
    refine r_iload_n dX12_regroups_75 rfl 3 rfl ?_
    refine r_iast dX12_regroups_76 k1 (pb0 c0) ?_
    refine r_iinc dX12_regroups_77 2 rfl (v := x2 + (nI 1)) rfl (by decide) (ls' := [(2, .int (x2 + (nI 1))), (0, .ref a0), (1, .int x1), (3, .int x3), (4, .int x4)]) rfl ?_
    refine r_goto (tgt := 2) dX12_regroups_80 (by decide) ?_
    refine r_sub [1, 2, 0] (ls' := [(0, .ref a0), (1, .int x1), (2, .int (x2 + (nI 1)))]) rfl ?_
    exact (pw1 c0)
  · skip
    refine r_iload_n dX12_regroups_24 rfl 1 rfl ?_
    refine r_if_eq (tgt := 47) dX12_regroups_25 (by decide) (fun c1 => ?_) (fun c1 => ?_)
    · skip
      refine r_aload_n dX12_regroups_47 rfl 0 rfl ?_
      refine r_iload_n dX12_regroups_48 rfl 2 rfl ?_
      refine r_iload dX12_regroups_49 4 rfl ?_
      obtain ⟨e9, hlt, h9⟩ := (pf2 c0 c1)
      exact r_callV (As := [.int x2, .int x4]) (rest := []) (ci := 10) moX12_staysTogether dX12_regroups_51 mlX12_407 imX12_staysTogether seX12_staysTogether k0 rfl hlt (Nat.le_of_ble_eq_true rfl) h9
    · skip
      refine r_aload_n dX12_regroups_28 rfl 0 rfl ?_
      refine r_iconst (v := (nI 0)) dX12_regroups_29 rfl ?_
      refine r_iload_n dX12_regroups_30 rfl 2 rfl ?_
      obtain ⟨e9, hlt, h9⟩ := (pf3 c0 c1)
      exact r_callV (As := [.int (nI 0), .int x2]) (rest := []) (ci := 10) moX12_shown dX12_regroups_31 mlX12_51 imX12_shown seX12_shown k0 rfl hlt (Nat.le_of_ble_eq_true rfl) h9
theorem gX12_regroups_34 {d : Nat} {Q : Option Value → Mem → Prop} {M : Mem} {a0 : Nat} {x1 : Int32} {x2 : Int32} {x3 : Int32} {x4 : Int32} {sx0 : Int32} (k0 : mK M a0 = 14) (pf0 : ClD d mdX12_shown [.ref a0, .int (nI 0), .int x4] M (fun r1 M1 => Wp d mdX12_regroups 41 [(0, .ref a0), (1, .int x1), (2, .int x2), (3, .int x3), (4, .int x4)] (r1.toList ++ [.int sx0]) M1 Q)) : Wp d mdX12_regroups 34 [(0, .ref a0), (1, .int x1), (2, .int x2), (3, .int x3), (4, .int x4)] [.int sx0] M Q := by
  refine r_aload_n dX12_regroups_34 rfl 0 rfl ?_
  refine r_iconst (v := (nI 0)) dX12_regroups_35 rfl ?_
  refine r_iload dX12_regroups_36 4 rfl ?_
  obtain ⟨e9, hlt, h9⟩ := pf0
  exact r_callV (As := [.int (nI 0), .int x4]) (rest := [.int sx0]) (ci := 10) moX12_shown dX12_regroups_38 mlX12_51 imX12_shown seX12_shown k0 rfl hlt (Nat.le_of_ble_eq_true rfl) h9
theorem gX12_regroups_41 {d : Nat} {Q : Option Value → Mem → Prop} {M : Mem} {a0 : Nat} {x1 : Int32} {x2 : Int32} {x3 : Int32} {x4 : Int32} {sx0 : Int32} {sx1 : Int32}  (pw0 : ¬ sx1 = sx0 → Wp d mdX12_regroups 19 [(0, .ref a0), (1, .int x1), (2, .int x2), (3, .int x3), (4, .int (x4 + (-1 : Int32)))] [] M Q) (pw1 : sx1 = sx0 → Wp d mdX12_regroups 19 [(0, .ref a0), (1, .int x1), (2, .int x2), (3, .int x4), (4, .int (x4 + (-1 : Int32)))] [] M Q) : Wp d mdX12_regroups 41 [(0, .ref a0), (1, .int x1), (2, .int x2), (3, .int x3), (4, .int x4)] [.int sx0, .int sx1] M Q := by
  refine r_icmp_ne (tgt := 62) dX12_regroups_41 (by decide) (fun c0 => ?_) (fun c0 => ?_)
  · skip
    refine r_iload_n dX12_regroups_62 rfl 3 rfl ?_
    refine r_istore_n dX12_regroups_63 rfl (by decide) (ls' := [(3, .int x3), (0, .ref a0), (1, .int x1), (2, .int x2), (4, .int x4)]) rfl ?_
    refine r_iinc dX12_regroups_64 4 rfl (v := x4 + (-1 : Int32)) rfl (by decide) (ls' := [(4, .int (x4 + (-1 : Int32))), (3, .int x3), (0, .ref a0), (1, .int x1), (2, .int x2)]) rfl ?_
    refine r_goto (tgt := 19) dX12_regroups_67 (by decide) ?_
    refine r_sub [2, 3, 4, 1, 0] (ls' := [(0, .ref a0), (1, .int x1), (2, .int x2), (3, .int x3), (4, .int (x4 + (-1 : Int32)))]) rfl ?_
    exact (pw0 c0)
  · skip
    refine r_goto (tgt := 57) dX12_regroups_44 (by decide) ?_
    refine r_iload dX12_regroups_57 4 rfl ?_
    refine r_goto (tgt := 63) dX12_regroups_59 (by decide) ?_
    refine r_istore_n dX12_regroups_63 rfl (by decide) (ls' := [(3, .int x4), (0, .ref a0), (1, .int x1), (2, .int x2), (4, .int x4)]) rfl ?_
    refine r_iinc dX12_regroups_64 4 rfl (v := x4 + (-1 : Int32)) rfl (by decide) (ls' := [(4, .int (x4 + (-1 : Int32))), (3, .int x4), (0, .ref a0), (1, .int x1), (2, .int x2)]) rfl ?_
    refine r_goto (tgt := 19) dX12_regroups_67 (by decide) ?_
    refine r_sub [2, 3, 4, 1, 0] (ls' := [(0, .ref a0), (1, .int x1), (2, .int x2), (3, .int x4), (4, .int (x4 + (-1 : Int32)))]) rfl ?_
    exact (pw1 c0)
theorem gX12_regroups_54 {d : Nat} {Q : Option Value → Mem → Prop} {M : Mem} {a0 : Nat} {x1 : Int32} {x2 : Int32} {x3 : Int32} {x4 : Int32} {sx0 : Int32}  (pw0 : sx0 = 0 → Wp d mdX12_regroups 19 [(0, .ref a0), (1, .int x1), (2, .int x2), (3, .int x3), (4, .int (x4 + (-1 : Int32)))] [] M Q) (pw1 : ¬ sx0 = 0 → Wp d mdX12_regroups 19 [(0, .ref a0), (1, .int x1), (2, .int x2), (3, .int x4), (4, .int (x4 + (-1 : Int32)))] [] M Q) : Wp d mdX12_regroups 54 [(0, .ref a0), (1, .int x1), (2, .int x2), (3, .int x3), (4, .int x4)] [.int sx0] M Q := by
  refine r_if_eq (tgt := 62) dX12_regroups_54 (by decide) (fun c0 => ?_) (fun c0 => ?_)
  · skip
    refine r_iload_n dX12_regroups_62 rfl 3 rfl ?_
    refine r_istore_n dX12_regroups_63 rfl (by decide) (ls' := [(3, .int x3), (0, .ref a0), (1, .int x1), (2, .int x2), (4, .int x4)]) rfl ?_
    refine r_iinc dX12_regroups_64 4 rfl (v := x4 + (-1 : Int32)) rfl (by decide) (ls' := [(4, .int (x4 + (-1 : Int32))), (3, .int x3), (0, .ref a0), (1, .int x1), (2, .int x2)]) rfl ?_
    refine r_goto (tgt := 19) dX12_regroups_67 (by decide) ?_
    refine r_sub [2, 3, 4, 1, 0] (ls' := [(0, .ref a0), (1, .int x1), (2, .int x2), (3, .int x3), (4, .int (x4 + (-1 : Int32)))]) rfl ?_
    exact (pw0 c0)
  · skip
    refine r_iload dX12_regroups_57 4 rfl ?_
    refine r_goto (tgt := 63) dX12_regroups_59 (by decide) ?_
    refine r_istore_n dX12_regroups_63 rfl (by decide) (ls' := [(3, .int x4), (0, .ref a0), (1, .int x1), (2, .int x2), (4, .int x4)]) rfl ?_
    refine r_iinc dX12_regroups_64 4 rfl (v := x4 + (-1 : Int32)) rfl (by decide) (ls' := [(4, .int (x4 + (-1 : Int32))), (3, .int x4), (0, .ref a0), (1, .int x1), (2, .int x2)]) rfl ?_
    refine r_goto (tgt := 19) dX12_regroups_67 (by decide) ?_
    refine r_sub [2, 3, 4, 1, 0] (ls' := [(0, .ref a0), (1, .int x1), (2, .int x2), (3, .int x4), (4, .int (x4 + (-1 : Int32)))]) rfl ?_
    exact (pw1 c0)
theorem gX12_regroups_85 {d : Nat} {Q : Option Value → Mem → Prop} {M : Mem} {a0 : Nat} {x2 : Int32} (k0 : mK M a0 = 14) (k1 : mK M (mR M a0 4) = 1) (k2 : mK M (mR M a0 50) = 1) (k3 : mK M (mR M a0 49) = 1) (pb0 : vp_in (nI 0) (mN M (mR M a0 4))) (pq1 : (mI M (mR M a0 4) (nI 0).toNatClampNeg) ≤ x2 → Q none M) (pb2 : ¬ (mI M (mR M a0 4) (nI 0).toNatClampNeg) ≤ x2 → vp_in x2 (mN M (mR M a0 50))) (pb3 : ¬ (mI M (mR M a0 4) (nI 0).toNatClampNeg) ≤ x2 → vp_in x2 (mN M (mR M a0 49))) (pw4 : ¬ (mI M (mR M a0 4) (nI 0).toNatClampNeg) ≤ x2 → Wp d mdX12_regroups 85 [(0, .ref a0), (2, .int (x2 + (nI 1)))] [] (sI M (mR M a0 49) x2.toNatClampNeg (mI M (mR M a0 50) x2.toNatClampNeg)) Q) : Wp d mdX12_regroups 85 [(0, .ref a0), (2, .int x2)] [] M Q := by
  refine r_iload_n dX12_regroups_85 rfl 1 rfl ?_
  refine r_aload_n dX12_regroups_86 rfl 0 rfl ?_
  refine r_getR ck10 dX12_regroups_87 flX12_21 rfl k0 ?_
  refine r_iconst (v := (nI 0)) dX12_regroups_90 rfl ?_
  refine r_iald dX12_regroups_91 k1 pb0 ?_
  refine r_icmp_ge (tgt := 113) dX12_regroups_92 (by decide) (fun c0 => ?_) (fun c0 => ?_)
  · skip
    exact r_ret none dX12_regroups_113 rfl (pq1 c0)
  · skip
    refine r_aload_n dX12_regroups_95 rfl 0 rfl ?_
    refine r_getR ck10 dX12_regroups_96 flX12_169 rfl k0 ?_
    refine r_iload_n dX12_regroups_99 rfl 1 rfl ?_
    refine r_aload_n dX12_regroups_100 rfl 0 rfl ?_
    refine r_getR ck10 dX12_regroups_101 flX12_172 rfl k0 ?_
    refine r_iload_n dX12_regroups_104 rfl 1 rfl ?_
    refine r_iald dX12_regroups_105 k2 (pb2 c0) ?_
    refine r_iast dX12_regroups_106 k3 (pb3 c0) ?_
    refine r_iinc dX12_regroups_107 1 rfl (v := x2 + (nI 1)) rfl (by decide) (ls' := [(2, .int (x2 + (nI 1))), (0, .ref a0)]) rfl ?_
    refine r_goto (tgt := 85) dX12_regroups_110 (by decide) ?_
    refine r_sub [1, 0] (ls' := [(0, .ref a0), (2, .int (x2 + (nI 1)))]) rfl ?_
    exact (pw4 c0)
-- X12_groups
theorem gX12_groups_0 {d : Nat} {Q : Option Value → Mem → Prop} {M : Mem} {a0 : Nat} {x1 : Int32} (k0 : mK M a0 = 14) (pf0 : ClD d mdX12_in [.long x1.toInt64, .long (lN 0), .long (lN 7)] (sI M a0 0 (nI 0)) (fun r1 M1 => Wp d mdX12_groups 14 [(0, .ref a0), (1, .int x1)] (r1.toList ++ []) M1 Q)) : Wp d mdX12_groups 0 [(0, .ref a0), (1, .int x1)] [] M Q := by
  refine r_aload_n dX12_groups_0 rfl 0 rfl ?_
  refine r_iconst (v := (nI 0)) dX12_groups_1 rfl ?_
  refine r_putI ck10 dX12_groups_2 flX12_1 rfl (Or.inl rfl) k0 ?_
  refine r_iload_n dX12_groups_5 rfl 1 rfl ?_
  refine r_i2l dX12_groups_6 ?_
  refine r_lconst (v := (lN 0)) dX12_groups_7 rfl ?_
  refine r_ldc2 dX12_groups_8 kwX12_354 ?_
  obtain ⟨e9, hlt, h9⟩ := pf0
  exact r_callS (As := [.long x1.toInt64, .long (lN 0), .long (lN 7)]) (rest := []) moX12_in dX12_groups_11 mlX12_24 saX12_in rfl hlt (Nat.le_of_ble_eq_true rfl) h9
theorem gX12_groups_14 {d : Nat} {Q : Option Value → Mem → Prop} {M : Mem} {a0 : Nat} {x1 : Int32} {sx0 : Int32} (k0 : mK M a0 = 14) (pf0 : ¬ sx0 = 0 → ClD d mdX12_regroups [.ref a0, .int (nI 1)] M (fun r1 M1 => Wp d mdX12_groups 24 [(0, .ref a0), (1, .int x1)] (r1.toList ++ []) M1 Q)) (pq1 : sx0 = 0 → Q (some (.int (-1 : Int32))) M) : Wp d mdX12_groups 14 [(0, .ref a0), (1, .int x1)] [.int sx0] M Q := by
  refine r_if_ne (tgt := 19) dX12_groups_14 (by decide) (fun c0 => ?_) (fun c0 => ?_)
  · skip
    refine r_aload_n dX12_groups_19 rfl 0 rfl ?_
    refine r_iconst (v := (nI 1)) dX12_groups_20 rfl ?_
    obtain ⟨e9, hlt, h9⟩ := (pf0 c0)
    exact r_callV (As := [.int (nI 1)]) (rest := []) (ci := 10) moX12_regroups dX12_groups_21 mlX12_410 imX12_regroups seX12_regroups k0 rfl hlt (Nat.le_of_ble_eq_true rfl) h9
  · skip
    refine r_iconst (v := (-1)) dX12_groups_17 rfl ?_
    exact r_ret (some (.int (-1 : Int32))) dX12_groups_18 rfl (pq1 c0)
theorem gX12_groups_24 {d : Nat} {Q : Option Value → Mem → Prop} {M : Mem} {a0 : Nat} {x1 : Int32}  (pw0 : Wp d mdX12_groups 26 [(0, .ref a0), (1, .int x1), (2, .int (nI 0))] [] M Q) : Wp d mdX12_groups 24 [(0, .ref a0), (1, .int x1)] [] M Q := by
  refine r_iconst (v := (nI 0)) dX12_groups_24 rfl ?_
  refine r_istore_n dX12_groups_25 rfl (by decide) (ls' := [(2, .int (nI 0)), (0, .ref a0), (1, .int x1)]) rfl ?_
  refine r_sub [1, 2, 0] (ls' := [(0, .ref a0), (1, .int x1), (2, .int (nI 0))]) rfl ?_
  exact pw0
theorem gX12_groups_26 {d : Nat} {Q : Option Value → Mem → Prop} {M : Mem} {a0 : Nat} {x1 : Int32} {x2 : Int32} (k0 : mK M a0 = 14) (pw0 : x1 ≤ x2 → Wp d mdX12_groups 51 [(0, .ref a0), (2, .int (nI 0)), (3, .int (nI 0))] [] (sI M a0 1 (nI 0)) Q) (pf1 : ¬ x1 ≤ x2 → ClD d mdX12_regroups [.ref a0, .int (nI 0)] M (fun r1 M1 => Wp d mdX12_groups 36 [(0, .ref a0), (1, .int x1), (2, .int x2)] (r1.toList ++ []) M1 Q)) : Wp d mdX12_groups 26 [(0, .ref a0), (1, .int x1), (2, .int x2)] [] M Q := by
  refine r_iload_n dX12_groups_26 rfl 2 rfl ?_
  refine r_iload_n dX12_groups_27 rfl 1 rfl ?_
  refine r_icmp_ge (tgt := 42) dX12_groups_28 (by decide) (fun c0 => ?_) (fun c0 => ?_)
  · skip
    refine r_iconst (v := (nI 0)) dX12_groups_42 rfl ?_
    refine r_istore_n dX12_groups_43 rfl (by decide) (ls' := [(2, .int (nI 0)), (0, .ref a0), (1, .int x1)]) rfl ?_
    refine r_aload_n dX12_groups_44 rfl 1 rfl ?_
    refine r_iconst (v := (nI 0)) dX12_groups_45 rfl ?_
    refine r_putI ck10 dX12_groups_46 flX12_11 rfl (Or.inl rfl) k0 ?_
    refine r_iconst (v := (nI 0)) dX12_groups_49 rfl ?_
    refine r_istore_n dX12_groups_50 rfl (by decide) (ls' := [(3, .int (nI 0)), (2, .int (nI 0)), (0, .ref a0), (1, .int x1)]) rfl ?_
    refine r_sub [2, 1, 0] (ls' := [(0, .ref a0), (2, .int (nI 0)), (3, .int (nI 0))]) rfl ?_
    exact (pw0 c0)
  · skip
    refine r_aload_n dX12_groups_31 rfl 0 rfl ?_
    refine r_iconst (v := (nI 0)) dX12_groups_32 rfl ?_
    obtain ⟨e9, hlt, h9⟩ := (pf1 c0)
    exact r_callV (As := [.int (nI 0)]) (rest := []) (ci := 10) moX12_regroups dX12_groups_33 mlX12_410 imX12_regroups seX12_regroups k0 rfl hlt (Nat.le_of_ble_eq_true rfl) h9
theorem gX12_groups_36 {d : Nat} {Q : Option Value → Mem → Prop} {M : Mem} {a0 : Nat} {x1 : Int32} {x2 : Int32}  (pw0 : Wp d mdX12_groups 26 [(0, .ref a0), (1, .int x1), (2, .int (x2 + (nI 1)))] [] M Q) : Wp d mdX12_groups 36 [(0, .ref a0), (1, .int x1), (2, .int x2)] [] M Q := by
  refine r_iinc dX12_groups_36 2 rfl (v := x2 + (nI 1)) rfl (by decide) (ls' := [(2, .int (x2 + (nI 1))), (0, .ref a0), (1, .int x1)]) rfl ?_
  refine r_goto (tgt := 26) dX12_groups_39 (by decide) ?_
  refine r_sub [1, 2, 0] (ls' := [(0, .ref a0), (1, .int x1), (2, .int (x2 + (nI 1)))]) rfl ?_
  exact pw0
theorem gX12_groups_51 {d : Nat} {Q : Option Value → Mem → Prop} {M : Mem} {a0 : Nat} {x2 : Int32} {x3 : Int32} (k0 : mK M a0 = 14) (k1 : mK M (mR M a0 4) = 1) (k2 : mK M (mR M a0 49) = 1) (pb0 : vp_in (nI 0) (mN M (mR M a0 4))) (pq1 : (mI M (mR M a0 4) (nI 0).toNatClampNeg) ≤ x3 → Q (some (.int x2)) M) (pb2 : ¬ (mI M (mR M a0 4) (nI 0).toNatClampNeg) ≤ x3 → vp_in x3 (mN M (mR M a0 49))) (pw3 : ¬ (mI M (mR M a0 4) (nI 0).toNatClampNeg) ≤ x3 → ¬ (mI M (mR M a0 49) x3.toNatClampNeg) = x3 → Wp d mdX12_groups 77 [(0, .ref a0), (3, .int x3)] [.int (nI 0), .int x2] M Q) (pw4 : ¬ (mI M (mR M a0 4) (nI 0).toNatClampNeg) ≤ x3 → (mI M (mR M a0 49) x3.toNatClampNeg) = x3 → Wp d mdX12_groups 77 [(0, .ref a0), (3, .int x3)] [.int (nI 1), .int x2] M Q) : Wp d mdX12_groups 51 [(0, .ref a0), (2, .int x2), (3, .int x3)] [] M Q := by
  refine r_iload_n dX12_groups_51 rfl 2 rfl ?_
  refine r_aload_n dX12_groups_52 rfl 0 rfl ?_
  refine r_getR ck10 dX12_groups_53 flX12_21 rfl k0 ?_
  refine r_iconst (v := (nI 0)) dX12_groups_56 rfl ?_
  refine r_iald dX12_groups_57 k1 pb0 ?_
  refine r_icmp_ge (tgt := 99) dX12_groups_58 (by decide) (fun c0 => ?_) (fun c0 => ?_)
  · skip
    refine r_iload_n dX12_groups_99 rfl 1 rfl ?_
    exact r_ret (some (.int x2)) dX12_groups_100 rfl (pq1 c0)
  · skip
    refine r_iload_n dX12_groups_61 rfl 1 rfl ?_
    refine r_aload_n dX12_groups_62 rfl 0 rfl ?_
    refine r_getR ck10 dX12_groups_63 flX12_169 rfl k0 ?_
    refine r_iload_n dX12_groups_66 rfl 2 rfl ?_
    refine r_iald dX12_groups_67 k2 (pb2 c0) ?_
    refine r_iload_n dX12_groups_68 rfl 2 rfl ?_
    refine r_icmp_ne (tgt := 76) dX12_groups_69 (by decide) (fun c1 => ?_) (fun c1 => ?_)
    · skip
      refine r_iconst (v := (nI 0)) dX12_groups_76 rfl ?_
      refine r_sub [0, 2] (ls' := [(0, .ref a0), (3, .int x3)]) rfl ?_
      exact (pw3 c0 c1)
    · skip
      refine r_iconst (v := (nI 1)) dX12_groups_72 rfl ?_
      refine r_goto (tgt := 77) dX12_groups_73 (by decide) ?_
      refine r_sub [0, 2] (ls' := [(0, .ref a0), (3, .int x3)]) rfl ?_
      exact (pw4 c0 c1)
theorem gX12_groups_77 {d : Nat} {Q : Option Value → Mem → Prop} {M : Mem} {a0 : Nat} {x3 : Int32} {sx0 : Int32} {sx1 : Int32}  (pf0 : ClD d mdX12_flag [.int sx0] M (fun r1 M1 => Wp d mdX12_groups 80 [(0, .ref a0), (3, .int x3)] (r1.toList ++ [.int sx1]) M1 Q)) : Wp d mdX12_groups 77 [(0, .ref a0), (3, .int x3)] [.int sx0, .int sx1] M Q := by
  obtain ⟨e9, hlt, h9⟩ := pf0
  exact r_callS (As := [.int sx0]) (rest := [.int sx1]) moX12_flag dX12_groups_77 mlX12_339 saX12_flag rfl hlt (Nat.le_of_ble_eq_true rfl) h9
theorem gX12_groups_80 {d : Nat} {Q : Option Value → Mem → Prop} {M : Mem} {a0 : Nat} {x3 : Int32} {sx0 : Int32} {sx1 : Int32} (k0 : mK M a0 = 14) (k1 : mK M (mR M a0 49) = 1) (pb0 : vp_in x3 (mN M (mR M a0 49))) (pf1 : ClD d mdX12_enters [.ref a0, .long ((mI M (mR M a0 49) x3.toNatClampNeg).toInt64)] M (fun r1 M1 => Wp d mdX12_groups 93 [(0, .ref a0), (2, .int (sx1 + sx0)), (3, .int x3)] (r1.toList ++ []) M1 Q)) : Wp d mdX12_groups 80 [(0, .ref a0), (3, .int x3)] [.int sx0, .int sx1] M Q := by
  refine r_iadd dX12_groups_80 ?_
  refine r_istore_n dX12_groups_81 rfl (by decide) (ls' := [(2, .int (sx1 + sx0)), (0, .ref a0), (3, .int x3)]) rfl ?_
  refine r_aload_n dX12_groups_82 rfl 1 rfl ?_
  refine r_aload_n dX12_groups_83 rfl 1 rfl ?_
  refine r_getR ck10 dX12_groups_84 flX12_169 rfl k0 ?_
  refine r_iload_n dX12_groups_87 rfl 2 rfl ?_
  refine r_iald dX12_groups_88 k1 pb0 ?_
  refine r_i2l dX12_groups_89 ?_
  refine r_sub [1, 0, 2] (ls' := [(0, .ref a0), (2, .int (sx1 + sx0)), (3, .int x3)]) rfl ?_
  obtain ⟨e9, hlt, h9⟩ := pf1
  exact r_callV (As := [.long ((mI M (mR M a0 49) x3.toNatClampNeg).toInt64)]) (rest := []) (ci := 10) moX12_enters dX12_groups_90 mlX12_343 imX12_enters seX12_enters k0 rfl hlt (Nat.le_of_ble_eq_true rfl) h9
theorem gX12_groups_93 {d : Nat} {Q : Option Value → Mem → Prop} {M : Mem} {a0 : Nat} {x2 : Int32} {x3 : Int32}  (pw0 : Wp d mdX12_groups 51 [(0, .ref a0), (2, .int x2), (3, .int (x3 + (nI 1)))] [] M Q) : Wp d mdX12_groups 93 [(0, .ref a0), (2, .int x2), (3, .int x3)] [] M Q := by
  refine r_iinc dX12_groups_93 2 rfl (v := x3 + (nI 1)) rfl (by decide) (ls' := [(3, .int (x3 + (nI 1))), (0, .ref a0), (2, .int x2)]) rfl ?_
  refine r_goto (tgt := 51) dX12_groups_96 (by decide) ?_
  refine r_sub [1, 2, 0] (ls' := [(0, .ref a0), (2, .int x2), (3, .int (x3 + (nI 1)))]) rfl ?_
  exact pw0
-- X12_stepsInThought
theorem gX12_stepsInThought_0 {d : Nat} {Q : Option Value → Mem → Prop} {M : Mem} {a0 : Nat} {x1 : Int32} (k0 : mK M a0 = 14) (pf0 : ClD d mdX12_fresh [.ref a0, .int (nI 1), .int x1] M (fun r1 M1 => Wp d mdX12_stepsInThought 6 [(0, .ref a0)] (r1.toList ++ []) M1 Q)) : Wp d mdX12_stepsInThought 0 [(0, .ref a0), (1, .int x1)] [] M Q := by
  refine r_aload_n dX12_stepsInThought_0 rfl 0 rfl ?_
  refine r_iconst (v := (nI 1)) dX12_stepsInThought_1 rfl ?_
  refine r_iload_n dX12_stepsInThought_2 rfl 1 rfl ?_
  refine r_sub [0] (ls' := [(0, .ref a0)]) rfl ?_
  obtain ⟨e9, hlt, h9⟩ := pf0
  exact r_callV (As := [.int (nI 1), .int x1]) (rest := []) (ci := 10) moX12_fresh dX12_stepsInThought_3 mlX12_175 imX12_fresh seX12_fresh k0 rfl hlt (Nat.le_of_ble_eq_true rfl) h9
theorem gX12_stepsInThought_6 {d : Nat} {Q : Option Value → Mem → Prop} {M : Mem} {a0 : Nat} (k0 : mK M a0 = 14) (pf0 : ClD d mdX12_learnsAll [.ref a0, .int (nI 1)] M (fun r1 M1 => Wp d mdX12_stepsInThought 11 [] (r1.toList ++ []) M1 Q)) : Wp d mdX12_stepsInThought 6 [(0, .ref a0)] [] M Q := by
  refine r_aload_n dX12_stepsInThought_6 rfl 0 rfl ?_
  refine r_iconst (v := (nI 1)) dX12_stepsInThought_7 rfl ?_
  refine r_sub [] (ls' := []) rfl ?_
  obtain ⟨e9, hlt, h9⟩ := pf0
  exact r_callV (As := [.int (nI 1)]) (rest := []) (ci := 10) moX12_learnsAll dX12_stepsInThought_8 mlX12_347 imX12_learnsAll seX12_learnsAll k0 rfl hlt (Nat.le_of_ble_eq_true rfl) h9
theorem gX12_stepsInThought_11 {d : Nat} {Q : Option Value → Mem → Prop} {M : Mem} {sx0 : Int32}  (pq0 : Q (some (.int sx0)) M) : Wp d mdX12_stepsInThought 11 [] [.int sx0] M Q := by
  exact r_ret (some (.int sx0)) dX12_stepsInThought_11 rfl pq0
-- X12_costs
theorem gX12_costs_0 {d : Nat} {Q : Option Value → Mem → Prop} {M : Mem} {a0 : Nat} {x1 : Int32} (k0 : mK M a0 = 14) (pf0 : ClD d mdX12_in [.long x1.toInt64, .long (lN 0), .long (lN 3)] (sI M a0 0 (nI 0)) (fun r1 M1 => Wp d mdX12_costs 14 [(0, .ref a0), (1, .int x1)] (r1.toList ++ []) M1 Q)) : Wp d mdX12_costs 0 [(0, .ref a0), (1, .int x1)] [] M Q := by
  refine r_aload_n dX12_costs_0 rfl 0 rfl ?_
  refine r_iconst (v := (nI 0)) dX12_costs_1 rfl ?_
  refine r_putI ck10 dX12_costs_2 flX12_1 rfl (Or.inl rfl) k0 ?_
  refine r_iload_n dX12_costs_5 rfl 1 rfl ?_
  refine r_i2l dX12_costs_6 ?_
  refine r_lconst (v := (lN 0)) dX12_costs_7 rfl ?_
  refine r_ldc2 dX12_costs_8 kwX12_28 ?_
  obtain ⟨e9, hlt, h9⟩ := pf0
  exact r_callS (As := [.long x1.toInt64, .long (lN 0), .long (lN 3)]) (rest := []) moX12_in dX12_costs_11 mlX12_24 saX12_in rfl hlt (Nat.le_of_ble_eq_true rfl) h9
theorem gX12_costs_14 {d : Nat} {Q : Option Value → Mem → Prop} {M : Mem} {a0 : Nat} {x1 : Int32} {sx0 : Int32} (k0 : mK M a0 = 14) (pf0 : ¬ sx0 = 0 → ClD d mdX12_stepsInThought [.ref a0, .int x1] M (fun r1 M1 => Wp d mdX12_costs 24 [(0, .ref a0)] (r1.toList ++ []) M1 Q)) (pq1 : sx0 = 0 → Q (some (.int (-1 : Int32))) M) : Wp d mdX12_costs 14 [(0, .ref a0), (1, .int x1)] [.int sx0] M Q := by
  refine r_if_ne (tgt := 19) dX12_costs_14 (by decide) (fun c0 => ?_) (fun c0 => ?_)
  · skip
    refine r_aload_n dX12_costs_19 rfl 0 rfl ?_
    refine r_iload_n dX12_costs_20 rfl 1 rfl ?_
    refine r_sub [0] (ls' := [(0, .ref a0)]) rfl ?_
    obtain ⟨e9, hlt, h9⟩ := (pf0 c0)
    exact r_callV (As := [.int x1]) (rest := []) (ci := 10) moX12_stepsInThought dX12_costs_21 mlX12_414 imX12_stepsInThought seX12_stepsInThought k0 rfl hlt (Nat.le_of_ble_eq_true rfl) h9
  · skip
    refine r_iconst (v := (-1)) dX12_costs_17 rfl ?_
    exact r_ret (some (.int (-1 : Int32))) dX12_costs_18 rfl (pq1 c0)
theorem gX12_costs_24 {d : Nat} {Q : Option Value → Mem → Prop} {M : Mem} {a0 : Nat} {sx0 : Int32} (k0 : mK M a0 = 14) (k1 : mK M (mR (sI M a0 1 (nI 0)) a0 17) = 1) (pb0 : vp_in (nI 1) (mN (sI M a0 1 (nI 0)) (mR (sI M a0 1 (nI 0)) a0 17))) (pf1 : ClD d mdX12_enters [.ref a0, .long ((mI (sI M a0 1 (nI 0)) (mR (sI M a0 1 (nI 0)) a0 17) (nI 1).toNatClampNeg).toInt64)] (sI M a0 1 (nI 0)) (fun r1 M1 => Wp d mdX12_costs 41 [(0, .ref a0), (2, .int sx0)] (r1.toList ++ []) M1 Q)) : Wp d mdX12_costs 24 [(0, .ref a0)] [.int sx0] M Q := by
  refine r_istore_n dX12_costs_24 rfl (by decide) (ls' := [(2, .int sx0), (0, .ref a0)]) rfl ?_
  refine r_aload_n dX12_costs_25 rfl 1 rfl ?_
  refine r_iconst (v := (nI 0)) dX12_costs_26 rfl ?_
  refine r_putI ck10 dX12_costs_27 flX12_11 rfl (Or.inl rfl) k0 ?_
  refine r_aload_n dX12_costs_30 rfl 1 rfl ?_
  refine r_aload_n dX12_costs_31 rfl 1 rfl ?_
  refine r_getR ck10 dX12_costs_32 flX12_117 rfl k0 ?_
  refine r_iconst (v := (nI 1)) dX12_costs_35 rfl ?_
  refine r_iald dX12_costs_36 k1 pb0 ?_
  refine r_i2l dX12_costs_37 ?_
  refine r_sub [1, 0] (ls' := [(0, .ref a0), (2, .int sx0)]) rfl ?_
  obtain ⟨e9, hlt, h9⟩ := pf1
  exact r_callV (As := [.long ((mI (sI M a0 1 (nI 0)) (mR (sI M a0 1 (nI 0)) a0 17) (nI 1).toNatClampNeg).toInt64)]) (rest := []) (ci := 10) moX12_enters dX12_costs_38 mlX12_343 imX12_enters seX12_enters k0 rfl hlt (Nat.le_of_ble_eq_true rfl) h9
theorem gX12_costs_41 {d : Nat} {Q : Option Value → Mem → Prop} {M : Mem} {a0 : Nat} {x2 : Int32} (k0 : mK M a0 = 14) (k1 : mK M (mR M a0 19) = 1) (pb0 : vp_in (nI 1) (mN M (mR M a0 19))) (pf1 : ClD d mdX12_enters [.ref a0, .long ((mI M (mR M a0 19) (nI 1).toNatClampNeg).toInt64)] M (fun r1 M1 => Wp d mdX12_costs 52 [(0, .ref a0), (2, .int x2)] (r1.toList ++ []) M1 Q)) : Wp d mdX12_costs 41 [(0, .ref a0), (2, .int x2)] [] M Q := by
  refine r_aload_n dX12_costs_41 rfl 0 rfl ?_
  refine r_aload_n dX12_costs_42 rfl 0 rfl ?_
  refine r_getR ck10 dX12_costs_43 flX12_123 rfl k0 ?_
  refine r_iconst (v := (nI 1)) dX12_costs_46 rfl ?_
  refine r_iald dX12_costs_47 k1 pb0 ?_
  refine r_i2l dX12_costs_48 ?_
  obtain ⟨e9, hlt, h9⟩ := pf1
  exact r_callV (As := [.long ((mI M (mR M a0 19) (nI 1).toNatClampNeg).toInt64)]) (rest := []) (ci := 10) moX12_enters dX12_costs_49 mlX12_343 imX12_enters seX12_enters k0 rfl hlt (Nat.le_of_ble_eq_true rfl) h9
theorem gX12_costs_52 {d : Nat} {Q : Option Value → Mem → Prop} {M : Mem} {a0 : Nat} {x2 : Int32} (k0 : mK M a0 = 14) (pf0 : ClD d mdX12_enters [.ref a0, .long x2.toInt64] M (fun r1 M1 => Wp d mdX12_costs 58 [(0, .ref a0)] (r1.toList ++ []) M1 Q)) : Wp d mdX12_costs 52 [(0, .ref a0), (2, .int x2)] [] M Q := by
  refine r_aload_n dX12_costs_52 rfl 0 rfl ?_
  refine r_iload_n dX12_costs_53 rfl 1 rfl ?_
  refine r_i2l dX12_costs_54 ?_
  refine r_sub [0] (ls' := [(0, .ref a0)]) rfl ?_
  obtain ⟨e9, hlt, h9⟩ := pf0
  exact r_callV (As := [.long x2.toInt64]) (rest := []) (ci := 10) moX12_enters dX12_costs_55 mlX12_343 imX12_enters seX12_enters k0 rfl hlt (Nat.le_of_ble_eq_true rfl) h9
theorem gX12_costs_58 {d : Nat} {Q : Option Value → Mem → Prop} {M : Mem} {a0 : Nat} (k0 : mK M a0 = 14) (k1 : mK M (mR M a0 11) = 1) (pb0 : vp_in (nI 1) (mN M (mR M a0 11))) (pf1 : ClD d mdX12_enters [.ref a0, .long ((mI M (mR M a0 11) (nI 1).toNatClampNeg).toInt64)] M (fun r1 M1 => Wp d mdX12_costs 69 [(0, .ref a0)] (r1.toList ++ []) M1 Q)) : Wp d mdX12_costs 58 [(0, .ref a0)] [] M Q := by
  refine r_aload_n dX12_costs_58 rfl 0 rfl ?_
  refine r_aload_n dX12_costs_59 rfl 0 rfl ?_
  refine r_getR ck10 dX12_costs_60 flX12_98 rfl k0 ?_
  refine r_iconst (v := (nI 1)) dX12_costs_63 rfl ?_
  refine r_iald dX12_costs_64 k1 pb0 ?_
  refine r_i2l dX12_costs_65 ?_
  obtain ⟨e9, hlt, h9⟩ := pf1
  exact r_callV (As := [.long ((mI M (mR M a0 11) (nI 1).toNatClampNeg).toInt64)]) (rest := []) (ci := 10) moX12_enters dX12_costs_66 mlX12_343 imX12_enters seX12_enters k0 rfl hlt (Nat.le_of_ble_eq_true rfl) h9
theorem gX12_costs_69 {d : Nat} {Q : Option Value → Mem → Prop} {M : Mem} {a0 : Nat} (k0 : mK M a0 = 14) (k1 : mK M (mR M a0 12) = 1) (pb0 : vp_in (nI 1) (mN M (mR M a0 12))) (pf1 : ClD d mdX12_enters [.ref a0, .long ((mI M (mR M a0 12) (nI 1).toNatClampNeg).toInt64)] M (fun r1 M1 => Wp d mdX12_costs 80 [(0, .ref a0)] (r1.toList ++ []) M1 Q)) : Wp d mdX12_costs 69 [(0, .ref a0)] [] M Q := by
  refine r_aload_n dX12_costs_69 rfl 0 rfl ?_
  refine r_aload_n dX12_costs_70 rfl 0 rfl ?_
  refine r_getR ck10 dX12_costs_71 flX12_101 rfl k0 ?_
  refine r_iconst (v := (nI 1)) dX12_costs_74 rfl ?_
  refine r_iald dX12_costs_75 k1 pb0 ?_
  refine r_i2l dX12_costs_76 ?_
  obtain ⟨e9, hlt, h9⟩ := pf1
  exact r_callV (As := [.long ((mI M (mR M a0 12) (nI 1).toNatClampNeg).toInt64)]) (rest := []) (ci := 10) moX12_enters dX12_costs_77 mlX12_343 imX12_enters seX12_enters k0 rfl hlt (Nat.le_of_ble_eq_true rfl) h9
theorem gX12_costs_80 {d : Nat} {Q : Option Value → Mem → Prop} {M : Mem} {a0 : Nat} (k0 : mK M a0 = 14) (k1 : mK M (mR M a0 18) = 1) (pb0 : vp_in (nI 1) (mN M (mR M a0 18))) (pq1 : Q (some (.int (mI M (mR M a0 18) (nI 1).toNatClampNeg))) M) : Wp d mdX12_costs 80 [(0, .ref a0)] [] M Q := by
  refine r_aload_n dX12_costs_80 rfl 0 rfl ?_
  refine r_getR ck10 dX12_costs_81 flX12_120 rfl k0 ?_
  refine r_iconst (v := (nI 1)) dX12_costs_84 rfl ?_
  refine r_iald dX12_costs_85 k1 pb0 ?_
  exact r_ret (some (.int (mI M (mR M a0 18) (nI 1).toNatClampNeg))) dX12_costs_86 rfl pq1
-- X12_cheapest
theorem gX12_cheapest_0 {d : Nat} {Q : Option Value → Mem → Prop} {M : Mem} {a0 : Nat} (k0 : mK M a0 = 14) (pw0 : Wp d mdX12_cheapest 16 [(0, .ref a0), (1, .int (nI 0)), (2, .int (nI 0)), (3, .int (nI 0))] [] (sI (sI M a0 0 (nI 0)) a0 1 (nI 0)) Q) : Wp d mdX12_cheapest 0 [(0, .ref a0)] [] M Q := by
  refine r_aload_n dX12_cheapest_0 rfl 0 rfl ?_
  refine r_iconst (v := (nI 0)) dX12_cheapest_1 rfl ?_
  refine r_putI ck10 dX12_cheapest_2 flX12_1 rfl (Or.inl rfl) k0 ?_
  refine r_iconst (v := (nI 0)) dX12_cheapest_5 rfl ?_
  refine r_istore_n dX12_cheapest_6 rfl (by decide) (ls' := [(1, .int (nI 0)), (0, .ref a0)]) rfl ?_
  refine r_iconst (v := (nI 0)) dX12_cheapest_7 rfl ?_
  refine r_istore_n dX12_cheapest_8 rfl (by decide) (ls' := [(2, .int (nI 0)), (1, .int (nI 0)), (0, .ref a0)]) rfl ?_
  refine r_aload_n dX12_cheapest_9 rfl 2 rfl ?_
  refine r_iconst (v := (nI 0)) dX12_cheapest_10 rfl ?_
  refine r_putI ck10 dX12_cheapest_11 flX12_11 rfl (Or.inl rfl) k0 ?_
  refine r_iconst (v := (nI 0)) dX12_cheapest_14 rfl ?_
  refine r_istore_n dX12_cheapest_15 rfl (by decide) (ls' := [(3, .int (nI 0)), (2, .int (nI 0)), (1, .int (nI 0)), (0, .ref a0)]) rfl ?_
  refine r_sub [3, 2, 1, 0] (ls' := [(0, .ref a0), (1, .int (nI 0)), (2, .int (nI 0)), (3, .int (nI 0))]) rfl ?_
  exact pw0
theorem gX12_cheapest_16 {d : Nat} {Q : Option Value → Mem → Prop} {M : Mem} {a0 : Nat} {x1 : Int32} {x2 : Int32} {x3 : Int32} (k0 : mK M a0 = 14) (pq0 : (nI 3) < x3 → Q (some (.int x1)) M) (pf1 : ¬ (nI 3) < x3 → ClD d mdX12_stepsInThought [.ref a0, .int x3] M (fun r1 M1 => Wp d mdX12_cheapest 26 [(0, .ref a0), (1, .int x1), (2, .int x2), (3, .int x3)] (r1.toList ++ []) M1 Q)) : Wp d mdX12_cheapest 16 [(0, .ref a0), (1, .int x1), (2, .int x2), (3, .int x3)] [] M Q := by
  refine r_iload_n dX12_cheapest_16 rfl 3 rfl ?_
  refine r_iconst (v := (nI 3)) dX12_cheapest_17 rfl ?_
  refine r_icmp_gt (tgt := 70) dX12_cheapest_18 (by decide) (fun c0 => ?_) (fun c0 => ?_)
  · skip
    refine r_iload_n dX12_cheapest_70 rfl 1 rfl ?_
    exact r_ret (some (.int x1)) dX12_cheapest_71 rfl (pq0 c0)
  · skip
    refine r_aload_n dX12_cheapest_21 rfl 0 rfl ?_
    refine r_iload_n dX12_cheapest_22 rfl 3 rfl ?_
    obtain ⟨e9, hlt, h9⟩ := (pf1 c0)
    exact r_callV (As := [.int x3]) (rest := []) (ci := 10) moX12_stepsInThought dX12_cheapest_23 mlX12_414 imX12_stepsInThought seX12_stepsInThought k0 rfl hlt (Nat.le_of_ble_eq_true rfl) h9
theorem gX12_cheapest_26 {d : Nat} {Q : Option Value → Mem → Prop} {M : Mem} {a0 : Nat} {x1 : Int32} {x2 : Int32} {x3 : Int32} {sx0 : Int32} (k0 : mK M a0 = 14) (k1 : mK M (mR M a0 18) = 1) (pb0 : vp_in (nI 1) (mN M (mR M a0 18))) (pf1 : ClD d mdX12_enters [.ref a0, .long ((mI M (mR M a0 18) (nI 1).toNatClampNeg).toInt64)] M (fun r1 M1 => Wp d mdX12_cheapest 38 [(0, .ref a0), (1, .int x1), (2, .int x2), (3, .int x3)] (r1.toList ++ []) M1 Q)) : Wp d mdX12_cheapest 26 [(0, .ref a0), (1, .int x1), (2, .int x2), (3, .int x3)] [.int sx0] M Q := by
  refine r_pop dX12_cheapest_26 rfl ?_
  refine r_aload_n dX12_cheapest_27 rfl 0 rfl ?_
  refine r_aload_n dX12_cheapest_28 rfl 0 rfl ?_
  refine r_getR ck10 dX12_cheapest_29 flX12_120 rfl k0 ?_
  refine r_iconst (v := (nI 1)) dX12_cheapest_32 rfl ?_
  refine r_iald dX12_cheapest_33 k1 pb0 ?_
  refine r_i2l dX12_cheapest_34 ?_
  obtain ⟨e9, hlt, h9⟩ := pf1
  exact r_callV (As := [.long ((mI M (mR M a0 18) (nI 1).toNatClampNeg).toInt64)]) (rest := []) (ci := 10) moX12_enters dX12_cheapest_35 mlX12_343 imX12_enters seX12_enters k0 rfl hlt (Nat.le_of_ble_eq_true rfl) h9
theorem gX12_cheapest_38 {d : Nat} {Q : Option Value → Mem → Prop} {M : Mem} {a0 : Nat} {x1 : Int32} {x2 : Int32} {x3 : Int32} (k0 : mK M a0 = 14) (k1 : mK M (mR M a0 18) = 1) (pw0 : x3 ≤ 0 → Wp d mdX12_cheapest 55 [(0, .ref a0), (3, .int x3)] [] M Q) (pb1 : ¬ x3 ≤ 0 → vp_in (nI 1) (mN M (mR M a0 18))) (pw2 : ¬ x3 ≤ 0 → (mI M (mR M a0 18) (nI 1).toNatClampNeg) < x2 → Wp d mdX12_cheapest 55 [(0, .ref a0), (3, .int x3)] [] M Q) (pw3 : ¬ x3 ≤ 0 → ¬ (mI M (mR M a0 18) (nI 1).toNatClampNeg) < x2 → Wp d mdX12_cheapest 16 [(0, .ref a0), (1, .int x1), (2, .int x2), (3, .int (x3 + (nI 1)))] [] M Q) : Wp d mdX12_cheapest 38 [(0, .ref a0), (1, .int x1), (2, .int x2), (3, .int x3)] [] M Q := by
  refine r_iload_n dX12_cheapest_38 rfl 3 rfl ?_
  refine r_if_le (tgt := 55) dX12_cheapest_39 (by decide) (fun c0 => ?_) (fun c0 => ?_)
  · skip
    refine r_sub [0, 3] (ls' := [(0, .ref a0), (3, .int x3)]) rfl ?_
    exact (pw0 c0)
  · skip
    refine r_aload_n dX12_cheapest_42 rfl 0 rfl ?_
    refine r_getR ck10 dX12_cheapest_43 flX12_120 rfl k0 ?_
    refine r_iconst (v := (nI 1)) dX12_cheapest_46 rfl ?_
    refine r_iald dX12_cheapest_47 k1 (pb1 c0) ?_
    refine r_iload_n dX12_cheapest_48 rfl 2 rfl ?_
    refine r_icmp_lt (tgt := 55) dX12_cheapest_49 (by decide) (fun c1 => ?_) (fun c1 => ?_)
    · skip
      refine r_sub [0, 3] (ls' := [(0, .ref a0), (3, .int x3)]) rfl ?_
      exact (pw2 c0 c1)
    · skip
      refine r_goto (tgt := 64) dX12_cheapest_52 (by decide) ?_
      refine r_iinc dX12_cheapest_64 3 rfl (v := x3 + (nI 1)) rfl (by decide) (ls' := [(3, .int (x3 + (nI 1))), (0, .ref a0), (1, .int x1), (2, .int x2)]) rfl ?_
      refine r_goto (tgt := 16) dX12_cheapest_67 (by decide) ?_
      refine r_sub [1, 2, 3, 0] (ls' := [(0, .ref a0), (1, .int x1), (2, .int x2), (3, .int (x3 + (nI 1)))]) rfl ?_
      exact (pw3 c0 c1)
theorem gX12_cheapest_55 {d : Nat} {Q : Option Value → Mem → Prop} {M : Mem} {a0 : Nat} {x3 : Int32} (k0 : mK M a0 = 14) (k1 : mK M (mR M a0 18) = 1) (pb0 : vp_in (nI 1) (mN M (mR M a0 18))) (pw1 : Wp d mdX12_cheapest 16 [(0, .ref a0), (1, .int x3), (2, .int (mI M (mR M a0 18) (nI 1).toNatClampNeg)), (3, .int (x3 + (nI 1)))] [] M Q) : Wp d mdX12_cheapest 55 [(0, .ref a0), (3, .int x3)] [] M Q := by
  refine r_iload_n dX12_cheapest_55 rfl 1 rfl ?_
  refine r_istore_n dX12_cheapest_56 rfl (by decide) (ls' := [(1, .int x3), (0, .ref a0), (3, .int x3)]) rfl ?_
  refine r_aload_n dX12_cheapest_57 rfl 1 rfl ?_
  refine r_getR ck10 dX12_cheapest_58 flX12_120 rfl k0 ?_
  refine r_iconst (v := (nI 1)) dX12_cheapest_61 rfl ?_
  refine r_iald dX12_cheapest_62 k1 pb0 ?_
  refine r_istore_n dX12_cheapest_63 rfl (by decide) (ls' := [(2, .int (mI M (mR M a0 18) (nI 1).toNatClampNeg)), (1, .int x3), (0, .ref a0), (3, .int x3)]) rfl ?_
  refine r_iinc dX12_cheapest_64 3 rfl (v := x3 + (nI 1)) rfl (by decide) (ls' := [(3, .int (x3 + (nI 1))), (2, .int (mI M (mR M a0 18) (nI 1).toNatClampNeg)), (1, .int x3), (0, .ref a0)]) rfl ?_
  refine r_goto (tgt := 16) dX12_cheapest_67 (by decide) ?_
  refine r_sub [3, 2, 1, 0] (ls' := [(0, .ref a0), (1, .int x3), (2, .int (mI M (mR M a0 18) (nI 1).toNatClampNeg)), (3, .int (x3 + (nI 1)))]) rfl ?_
  exact pw1
-- X12_count
theorem gX12_count_0 {d : Nat} {Q : Option Value → Mem → Prop} {M : Mem} {a0 : Nat} {x1 : Int32} (k0 : mK M a0 = 14) (k1 : mK M (mR (sI M a0 0 (nI 0)) a0 4) = 1) (k2 : mK M (mR (sI M a0 0 (nI 0)) a0 17) = 1) (k3 : mK M (mR (sI M a0 0 (nI 0)) a0 18) = 1) (k4 : mK M (mR (sI M a0 0 (nI 0)) a0 19) = 1) (k5 : mK M (mR (sI M a0 0 (nI 0)) a0 20) = 3) (pq0 : x1 = (nI 0) → Q (some (.int (mI (sI M a0 0 (nI 0)) a0 7))) (sI M a0 0 (nI 0))) (pq1 : ¬ x1 = (nI 0) → x1 = (nI 1) → Q (some (.int (mI (sI M a0 0 (nI 0)) a0 3))) (sI M a0 0 (nI 0))) (pb2 : ¬ x1 = (nI 0) → ¬ x1 = (nI 1) → x1 = (nI 2) → vp_in (nI 0) (mN (sI M a0 0 (nI 0)) (mR (sI M a0 0 (nI 0)) a0 4))) (pq3 : ¬ x1 = (nI 0) → ¬ x1 = (nI 1) → x1 = (nI 2) → Q (some (.int (mI (sI M a0 0 (nI 0)) (mR (sI M a0 0 (nI 0)) a0 4) (nI 0).toNatClampNeg))) (sI M a0 0 (nI 0))) (pb4 : ¬ x1 = (nI 0) → ¬ x1 = (nI 1) → ¬ x1 = (nI 2) → x1 = (nI 3) → vp_in (nI 0) (mN (sI M a0 0 (nI 0)) (mR (sI M a0 0 (nI 0)) a0 17))) (pq5 : ¬ x1 = (nI 0) → ¬ x1 = (nI 1) → ¬ x1 = (nI 2) → x1 = (nI 3) → Q (some (.int (mI (sI M a0 0 (nI 0)) (mR (sI M a0 0 (nI 0)) a0 17) (nI 0).toNatClampNeg))) (sI M a0 0 (nI 0))) (pb6 : ¬ x1 = (nI 0) → ¬ x1 = (nI 1) → ¬ x1 = (nI 2) → ¬ x1 = (nI 3) → x1 = (nI 4) → vp_in (nI 0) (mN (sI M a0 0 (nI 0)) (mR (sI M a0 0 (nI 0)) a0 18))) (pq7 : ¬ x1 = (nI 0) → ¬ x1 = (nI 1) → ¬ x1 = (nI 2) → ¬ x1 = (nI 3) → x1 = (nI 4) → Q (some (.int (mI (sI M a0 0 (nI 0)) (mR (sI M a0 0 (nI 0)) a0 18) (nI 0).toNatClampNeg))) (sI M a0 0 (nI 0))) (pb8 : ¬ x1 = (nI 0) → ¬ x1 = (nI 1) → ¬ x1 = (nI 2) → ¬ x1 = (nI 3) → ¬ x1 = (nI 4) → x1 = (nI 5) → vp_in (nI 0) (mN (sI M a0 0 (nI 0)) (mR (sI M a0 0 (nI 0)) a0 19))) (pq9 : ¬ x1 = (nI 0) → ¬ x1 = (nI 1) → ¬ x1 = (nI 2) → ¬ x1 = (nI 3) → ¬ x1 = (nI 4) → x1 = (nI 5) → Q (some (.int (mI (sI M a0 0 (nI 0)) (mR (sI M a0 0 (nI 0)) a0 19) (nI 0).toNatClampNeg))) (sI M a0 0 (nI 0))) (pb10 : ¬ x1 = (nI 0) → ¬ x1 = (nI 1) → ¬ x1 = (nI 2) → ¬ x1 = (nI 3) → ¬ x1 = (nI 4) → ¬ x1 = (nI 5) → x1 = (nI 6) → vp_in (nI 0) (mN (sI M a0 0 (nI 0)) (mR (sI M a0 0 (nI 0)) a0 20))) (pq11 : ¬ x1 = (nI 0) → ¬ x1 = (nI 1) → ¬ x1 = (nI 2) → ¬ x1 = (nI 3) → ¬ x1 = (nI 4) → ¬ x1 = (nI 5) → x1 = (nI 6) → (mI (sI M a0 0 (nI 0)) (mR (sI M a0 0 (nI 0)) a0 20) (nI 0).toNatClampNeg) = 0 → Q (some (.int (-1 : Int32))) (sI M a0 0 (nI 0))) (pb12 : ¬ x1 = (nI 0) → ¬ x1 = (nI 1) → ¬ x1 = (nI 2) → ¬ x1 = (nI 3) → ¬ x1 = (nI 4) → ¬ x1 = (nI 5) → x1 = (nI 6) → ¬ (mI (sI M a0 0 (nI 0)) (mR (sI M a0 0 (nI 0)) a0 20) (nI 0).toNatClampNeg) = 0 → vp_in (nI 1) (mN (sI M a0 0 (nI 0)) (mR (sI M a0 0 (nI 0)) a0 4))) (pq13 : ¬ x1 = (nI 0) → ¬ x1 = (nI 1) → ¬ x1 = (nI 2) → ¬ x1 = (nI 3) → ¬ x1 = (nI 4) → ¬ x1 = (nI 5) → x1 = (nI 6) → ¬ (mI (sI M a0 0 (nI 0)) (mR (sI M a0 0 (nI 0)) a0 20) (nI 0).toNatClampNeg) = 0 → Q (some (.int (mI (sI M a0 0 (nI 0)) (mR (sI M a0 0 (nI 0)) a0 4) (nI 1).toNatClampNeg))) (sI M a0 0 (nI 0))) (pq14 : ¬ x1 = (nI 0) → ¬ x1 = (nI 1) → ¬ x1 = (nI 2) → ¬ x1 = (nI 3) → ¬ x1 = (nI 4) → ¬ x1 = (nI 5) → ¬ x1 = (nI 6) → x1 = (nI 7) → Q (some (.int (mI (sI M a0 0 (nI 0)) a0 1))) (sI M a0 0 (nI 0))) (pq15 : ¬ x1 = (nI 0) → ¬ x1 = (nI 1) → ¬ x1 = (nI 2) → ¬ x1 = (nI 3) → ¬ x1 = (nI 4) → ¬ x1 = (nI 5) → ¬ x1 = (nI 6) → ¬ x1 = (nI 7) → x1 = (nI 8) → Q (some (.int (mI (sI M a0 0 (nI 0)) a0 30))) (sI M a0 0 (nI 0))) (pq16 : ¬ x1 = (nI 0) → ¬ x1 = (nI 1) → ¬ x1 = (nI 2) → ¬ x1 = (nI 3) → ¬ x1 = (nI 4) → ¬ x1 = (nI 5) → ¬ x1 = (nI 6) → ¬ x1 = (nI 7) → ¬ x1 = (nI 8) → x1 = (nI 9) → Q (some (.int (mI (sI M a0 0 (nI 0)) a0 8))) (sI M a0 0 (nI 0))) (pq17 : ¬ x1 = (nI 0) → ¬ x1 = (nI 1) → ¬ x1 = (nI 2) → ¬ x1 = (nI 3) → ¬ x1 = (nI 4) → ¬ x1 = (nI 5) → ¬ x1 = (nI 6) → ¬ x1 = (nI 7) → ¬ x1 = (nI 8) → ¬ x1 = (nI 9) → x1 = (nI 10) → Q (some (.int (mI (sI M a0 0 (nI 0)) a0 9))) (sI M a0 0 (nI 0))) (pq18 : ¬ x1 = (nI 0) → ¬ x1 = (nI 1) → ¬ x1 = (nI 2) → ¬ x1 = (nI 3) → ¬ x1 = (nI 4) → ¬ x1 = (nI 5) → ¬ x1 = (nI 6) → ¬ x1 = (nI 7) → ¬ x1 = (nI 8) → ¬ x1 = (nI 9) → ¬ x1 = (nI 10) → Q (some (.int (-1 : Int32))) (sI M a0 0 (nI 0))) : Wp d mdX12_count 0 [(0, .ref a0), (1, .int x1)] [] M Q := by
  refine r_aload_n dX12_count_0 rfl 0 rfl ?_
  refine r_iconst (v := (nI 0)) dX12_count_1 rfl ?_
  refine r_putI ck10 dX12_count_2 flX12_1 rfl (Or.inl rfl) k0 ?_
  refine r_iload_n dX12_count_5 rfl 1 rfl ?_
  by_cases c0 : x1 = (nI 0)
  · refine r_tableIn (off := 58) (tgt := 64) dX12_count_6 (by rw [c0]; decide) (by rw [c0]; decide) (by rw [c0]; rfl) (by decide) ?_
    refine r_aload_n dX12_count_64 rfl 0 rfl ?_
    refine r_getI ck10 dX12_count_65 flX12_314 rfl k0 ?_
    exact r_ret (some (.int (mI (sI M a0 0 (nI 0)) a0 7))) dX12_count_68 rfl (pq0 c0)
  by_cases c1 : x1 = (nI 1)
  · refine r_tableIn (off := 63) (tgt := 69) dX12_count_6 (by rw [c1]; decide) (by rw [c1]; decide) (by rw [c1]; rfl) (by decide) ?_
    refine r_aload_n dX12_count_69 rfl 0 rfl ?_
    refine r_getI ck10 dX12_count_70 flX12_30 rfl k0 ?_
    exact r_ret (some (.int (mI (sI M a0 0 (nI 0)) a0 3))) dX12_count_73 rfl (pq1 c0 c1)
  by_cases c2 : x1 = (nI 2)
  · refine r_tableIn (off := 68) (tgt := 74) dX12_count_6 (by rw [c2]; decide) (by rw [c2]; decide) (by rw [c2]; rfl) (by decide) ?_
    refine r_aload_n dX12_count_74 rfl 0 rfl ?_
    refine r_getR ck10 dX12_count_75 flX12_21 rfl k0 ?_
    refine r_iconst (v := (nI 0)) dX12_count_78 rfl ?_
    refine r_iald dX12_count_79 k1 (pb2 c0 c1 c2) ?_
    exact r_ret (some (.int (mI (sI M a0 0 (nI 0)) (mR (sI M a0 0 (nI 0)) a0 4) (nI 0).toNatClampNeg))) dX12_count_80 rfl (pq3 c0 c1 c2)
  by_cases c3 : x1 = (nI 3)
  · refine r_tableIn (off := 75) (tgt := 81) dX12_count_6 (by rw [c3]; decide) (by rw [c3]; decide) (by rw [c3]; rfl) (by decide) ?_
    refine r_aload_n dX12_count_81 rfl 0 rfl ?_
    refine r_getR ck10 dX12_count_82 flX12_117 rfl k0 ?_
    refine r_iconst (v := (nI 0)) dX12_count_85 rfl ?_
    refine r_iald dX12_count_86 k2 (pb4 c0 c1 c2 c3) ?_
    exact r_ret (some (.int (mI (sI M a0 0 (nI 0)) (mR (sI M a0 0 (nI 0)) a0 17) (nI 0).toNatClampNeg))) dX12_count_87 rfl (pq5 c0 c1 c2 c3)
  by_cases c4 : x1 = (nI 4)
  · refine r_tableIn (off := 82) (tgt := 88) dX12_count_6 (by rw [c4]; decide) (by rw [c4]; decide) (by rw [c4]; rfl) (by decide) ?_
    refine r_aload_n dX12_count_88 rfl 0 rfl ?_
    refine r_getR ck10 dX12_count_89 flX12_120 rfl k0 ?_
    refine r_iconst (v := (nI 0)) dX12_count_92 rfl ?_
    refine r_iald dX12_count_93 k3 (pb6 c0 c1 c2 c3 c4) ?_
    exact r_ret (some (.int (mI (sI M a0 0 (nI 0)) (mR (sI M a0 0 (nI 0)) a0 18) (nI 0).toNatClampNeg))) dX12_count_94 rfl (pq7 c0 c1 c2 c3 c4)
  by_cases c5 : x1 = (nI 5)
  · refine r_tableIn (off := 89) (tgt := 95) dX12_count_6 (by rw [c5]; decide) (by rw [c5]; decide) (by rw [c5]; rfl) (by decide) ?_
    refine r_aload_n dX12_count_95 rfl 0 rfl ?_
    refine r_getR ck10 dX12_count_96 flX12_123 rfl k0 ?_
    refine r_iconst (v := (nI 0)) dX12_count_99 rfl ?_
    refine r_iald dX12_count_100 k4 (pb8 c0 c1 c2 c3 c4 c5) ?_
    exact r_ret (some (.int (mI (sI M a0 0 (nI 0)) (mR (sI M a0 0 (nI 0)) a0 19) (nI 0).toNatClampNeg))) dX12_count_101 rfl (pq9 c0 c1 c2 c3 c4 c5)
  by_cases c6 : x1 = (nI 6)
  · refine r_tableIn (off := 96) (tgt := 102) dX12_count_6 (by rw [c6]; decide) (by rw [c6]; decide) (by rw [c6]; rfl) (by decide) ?_
    refine r_aload_n dX12_count_102 rfl 0 rfl ?_
    refine r_getR ck10 dX12_count_103 flX12_126 rfl k0 ?_
    refine r_iconst (v := (nI 0)) dX12_count_106 rfl ?_
    refine r_zald dX12_count_107 k5 (pb10 c0 c1 c2 c3 c4 c5 c6) ?_
    refine r_if_eq (tgt := 120) dX12_count_108 (by decide) (fun c7 => ?_) (fun c7 => ?_)
    · skip
      refine r_iconst (v := (-1)) dX12_count_120 rfl ?_
      exact r_ret (some (.int (-1 : Int32))) dX12_count_121 rfl (pq11 c0 c1 c2 c3 c4 c5 c6 c7)
    · skip
      refine r_aload_n dX12_count_111 rfl 0 rfl ?_
      refine r_getR ck10 dX12_count_112 flX12_21 rfl k0 ?_
      refine r_iconst (v := (nI 1)) dX12_count_115 rfl ?_
      refine r_iald dX12_count_116 k1 (pb12 c0 c1 c2 c3 c4 c5 c6 c7) ?_
      refine r_goto (tgt := 121) dX12_count_117 (by decide) ?_
      exact r_ret (some (.int (mI (sI M a0 0 (nI 0)) (mR (sI M a0 0 (nI 0)) a0 4) (nI 1).toNatClampNeg))) dX12_count_121 rfl (pq13 c0 c1 c2 c3 c4 c5 c6 c7)
  by_cases c7 : x1 = (nI 7)
  · refine r_tableIn (off := 116) (tgt := 122) dX12_count_6 (by rw [c7]; decide) (by rw [c7]; decide) (by rw [c7]; rfl) (by decide) ?_
    refine r_aload_n dX12_count_122 rfl 0 rfl ?_
    refine r_getI ck10 dX12_count_123 flX12_11 rfl k0 ?_
    exact r_ret (some (.int (mI (sI M a0 0 (nI 0)) a0 1))) dX12_count_126 rfl (pq14 c0 c1 c2 c3 c4 c5 c6 c7)
  by_cases c8 : x1 = (nI 8)
  · refine r_tableIn (off := 121) (tgt := 127) dX12_count_6 (by rw [c8]; decide) (by rw [c8]; decide) (by rw [c8]; rfl) (by decide) ?_
    refine r_aload_n dX12_count_127 rfl 0 rfl ?_
    refine r_getI ck10 dX12_count_128 flX12_290 rfl k0 ?_
    exact r_ret (some (.int (mI (sI M a0 0 (nI 0)) a0 30))) dX12_count_131 rfl (pq15 c0 c1 c2 c3 c4 c5 c6 c7 c8)
  by_cases c9 : x1 = (nI 9)
  · refine r_tableIn (off := 126) (tgt := 132) dX12_count_6 (by rw [c9]; decide) (by rw [c9]; decide) (by rw [c9]; rfl) (by decide) ?_
    refine r_aload_n dX12_count_132 rfl 0 rfl ?_
    refine r_getI ck10 dX12_count_133 flX12_89 rfl k0 ?_
    exact r_ret (some (.int (mI (sI M a0 0 (nI 0)) a0 8))) dX12_count_136 rfl (pq16 c0 c1 c2 c3 c4 c5 c6 c7 c8 c9)
  by_cases c10 : x1 = (nI 10)
  · refine r_tableIn (off := 131) (tgt := 137) dX12_count_6 (by rw [c10]; decide) (by rw [c10]; decide) (by rw [c10]; rfl) (by decide) ?_
    refine r_aload_n dX12_count_137 rfl 0 rfl ?_
    refine r_getI ck10 dX12_count_138 flX12_92 rfl k0 ?_
    exact r_ret (some (.int (mI (sI M a0 0 (nI 0)) a0 9))) dX12_count_141 rfl (pq17 c0 c1 c2 c3 c4 c5 c6 c7 c8 c9 c10)
  refine r_tableOut (tgt := 142) dX12_count_6 (sw11 c0 c1 c2 c3 c4 c5 c6 c7 c8 c9 c10) (by decide) ?_
  refine r_iconst (v := (-1)) dX12_count_142 rfl ?_
  exact r_ret (some (.int (-1 : Int32))) dX12_count_143 rfl (pq18 c0 c1 c2 c3 c4 c5 c6 c7 c8 c9 c10)
-- X12_row
theorem gX12_row_0 {d : Nat} {Q : Option Value → Mem → Prop} {M : Mem} {a0 : Nat} {x1 : Int32} (k0 : mK M a0 = 14) (pf0 : ClD d mdX12_in [.long x1.toInt64, .long (lN 0), .long (((mI M a0 1) - (nI 1)).toInt64)] M (fun r1 M1 => Wp d mdX12_row 14 [(0, .ref a0), (1, .int x1)] (r1.toList ++ [.ref a0]) M1 Q)) : Wp d mdX12_row 0 [(0, .ref a0), (1, .int x1)] [] M Q := by
  refine r_aload_n dX12_row_0 rfl 0 rfl ?_
  refine r_iload_n dX12_row_1 rfl 1 rfl ?_
  refine r_i2l dX12_row_2 ?_
  refine r_lconst (v := (lN 0)) dX12_row_3 rfl ?_
  refine r_aload_n dX12_row_4 rfl 0 rfl ?_
  refine r_getI ck10 dX12_row_5 flX12_11 rfl k0 ?_
  refine r_iconst (v := (nI 1)) dX12_row_8 rfl ?_
  refine r_isub dX12_row_9 ?_
  refine r_i2l dX12_row_10 ?_
  obtain ⟨e9, hlt, h9⟩ := pf0
  exact r_callS (As := [.long x1.toInt64, .long (lN 0), .long (((mI M a0 1) - (nI 1)).toInt64)]) (rest := [.ref a0]) moX12_in dX12_row_11 mlX12_24 saX12_in rfl hlt (Nat.le_of_ble_eq_true rfl) h9
theorem gX12_row_14 {d : Nat} {Q : Option Value → Mem → Prop} {M : Mem} {a0 : Nat} {x1 : Int32} {sx0 : Int32} {sa1 : Nat}  (pw0 : ¬ sx0 = 0 → Wp d mdX12_row 22 [(0, .ref a0), (1, .int x1)] [.int (nI 0), .ref sa1] M Q) (pw1 : sx0 = 0 → Wp d mdX12_row 22 [(0, .ref a0), (1, .int x1)] [.int (nI 1), .ref sa1] M Q) : Wp d mdX12_row 14 [(0, .ref a0), (1, .int x1)] [.int sx0, .ref sa1] M Q := by
  refine r_if_ne (tgt := 21) dX12_row_14 (by decide) (fun c0 => ?_) (fun c0 => ?_)
  · skip
    refine r_iconst (v := (nI 0)) dX12_row_21 rfl ?_
    exact (pw0 c0)
  · skip
    refine r_iconst (v := (nI 1)) dX12_row_17 rfl ?_
    refine r_goto (tgt := 22) dX12_row_18 (by decide) ?_
    exact (pw1 c0)
theorem gX12_row_22 {d : Nat} {Q : Option Value → Mem → Prop} {M : Mem} {a0 : Nat} {x1 : Int32} {sx0 : Int32} {sa1 : Nat}  (pf0 : ClD d mdX12_flag [.int sx0] M (fun r1 M1 => Wp d mdX12_row 25 [(0, .ref a0), (1, .int x1)] (r1.toList ++ [.ref sa1]) M1 Q)) : Wp d mdX12_row 22 [(0, .ref a0), (1, .int x1)] [.int sx0, .ref sa1] M Q := by
  obtain ⟨e9, hlt, h9⟩ := pf0
  exact r_callS (As := [.int sx0]) (rest := [.ref sa1]) moX12_flag dX12_row_22 mlX12_339 saX12_flag rfl hlt (Nat.le_of_ble_eq_true rfl) h9
theorem gX12_row_25 {d : Nat} {Q : Option Value → Mem → Prop} {M : Mem} {a0 : Nat} {x1 : Int32} {sx0 : Int32} {sa1 : Nat} (k0 : mK M sa1 = 14) (k1 : mK M a0 = 14) (k2 : mK M (mR (sI M sa1 0 sx0) a0 2) = 2) (pb0 : ¬ (mI (sI M sa1 0 sx0) a0 0) = (nI 1) → vp_in x1 (mN (sI M sa1 0 sx0) (mR (sI M sa1 0 sx0) a0 2))) (pq1 : ¬ (mI (sI M sa1 0 sx0) a0 0) = (nI 1) → Q (some (.long (mJ (sI M sa1 0 sx0) (mR (sI M sa1 0 sx0) a0 2) x1.toNatClampNeg))) (sI M sa1 0 sx0)) (pq2 : (mI (sI M sa1 0 sx0) a0 0) = (nI 1) → Q (some (.long (lN 0))) (sI M sa1 0 sx0)) : Wp d mdX12_row 25 [(0, .ref a0), (1, .int x1)] [.int sx0, .ref sa1] M Q := by
  refine r_putI ck10 dX12_row_25 flX12_1 rfl (Or.inl rfl) k0 ?_
  refine r_aload_n dX12_row_28 rfl 0 rfl ?_
  refine r_getI ck10 dX12_row_29 flX12_1 rfl k1 ?_
  refine r_iconst (v := (nI 1)) dX12_row_32 rfl ?_
  refine r_icmp_ne (tgt := 40) dX12_row_33 (by decide) (fun c0 => ?_) (fun c0 => ?_)
  · skip
    refine r_aload_n dX12_row_40 rfl 0 rfl ?_
    refine r_getR ck10 dX12_row_41 flX12_7 rfl k1 ?_
    refine r_iload_n dX12_row_44 rfl 1 rfl ?_
    refine r_lald dX12_row_45 k2 (pb0 c0) ?_
    exact r_ret (some (.long (mJ (sI M sa1 0 sx0) (mR (sI M sa1 0 sx0) a0 2) x1.toNatClampNeg))) dX12_row_46 rfl (pq1 c0)
  · skip
    refine r_lconst (v := (lN 0)) dX12_row_36 rfl ?_
    refine r_goto (tgt := 46) dX12_row_37 (by decide) ?_
    exact r_ret (some (.long (lN 0))) dX12_row_46 rfl (pq2 c0)
