-- X0_init
theorem gX0_init_0 {d : Nat} {Q : Option Value → Mem → Prop} {M : Mem} {a0 : Nat} {a1 : Nat} (hd1 : 1 ≤ d) (k0 : mK M a0 = 4) (pw0 : Wp d mdX0_init 8 [(0, .ref a0), (1, .ref a1)] [.ref (mC M + 2), .ref a0] (nwC M 12 2) Q) : Wp d mdX0_init 0 [(0, .ref a0), (1, .ref a1)] [] M Q := by
  refine r_aload_n dX0_init_0 rfl 0 rfl ?_
  refine r_objI (ci := 0) dX0_init_1 mlX0_1 obI_i obI_c k0 hd1 (Nat.le_of_ble_eq_true rfl) ?_
  refine r_aload_n dX0_init_4 rfl 0 rfl ?_
  refine r_new (ci := 8) ck8 (by decide) rk8 dX0_init_5 cwX0_7 ?_
  exact pw0
theorem gX0_init_8 {d : Nat} {Q : Option Value → Mem → Prop} {M : Mem} {a0 : Nat} {a1 : Nat} {sa0 : Nat} {sa1 : Nat} (k0 : mK M sa0 = 12) (pf0 : ClD d mdX10_init [.ref sa0] M (fun r1 M1 => Wp d mdX0_init 12 [(0, .ref a0), (1, .ref a1)] (r1.toList ++ [.ref sa0, .ref sa1]) M1 Q)) : Wp d mdX0_init 8 [(0, .ref a0), (1, .ref a1)] [.ref sa0, .ref sa1] M Q := by
  refine r_dup dX0_init_8 rfl ?_
  obtain ⟨e9, hlt, h9⟩ := pf0
  exact r_callIN (As := []) (rest := [.ref sa0, .ref sa1]) (ci := 8) moX10_init rfl rfl dX0_init_9 (by decide) imX10_init k0 rfl hlt (Nat.le_of_ble_eq_true rfl) h9
theorem gX0_init_12 {d : Nat} {Q : Option Value → Mem → Prop} {M : Mem} {a0 : Nat} {a1 : Nat} {sa0 : Nat} {sa1 : Nat} (k0 : mK M sa1 = 4) (k1 : mK M a0 = 4) (pq0 : Q none (sR (sI (sI (sR M sa1 1 sa0) a0 2 (nI 1)) a0 3 (nI 1)) a0 0 a1)) : Wp d mdX0_init 12 [(0, .ref a0), (1, .ref a1)] [.ref sa0, .ref sa1] M Q := by
  refine r_putR ck0 dX0_init_12 flX0_10 rfl rfl (Or.inr ⟨rfl, rfl, rfl⟩) k0 ?_
  refine r_aload_n dX0_init_15 rfl 0 rfl ?_
  refine r_iconst (v := (nI 1)) dX0_init_16 rfl ?_
  refine r_putI ck0 dX0_init_17 flX0_16 rfl (Or.inl rfl) k1 ?_
  refine r_aload_n dX0_init_20 rfl 0 rfl ?_
  refine r_iconst (v := (nI 1)) dX0_init_21 rfl ?_
  refine r_putI ck0 dX0_init_22 flX0_20 rfl (Or.inl rfl) k1 ?_
  refine r_aload_n dX0_init_25 rfl 0 rfl ?_
  refine r_aload_n dX0_init_26 rfl 1 rfl ?_
  refine r_putR ck0 dX0_init_27 flX0_23 rfl rfl (Or.inr ⟨rfl, rfl, rfl⟩) k1 ?_
  exact r_ret none dX0_init_30 rfl pq0
-- X0_charge
theorem gX0_charge_0 {d : Nat} {Q : Option Value → Mem → Prop} {M : Mem} {a0 : Nat} {x1 : Int32} {x2 : Int32} (k0 : mK M a0 = 4) (pq0 : Q none (sI (sI M a0 2 x1) a0 3 x2)) : Wp d mdX0_charge 0 [(0, .ref a0), (1, .int x1), (2, .int x2)] [] M Q := by
  refine r_aload_n dX0_charge_0 rfl 0 rfl ?_
  refine r_iload_n dX0_charge_1 rfl 1 rfl ?_
  refine r_putI ck0 dX0_charge_2 flX0_16 rfl (Or.inl rfl) k0 ?_
  refine r_aload_n dX0_charge_5 rfl 0 rfl ?_
  refine r_iload_n dX0_charge_6 rfl 2 rfl ?_
  refine r_putI ck0 dX0_charge_7 flX0_20 rfl (Or.inl rfl) k0 ?_
  exact r_ret none dX0_charge_10 rfl pq0
-- X0_forget
theorem gX0_forget_0 {d : Nat} {Q : Option Value → Mem → Prop} {M : Mem} {a0 : Nat} (k0 : mK M a0 = 4) (k1 : mK M (mR M a0 1) = 12) (pf0 : ClD d mdX10_clear [.ref (mR M a0 1)] M (fun r1 M1 => Wp d mdX0_forget 7 [(0, .ref a0)] (r1.toList ++ []) M1 Q)) : Wp d mdX0_forget 0 [(0, .ref a0)] [] M Q := by
  refine r_aload_n dX0_forget_0 rfl 0 rfl ?_
  refine r_getR ck0 dX0_forget_1 flX0_10 rfl k0 ?_
  obtain ⟨e9, hlt, h9⟩ := pf0
  exact r_callV (As := []) (rest := []) (ci := 8) moX10_clear dX0_forget_4 mlX0_27 imX10_clear seX10_clear k1 rfl hlt (Nat.le_of_ble_eq_true rfl) h9
theorem gX0_forget_7 {d : Nat} {Q : Option Value → Mem → Prop} {M : Mem} {a0 : Nat} (k0 : mK M a0 = 4) (pq0 : Q none (sI M a0 4 (nI 0))) : Wp d mdX0_forget 7 [(0, .ref a0)] [] M Q := by
  refine r_aload_n dX0_forget_7 rfl 0 rfl ?_
  refine r_iconst (v := (nI 0)) dX0_forget_8 rfl ?_
  refine r_putI ck0 dX0_forget_9 flX0_30 rfl (Or.inl rfl) k0 ?_
  exact r_ret none dX0_forget_12 rfl pq0
-- X0_ask
theorem gX0_ask_0 {d : Nat} {Q : Option Value → Mem → Prop} {M : Mem} {a0 : Nat} {w1 : Int64} (k0 : mK M a0 = 4) (k1 : mK M (mR M a0 1) = 12) (pf0 : ClD d mdX10_makeRoom [.ref (mR M a0 1)] M (fun r1 M1 => Wp d mdX0_ask 7 [(0, .ref a0), (1, .long w1)] (r1.toList ++ []) M1 Q)) : Wp d mdX0_ask 0 [(0, .ref a0), (1, .long w1)] [] M Q := by
  refine r_aload_n dX0_ask_0 rfl 0 rfl ?_
  refine r_getR ck0 dX0_ask_1 flX0_10 rfl k0 ?_
  obtain ⟨e9, hlt, h9⟩ := pf0
  exact r_callV (As := []) (rest := []) (ci := 8) moX10_makeRoom dX0_ask_4 mlX0_33 imX10_makeRoom seX10_makeRoom k1 rfl hlt (Nat.le_of_ble_eq_true rfl) h9
theorem gX0_ask_7 {d : Nat} {Q : Option Value → Mem → Prop} {M : Mem} {a0 : Nat} {w1 : Int64} (k0 : mK M a0 = 4) (k1 : mK M (mR M a0 1) = 12) (pf0 : ClD d mdX10_add [.ref (mR M a0 1), .long w1] M (fun r1 M1 => Wp d mdX0_ask 15 [(0, .ref a0), (1, .long w1)] (r1.toList ++ []) M1 Q)) : Wp d mdX0_ask 7 [(0, .ref a0), (1, .long w1)] [] M Q := by
  refine r_aload_n dX0_ask_7 rfl 0 rfl ?_
  refine r_getR ck0 dX0_ask_8 flX0_10 rfl k0 ?_
  refine r_lload_n dX0_ask_11 rfl 1 rfl ?_
  obtain ⟨e9, hlt, h9⟩ := pf0
  exact r_callV (As := [.long w1]) (rest := []) (ci := 8) moX10_add dX0_ask_12 mlX0_36 imX10_add seX10_add k1 rfl hlt (Nat.le_of_ble_eq_true rfl) h9
theorem gX0_ask_15 {d : Nat} {Q : Option Value → Mem → Prop} {M : Mem} {a0 : Nat} {w1 : Int64} {sx0 : Int32} (k0 : mK M a0 = 4) (pw0 : sx0 = 0 → Wp d mdX0_ask 41 [(0, .ref a0), (1, .long w1)] [] M Q) (pf1 : ¬ sx0 = 0 → ClD d mdX1_length [.long w1] M (fun r1 M1 => Wp d mdX0_ask 35 [(0, .ref a0), (1, .long w1)] (r1.toList ++ [.int (mI M a0 3), .int (mI M a0 2), .int (mI M a0 4), .ref a0]) M1 Q)) : Wp d mdX0_ask 15 [(0, .ref a0), (1, .long w1)] [.int sx0] M Q := by
  refine r_if_eq (tgt := 41) dX0_ask_15 (by decide) (fun c0 => ?_) (fun c0 => ?_)
  · skip
    exact (pw0 c0)
  · skip
    refine r_aload_n dX0_ask_18 rfl 0 rfl ?_
    refine r_dup dX0_ask_19 rfl ?_
    refine r_getI ck0 dX0_ask_20 flX0_30 rfl k0 ?_
    refine r_aload_n dX0_ask_23 rfl 0 rfl ?_
    refine r_getI ck0 dX0_ask_24 flX0_16 rfl k0 ?_
    refine r_aload_n dX0_ask_27 rfl 0 rfl ?_
    refine r_getI ck0 dX0_ask_28 flX0_20 rfl k0 ?_
    refine r_lload_n dX0_ask_31 rfl 1 rfl ?_
    obtain ⟨e9, hlt, h9⟩ := (pf1 c0)
    exact r_callS (As := [.long w1]) (rest := [.int (mI M a0 3), .int (mI M a0 2), .int (mI M a0 4), .ref a0]) moX1_length dX0_ask_32 mlX0_40 saX1_length rfl hlt (Nat.le_of_ble_eq_true rfl) h9
theorem gX0_ask_35 {d : Nat} {Q : Option Value → Mem → Prop} {M : Mem} {a0 : Nat} {w1 : Int64} {sx0 : Int32} {sx1 : Int32} {sx2 : Int32} {sx3 : Int32} {sa4 : Nat} (k0 : mK M sa4 = 4) (pw0 : Wp d mdX0_ask 41 [(0, .ref a0), (1, .long w1)] [] (sI M sa4 4 (sx3 + (sx2 + (sx1 * sx0)))) Q) : Wp d mdX0_ask 35 [(0, .ref a0), (1, .long w1)] [.int sx0, .int sx1, .int sx2, .int sx3, .ref sa4] M Q := by
  refine r_imul dX0_ask_35 ?_
  refine r_iadd dX0_ask_36 ?_
  refine r_iadd dX0_ask_37 ?_
  refine r_putI ck0 dX0_ask_38 flX0_30 rfl (Or.inl rfl) k0 ?_
  exact pw0
theorem gX0_ask_41 {d : Nat} {Q : Option Value → Mem → Prop} {M : Mem} {a0 : Nat} {w1 : Int64} (k0 : mK M a0 = 4) (k1 : mK M (mR M a0 0) = 5) (pf0 : ClD d mdX2_endFrom [.ref (mR M a0 0), .int (nI 0), .long w1] M (fun r1 M1 => Wp d mdX0_ask 54 [] (r1.toList ++ [.ref (mR M a0 0)]) M1 Q)) : Wp d mdX0_ask 41 [(0, .ref a0), (1, .long w1)] [] M Q := by
  refine r_aload_n dX0_ask_41 rfl 0 rfl ?_
  refine r_getR ck0 dX0_ask_42 flX0_23 rfl k0 ?_
  refine r_aload_n dX0_ask_45 rfl 0 rfl ?_
  refine r_getR ck0 dX0_ask_46 flX0_23 rfl k0 ?_
  refine r_iconst (v := (nI 0)) dX0_ask_49 rfl ?_
  refine r_lload_n dX0_ask_50 rfl 1 rfl ?_
  refine r_sub [] (ls' := []) rfl ?_
  obtain ⟨e9, hlt, h9⟩ := pf0
  exact r_callV (As := [.int (nI 0), .long w1]) (rest := [.ref (mR M a0 0)]) (ci := 1) moX2_endFrom dX0_ask_51 mlX0_46 imX2_endFrom seX2_endFrom k1 rfl hlt (Nat.le_of_ble_eq_true rfl) h9
theorem gX0_ask_54 {d : Nat} {Q : Option Value → Mem → Prop} {M : Mem} {sx0 : Int32} {sa1 : Nat} (k0 : mK M sa1 = 5) (pf0 : ClD d mdX2_outputOf [.ref sa1, .int sx0] M (fun r1 M1 => Wp d mdX0_ask 57 [] (r1.toList ++ []) M1 Q)) : Wp d mdX0_ask 54 [] [.int sx0, .ref sa1] M Q := by
  obtain ⟨e9, hlt, h9⟩ := pf0
  exact r_callV (As := [.int sx0]) (rest := []) (ci := 1) moX2_outputOf dX0_ask_54 mlX0_52 imX2_outputOf seX2_outputOf k0 rfl hlt (Nat.le_of_ble_eq_true rfl) h9
theorem gX0_ask_57 {d : Nat} {Q : Option Value → Mem → Prop} {M : Mem} {sx0 : Int32}  (pq0 : Q (some (.int sx0)) M) : Wp d mdX0_ask 57 [] [.int sx0] M Q := by
  exact r_ret (some (.int sx0)) dX0_ask_57 rfl pq0
-- X1_measure
theorem gX1_measure_0 {d : Nat} {Q : Option Value → Mem → Prop} {M : Mem} {w0 : Int64} {x2 : Int32}  (pw0 : Wp d mdX1_measure 5 [(2, .int x2), (3, .long w0), (5, .int (nI 0))] [] M Q) : Wp d mdX1_measure 0 [(0, .long w0), (2, .int x2)] [] M Q := by
  refine r_lload_n dX1_measure_0 rfl 0 rfl ?_
  refine r_lstore_n dX1_measure_1 rfl (by decide) (ls' := [(3, .long w0), (0, .long w0), (2, .int x2)]) rfl ?_
  refine r_iconst (v := (nI 0)) dX1_measure_2 rfl ?_
  refine r_istore dX1_measure_3 (by decide) (ls' := [(5, .int (nI 0)), (3, .long w0), (0, .long w0), (2, .int x2)]) rfl ?_
  refine r_sub [3, 1, 0] (ls' := [(2, .int x2), (3, .long w0), (5, .int (nI 0))]) rfl ?_
  exact pw0
theorem gX1_measure_5 {d : Nat} {Q : Option Value → Mem → Prop} {M : Mem} {x2 : Int32} {w3 : Int64} {x5 : Int32}  (pq0 : (nI 30) < x5 → Q (some (.int (-1 : Int32))) M) (pq1 : ¬ (nI 30) < x5 → ¬ w3 = (lN 1) → w3 < (lN 1) → Q (some (.int (-1 : Int32))) M) (pw2 : ¬ (nI 30) < x5 → ¬ w3 = (lN 1) → ¬ w3 < (lN 1) → (w3 &&& (lN 3)) < x2.toInt64 → Wp d mdX1_measure 5 [(2, .int x2), (3, .long (w3 >>> ((nI 2).toInt64 &&& 63))), (5, .int (x5 + (nI 1)))] [] M Q) (pq3 : ¬ (nI 30) < x5 → ¬ w3 = (lN 1) → ¬ w3 < (lN 1) → ¬ (w3 &&& (lN 3)) < x2.toInt64 → Q (some (.int (-1 : Int32))) M) (pq4 : ¬ (nI 30) < x5 → w3 = (lN 1) → Q (some (.int x5)) M) : Wp d mdX1_measure 5 [(2, .int x2), (3, .long w3), (5, .int x5)] [] M Q := by
  refine r_iload dX1_measure_5 2 rfl ?_
  refine r_bipush (v := (nI 30)) dX1_measure_7 rfl ?_
  refine r_icmp_gt (tgt := 50) dX1_measure_9 (by decide) (fun c0 => ?_) (fun c0 => ?_)
  · skip
    refine r_iconst (v := (-1)) dX1_measure_50 rfl ?_
    exact r_ret (some (.int (-1 : Int32))) dX1_measure_51 rfl (pq0 c0)
  · skip
    refine r_lload_n dX1_measure_12 rfl 1 rfl ?_
    refine r_lconst (v := (lN 1)) dX1_measure_13 rfl ?_
    refine r_lif_ne (tgt := 21) dX1_measure_14 dX1_measure_15 (by decide) (fun c1 => ?_) (fun c1 => ?_)
    · skip
      refine r_lload_n dX1_measure_21 rfl 1 rfl ?_
      refine r_lconst (v := (lN 1)) dX1_measure_22 rfl ?_
      refine r_lif_lt (tgt := 38) dX1_measure_23 dX1_measure_24 (by decide) (fun c2 => ?_) (fun c2 => ?_)
      · skip
        refine r_iconst (v := (-1)) dX1_measure_38 rfl ?_
        exact r_ret (some (.int (-1 : Int32))) dX1_measure_39 rfl (pq1 c0 c1 c2)
      · skip
        refine r_lload_n dX1_measure_27 rfl 1 rfl ?_
        refine r_ldc2 dX1_measure_28 kwX1_9 ?_
        refine r_land dX1_measure_31 ?_
        refine r_iload_n dX1_measure_32 rfl 0 rfl ?_
        refine r_i2l dX1_measure_33 ?_
        refine r_lif_lt (tgt := 40) dX1_measure_34 dX1_measure_35 (by decide) (fun c3 => ?_) (fun c3 => ?_)
        · skip
          refine r_lload_n dX1_measure_40 rfl 1 rfl ?_
          refine r_iconst (v := (nI 2)) dX1_measure_41 rfl ?_
          refine r_lshr dX1_measure_42 ?_
          refine r_lstore_n dX1_measure_43 rfl (by decide) (ls' := [(3, .long (w3 >>> ((nI 2).toInt64 &&& 63))), (2, .int x2), (5, .int x5)]) rfl ?_
          refine r_iinc dX1_measure_44 2 rfl (v := x5 + (nI 1)) rfl (by decide) (ls' := [(5, .int (x5 + (nI 1))), (3, .long (w3 >>> ((nI 2).toInt64 &&& 63))), (2, .int x2)]) rfl ?_
          refine r_goto (tgt := 5) dX1_measure_47 (by decide) ?_
          refine r_sub [2, 1, 0] (ls' := [(2, .int x2), (3, .long (w3 >>> ((nI 2).toInt64 &&& 63))), (5, .int (x5 + (nI 1)))]) rfl ?_
          exact (pw2 c0 c1 c2 c3)
        · skip
          refine r_iconst (v := (-1)) dX1_measure_38 rfl ?_
          exact r_ret (some (.int (-1 : Int32))) dX1_measure_39 rfl (pq3 c0 c1 c2 c3)
    · skip
      refine r_iload dX1_measure_18 2 rfl ?_
      exact r_ret (some (.int x5)) dX1_measure_20 rfl (pq4 c0 c1)
-- X1_length
theorem gX1_length_0 {d : Nat} {Q : Option Value → Mem → Prop} {M : Mem} {w0 : Int64}  (pw0 : Wp d mdX1_length 5 [(2, .long w0), (4, .int (nI 0))] [] M Q) : Wp d mdX1_length 0 [(0, .long w0)] [] M Q := by
  refine r_lload_n dX1_length_0 rfl 0 rfl ?_
  refine r_lstore_n dX1_length_1 rfl (by decide) (ls' := [(2, .long w0), (0, .long w0)]) rfl ?_
  refine r_iconst (v := (nI 0)) dX1_length_2 rfl ?_
  refine r_istore dX1_length_3 (by decide) (ls' := [(4, .int (nI 0)), (2, .long w0), (0, .long w0)]) rfl ?_
  refine r_sub [1, 0] (ls' := [(2, .long w0), (4, .int (nI 0))]) rfl ?_
  exact pw0
theorem gX1_length_5 {d : Nat} {Q : Option Value → Mem → Prop} {M : Mem} {w2 : Int64} {x4 : Int32}  (pq0 : (nI 30) ≤ x4 → Q (some (.int (nI 30))) M) (pw1 : ¬ (nI 30) ≤ x4 → (lN 1) < w2 → Wp d mdX1_length 5 [(2, .long (w2 >>> ((nI 2).toInt64 &&& 63))), (4, .int (x4 + (nI 1)))] [] M Q) (pq2 : ¬ (nI 30) ≤ x4 → ¬ (lN 1) < w2 → Q (some (.int x4)) M) : Wp d mdX1_length 5 [(2, .long w2), (4, .int x4)] [] M Q := by
  refine r_iload dX1_length_5 1 rfl ?_
  refine r_bipush (v := (nI 30)) dX1_length_7 rfl ?_
  refine r_icmp_ge (tgt := 31) dX1_length_9 (by decide) (fun c0 => ?_) (fun c0 => ?_)
  · skip
    refine r_bipush (v := (nI 30)) dX1_length_31 rfl ?_
    exact r_ret (some (.int (nI 30))) dX1_length_33 rfl (pq0 c0)
  · skip
    refine r_lload_n dX1_length_12 rfl 0 rfl ?_
    refine r_lconst (v := (lN 1)) dX1_length_13 rfl ?_
    refine r_lif_gt (tgt := 21) dX1_length_14 dX1_length_15 (by decide) (fun c1 => ?_) (fun c1 => ?_)
    · skip
      refine r_lload_n dX1_length_21 rfl 0 rfl ?_
      refine r_iconst (v := (nI 2)) dX1_length_22 rfl ?_
      refine r_lshr dX1_length_23 ?_
      refine r_lstore_n dX1_length_24 rfl (by decide) (ls' := [(2, .long (w2 >>> ((nI 2).toInt64 &&& 63))), (4, .int x4)]) rfl ?_
      refine r_iinc dX1_length_25 1 rfl (v := x4 + (nI 1)) rfl (by decide) (ls' := [(4, .int (x4 + (nI 1))), (2, .long (w2 >>> ((nI 2).toInt64 &&& 63)))]) rfl ?_
      refine r_goto (tgt := 5) dX1_length_28 (by decide) ?_
      refine r_sub [1, 0] (ls' := [(2, .long (w2 >>> ((nI 2).toInt64 &&& 63))), (4, .int (x4 + (nI 1)))]) rfl ?_
      exact (pw1 c0 c1)
    · skip
      refine r_iload dX1_length_18 1 rfl ?_
      exact r_ret (some (.int x4)) dX1_length_20 rfl (pq2 c0 c1)
-- X1_at
theorem gX1_at_0 {d : Nat} {Q : Option Value → Mem → Prop} {M : Mem} {w0 : Int64} {x2 : Int32}  (pf0 : ClD d mdX1_length [.long w0] M (fun r1 M1 => Wp d mdX1_at 4 [(0, .long w0), (2, .int x2)] (r1.toList ++ []) M1 Q)) : Wp d mdX1_at 0 [(0, .long w0), (2, .int x2)] [] M Q := by
  refine r_lload_n dX1_at_0 rfl 0 rfl ?_
  obtain ⟨e9, hlt, h9⟩ := pf0
  exact r_callS (As := [.long w0]) (rest := []) moX1_length dX1_at_1 mlX1_11 saX1_length rfl hlt (Nat.le_of_ble_eq_true rfl) h9
theorem gX1_at_4 {d : Nat} {Q : Option Value → Mem → Prop} {M : Mem} {w0 : Int64} {x2 : Int32} {sx0 : Int32}  (pq0 : x2 < 0 → Q (some (.int (-1 : Int32))) M) (pq1 : ¬ x2 < 0 → 0 ≤ ((sx0 - (nI 1)) - x2) → Q (some (.int (((w0 >>> (((nI 2) * ((sx0 - (nI 1)) - x2)).toInt64 &&& 63)).toInt32) &&& (nI 3)))) M) (pq2 : ¬ x2 < 0 → ¬ 0 ≤ ((sx0 - (nI 1)) - x2) → Q (some (.int (-1 : Int32))) M) : Wp d mdX1_at 4 [(0, .long w0), (2, .int x2)] [.int sx0] M Q := by
  refine r_iconst (v := (nI 1)) dX1_at_4 rfl ?_
  refine r_isub dX1_at_5 ?_
  refine r_iload_n dX1_at_6 rfl 1 rfl ?_
  refine r_isub dX1_at_7 ?_
  refine r_istore_n dX1_at_8 rfl (by decide) (ls' := [(3, .int ((sx0 - (nI 1)) - x2)), (0, .long w0), (2, .int x2)]) rfl ?_
  refine r_iload_n dX1_at_9 rfl 2 rfl ?_
  refine r_if_lt (tgt := 17) dX1_at_10 (by decide) (fun c0 => ?_) (fun c0 => ?_)
  · skip
    refine r_iconst (v := (-1)) dX1_at_17 rfl ?_
    refine r_goto (tgt := 29) dX1_at_18 (by decide) ?_
    exact r_ret (some (.int (-1 : Int32))) dX1_at_29 rfl (pq0 c0)
  · skip
    refine r_iload_n dX1_at_13 rfl 0 rfl ?_
    refine r_if_ge (tgt := 21) dX1_at_14 (by decide) (fun c1 => ?_) (fun c1 => ?_)
    · skip
      refine r_lload_n dX1_at_21 rfl 1 rfl ?_
      refine r_iconst (v := (nI 2)) dX1_at_22 rfl ?_
      refine r_iload_n dX1_at_23 rfl 0 rfl ?_
      refine r_imul dX1_at_24 ?_
      refine r_lshr dX1_at_25 ?_
      refine r_l2i dX1_at_26 ?_
      refine r_iconst (v := (nI 3)) dX1_at_27 rfl ?_
      refine r_iand dX1_at_28 ?_
      exact r_ret (some (.int (((w0 >>> (((nI 2) * ((sx0 - (nI 1)) - x2)).toInt64 &&& 63)).toInt32) &&& (nI 3)))) dX1_at_29 rfl (pq1 c0 c1)
    · skip
      refine r_iconst (v := (-1)) dX1_at_17 rfl ?_
      refine r_goto (tgt := 29) dX1_at_18 (by decide) ?_
      exact r_ret (some (.int (-1 : Int32))) dX1_at_29 rfl (pq2 c0 c1)
-- X1_then
theorem gX1_then_0 {d : Nat} {Q : Option Value → Mem → Prop} {M : Mem} {w0 : Int64} {x2 : Int32}  (pq0 : Q (some (.long (((lN 4) * w0) + x2.toInt64))) M) : Wp d mdX1_then 0 [(0, .long w0), (2, .int x2)] [] M Q := by
  refine r_ldc2 dX1_then_0 kwX1_17 ?_
  refine r_lload_n dX1_then_3 rfl 0 rfl ?_
  refine r_lmul dX1_then_4 ?_
  refine r_iload_n dX1_then_5 rfl 1 rfl ?_
  refine r_i2l dX1_then_6 ?_
  refine r_ladd dX1_then_7 ?_
  exact r_ret (some (.long (((lN 4) * w0) + x2.toInt64))) dX1_then_8 rfl pq0
-- X1_join
theorem gX1_join_0 {d : Nat} {Q : Option Value → Mem → Prop} {M : Mem} {w0 : Int64} {w2 : Int64}  (pf0 : ClD d mdX1_length [.long w2] M (fun r1 M1 => Wp d mdX1_join 4 [(0, .long w0), (2, .long w2)] (r1.toList ++ []) M1 Q)) : Wp d mdX1_join 0 [(0, .long w0), (2, .long w2)] [] M Q := by
  refine r_lload_n dX1_join_0 rfl 1 rfl ?_
  obtain ⟨e9, hlt, h9⟩ := pf0
  exact r_callS (As := [.long w2]) (rest := []) moX1_length dX1_join_1 mlX1_11 saX1_length rfl hlt (Nat.le_of_ble_eq_true rfl) h9
theorem gX1_join_4 {d : Nat} {Q : Option Value → Mem → Prop} {M : Mem} {w0 : Int64} {w2 : Int64} {sx0 : Int32}  (pf0 : ClD d mdX1_length [.long w0] M (fun r1 M1 => Wp d mdX1_join 10 [(0, .long w0), (2, .long w2), (4, .int sx0)] (r1.toList ++ []) M1 Q)) : Wp d mdX1_join 4 [(0, .long w0), (2, .long w2)] [.int sx0] M Q := by
  refine r_istore dX1_join_4 (by decide) (ls' := [(4, .int sx0), (0, .long w0), (2, .long w2)]) rfl ?_
  refine r_lload_n dX1_join_6 rfl 1 rfl ?_
  refine r_sub [1, 2, 0] (ls' := [(0, .long w0), (2, .long w2), (4, .int sx0)]) rfl ?_
  obtain ⟨e9, hlt, h9⟩ := pf0
  exact r_callS (As := [.long w0]) (rest := []) moX1_length dX1_join_7 mlX1_11 saX1_length rfl hlt (Nat.le_of_ble_eq_true rfl) h9
theorem gX1_join_10 {d : Nat} {Q : Option Value → Mem → Prop} {M : Mem} {w0 : Int64} {w2 : Int64} {x4 : Int32} {sx0 : Int32}  (pq0 : (sx0 + x4) ≤ (nI 30) → Q (some (.long ((w0 * ((lN 1) <<< (((nI 2) * x4).toInt64 &&& 63))) + (w2 - ((lN 1) <<< (((nI 2) * x4).toInt64 &&& 63)))))) M) (pq1 : ¬ (sx0 + x4) ≤ (nI 30) → Q (some (.long (-1 : Int64))) M) : Wp d mdX1_join 10 [(0, .long w0), (2, .long w2), (4, .int x4)] [.int sx0] M Q := by
  refine r_iload dX1_join_10 2 rfl ?_
  refine r_iadd dX1_join_12 ?_
  refine r_bipush (v := (nI 30)) dX1_join_13 rfl ?_
  refine r_icmp_le (tgt := 22) dX1_join_15 (by decide) (fun c0 => ?_) (fun c0 => ?_)
  · skip
    refine r_lconst (v := (lN 1)) dX1_join_22 rfl ?_
    refine r_iconst (v := (nI 2)) dX1_join_23 rfl ?_
    refine r_iload dX1_join_24 2 rfl ?_
    refine r_imul dX1_join_26 ?_
    refine r_lshl dX1_join_27 ?_
    refine r_lstore dX1_join_28 (by decide) (ls' := [(5, .long ((lN 1) <<< (((nI 2) * x4).toInt64 &&& 63))), (0, .long w0), (2, .long w2), (4, .int x4)]) rfl ?_
    refine r_lload_n dX1_join_30 rfl 1 rfl ?_
    refine r_lload dX1_join_31 0 rfl ?_
    refine r_lmul dX1_join_33 ?_
    refine r_lload_n dX1_join_34 rfl 2 rfl ?_
    refine r_lload dX1_join_35 0 rfl ?_
    refine r_lsub dX1_join_37 ?_
    refine r_ladd dX1_join_38 ?_
    exact r_ret (some (.long ((w0 * ((lN 1) <<< (((nI 2) * x4).toInt64 &&& 63))) + (w2 - ((lN 1) <<< (((nI 2) * x4).toInt64 &&& 63)))))) dX1_join_39 rfl (pq0 c0)
  · skip
    refine r_ldc2 dX1_join_18 kwX1_19 ?_
    exact r_ret (some (.long (-1 : Int64))) dX1_join_21 rfl (pq1 c0)
-- X1_first
theorem gX1_first_0 {d : Nat} {Q : Option Value → Mem → Prop} {M : Mem} {w0 : Int64} {x2 : Int32}  (pf0 : ClD d mdX1_length [.long w0] M (fun r1 M1 => Wp d mdX1_first 4 [(0, .long w0), (2, .int x2)] (r1.toList ++ []) M1 Q)) : Wp d mdX1_first 0 [(0, .long w0), (2, .int x2)] [] M Q := by
  refine r_lload_n dX1_first_0 rfl 0 rfl ?_
  obtain ⟨e9, hlt, h9⟩ := pf0
  exact r_callS (As := [.long w0]) (rest := []) moX1_length dX1_first_1 mlX1_11 saX1_length rfl hlt (Nat.le_of_ble_eq_true rfl) h9
theorem gX1_first_4 {d : Nat} {Q : Option Value → Mem → Prop} {M : Mem} {w0 : Int64} {x2 : Int32} {sx0 : Int32}  (pq0 : x2 < 0 → Q (some (.long (-1 : Int64))) M) (pq1 : ¬ x2 < 0 → 0 ≤ (sx0 - x2) → Q (some (.long (w0 >>> (((nI 2) * (sx0 - x2)).toInt64 &&& 63)))) M) (pq2 : ¬ x2 < 0 → ¬ 0 ≤ (sx0 - x2) → Q (some (.long (-1 : Int64))) M) : Wp d mdX1_first 4 [(0, .long w0), (2, .int x2)] [.int sx0] M Q := by
  refine r_iload_n dX1_first_4 rfl 1 rfl ?_
  refine r_isub dX1_first_5 ?_
  refine r_istore_n dX1_first_6 rfl (by decide) (ls' := [(3, .int (sx0 - x2)), (0, .long w0), (2, .int x2)]) rfl ?_
  refine r_iload_n dX1_first_7 rfl 2 rfl ?_
  refine r_if_lt (tgt := 15) dX1_first_8 (by decide) (fun c0 => ?_) (fun c0 => ?_)
  · skip
    refine r_ldc2 dX1_first_15 kwX1_19 ?_
    refine r_goto (tgt := 26) dX1_first_18 (by decide) ?_
    exact r_ret (some (.long (-1 : Int64))) dX1_first_26 rfl (pq0 c0)
  · skip
    refine r_iload_n dX1_first_11 rfl 0 rfl ?_
    refine r_if_ge (tgt := 21) dX1_first_12 (by decide) (fun c1 => ?_) (fun c1 => ?_)
    · skip
      refine r_lload_n dX1_first_21 rfl 1 rfl ?_
      refine r_iconst (v := (nI 2)) dX1_first_22 rfl ?_
      refine r_iload_n dX1_first_23 rfl 0 rfl ?_
      refine r_imul dX1_first_24 ?_
      refine r_lshr dX1_first_25 ?_
      exact r_ret (some (.long (w0 >>> (((nI 2) * (sx0 - x2)).toInt64 &&& 63)))) dX1_first_26 rfl (pq1 c0 c1)
    · skip
      refine r_ldc2 dX1_first_15 kwX1_19 ?_
      refine r_goto (tgt := 26) dX1_first_18 (by decide) ?_
      exact r_ret (some (.long (-1 : Int64))) dX1_first_26 rfl (pq2 c0 c1)
-- X1_behind
theorem gX1_behind_0 {d : Nat} {Q : Option Value → Mem → Prop} {M : Mem} {w0 : Int64} {x2 : Int32}  (pf0 : ClD d mdX1_length [.long w0] M (fun r1 M1 => Wp d mdX1_behind 4 [(0, .long w0), (2, .int x2)] (r1.toList ++ []) M1 Q)) : Wp d mdX1_behind 0 [(0, .long w0), (2, .int x2)] [] M Q := by
  refine r_lload_n dX1_behind_0 rfl 0 rfl ?_
  obtain ⟨e9, hlt, h9⟩ := pf0
  exact r_callS (As := [.long w0]) (rest := []) moX1_length dX1_behind_1 mlX1_11 saX1_length rfl hlt (Nat.le_of_ble_eq_true rfl) h9
theorem gX1_behind_4 {d : Nat} {Q : Option Value → Mem → Prop} {M : Mem} {w0 : Int64} {x2 : Int32} {sx0 : Int32}  (pq0 : x2 < 0 → Q (some (.long (-1 : Int64))) M) (pq1 : ¬ x2 < 0 → 0 ≤ (sx0 - x2) → Q (some (.long (((lN 1) <<< (((nI 2) * (sx0 - x2)).toInt64 &&& 63)) + (w0 &&& (((lN 1) <<< (((nI 2) * (sx0 - x2)).toInt64 &&& 63)) - (lN 1)))))) M) (pq2 : ¬ x2 < 0 → ¬ 0 ≤ (sx0 - x2) → Q (some (.long (-1 : Int64))) M) : Wp d mdX1_behind 4 [(0, .long w0), (2, .int x2)] [.int sx0] M Q := by
  refine r_iload_n dX1_behind_4 rfl 1 rfl ?_
  refine r_isub dX1_behind_5 ?_
  refine r_istore_n dX1_behind_6 rfl (by decide) (ls' := [(3, .int (sx0 - x2)), (0, .long w0), (2, .int x2)]) rfl ?_
  refine r_iload_n dX1_behind_7 rfl 2 rfl ?_
  refine r_if_lt (tgt := 15) dX1_behind_8 (by decide) (fun c0 => ?_) (fun c0 => ?_)
  · skip
    refine r_ldc2 dX1_behind_15 kwX1_19 ?_
    exact r_ret (some (.long (-1 : Int64))) dX1_behind_18 rfl (pq0 c0)
  · skip
    refine r_iload_n dX1_behind_11 rfl 0 rfl ?_
    refine r_if_ge (tgt := 19) dX1_behind_12 (by decide) (fun c1 => ?_) (fun c1 => ?_)
    · skip
      refine r_lconst (v := (lN 1)) dX1_behind_19 rfl ?_
      refine r_iconst (v := (nI 2)) dX1_behind_20 rfl ?_
      refine r_iload_n dX1_behind_21 rfl 0 rfl ?_
      refine r_imul dX1_behind_22 ?_
      refine r_lshl dX1_behind_23 ?_
      refine r_lstore dX1_behind_24 (by decide) (ls' := [(4, .long ((lN 1) <<< (((nI 2) * (sx0 - x2)).toInt64 &&& 63))), (3, .int (sx0 - x2)), (0, .long w0), (2, .int x2)]) rfl ?_
      refine r_lload dX1_behind_26 0 rfl ?_
      refine r_lload_n dX1_behind_28 rfl 2 rfl ?_
      refine r_lload dX1_behind_29 0 rfl ?_
      refine r_lconst (v := (lN 1)) dX1_behind_31 rfl ?_
      refine r_lsub dX1_behind_32 ?_
      refine r_land dX1_behind_33 ?_
      refine r_ladd dX1_behind_34 ?_
      exact r_ret (some (.long (((lN 1) <<< (((nI 2) * (sx0 - x2)).toInt64 &&& 63)) + (w0 &&& (((lN 1) <<< (((nI 2) * (sx0 - x2)).toInt64 &&& 63)) - (lN 1)))))) dX1_behind_35 rfl (pq1 c0 c1)
    · skip
      refine r_ldc2 dX1_behind_15 kwX1_19 ?_
      exact r_ret (some (.long (-1 : Int64))) dX1_behind_18 rfl (pq2 c0 c1)
-- X1_countUpTo
theorem gX1_countUpTo_0 {d : Nat} {Q : Option Value → Mem → Prop} {M : Mem} {x0 : Int32} {x1 : Int32}  (pw0 : Wp d mdX1_countUpTo 7 [(0, .int x0), (1, .int x1), (2, .int (nI 0)), (3, .int (nI 1)), (4, .int (nI 0))] [] M Q) : Wp d mdX1_countUpTo 0 [(0, .int x0), (1, .int x1)] [] M Q := by
  refine r_iconst (v := (nI 0)) dX1_countUpTo_0 rfl ?_
  refine r_istore_n dX1_countUpTo_1 rfl (by decide) (ls' := [(2, .int (nI 0)), (0, .int x0), (1, .int x1)]) rfl ?_
  refine r_iconst (v := (nI 1)) dX1_countUpTo_2 rfl ?_
  refine r_istore_n dX1_countUpTo_3 rfl (by decide) (ls' := [(3, .int (nI 1)), (2, .int (nI 0)), (0, .int x0), (1, .int x1)]) rfl ?_
  refine r_iconst (v := (nI 0)) dX1_countUpTo_4 rfl ?_
  refine r_istore dX1_countUpTo_5 (by decide) (ls' := [(4, .int (nI 0)), (3, .int (nI 1)), (2, .int (nI 0)), (0, .int x0), (1, .int x1)]) rfl ?_
  refine r_sub [3, 4, 2, 1, 0] (ls' := [(0, .int x0), (1, .int x1), (2, .int (nI 0)), (3, .int (nI 1)), (4, .int (nI 0))]) rfl ?_
  exact pw0
theorem gX1_countUpTo_7 {d : Nat} {Q : Option Value → Mem → Prop} {M : Mem} {x0 : Int32} {x1 : Int32} {x2 : Int32} {x3 : Int32} {x4 : Int32}  (pq0 : x0 < x4 → Q (some (.int x2)) M) (pw1 : ¬ x0 < x4 → Wp d mdX1_countUpTo 7 [(0, .int x0), (1, .int x1), (2, .int (x2 + x3)), (3, .int (x3 * x1)), (4, .int (x4 + (nI 1)))] [] M Q) : Wp d mdX1_countUpTo 7 [(0, .int x0), (1, .int x1), (2, .int x2), (3, .int x3), (4, .int x4)] [] M Q := by
  refine r_iload dX1_countUpTo_7 4 rfl ?_
  refine r_iload_n dX1_countUpTo_9 rfl 0 rfl ?_
  refine r_icmp_gt (tgt := 27) dX1_countUpTo_10 (by decide) (fun c0 => ?_) (fun c0 => ?_)
  · skip
    refine r_iload_n dX1_countUpTo_27 rfl 2 rfl ?_
    exact r_ret (some (.int x2)) dX1_countUpTo_28 rfl (pq0 c0)
  · skip
    refine r_iload_n dX1_countUpTo_13 rfl 2 rfl ?_
    refine r_iload_n dX1_countUpTo_14 rfl 3 rfl ?_
    refine r_iadd dX1_countUpTo_15 ?_
    refine r_istore_n dX1_countUpTo_16 rfl (by decide) (ls' := [(2, .int (x2 + x3)), (0, .int x0), (1, .int x1), (3, .int x3), (4, .int x4)]) rfl ?_
    refine r_iload_n dX1_countUpTo_17 rfl 3 rfl ?_
    refine r_iload_n dX1_countUpTo_18 rfl 2 rfl ?_
    refine r_imul dX1_countUpTo_19 ?_
    refine r_istore_n dX1_countUpTo_20 rfl (by decide) (ls' := [(3, .int (x3 * x1)), (2, .int (x2 + x3)), (0, .int x0), (1, .int x1), (4, .int x4)]) rfl ?_
    refine r_iinc dX1_countUpTo_21 4 rfl (v := x4 + (nI 1)) rfl (by decide) (ls' := [(4, .int (x4 + (nI 1))), (3, .int (x3 * x1)), (2, .int (x2 + x3)), (0, .int x0), (1, .int x1)]) rfl ?_
    refine r_goto (tgt := 7) dX1_countUpTo_24 (by decide) ?_
    refine r_sub [3, 4, 2, 1, 0] (ls' := [(0, .int x0), (1, .int x1), (2, .int (x2 + x3)), (3, .int (x3 * x1)), (4, .int (x4 + (nI 1)))]) rfl ?_
    exact (pw1 c0)
-- X1_kth
theorem gX1_kth_0 {d : Nat} {Q : Option Value → Mem → Prop} {M : Mem} {x0 : Int32} {x1 : Int32}  (pw0 : Wp d mdX1_kth 9 [(1, .int x1), (2, .long x0.toInt64), (4, .long (lN 1)), (6, .int (nI 0))] [] M Q) : Wp d mdX1_kth 0 [(0, .int x0), (1, .int x1)] [] M Q := by
  refine r_iload_n dX1_kth_0 rfl 0 rfl ?_
  refine r_i2l dX1_kth_1 ?_
  refine r_lstore_n dX1_kth_2 rfl (by decide) (ls' := [(2, .long x0.toInt64), (0, .int x0), (1, .int x1)]) rfl ?_
  refine r_lconst (v := (lN 1)) dX1_kth_3 rfl ?_
  refine r_lstore dX1_kth_4 (by decide) (ls' := [(4, .long (lN 1)), (2, .long x0.toInt64), (0, .int x0), (1, .int x1)]) rfl ?_
  refine r_iconst (v := (nI 0)) dX1_kth_6 rfl ?_
  refine r_istore dX1_kth_7 (by decide) (ls' := [(6, .int (nI 0)), (4, .long (lN 1)), (2, .long x0.toInt64), (0, .int x0), (1, .int x1)]) rfl ?_
  refine r_sub [4, 2, 1, 0] (ls' := [(1, .int x1), (2, .long x0.toInt64), (4, .long (lN 1)), (6, .int (nI 0))]) rfl ?_
  exact pw0
theorem gX1_kth_9 {d : Nat} {Q : Option Value → Mem → Prop} {M : Mem} {x1 : Int32} {w2 : Int64} {w4 : Int64} {x6 : Int32}  (pq0 : (nI 30) < x6 → Q (some (.long (-1 : Int64))) M) (pw1 : ¬ (nI 30) < x6 → w4 ≤ w2 → Wp d mdX1_kth 9 [(1, .int x1), (2, .long (w2 - w4)), (4, .long (w4 * x1.toInt64)), (6, .int (x6 + (nI 1)))] [] M Q) (pf2 : ¬ (nI 30) < x6 → ¬ w4 ≤ w2 → ClD d mdX1_numbered [.long w2, .int x6, .int x1] M (fun r1 M1 => Wp d mdX1_kth 30 [] (r1.toList ++ []) M1 Q)) : Wp d mdX1_kth 9 [(1, .int x1), (2, .long w2), (4, .long w4), (6, .int x6)] [] M Q := by
  refine r_iload dX1_kth_9 3 rfl ?_
  refine r_bipush (v := (nI 30)) dX1_kth_11 rfl ?_
  refine r_icmp_gt (tgt := 49) dX1_kth_13 (by decide) (fun c0 => ?_) (fun c0 => ?_)
  · skip
    refine r_ldc2 dX1_kth_49 kwX1_19 ?_
    exact r_ret (some (.long (-1 : Int64))) dX1_kth_52 rfl (pq0 c0)
  · skip
    refine r_lload_n dX1_kth_16 rfl 1 rfl ?_
    refine r_lload dX1_kth_17 2 rfl ?_
    refine r_lif_ge (tgt := 31) dX1_kth_19 dX1_kth_20 (by decide) (fun c1 => ?_) (fun c1 => ?_)
    · skip
      refine r_lload_n dX1_kth_31 rfl 1 rfl ?_
      refine r_lload dX1_kth_32 2 rfl ?_
      refine r_lsub dX1_kth_34 ?_
      refine r_lstore_n dX1_kth_35 rfl (by decide) (ls' := [(2, .long (w2 - w4)), (1, .int x1), (4, .long w4), (6, .int x6)]) rfl ?_
      refine r_lload dX1_kth_36 2 rfl ?_
      refine r_iload_n dX1_kth_38 rfl 1 rfl ?_
      refine r_i2l dX1_kth_39 ?_
      refine r_lmul dX1_kth_40 ?_
      refine r_lstore dX1_kth_41 (by decide) (ls' := [(4, .long (w4 * x1.toInt64)), (2, .long (w2 - w4)), (1, .int x1), (6, .int x6)]) rfl ?_
      refine r_iinc dX1_kth_43 3 rfl (v := x6 + (nI 1)) rfl (by decide) (ls' := [(6, .int (x6 + (nI 1))), (4, .long (w4 * x1.toInt64)), (2, .long (w2 - w4)), (1, .int x1)]) rfl ?_
      refine r_goto (tgt := 9) dX1_kth_46 (by decide) ?_
      refine r_sub [3, 2, 1, 0] (ls' := [(1, .int x1), (2, .long (w2 - w4)), (4, .long (w4 * x1.toInt64)), (6, .int (x6 + (nI 1)))]) rfl ?_
      exact (pw1 c0 c1)
    · skip
      refine r_lload_n dX1_kth_23 rfl 1 rfl ?_
      refine r_iload dX1_kth_24 3 rfl ?_
      refine r_iload_n dX1_kth_26 rfl 0 rfl ?_
      refine r_sub [] (ls' := []) rfl ?_
      obtain ⟨e9, hlt, h9⟩ := (pf2 c0 c1)
      exact r_callS (As := [.long w2, .int x6, .int x1]) (rest := []) moX1_numbered dX1_kth_27 mlX1_21 saX1_numbered rfl hlt (Nat.le_of_ble_eq_true rfl) h9
theorem gX1_kth_30 {d : Nat} {Q : Option Value → Mem → Prop} {M : Mem} {sw0 : Int64}  (pq0 : Q (some (.long sw0)) M) : Wp d mdX1_kth 30 [] [.long sw0] M Q := by
  exact r_ret (some (.long sw0)) dX1_kth_30 rfl pq0
-- X1_numbered
theorem gX1_numbered_0 {d : Nat} {Q : Option Value → Mem → Prop} {M : Mem} {w0 : Int64} {x2 : Int32} {x3 : Int32}  (pw0 : (nI 1) ≤ x3 → Wp d mdX1_numbered 22 [(2, .int x2), (3, .int x3), (4, .long w0), (6, .long ((lN 1) <<< (((nI 2) * x2).toInt64 &&& 63))), (8, .int (nI 0))] [] M Q) (pq1 : ¬ (nI 1) ≤ x3 → Q (some (.long (-1 : Int64))) M) : Wp d mdX1_numbered 0 [(0, .long w0), (2, .int x2), (3, .int x3)] [] M Q := by
  refine r_iload_n dX1_numbered_0 rfl 2 rfl ?_
  refine r_iconst (v := (nI 1)) dX1_numbered_1 rfl ?_
  refine r_icmp_ge (tgt := 9) dX1_numbered_2 (by decide) (fun c0 => ?_) (fun c0 => ?_)
  · skip
    refine r_lload_n dX1_numbered_9 rfl 0 rfl ?_
    refine r_lstore dX1_numbered_10 (by decide) (ls' := [(4, .long w0), (0, .long w0), (2, .int x2), (3, .int x3)]) rfl ?_
    refine r_lconst (v := (lN 1)) dX1_numbered_12 rfl ?_
    refine r_iconst (v := (nI 2)) dX1_numbered_13 rfl ?_
    refine r_iload_n dX1_numbered_14 rfl 2 rfl ?_
    refine r_imul dX1_numbered_15 ?_
    refine r_lshl dX1_numbered_16 ?_
    refine r_lstore dX1_numbered_17 (by decide) (ls' := [(6, .long ((lN 1) <<< (((nI 2) * x2).toInt64 &&& 63))), (4, .long w0), (0, .long w0), (2, .int x2), (3, .int x3)]) rfl ?_
    refine r_iconst (v := (nI 0)) dX1_numbered_19 rfl ?_
    refine r_istore dX1_numbered_20 (by decide) (ls' := [(8, .int (nI 0)), (6, .long ((lN 1) <<< (((nI 2) * x2).toInt64 &&& 63))), (4, .long w0), (0, .long w0), (2, .int x2), (3, .int x3)]) rfl ?_
    refine r_sub [4, 5, 2, 1, 0] (ls' := [(2, .int x2), (3, .int x3), (4, .long w0), (6, .long ((lN 1) <<< (((nI 2) * x2).toInt64 &&& 63))), (8, .int (nI 0))]) rfl ?_
    exact (pw0 c0)
  · skip
    refine r_ldc2 dX1_numbered_5 kwX1_19 ?_
    exact r_ret (some (.long (-1 : Int64))) dX1_numbered_8 rfl (pq1 c0)
theorem gX1_numbered_22 {d : Nat} {Q : Option Value → Mem → Prop} {M : Mem} {x2 : Int32} {x3 : Int32} {w4 : Int64} {w6 : Int64} {x8 : Int32}  (pq0 : x2 ≤ x8 → Q (some (.long w6)) M) (pz1 : ¬ x2 ≤ x8 → ¬ x3.toInt64 = 0) (pw2 : ¬ x2 ≤ x8 → Wp d mdX1_numbered 22 [(2, .int x2), (3, .int x3), (4, .long (w4 / x3.toInt64)), (6, .long (w6 + ((w4 - w4 / x3.toInt64 * x3.toInt64) <<< (((nI 2) * x8).toInt64 &&& 63)))), (8, .int (x8 + (nI 1)))] [] M Q) : Wp d mdX1_numbered 22 [(2, .int x2), (3, .int x3), (4, .long w4), (6, .long w6), (8, .int x8)] [] M Q := by
  refine r_iload dX1_numbered_22 4 rfl ?_
  refine r_iload_n dX1_numbered_24 rfl 0 rfl ?_
  refine r_icmp_ge (tgt := 56) dX1_numbered_25 (by decide) (fun c0 => ?_) (fun c0 => ?_)
  · skip
    refine r_lload dX1_numbered_56 3 rfl ?_
    exact r_ret (some (.long w6)) dX1_numbered_58 rfl (pq0 c0)
  · skip
    refine r_lload dX1_numbered_28 3 rfl ?_
    refine r_lload dX1_numbered_30 2 rfl ?_
    refine r_iload_n dX1_numbered_32 rfl 1 rfl ?_
    refine r_i2l dX1_numbered_33 ?_
    refine r_lrem dX1_numbered_34 (pz1 c0) ?_
    refine r_iconst (v := (nI 2)) dX1_numbered_35 rfl ?_
    refine r_iload dX1_numbered_36 4 rfl ?_
    refine r_imul dX1_numbered_38 ?_
    refine r_lshl dX1_numbered_39 ?_
    refine r_ladd dX1_numbered_40 ?_
    refine r_lstore dX1_numbered_41 (by decide) (ls' := [(6, .long (w6 + ((w4 - w4 / x3.toInt64 * x3.toInt64) <<< (((nI 2) * x8).toInt64 &&& 63)))), (2, .int x2), (3, .int x3), (4, .long w4), (8, .int x8)]) rfl ?_
    refine r_lload dX1_numbered_43 3 rfl ?_
    refine r_iload_n dX1_numbered_45 rfl 2 rfl ?_
    refine r_i2l dX1_numbered_46 ?_
    refine r_ldiv dX1_numbered_47 (pz1 c0) ?_
    refine r_lstore dX1_numbered_48 (by decide) (ls' := [(4, .long (w4 / x3.toInt64)), (6, .long (w6 + ((w4 - w4 / x3.toInt64 * x3.toInt64) <<< (((nI 2) * x8).toInt64 &&& 63)))), (2, .int x2), (3, .int x3), (8, .int x8)]) rfl ?_
    refine r_iinc dX1_numbered_50 4 rfl (v := x8 + (nI 1)) rfl (by decide) (ls' := [(8, .int (x8 + (nI 1))), (4, .long (w4 / x3.toInt64)), (6, .long (w6 + ((w4 - w4 / x3.toInt64 * x3.toInt64) <<< (((nI 2) * x8).toInt64 &&& 63)))), (2, .int x2), (3, .int x3)]) rfl ?_
    refine r_goto (tgt := 22) dX1_numbered_53 (by decide) ?_
    refine r_sub [3, 4, 1, 2, 0] (ls' := [(2, .int x2), (3, .int x3), (4, .long (w4 / x3.toInt64)), (6, .long (w6 + ((w4 - w4 / x3.toInt64 * x3.toInt64) <<< (((nI 2) * x8).toInt64 &&& 63)))), (8, .int (x8 + (nI 1)))]) rfl ?_
    exact (pw2 c0)
-- X2_init
theorem gX2_init_0 {d : Nat} {Q : Option Value → Mem → Prop} {M : Mem} {a0 : Nat} (hd1 : 1 ≤ d) (k0 : mK M a0 = 5) (pw0 : Wp d mdX2_init 19 [(0, .ref a0)] [.ref (mC (sI (sI M a0 0 (nI 1)) a0 1 (nI 1)) + 2), .ref a0] (nwC (sI (sI M a0 0 (nI 1)) a0 1 (nI 1)) 1 8) Q) : Wp d mdX2_init 0 [(0, .ref a0)] [] M Q := by
  refine r_aload_n dX2_init_0 rfl 0 rfl ?_
  refine r_objI (ci := 1) dX2_init_1 mlX2_3 obI_i obI_c k0 hd1 (Nat.le_of_ble_eq_true rfl) ?_
  refine r_aload_n dX2_init_4 rfl 0 rfl ?_
  refine r_iconst (v := (nI 1)) dX2_init_5 rfl ?_
  refine r_putI ck1 dX2_init_6 flX2_9 rfl (Or.inl rfl) k0 ?_
  refine r_aload_n dX2_init_9 rfl 0 rfl ?_
  refine r_iconst (v := (nI 1)) dX2_init_10 rfl ?_
  refine r_putI ck1 dX2_init_11 flX2_15 rfl (Or.inl rfl) k0 ?_
  refine r_aload_n dX2_init_14 rfl 0 rfl ?_
  refine r_bipush (v := (nI 8)) dX2_init_15 rfl ?_
  refine r_newa dX2_init_17 (Or.inl rfl) ac_int (by decide) (N := 8) (by decide) (by decide) ?_
  exact pw0
theorem gX2_init_19 {d : Nat} {Q : Option Value → Mem → Prop} {M : Mem} {a0 : Nat} {sa0 : Nat} {sa1 : Nat} (k0 : mK M sa1 = 5) (pw0 : Wp d mdX2_init 27 [(0, .ref a0)] [.ref (mC (sR M sa1 2 sa0) + 2), .ref a0] (nwC (sR M sa1 2 sa0) 1 24) Q) : Wp d mdX2_init 19 [(0, .ref a0)] [.ref sa0, .ref sa1] M Q := by
  refine r_putR ck1 dX2_init_19 flX2_18 rfl rfl (Or.inr ⟨rfl, rfl, rfl⟩) k0 ?_
  refine r_aload_n dX2_init_22 rfl 0 rfl ?_
  refine r_bipush (v := (nI 24)) dX2_init_23 rfl ?_
  refine r_newa dX2_init_25 (Or.inl rfl) ac_int (by decide) (N := 24) (by decide) (by decide) ?_
  exact pw0
theorem gX2_init_27 {d : Nat} {Q : Option Value → Mem → Prop} {M : Mem} {a0 : Nat} {sa0 : Nat} {sa1 : Nat} (k0 : mK M sa1 = 5) (pw0 : Wp d mdX2_init 35 [] [.ref (mC (sR M sa1 3 sa0) + 2), .ref a0] (nwC (sR M sa1 3 sa0) 1 8) Q) : Wp d mdX2_init 27 [(0, .ref a0)] [.ref sa0, .ref sa1] M Q := by
  refine r_putR ck1 dX2_init_27 flX2_22 rfl rfl (Or.inr ⟨rfl, rfl, rfl⟩) k0 ?_
  refine r_aload_n dX2_init_30 rfl 0 rfl ?_
  refine r_bipush (v := (nI 8)) dX2_init_31 rfl ?_
  refine r_newa dX2_init_33 (Or.inl rfl) ac_int (by decide) (N := 8) (by decide) (by decide) ?_
  refine r_sub [] (ls' := []) rfl ?_
  exact pw0
theorem gX2_init_35 {d : Nat} {Q : Option Value → Mem → Prop} {M : Mem} {sa0 : Nat} {sa1 : Nat} (k0 : mK M sa1 = 5) (pq0 : Q none (sR M sa1 4 sa0)) : Wp d mdX2_init 35 [] [.ref sa0, .ref sa1] M Q := by
  refine r_putR ck1 dX2_init_35 flX2_25 rfl rfl (Or.inr ⟨rfl, rfl, rfl⟩) k0 ?_
  exact r_ret none dX2_init_38 rfl pq0
-- X2_shape
theorem gX2_shape_0 {d : Nat} {Q : Option Value → Mem → Prop} {M : Mem} {a0 : Nat} {x1 : Int32} {x2 : Int32} (k0 : mK M a0 = 5) (pq0 : Q none (sI (sI M a0 0 x1) a0 1 x2)) : Wp d mdX2_shape 0 [(0, .ref a0), (1, .int x1), (2, .int x2)] [] M Q := by
  refine r_aload_n dX2_shape_0 rfl 0 rfl ?_
  refine r_iload_n dX2_shape_1 rfl 1 rfl ?_
  refine r_putI ck1 dX2_shape_2 flX2_9 rfl (Or.inl rfl) k0 ?_
  refine r_aload_n dX2_shape_5 rfl 0 rfl ?_
  refine r_iload_n dX2_shape_6 rfl 2 rfl ?_
  refine r_putI ck1 dX2_shape_7 flX2_15 rfl (Or.inl rfl) k0 ?_
  exact r_ret none dX2_shape_10 rfl pq0
-- X2_setOutput
theorem gX2_setOutput_0 {d : Nat} {Q : Option Value → Mem → Prop} {M : Mem} {a0 : Nat} {x1 : Int32} {x2 : Int32} (k0 : mK M a0 = 5) (k1 : mK M (mR M a0 2) = 1) (pq0 : x1 < 0 → Q none M) (pq1 : ¬ x1 < 0 → (nI (mN M (mR M a0 2))) ≤ x1 → Q none M) (pb2 : ¬ x1 < 0 → ¬ (nI (mN M (mR M a0 2))) ≤ x1 → vp_in x1 (mN M (mR M a0 2))) (pq3 : ¬ x1 < 0 → ¬ (nI (mN M (mR M a0 2))) ≤ x1 → Q none (sI M (mR M a0 2) x1.toNatClampNeg x2)) : Wp d mdX2_setOutput 0 [(0, .ref a0), (1, .int x1), (2, .int x2)] [] M Q := by
  refine r_iload_n dX2_setOutput_0 rfl 1 rfl ?_
  refine r_if_lt (tgt := 20) dX2_setOutput_1 (by decide) (fun c0 => ?_) (fun c0 => ?_)
  · skip
    exact r_ret none dX2_setOutput_20 rfl (pq0 c0)
  · skip
    refine r_iload_n dX2_setOutput_4 rfl 1 rfl ?_
    refine r_aload_n dX2_setOutput_5 rfl 0 rfl ?_
    refine r_getR ck1 dX2_setOutput_6 flX2_18 rfl k0 ?_
    refine r_alen dX2_setOutput_9 (Or.inl k1) ?_
    refine r_icmp_ge (tgt := 20) dX2_setOutput_10 (by decide) (fun c1 => ?_) (fun c1 => ?_)
    · skip
      exact r_ret none dX2_setOutput_20 rfl (pq1 c0 c1)
    · skip
      refine r_aload_n dX2_setOutput_13 rfl 0 rfl ?_
      refine r_getR ck1 dX2_setOutput_14 flX2_18 rfl k0 ?_
      refine r_iload_n dX2_setOutput_17 rfl 1 rfl ?_
      refine r_iload_n dX2_setOutput_18 rfl 2 rfl ?_
      refine r_iast dX2_setOutput_19 k1 (pb2 c0 c1) ?_
      exact r_ret none dX2_setOutput_20 rfl (pq3 c0 c1)
-- X2_setNext
theorem gX2_setNext_0 {d : Nat} {Q : Option Value → Mem → Prop} {M : Mem} {a0 : Nat} {x1 : Int32} {x2 : Int32} {x3 : Int32} (k0 : mK M a0 = 5) (k1 : mK M (mR M a0 3) = 1) (pq0 : x2 < 0 → Q none M) (pq1 : ¬ x2 < 0 → (nI 3) ≤ x2 → Q none M) (pq2 : ¬ x2 < 0 → ¬ (nI 3) ≤ x2 → ((x1 * (nI 3)) + x2) < 0 → Q none M) (pq3 : ¬ x2 < 0 → ¬ (nI 3) ≤ x2 → ¬ ((x1 * (nI 3)) + x2) < 0 → (nI (mN M (mR M a0 3))) ≤ ((x1 * (nI 3)) + x2) → Q none M) (pb4 : ¬ x2 < 0 → ¬ (nI 3) ≤ x2 → ¬ ((x1 * (nI 3)) + x2) < 0 → ¬ (nI (mN M (mR M a0 3))) ≤ ((x1 * (nI 3)) + x2) → vp_in ((x1 * (nI 3)) + x2) (mN M (mR M a0 3))) (pq5 : ¬ x2 < 0 → ¬ (nI 3) ≤ x2 → ¬ ((x1 * (nI 3)) + x2) < 0 → ¬ (nI (mN M (mR M a0 3))) ≤ ((x1 * (nI 3)) + x2) → Q none (sI M (mR M a0 3) ((x1 * (nI 3)) + x2).toNatClampNeg x3)) : Wp d mdX2_setNext 0 [(0, .ref a0), (1, .int x1), (2, .int x2), (3, .int x3)] [] M Q := by
  refine r_iload_n dX2_setNext_0 rfl 1 rfl ?_
  refine r_iconst (v := (nI 3)) dX2_setNext_1 rfl ?_
  refine r_imul dX2_setNext_2 ?_
  refine r_iload_n dX2_setNext_3 rfl 2 rfl ?_
  refine r_iadd dX2_setNext_4 ?_
  refine r_istore dX2_setNext_5 (by decide) (ls' := [(4, .int ((x1 * (nI 3)) + x2)), (0, .ref a0), (1, .int x1), (2, .int x2), (3, .int x3)]) rfl ?_
  refine r_iload_n dX2_setNext_7 rfl 3 rfl ?_
  refine r_if_lt (tgt := 39) dX2_setNext_8 (by decide) (fun c0 => ?_) (fun c0 => ?_)
  · skip
    exact r_ret none dX2_setNext_39 rfl (pq0 c0)
  · skip
    refine r_iload_n dX2_setNext_11 rfl 3 rfl ?_
    refine r_iconst (v := (nI 3)) dX2_setNext_12 rfl ?_
    refine r_icmp_ge (tgt := 39) dX2_setNext_13 (by decide) (fun c1 => ?_) (fun c1 => ?_)
    · skip
      exact r_ret none dX2_setNext_39 rfl (pq1 c0 c1)
    · skip
      refine r_iload dX2_setNext_16 0 rfl ?_
      refine r_if_lt (tgt := 39) dX2_setNext_18 (by decide) (fun c2 => ?_) (fun c2 => ?_)
      · skip
        exact r_ret none dX2_setNext_39 rfl (pq2 c0 c1 c2)
      · skip
        refine r_iload dX2_setNext_21 0 rfl ?_
        refine r_aload_n dX2_setNext_23 rfl 1 rfl ?_
        refine r_getR ck1 dX2_setNext_24 flX2_22 rfl k0 ?_
        refine r_alen dX2_setNext_27 (Or.inl k1) ?_
        refine r_icmp_ge (tgt := 39) dX2_setNext_28 (by decide) (fun c3 => ?_) (fun c3 => ?_)
        · skip
          exact r_ret none dX2_setNext_39 rfl (pq3 c0 c1 c2 c3)
        · skip
          refine r_aload_n dX2_setNext_31 rfl 1 rfl ?_
          refine r_getR ck1 dX2_setNext_32 flX2_22 rfl k0 ?_
          refine r_iload dX2_setNext_35 0 rfl ?_
          refine r_iload_n dX2_setNext_37 rfl 4 rfl ?_
          refine r_iast dX2_setNext_38 k1 (pb4 c0 c1 c2 c3) ?_
          exact r_ret none dX2_setNext_39 rfl (pq5 c0 c1 c2 c3)
-- X2_outputOf
theorem gX2_outputOf_0 {d : Nat} {Q : Option Value → Mem → Prop} {M : Mem} {a0 : Nat} {x1 : Int32} (k0 : mK M a0 = 5) (k1 : mK M (mR M a0 2) = 1) (pq0 : x1 < 0 → Q (some (.int (-1 : Int32))) M) (pq1 : ¬ x1 < 0 → (mI M a0 0) ≤ x1 → Q (some (.int (-1 : Int32))) M) (pb2 : ¬ x1 < 0 → ¬ (mI M a0 0) ≤ x1 → x1 < (nI (mN M (mR M a0 2))) → vp_in x1 (mN M (mR M a0 2))) (pq3 : ¬ x1 < 0 → ¬ (mI M a0 0) ≤ x1 → x1 < (nI (mN M (mR M a0 2))) → Q (some (.int (mI M (mR M a0 2) x1.toNatClampNeg))) M) (pq4 : ¬ x1 < 0 → ¬ (mI M a0 0) ≤ x1 → ¬ x1 < (nI (mN M (mR M a0 2))) → Q (some (.int (-1 : Int32))) M) : Wp d mdX2_outputOf 0 [(0, .ref a0), (1, .int x1)] [] M Q := by
  refine r_iload_n dX2_outputOf_0 rfl 1 rfl ?_
  refine r_if_lt (tgt := 21) dX2_outputOf_1 (by decide) (fun c0 => ?_) (fun c0 => ?_)
  · skip
    refine r_iconst (v := (-1)) dX2_outputOf_21 rfl ?_
    refine r_goto (tgt := 31) dX2_outputOf_22 (by decide) ?_
    exact r_ret (some (.int (-1 : Int32))) dX2_outputOf_31 rfl (pq0 c0)
  · skip
    refine r_iload_n dX2_outputOf_4 rfl 1 rfl ?_
    refine r_aload_n dX2_outputOf_5 rfl 0 rfl ?_
    refine r_getI ck1 dX2_outputOf_6 flX2_9 rfl k0 ?_
    refine r_icmp_ge (tgt := 21) dX2_outputOf_9 (by decide) (fun c1 => ?_) (fun c1 => ?_)
    · skip
      refine r_iconst (v := (-1)) dX2_outputOf_21 rfl ?_
      refine r_goto (tgt := 31) dX2_outputOf_22 (by decide) ?_
      exact r_ret (some (.int (-1 : Int32))) dX2_outputOf_31 rfl (pq1 c0 c1)
    · skip
      refine r_iload_n dX2_outputOf_12 rfl 1 rfl ?_
      refine r_aload_n dX2_outputOf_13 rfl 0 rfl ?_
      refine r_getR ck1 dX2_outputOf_14 flX2_18 rfl k0 ?_
      refine r_alen dX2_outputOf_17 (Or.inl k1) ?_
      refine r_icmp_lt (tgt := 25) dX2_outputOf_18 (by decide) (fun c2 => ?_) (fun c2 => ?_)
      · skip
        refine r_aload_n dX2_outputOf_25 rfl 0 rfl ?_
        refine r_getR ck1 dX2_outputOf_26 flX2_18 rfl k0 ?_
        refine r_iload_n dX2_outputOf_29 rfl 1 rfl ?_
        refine r_iald dX2_outputOf_30 k1 (pb2 c0 c1 c2) ?_
        exact r_ret (some (.int (mI M (mR M a0 2) x1.toNatClampNeg))) dX2_outputOf_31 rfl (pq3 c0 c1 c2)
      · skip
        refine r_iconst (v := (-1)) dX2_outputOf_21 rfl ?_
        refine r_goto (tgt := 31) dX2_outputOf_22 (by decide) ?_
        exact r_ret (some (.int (-1 : Int32))) dX2_outputOf_31 rfl (pq4 c0 c1 c2)
-- X2_nextOf
theorem gX2_nextOf_0 {d : Nat} {Q : Option Value → Mem → Prop} {M : Mem} {a0 : Nat} {x1 : Int32} {x2 : Int32} (k0 : mK M a0 = 5) (k1 : mK M (mR M a0 3) = 1) (pq0 : x1 < 0 → Q (some (.int (-1 : Int32))) M) (pq1 : ¬ x1 < 0 → (mI M a0 0) ≤ x1 → Q (some (.int (-1 : Int32))) M) (pq2 : ¬ x1 < 0 → ¬ (mI M a0 0) ≤ x1 → x2 < 0 → Q (some (.int (-1 : Int32))) M) (pq3 : ¬ x1 < 0 → ¬ (mI M a0 0) ≤ x1 → ¬ x2 < 0 → x2 < (mI M a0 1) → (nI (mN M (mR M a0 3))) ≤ ((x1 * (nI 3)) + x2) → Q (some (.int (-1 : Int32))) M) (pb4 : ¬ x1 < 0 → ¬ (mI M a0 0) ≤ x1 → ¬ x2 < 0 → x2 < (mI M a0 1) → ¬ (nI (mN M (mR M a0 3))) ≤ ((x1 * (nI 3)) + x2) → vp_in ((x1 * (nI 3)) + x2) (mN M (mR M a0 3))) (pq5 : ¬ x1 < 0 → ¬ (mI M a0 0) ≤ x1 → ¬ x2 < 0 → x2 < (mI M a0 1) → ¬ (nI (mN M (mR M a0 3))) ≤ ((x1 * (nI 3)) + x2) → Q (some (.int (mI M (mR M a0 3) ((x1 * (nI 3)) + x2).toNatClampNeg))) M) (pq6 : ¬ x1 < 0 → ¬ (mI M a0 0) ≤ x1 → ¬ x2 < 0 → ¬ x2 < (mI M a0 1) → Q (some (.int (-1 : Int32))) M) : Wp d mdX2_nextOf 0 [(0, .ref a0), (1, .int x1), (2, .int x2)] [] M Q := by
  refine r_iload_n dX2_nextOf_0 rfl 1 rfl ?_
  refine r_if_lt (tgt := 24) dX2_nextOf_1 (by decide) (fun c0 => ?_) (fun c0 => ?_)
  · skip
    refine r_iconst (v := (-1)) dX2_nextOf_24 rfl ?_
    exact r_ret (some (.int (-1 : Int32))) dX2_nextOf_25 rfl (pq0 c0)
  · skip
    refine r_iload_n dX2_nextOf_4 rfl 1 rfl ?_
    refine r_aload_n dX2_nextOf_5 rfl 0 rfl ?_
    refine r_getI ck1 dX2_nextOf_6 flX2_9 rfl k0 ?_
    refine r_icmp_ge (tgt := 24) dX2_nextOf_9 (by decide) (fun c1 => ?_) (fun c1 => ?_)
    · skip
      refine r_iconst (v := (-1)) dX2_nextOf_24 rfl ?_
      exact r_ret (some (.int (-1 : Int32))) dX2_nextOf_25 rfl (pq1 c0 c1)
    · skip
      refine r_iload_n dX2_nextOf_12 rfl 2 rfl ?_
      refine r_if_lt (tgt := 24) dX2_nextOf_13 (by decide) (fun c2 => ?_) (fun c2 => ?_)
      · skip
        refine r_iconst (v := (-1)) dX2_nextOf_24 rfl ?_
        exact r_ret (some (.int (-1 : Int32))) dX2_nextOf_25 rfl (pq2 c0 c1 c2)
      · skip
        refine r_iload_n dX2_nextOf_16 rfl 2 rfl ?_
        refine r_aload_n dX2_nextOf_17 rfl 0 rfl ?_
        refine r_getI ck1 dX2_nextOf_18 flX2_15 rfl k0 ?_
        refine r_icmp_lt (tgt := 26) dX2_nextOf_21 (by decide) (fun c3 => ?_) (fun c3 => ?_)
        · skip
          refine r_iload_n dX2_nextOf_26 rfl 1 rfl ?_
          refine r_iconst (v := (nI 3)) dX2_nextOf_27 rfl ?_
          refine r_imul dX2_nextOf_28 ?_
          refine r_iload_n dX2_nextOf_29 rfl 2 rfl ?_
          refine r_iadd dX2_nextOf_30 ?_
          refine r_istore_n dX2_nextOf_31 rfl (by decide) (ls' := [(3, .int ((x1 * (nI 3)) + x2)), (0, .ref a0), (1, .int x1), (2, .int x2)]) rfl ?_
          refine r_iload_n dX2_nextOf_32 rfl 0 rfl ?_
          refine r_aload_n dX2_nextOf_33 rfl 1 rfl ?_
          refine r_getR ck1 dX2_nextOf_34 flX2_22 rfl k0 ?_
          refine r_alen dX2_nextOf_37 (Or.inl k1) ?_
          refine r_icmp_ge (tgt := 50) dX2_nextOf_38 (by decide) (fun c4 => ?_) (fun c4 => ?_)
          · skip
            refine r_iconst (v := (-1)) dX2_nextOf_50 rfl ?_
            exact r_ret (some (.int (-1 : Int32))) dX2_nextOf_51 rfl (pq3 c0 c1 c2 c3 c4)
          · skip
            refine r_aload_n dX2_nextOf_41 rfl 1 rfl ?_
            refine r_getR ck1 dX2_nextOf_42 flX2_22 rfl k0 ?_
            refine r_iload_n dX2_nextOf_45 rfl 0 rfl ?_
            refine r_iald dX2_nextOf_46 k1 (pb4 c0 c1 c2 c3 c4) ?_
            refine r_goto (tgt := 51) dX2_nextOf_47 (by decide) ?_
            exact r_ret (some (.int (mI M (mR M a0 3) ((x1 * (nI 3)) + x2).toNatClampNeg))) dX2_nextOf_51 rfl (pq5 c0 c1 c2 c3 c4)
        · skip
          refine r_iconst (v := (-1)) dX2_nextOf_24 rfl ?_
          exact r_ret (some (.int (-1 : Int32))) dX2_nextOf_25 rfl (pq6 c0 c1 c2 c3)
-- X2_look
theorem gX2_look_0 {d : Nat} {Q : Option Value → Mem → Prop} {M : Mem} {a0 : Nat} {x1 : Int32} {x2 : Int32} (k0 : mK M a0 = 5) (pf0 : ¬ x2 = 0 → ClD d mdX2_nextOf [.ref a0, .int x1, .int (x2 - (nI 1))] M (fun r1 M1 => Wp d mdX2_look 20 [] (r1.toList ++ []) M1 Q)) (pf1 : x2 = 0 → ClD d mdX2_outputOf [.ref a0, .int x1] M (fun r1 M1 => Wp d mdX2_look 9 [] (r1.toList ++ []) M1 Q)) : Wp d mdX2_look 0 [(0, .ref a0), (1, .int x1), (2, .int x2)] [] M Q := by
  refine r_iload_n dX2_look_0 rfl 2 rfl ?_
  refine r_if_ne (tgt := 12) dX2_look_1 (by decide) (fun c0 => ?_) (fun c0 => ?_)
  · skip
    refine r_aload_n dX2_look_12 rfl 0 rfl ?_
    refine r_iload_n dX2_look_13 rfl 1 rfl ?_
    refine r_iload_n dX2_look_14 rfl 2 rfl ?_
    refine r_iconst (v := (nI 1)) dX2_look_15 rfl ?_
    refine r_isub dX2_look_16 ?_
    refine r_sub [] (ls' := []) rfl ?_
    obtain ⟨e9, hlt, h9⟩ := (pf0 c0)
    exact r_callV (As := [.int x1, .int (x2 - (nI 1))]) (rest := []) (ci := 1) moX2_nextOf dX2_look_17 mlX2_32 imX2_nextOf seX2_nextOf k0 rfl hlt (Nat.le_of_ble_eq_true rfl) h9
  · skip
    refine r_aload_n dX2_look_4 rfl 0 rfl ?_
    refine r_iload_n dX2_look_5 rfl 1 rfl ?_
    refine r_sub [] (ls' := []) rfl ?_
    obtain ⟨e9, hlt, h9⟩ := (pf1 c0)
    exact r_callV (As := [.int x1]) (rest := []) (ci := 1) moX2_outputOf dX2_look_6 mlX2_28 imX2_outputOf seX2_outputOf k0 rfl hlt (Nat.le_of_ble_eq_true rfl) h9
theorem gX2_look_9 {d : Nat} {Q : Option Value → Mem → Prop} {M : Mem} {sx0 : Int32}  (pw0 : Wp d mdX2_look 20 [] [.int sx0] M Q) : Wp d mdX2_look 9 [] [.int sx0] M Q := by
  refine r_goto (tgt := 20) dX2_look_9 (by decide) ?_
  exact pw0
theorem gX2_look_20 {d : Nat} {Q : Option Value → Mem → Prop} {M : Mem} {sx0 : Int32}  (pq0 : Q (some (.int sx0)) M) : Wp d mdX2_look 20 [] [.int sx0] M Q := by
  exact r_ret (some (.int sx0)) dX2_look_20 rfl pq0
-- X2_endFrom
theorem gX2_endFrom_0 {d : Nat} {Q : Option Value → Mem → Prop} {M : Mem} {a0 : Nat} {x1 : Int32} {w2 : Int64}  (pf0 : ClD d mdX1_length [.long w2] M (fun r1 M1 => Wp d mdX2_endFrom 8 [(0, .ref a0), (2, .long w2), (4, .int x1)] (r1.toList ++ [.int (nI 2)]) M1 Q)) : Wp d mdX2_endFrom 0 [(0, .ref a0), (1, .int x1), (2, .long w2)] [] M Q := by
  refine r_iload_n dX2_endFrom_0 rfl 1 rfl ?_
  refine r_istore dX2_endFrom_1 (by decide) (ls' := [(4, .int x1), (0, .ref a0), (1, .int x1), (2, .long w2)]) rfl ?_
  refine r_iconst (v := (nI 2)) dX2_endFrom_3 rfl ?_
  refine r_lload_n dX2_endFrom_4 rfl 3 rfl ?_
  refine r_sub [1, 3, 0] (ls' := [(0, .ref a0), (2, .long w2), (4, .int x1)]) rfl ?_
  obtain ⟨e9, hlt, h9⟩ := pf0
  exact r_callS (As := [.long w2]) (rest := [.int (nI 2)]) moX1_length dX2_endFrom_5 mlX2_36 saX1_length rfl hlt (Nat.le_of_ble_eq_true rfl) h9
theorem gX2_endFrom_8 {d : Nat} {Q : Option Value → Mem → Prop} {M : Mem} {a0 : Nat} {w2 : Int64} {x4 : Int32} {sx0 : Int32} {sx1 : Int32}  (pw0 : Wp d mdX2_endFrom 13 [(0, .ref a0), (2, .long w2), (4, .int x4), (5, .int ((sx1 * sx0) - (nI 2)))] [] M Q) : Wp d mdX2_endFrom 8 [(0, .ref a0), (2, .long w2), (4, .int x4)] [.int sx0, .int sx1] M Q := by
  refine r_imul dX2_endFrom_8 ?_
  refine r_iconst (v := (nI 2)) dX2_endFrom_9 rfl ?_
  refine r_isub dX2_endFrom_10 ?_
  refine r_istore dX2_endFrom_11 (by decide) (ls' := [(5, .int ((sx1 * sx0) - (nI 2))), (0, .ref a0), (2, .long w2), (4, .int x4)]) rfl ?_
  refine r_sub [1, 2, 3, 0] (ls' := [(0, .ref a0), (2, .long w2), (4, .int x4), (5, .int ((sx1 * sx0) - (nI 2)))]) rfl ?_
  exact pw0
theorem gX2_endFrom_13 {d : Nat} {Q : Option Value → Mem → Prop} {M : Mem} {a0 : Nat} {w2 : Int64} {x4 : Int32} {x5 : Int32} (k0 : mK M a0 = 5) (pq0 : x5 < 0 → Q (some (.int x4)) M) (pf1 : ¬ x5 < 0 → ClD d mdX2_nextOf [.ref a0, .int x4, .int (((w2 >>> (x5.toInt64 &&& 63)).toInt32) &&& (nI 3))] M (fun r1 M1 => Wp d mdX2_endFrom 31 [(0, .ref a0), (2, .long w2), (5, .int x5)] (r1.toList ++ []) M1 Q)) : Wp d mdX2_endFrom 13 [(0, .ref a0), (2, .long w2), (4, .int x4), (5, .int x5)] [] M Q := by
  refine r_iload dX2_endFrom_13 3 rfl ?_
  refine r_if_lt (tgt := 39) dX2_endFrom_15 (by decide) (fun c0 => ?_) (fun c0 => ?_)
  · skip
    refine r_iload dX2_endFrom_39 2 rfl ?_
    exact r_ret (some (.int x4)) dX2_endFrom_41 rfl (pq0 c0)
  · skip
    refine r_aload_n dX2_endFrom_18 rfl 0 rfl ?_
    refine r_iload dX2_endFrom_19 2 rfl ?_
    refine r_lload_n dX2_endFrom_21 rfl 1 rfl ?_
    refine r_iload dX2_endFrom_22 3 rfl ?_
    refine r_lshr dX2_endFrom_24 ?_
    refine r_l2i dX2_endFrom_25 ?_
    refine r_iconst (v := (nI 3)) dX2_endFrom_26 rfl ?_
    refine r_iand dX2_endFrom_27 ?_
    refine r_sub [0, 1, 3] (ls' := [(0, .ref a0), (2, .long w2), (5, .int x5)]) rfl ?_
    obtain ⟨e9, hlt, h9⟩ := (pf1 c0)
    exact r_callV (As := [.int x4, .int (((w2 >>> (x5.toInt64 &&& 63)).toInt32) &&& (nI 3))]) (rest := []) (ci := 1) moX2_nextOf dX2_endFrom_28 mlX2_32 imX2_nextOf seX2_nextOf k0 rfl hlt (Nat.le_of_ble_eq_true rfl) h9
theorem gX2_endFrom_31 {d : Nat} {Q : Option Value → Mem → Prop} {M : Mem} {a0 : Nat} {w2 : Int64} {x5 : Int32} {sx0 : Int32}  (pw0 : Wp d mdX2_endFrom 13 [(0, .ref a0), (2, .long w2), (4, .int sx0), (5, .int (x5 + (-2 : Int32)))] [] M Q) : Wp d mdX2_endFrom 31 [(0, .ref a0), (2, .long w2), (5, .int x5)] [.int sx0] M Q := by
  refine r_istore dX2_endFrom_31 (by decide) (ls' := [(4, .int sx0), (0, .ref a0), (2, .long w2), (5, .int x5)]) rfl ?_
  refine r_iinc dX2_endFrom_33 3 rfl (v := x5 + (-2 : Int32)) rfl (by decide) (ls' := [(5, .int (x5 + (-2 : Int32))), (4, .int sx0), (0, .ref a0), (2, .long w2)]) rfl ?_
  refine r_goto (tgt := 13) dX2_endFrom_36 (by decide) ?_
  refine r_sub [2, 3, 1, 0] (ls' := [(0, .ref a0), (2, .long w2), (4, .int sx0), (5, .int (x5 + (-2 : Int32)))]) rfl ?_
  exact pw0
-- X2_answer
theorem gX2_answer_0 {d : Nat} {Q : Option Value → Mem → Prop} {M : Mem} {a0 : Nat} {w1 : Int64} (k0 : mK M a0 = 5) (pf0 : ClD d mdX2_endFrom [.ref a0, .int (nI 0), .long w1] M (fun r1 M1 => Wp d mdX2_answer 7 [] (r1.toList ++ [.ref a0]) M1 Q)) : Wp d mdX2_answer 0 [(0, .ref a0), (1, .long w1)] [] M Q := by
  refine r_aload_n dX2_answer_0 rfl 0 rfl ?_
  refine r_aload_n dX2_answer_1 rfl 0 rfl ?_
  refine r_iconst (v := (nI 0)) dX2_answer_2 rfl ?_
  refine r_lload_n dX2_answer_3 rfl 1 rfl ?_
  refine r_sub [] (ls' := []) rfl ?_
  obtain ⟨e9, hlt, h9⟩ := pf0
  exact r_callV (As := [.int (nI 0), .long w1]) (rest := [.ref a0]) (ci := 1) moX2_endFrom dX2_answer_4 mlX2_42 imX2_endFrom seX2_endFrom k0 rfl hlt (Nat.le_of_ble_eq_true rfl) h9
theorem gX2_answer_7 {d : Nat} {Q : Option Value → Mem → Prop} {M : Mem} {sx0 : Int32} {sa1 : Nat} (k0 : mK M sa1 = 5) (pf0 : ClD d mdX2_outputOf [.ref sa1, .int sx0] M (fun r1 M1 => Wp d mdX2_answer 10 [] (r1.toList ++ []) M1 Q)) : Wp d mdX2_answer 7 [] [.int sx0, .ref sa1] M Q := by
  obtain ⟨e9, hlt, h9⟩ := pf0
  exact r_callV (As := [.int sx0]) (rest := []) (ci := 1) moX2_outputOf dX2_answer_7 mlX2_28 imX2_outputOf seX2_outputOf k0 rfl hlt (Nat.le_of_ble_eq_true rfl) h9
theorem gX2_answer_10 {d : Nat} {Q : Option Value → Mem → Prop} {M : Mem} {sx0 : Int32}  (pq0 : Q (some (.int sx0)) M) : Wp d mdX2_answer 10 [] [.int sx0] M Q := by
  exact r_ret (some (.int sx0)) dX2_answer_10 rfl pq0
-- X2_isClosed
theorem gX2_isClosed_0 {d : Nat} {Q : Option Value → Mem → Prop} {M : Mem} {a0 : Nat}  (pw0 : Wp d mdX2_isClosed 2 [(0, .ref a0), (1, .int (nI 0))] [] M Q) : Wp d mdX2_isClosed 0 [(0, .ref a0)] [] M Q := by
  refine r_iconst (v := (nI 0)) dX2_isClosed_0 rfl ?_
  refine r_istore_n dX2_isClosed_1 rfl (by decide) (ls' := [(1, .int (nI 0)), (0, .ref a0)]) rfl ?_
  refine r_sub [1, 0] (ls' := [(0, .ref a0), (1, .int (nI 0))]) rfl ?_
  exact pw0
theorem gX2_isClosed_2 {d : Nat} {Q : Option Value → Mem → Prop} {M : Mem} {a0 : Nat} {x1 : Int32} (k0 : mK M a0 = 5) (pq0 : (mI M a0 0) ≤ x1 → Q (some (.int (nI 1))) M) (pw1 : ¬ (mI M a0 0) ≤ x1 → Wp d mdX2_isClosed 12 [(0, .ref a0), (1, .int x1), (2, .int (nI 0))] [] M Q) : Wp d mdX2_isClosed 2 [(0, .ref a0), (1, .int x1)] [] M Q := by
  refine r_iload_n dX2_isClosed_2 rfl 1 rfl ?_
  refine r_aload_n dX2_isClosed_3 rfl 0 rfl ?_
  refine r_getI ck1 dX2_isClosed_4 flX2_9 rfl k0 ?_
  refine r_icmp_ge (tgt := 47) dX2_isClosed_7 (by decide) (fun c0 => ?_) (fun c0 => ?_)
  · skip
    refine r_iconst (v := (nI 1)) dX2_isClosed_47 rfl ?_
    exact r_ret (some (.int (nI 1))) dX2_isClosed_48 rfl (pq0 c0)
  · skip
    refine r_iconst (v := (nI 0)) dX2_isClosed_10 rfl ?_
    refine r_istore_n dX2_isClosed_11 rfl (by decide) (ls' := [(2, .int (nI 0)), (0, .ref a0), (1, .int x1)]) rfl ?_
    refine r_sub [1, 2, 0] (ls' := [(0, .ref a0), (1, .int x1), (2, .int (nI 0))]) rfl ?_
    exact (pw1 c0)
theorem gX2_isClosed_12 {d : Nat} {Q : Option Value → Mem → Prop} {M : Mem} {a0 : Nat} {x1 : Int32} {x2 : Int32} (k0 : mK M a0 = 5) (pw0 : (mI M a0 1) ≤ x2 → Wp d mdX2_isClosed 2 [(0, .ref a0), (1, .int (x1 + (nI 1)))] [] M Q) (pf1 : ¬ (mI M a0 1) ≤ x2 → ClD d mdX2_nextOf [.ref a0, .int x1, .int x2] M (fun r1 M1 => Wp d mdX2_isClosed 26 [(0, .ref a0), (1, .int x1), (2, .int x2)] (r1.toList ++ []) M1 Q)) : Wp d mdX2_isClosed 12 [(0, .ref a0), (1, .int x1), (2, .int x2)] [] M Q := by
  refine r_iload_n dX2_isClosed_12 rfl 2 rfl ?_
  refine r_aload_n dX2_isClosed_13 rfl 0 rfl ?_
  refine r_getI ck1 dX2_isClosed_14 flX2_15 rfl k0 ?_
  refine r_icmp_ge (tgt := 41) dX2_isClosed_17 (by decide) (fun c0 => ?_) (fun c0 => ?_)
  · skip
    refine r_iinc dX2_isClosed_41 1 rfl (v := x1 + (nI 1)) rfl (by decide) (ls' := [(1, .int (x1 + (nI 1))), (0, .ref a0), (2, .int x2)]) rfl ?_
    refine r_goto (tgt := 2) dX2_isClosed_44 (by decide) ?_
    refine r_sub [1, 0] (ls' := [(0, .ref a0), (1, .int (x1 + (nI 1)))]) rfl ?_
    exact (pw0 c0)
  · skip
    refine r_aload_n dX2_isClosed_20 rfl 0 rfl ?_
    refine r_iload_n dX2_isClosed_21 rfl 1 rfl ?_
    refine r_iload_n dX2_isClosed_22 rfl 2 rfl ?_
    obtain ⟨e9, hlt, h9⟩ := (pf1 c0)
    exact r_callV (As := [.int x1, .int x2]) (rest := []) (ci := 1) moX2_nextOf dX2_isClosed_23 mlX2_32 imX2_nextOf seX2_nextOf k0 rfl hlt (Nat.le_of_ble_eq_true rfl) h9
theorem gX2_isClosed_26 {d : Nat} {Q : Option Value → Mem → Prop} {M : Mem} {a0 : Nat} {x1 : Int32} {x2 : Int32} {sx0 : Int32} (k0 : mK M a0 = 5) (pw0 : sx0 < (mI M a0 0) → Wp d mdX2_isClosed 12 [(0, .ref a0), (1, .int x1), (2, .int (x2 + (nI 1)))] [] M Q) (pq1 : ¬ sx0 < (mI M a0 0) → Q (some (.int (nI 0))) M) : Wp d mdX2_isClosed 26 [(0, .ref a0), (1, .int x1), (2, .int x2)] [.int sx0] M Q := by
  refine r_aload_n dX2_isClosed_26 rfl 0 rfl ?_
  refine r_getI ck1 dX2_isClosed_27 flX2_9 rfl k0 ?_
  refine r_icmp_lt (tgt := 35) dX2_isClosed_30 (by decide) (fun c0 => ?_) (fun c0 => ?_)
  · skip
    refine r_iinc dX2_isClosed_35 2 rfl (v := x2 + (nI 1)) rfl (by decide) (ls' := [(2, .int (x2 + (nI 1))), (0, .ref a0), (1, .int x1)]) rfl ?_
    refine r_goto (tgt := 12) dX2_isClosed_38 (by decide) ?_
    refine r_sub [1, 2, 0] (ls' := [(0, .ref a0), (1, .int x1), (2, .int (x2 + (nI 1)))]) rfl ?_
    exact (pw0 c0)
  · skip
    refine r_iconst (v := (nI 0)) dX2_isClosed_33 rfl ?_
    exact r_ret (some (.int (nI 0))) dX2_isClosed_34 rfl (pq1 c0)
-- X2_become
theorem gX2_become_0 {d : Nat} {Q : Option Value → Mem → Prop} {M : Mem} {a0 : Nat} {a1 : Nat} (k0 : mK M a1 = 5) (k1 : mK M a0 = 5) (pf0 : ClD d mdX2_shape [.ref a0, .int (mI M a1 0), .int (mI M a1 1)] M (fun r1 M1 => Wp d mdX2_become 12 [(0, .ref a0), (1, .ref a1)] (r1.toList ++ []) M1 Q)) : Wp d mdX2_become 0 [(0, .ref a0), (1, .ref a1)] [] M Q := by
  refine r_aload_n dX2_become_0 rfl 0 rfl ?_
  refine r_aload_n dX2_become_1 rfl 1 rfl ?_
  refine r_getI ck1 dX2_become_2 flX2_9 rfl k0 ?_
  refine r_aload_n dX2_become_5 rfl 1 rfl ?_
  refine r_getI ck1 dX2_become_6 flX2_15 rfl k0 ?_
  obtain ⟨e9, hlt, h9⟩ := pf0
  exact r_callV (As := [.int (mI M a1 0), .int (mI M a1 1)]) (rest := []) (ci := 1) moX2_shape dX2_become_9 mlX2_46 imX2_shape seX2_shape k1 rfl hlt (Nat.le_of_ble_eq_true rfl) h9
theorem gX2_become_12 {d : Nat} {Q : Option Value → Mem → Prop} {M : Mem} {a0 : Nat} {a1 : Nat}  (pw0 : Wp d mdX2_become 14 [(0, .ref a0), (1, .ref a1), (2, .int (nI 0))] [] M Q) : Wp d mdX2_become 12 [(0, .ref a0), (1, .ref a1)] [] M Q := by
  refine r_iconst (v := (nI 0)) dX2_become_12 rfl ?_
  refine r_istore_n dX2_become_13 rfl (by decide) (ls' := [(2, .int (nI 0)), (0, .ref a0), (1, .ref a1)]) rfl ?_
  refine r_sub [1, 2, 0] (ls' := [(0, .ref a0), (1, .ref a1), (2, .int (nI 0))]) rfl ?_
  exact pw0
theorem gX2_become_14 {d : Nat} {Q : Option Value → Mem → Prop} {M : Mem} {a0 : Nat} {a1 : Nat} {x2 : Int32} (k0 : mK M a0 = 5) (k1 : mK M a1 = 5) (pq0 : (mI M a0 0) ≤ x2 → Q none M) (pf1 : ¬ (mI M a0 0) ≤ x2 → ClD d mdX2_outputOf [.ref a1, .int x2] M (fun r1 M1 => Wp d mdX2_become 29 [(0, .ref a0), (1, .ref a1), (2, .int x2)] (r1.toList ++ [.int x2, .ref a0]) M1 Q)) : Wp d mdX2_become 14 [(0, .ref a0), (1, .ref a1), (2, .int x2)] [] M Q := by
  refine r_iload_n dX2_become_14 rfl 2 rfl ?_
  refine r_aload_n dX2_become_15 rfl 0 rfl ?_
  refine r_getI ck1 dX2_become_16 flX2_9 rfl k0 ?_
  refine r_icmp_ge (tgt := 66) dX2_become_19 (by decide) (fun c0 => ?_) (fun c0 => ?_)
  · skip
    exact r_ret none dX2_become_66 rfl (pq0 c0)
  · skip
    refine r_aload_n dX2_become_22 rfl 0 rfl ?_
    refine r_iload_n dX2_become_23 rfl 2 rfl ?_
    refine r_aload_n dX2_become_24 rfl 1 rfl ?_
    refine r_iload_n dX2_become_25 rfl 2 rfl ?_
    obtain ⟨e9, hlt, h9⟩ := (pf1 c0)
    exact r_callV (As := [.int x2]) (rest := [.int x2, .ref a0]) (ci := 1) moX2_outputOf dX2_become_26 mlX2_28 imX2_outputOf seX2_outputOf k1 rfl hlt (Nat.le_of_ble_eq_true rfl) h9
theorem gX2_become_29 {d : Nat} {Q : Option Value → Mem → Prop} {M : Mem} {a0 : Nat} {a1 : Nat} {x2 : Int32} {sx0 : Int32} {sx1 : Int32} {sa2 : Nat} (k0 : mK M sa2 = 5) (pf0 : ClD d mdX2_setOutput [.ref sa2, .int sx1, .int sx0] M (fun r1 M1 => Wp d mdX2_become 32 [(0, .ref a0), (1, .ref a1), (2, .int x2)] (r1.toList ++ []) M1 Q)) : Wp d mdX2_become 29 [(0, .ref a0), (1, .ref a1), (2, .int x2)] [.int sx0, .int sx1, .ref sa2] M Q := by
  obtain ⟨e9, hlt, h9⟩ := pf0
  exact r_callV (As := [.int sx1, .int sx0]) (rest := []) (ci := 1) moX2_setOutput dX2_become_29 mlX2_50 imX2_setOutput seX2_setOutput k0 rfl hlt (Nat.le_of_ble_eq_true rfl) h9
theorem gX2_become_32 {d : Nat} {Q : Option Value → Mem → Prop} {M : Mem} {a0 : Nat} {a1 : Nat} {x2 : Int32}  (pw0 : Wp d mdX2_become 34 [(0, .ref a0), (1, .ref a1), (2, .int x2), (3, .int (nI 0))] [] M Q) : Wp d mdX2_become 32 [(0, .ref a0), (1, .ref a1), (2, .int x2)] [] M Q := by
  refine r_iconst (v := (nI 0)) dX2_become_32 rfl ?_
  refine r_istore_n dX2_become_33 rfl (by decide) (ls' := [(3, .int (nI 0)), (0, .ref a0), (1, .ref a1), (2, .int x2)]) rfl ?_
  refine r_sub [1, 2, 3, 0] (ls' := [(0, .ref a0), (1, .ref a1), (2, .int x2), (3, .int (nI 0))]) rfl ?_
  exact pw0
theorem gX2_become_34 {d : Nat} {Q : Option Value → Mem → Prop} {M : Mem} {a0 : Nat} {a1 : Nat} {x2 : Int32} {x3 : Int32} (k0 : mK M a0 = 5) (k1 : mK M a1 = 5) (pw0 : (mI M a0 1) ≤ x3 → Wp d mdX2_become 14 [(0, .ref a0), (1, .ref a1), (2, .int (x2 + (nI 1)))] [] M Q) (pf1 : ¬ (mI M a0 1) ≤ x3 → ClD d mdX2_nextOf [.ref a1, .int x2, .int x3] M (fun r1 M1 => Wp d mdX2_become 51 [(0, .ref a0), (1, .ref a1), (2, .int x2), (3, .int x3)] (r1.toList ++ [.int x3, .int x2, .ref a0]) M1 Q)) : Wp d mdX2_become 34 [(0, .ref a0), (1, .ref a1), (2, .int x2), (3, .int x3)] [] M Q := by
  refine r_iload_n dX2_become_34 rfl 3 rfl ?_
  refine r_aload_n dX2_become_35 rfl 0 rfl ?_
  refine r_getI ck1 dX2_become_36 flX2_15 rfl k0 ?_
  refine r_icmp_ge (tgt := 60) dX2_become_39 (by decide) (fun c0 => ?_) (fun c0 => ?_)
  · skip
    refine r_iinc dX2_become_60 2 rfl (v := x2 + (nI 1)) rfl (by decide) (ls' := [(2, .int (x2 + (nI 1))), (0, .ref a0), (1, .ref a1), (3, .int x3)]) rfl ?_
    refine r_goto (tgt := 14) dX2_become_63 (by decide) ?_
    refine r_sub [1, 2, 0] (ls' := [(0, .ref a0), (1, .ref a1), (2, .int (x2 + (nI 1)))]) rfl ?_
    exact (pw0 c0)
  · skip
    refine r_aload_n dX2_become_42 rfl 0 rfl ?_
    refine r_iload_n dX2_become_43 rfl 2 rfl ?_
    refine r_iload_n dX2_become_44 rfl 3 rfl ?_
    refine r_aload_n dX2_become_45 rfl 1 rfl ?_
    refine r_iload_n dX2_become_46 rfl 2 rfl ?_
    refine r_iload_n dX2_become_47 rfl 3 rfl ?_
    obtain ⟨e9, hlt, h9⟩ := (pf1 c0)
    exact r_callV (As := [.int x2, .int x3]) (rest := [.int x3, .int x2, .ref a0]) (ci := 1) moX2_nextOf dX2_become_48 mlX2_32 imX2_nextOf seX2_nextOf k1 rfl hlt (Nat.le_of_ble_eq_true rfl) h9
theorem gX2_become_51 {d : Nat} {Q : Option Value → Mem → Prop} {M : Mem} {a0 : Nat} {a1 : Nat} {x2 : Int32} {x3 : Int32} {sx0 : Int32} {sx1 : Int32} {sx2 : Int32} {sa3 : Nat} (k0 : mK M sa3 = 5) (pf0 : ClD d mdX2_setNext [.ref sa3, .int sx2, .int sx1, .int sx0] M (fun r1 M1 => Wp d mdX2_become 54 [(0, .ref a0), (1, .ref a1), (2, .int x2), (3, .int x3)] (r1.toList ++ []) M1 Q)) : Wp d mdX2_become 51 [(0, .ref a0), (1, .ref a1), (2, .int x2), (3, .int x3)] [.int sx0, .int sx1, .int sx2, .ref sa3] M Q := by
  obtain ⟨e9, hlt, h9⟩ := pf0
  exact r_callV (As := [.int sx2, .int sx1, .int sx0]) (rest := []) (ci := 1) moX2_setNext dX2_become_51 mlX2_53 imX2_setNext seX2_setNext k0 rfl hlt (Nat.le_of_ble_eq_true rfl) h9
theorem gX2_become_54 {d : Nat} {Q : Option Value → Mem → Prop} {M : Mem} {a0 : Nat} {a1 : Nat} {x2 : Int32} {x3 : Int32}  (pw0 : Wp d mdX2_become 34 [(0, .ref a0), (1, .ref a1), (2, .int x2), (3, .int (x3 + (nI 1)))] [] M Q) : Wp d mdX2_become 54 [(0, .ref a0), (1, .ref a1), (2, .int x2), (3, .int x3)] [] M Q := by
  refine r_iinc dX2_become_54 3 rfl (v := x3 + (nI 1)) rfl (by decide) (ls' := [(3, .int (x3 + (nI 1))), (0, .ref a0), (1, .ref a1), (2, .int x2)]) rfl ?_
  refine r_goto (tgt := 34) dX2_become_57 (by decide) ?_
  refine r_sub [1, 2, 3, 0] (ls' := [(0, .ref a0), (1, .ref a1), (2, .int x2), (3, .int (x3 + (nI 1)))]) rfl ?_
  exact pw0
-- X2_draw
theorem gX2_draw_0 {d : Nat} {Q : Option Value → Mem → Prop} {M : Mem} {a0 : Nat} {x1 : Int32} {x2 : Int32} {x3 : Int32} {x4 : Int32} (k0 : mK M a0 = 5) (pf0 : ClD d mdX2_shape [.ref a0, .int x2, .int x3] M (fun r1 M1 => Wp d mdX2_draw 6 [(0, .ref a0), (1, .int x1), (2, .int x2), (3, .int x3), (4, .int x4)] (r1.toList ++ []) M1 Q)) : Wp d mdX2_draw 0 [(0, .ref a0), (1, .int x1), (2, .int x2), (3, .int x3), (4, .int x4)] [] M Q := by
  refine r_aload_n dX2_draw_0 rfl 0 rfl ?_
  refine r_iload_n dX2_draw_1 rfl 2 rfl ?_
  refine r_iload_n dX2_draw_2 rfl 3 rfl ?_
  obtain ⟨e9, hlt, h9⟩ := pf0
  exact r_callV (As := [.int x2, .int x3]) (rest := []) (ci := 1) moX2_shape dX2_draw_3 mlX2_46 imX2_shape seX2_shape k0 rfl hlt (Nat.le_of_ble_eq_true rfl) h9
theorem gX2_draw_6 {d : Nat} {Q : Option Value → Mem → Prop} {M : Mem} {a0 : Nat} {x1 : Int32} {x2 : Int32} {x3 : Int32} {x4 : Int32}  (pw0 : Wp d mdX2_draw 12 [(0, .ref a0), (2, .int x2), (3, .int x3), (4, .int x4), (5, .int x1), (6, .int (nI 0))] [] M Q) : Wp d mdX2_draw 6 [(0, .ref a0), (1, .int x1), (2, .int x2), (3, .int x3), (4, .int x4)] [] M Q := by
  refine r_iload_n dX2_draw_6 rfl 1 rfl ?_
  refine r_istore dX2_draw_7 (by decide) (ls' := [(5, .int x1), (0, .ref a0), (1, .int x1), (2, .int x2), (3, .int x3), (4, .int x4)]) rfl ?_
  refine r_iconst (v := (nI 0)) dX2_draw_9 rfl ?_
  refine r_istore dX2_draw_10 (by decide) (ls' := [(6, .int (nI 0)), (5, .int x1), (0, .ref a0), (1, .int x1), (2, .int x2), (3, .int x3), (4, .int x4)]) rfl ?_
  refine r_sub [2, 4, 5, 6, 1, 0] (ls' := [(0, .ref a0), (2, .int x2), (3, .int x3), (4, .int x4), (5, .int x1), (6, .int (nI 0))]) rfl ?_
  exact pw0
theorem gX2_draw_12 {d : Nat} {Q : Option Value → Mem → Prop} {M : Mem} {a0 : Nat} {x2 : Int32} {x3 : Int32} {x4 : Int32} {x5 : Int32} {x6 : Int32}  (pq0 : x2 ≤ x6 → Q none M) (pf1 : ¬ x2 ≤ x6 → ClD d mdX2_stir [.int x5] M (fun r1 M1 => Wp d mdX2_draw 23 [(0, .ref a0), (2, .int x2), (3, .int x3), (4, .int x4), (6, .int x6)] (r1.toList ++ []) M1 Q)) : Wp d mdX2_draw 12 [(0, .ref a0), (2, .int x2), (3, .int x3), (4, .int x4), (5, .int x5), (6, .int x6)] [] M Q := by
  refine r_iload dX2_draw_12 5 rfl ?_
  refine r_iload_n dX2_draw_14 rfl 1 rfl ?_
  refine r_icmp_ge (tgt := 80) dX2_draw_15 (by decide) (fun c0 => ?_) (fun c0 => ?_)
  · skip
    exact r_ret none dX2_draw_80 rfl (pq0 c0)
  · skip
    refine r_iload dX2_draw_18 4 rfl ?_
    refine r_sub [0, 1, 2, 3, 5] (ls' := [(0, .ref a0), (2, .int x2), (3, .int x3), (4, .int x4), (6, .int x6)]) rfl ?_
    obtain ⟨e9, hlt, h9⟩ := (pf1 c0)
    exact r_callS (As := [.int x5]) (rest := []) moX2_stir dX2_draw_20 mlX2_57 saX2_stir rfl hlt (Nat.le_of_ble_eq_true rfl) h9
theorem gX2_draw_23 {d : Nat} {Q : Option Value → Mem → Prop} {M : Mem} {a0 : Nat} {x2 : Int32} {x3 : Int32} {x4 : Int32} {x6 : Int32} {sx0 : Int32}  (pf0 : ClD d mdX2_drawn [.int sx0, .int x4] M (fun r1 M1 => Wp d mdX2_draw 35 [(0, .ref a0), (2, .int x2), (3, .int x3), (4, .int x4), (5, .int sx0), (6, .int x6)] (r1.toList ++ [.int x6, .ref a0]) M1 Q)) : Wp d mdX2_draw 23 [(0, .ref a0), (2, .int x2), (3, .int x3), (4, .int x4), (6, .int x6)] [.int sx0] M Q := by
  refine r_istore dX2_draw_23 (by decide) (ls' := [(5, .int sx0), (0, .ref a0), (2, .int x2), (3, .int x3), (4, .int x4), (6, .int x6)]) rfl ?_
  refine r_aload_n dX2_draw_25 rfl 1 rfl ?_
  refine r_iload dX2_draw_26 5 rfl ?_
  refine r_iload dX2_draw_28 0 rfl ?_
  refine r_iload dX2_draw_30 4 rfl ?_
  refine r_sub [1, 2, 3, 4, 0, 5] (ls' := [(0, .ref a0), (2, .int x2), (3, .int x3), (4, .int x4), (5, .int sx0), (6, .int x6)]) rfl ?_
  obtain ⟨e9, hlt, h9⟩ := pf0
  exact r_callS (As := [.int sx0, .int x4]) (rest := [.int x6, .ref a0]) moX2_drawn dX2_draw_32 mlX2_60 saX2_drawn rfl hlt (Nat.le_of_ble_eq_true rfl) h9
theorem gX2_draw_35 {d : Nat} {Q : Option Value → Mem → Prop} {M : Mem} {a0 : Nat} {x2 : Int32} {x3 : Int32} {x4 : Int32} {x5 : Int32} {x6 : Int32} {sx0 : Int32} {sx1 : Int32} {sa2 : Nat} (k0 : mK M sa2 = 5) (pf0 : ClD d mdX2_setOutput [.ref sa2, .int sx1, .int sx0] M (fun r1 M1 => Wp d mdX2_draw 38 [(0, .ref a0), (2, .int x2), (3, .int x3), (4, .int x4), (5, .int x5), (6, .int x6)] (r1.toList ++ []) M1 Q)) : Wp d mdX2_draw 35 [(0, .ref a0), (2, .int x2), (3, .int x3), (4, .int x4), (5, .int x5), (6, .int x6)] [.int sx0, .int sx1, .ref sa2] M Q := by
  obtain ⟨e9, hlt, h9⟩ := pf0
  exact r_callV (As := [.int sx1, .int sx0]) (rest := []) (ci := 1) moX2_setOutput dX2_draw_35 mlX2_50 imX2_setOutput seX2_setOutput k0 rfl hlt (Nat.le_of_ble_eq_true rfl) h9
theorem gX2_draw_38 {d : Nat} {Q : Option Value → Mem → Prop} {M : Mem} {a0 : Nat} {x2 : Int32} {x3 : Int32} {x4 : Int32} {x5 : Int32} {x6 : Int32}  (pw0 : Wp d mdX2_draw 41 [(0, .ref a0), (2, .int x2), (3, .int x3), (4, .int x4), (5, .int x5), (6, .int x6), (7, .int (nI 0))] [] M Q) : Wp d mdX2_draw 38 [(0, .ref a0), (2, .int x2), (3, .int x3), (4, .int x4), (5, .int x5), (6, .int x6)] [] M Q := by
  refine r_iconst (v := (nI 0)) dX2_draw_38 rfl ?_
  refine r_istore dX2_draw_39 (by decide) (ls' := [(7, .int (nI 0)), (0, .ref a0), (2, .int x2), (3, .int x3), (4, .int x4), (5, .int x5), (6, .int x6)]) rfl ?_
  refine r_sub [1, 2, 3, 4, 5, 6, 0] (ls' := [(0, .ref a0), (2, .int x2), (3, .int x3), (4, .int x4), (5, .int x5), (6, .int x6), (7, .int (nI 0))]) rfl ?_
  exact pw0
theorem gX2_draw_41 {d : Nat} {Q : Option Value → Mem → Prop} {M : Mem} {a0 : Nat} {x2 : Int32} {x3 : Int32} {x4 : Int32} {x5 : Int32} {x6 : Int32} {x7 : Int32}  (pw0 : x3 ≤ x7 → Wp d mdX2_draw 12 [(0, .ref a0), (2, .int x2), (3, .int x3), (4, .int x4), (5, .int x5), (6, .int (x6 + (nI 1)))] [] M Q) (pf1 : ¬ x3 ≤ x7 → ClD d mdX2_stir [.int x5] M (fun r1 M1 => Wp d mdX2_draw 52 [(0, .ref a0), (2, .int x2), (3, .int x3), (4, .int x4), (6, .int x6), (7, .int x7)] (r1.toList ++ []) M1 Q)) : Wp d mdX2_draw 41 [(0, .ref a0), (2, .int x2), (3, .int x3), (4, .int x4), (5, .int x5), (6, .int x6), (7, .int x7)] [] M Q := by
  refine r_iload dX2_draw_41 6 rfl ?_
  refine r_iload_n dX2_draw_43 rfl 2 rfl ?_
  refine r_icmp_ge (tgt := 74) dX2_draw_44 (by decide) (fun c0 => ?_) (fun c0 => ?_)
  · skip
    refine r_iinc dX2_draw_74 5 rfl (v := x6 + (nI 1)) rfl (by decide) (ls' := [(6, .int (x6 + (nI 1))), (0, .ref a0), (2, .int x2), (3, .int x3), (4, .int x4), (5, .int x5), (7, .int x7)]) rfl ?_
    refine r_goto (tgt := 12) dX2_draw_77 (by decide) ?_
    refine r_sub [1, 2, 3, 4, 5, 0] (ls' := [(0, .ref a0), (2, .int x2), (3, .int x3), (4, .int x4), (5, .int x5), (6, .int (x6 + (nI 1)))]) rfl ?_
    exact (pw0 c0)
  · skip
    refine r_iload dX2_draw_47 4 rfl ?_
    refine r_sub [0, 1, 2, 3, 5, 6] (ls' := [(0, .ref a0), (2, .int x2), (3, .int x3), (4, .int x4), (6, .int x6), (7, .int x7)]) rfl ?_
    obtain ⟨e9, hlt, h9⟩ := (pf1 c0)
    exact r_callS (As := [.int x5]) (rest := []) moX2_stir dX2_draw_49 mlX2_57 saX2_stir rfl hlt (Nat.le_of_ble_eq_true rfl) h9
theorem gX2_draw_52 {d : Nat} {Q : Option Value → Mem → Prop} {M : Mem} {a0 : Nat} {x2 : Int32} {x3 : Int32} {x4 : Int32} {x6 : Int32} {x7 : Int32} {sx0 : Int32}  (pf0 : ClD d mdX2_drawn [.int sx0, .int x2] M (fun r1 M1 => Wp d mdX2_draw 65 [(0, .ref a0), (2, .int x2), (3, .int x3), (4, .int x4), (5, .int sx0), (6, .int x6), (7, .int x7)] (r1.toList ++ [.int x7, .int x6, .ref a0]) M1 Q)) : Wp d mdX2_draw 52 [(0, .ref a0), (2, .int x2), (3, .int x3), (4, .int x4), (6, .int x6), (7, .int x7)] [.int sx0] M Q := by
  refine r_istore dX2_draw_52 (by decide) (ls' := [(5, .int sx0), (0, .ref a0), (2, .int x2), (3, .int x3), (4, .int x4), (6, .int x6), (7, .int x7)]) rfl ?_
  refine r_aload_n dX2_draw_54 rfl 1 rfl ?_
  refine r_iload dX2_draw_55 5 rfl ?_
  refine r_iload dX2_draw_57 6 rfl ?_
  refine r_iload dX2_draw_59 0 rfl ?_
  refine r_iload_n dX2_draw_61 rfl 2 rfl ?_
  refine r_sub [1, 2, 3, 4, 0, 5, 6] (ls' := [(0, .ref a0), (2, .int x2), (3, .int x3), (4, .int x4), (5, .int sx0), (6, .int x6), (7, .int x7)]) rfl ?_
  obtain ⟨e9, hlt, h9⟩ := pf0
  exact r_callS (As := [.int sx0, .int x2]) (rest := [.int x7, .int x6, .ref a0]) moX2_drawn dX2_draw_62 mlX2_60 saX2_drawn rfl hlt (Nat.le_of_ble_eq_true rfl) h9
theorem gX2_draw_65 {d : Nat} {Q : Option Value → Mem → Prop} {M : Mem} {a0 : Nat} {x2 : Int32} {x3 : Int32} {x4 : Int32} {x5 : Int32} {x6 : Int32} {x7 : Int32} {sx0 : Int32} {sx1 : Int32} {sx2 : Int32} {sa3 : Nat} (k0 : mK M sa3 = 5) (pf0 : ClD d mdX2_setNext [.ref sa3, .int sx2, .int sx1, .int sx0] M (fun r1 M1 => Wp d mdX2_draw 68 [(0, .ref a0), (2, .int x2), (3, .int x3), (4, .int x4), (5, .int x5), (6, .int x6), (7, .int x7)] (r1.toList ++ []) M1 Q)) : Wp d mdX2_draw 65 [(0, .ref a0), (2, .int x2), (3, .int x3), (4, .int x4), (5, .int x5), (6, .int x6), (7, .int x7)] [.int sx0, .int sx1, .int sx2, .ref sa3] M Q := by
  obtain ⟨e9, hlt, h9⟩ := pf0
  exact r_callV (As := [.int sx2, .int sx1, .int sx0]) (rest := []) (ci := 1) moX2_setNext dX2_draw_65 mlX2_53 imX2_setNext seX2_setNext k0 rfl hlt (Nat.le_of_ble_eq_true rfl) h9
theorem gX2_draw_68 {d : Nat} {Q : Option Value → Mem → Prop} {M : Mem} {a0 : Nat} {x2 : Int32} {x3 : Int32} {x4 : Int32} {x5 : Int32} {x6 : Int32} {x7 : Int32}  (pw0 : Wp d mdX2_draw 41 [(0, .ref a0), (2, .int x2), (3, .int x3), (4, .int x4), (5, .int x5), (6, .int x6), (7, .int (x7 + (nI 1)))] [] M Q) : Wp d mdX2_draw 68 [(0, .ref a0), (2, .int x2), (3, .int x3), (4, .int x4), (5, .int x5), (6, .int x6), (7, .int x7)] [] M Q := by
  refine r_iinc dX2_draw_68 6 rfl (v := x7 + (nI 1)) rfl (by decide) (ls' := [(7, .int (x7 + (nI 1))), (0, .ref a0), (2, .int x2), (3, .int x3), (4, .int x4), (5, .int x5), (6, .int x6)]) rfl ?_
  refine r_goto (tgt := 41) dX2_draw_71 (by decide) ?_
  refine r_sub [1, 2, 3, 4, 5, 6, 0] (ls' := [(0, .ref a0), (2, .int x2), (3, .int x3), (4, .int x4), (5, .int x5), (6, .int x6), (7, .int (x7 + (nI 1)))]) rfl ?_
  exact pw0
-- X2_stir
theorem gX2_stir_0 {d : Nat} {Q : Option Value → Mem → Prop} {M : Mem} {x0 : Int32}  (pq0 : Q (some (.int ((x0 * (nI 1103515245)) + (nI 12345)))) M) : Wp d mdX2_stir 0 [(0, .int x0)] [] M Q := by
  refine r_iload_n dX2_stir_0 rfl 0 rfl ?_
  refine r_ldc dX2_stir_1 kwX2_63 ?_
  refine r_imul dX2_stir_3 ?_
  refine r_sipush (v := (nI 12345)) dX2_stir_4 rfl ?_
  refine r_iadd dX2_stir_7 ?_
  exact r_ret (some (.int ((x0 * (nI 1103515245)) + (nI 12345)))) dX2_stir_8 rfl pq0
-- X2_drawn
theorem gX2_drawn_0 {d : Nat} {Q : Option Value → Mem → Prop} {M : Mem} {x0 : Int32} {x1 : Int32}  (pz0 : (nI 1) ≤ x1 → ¬ x1 = 0) (pq1 : (nI 1) ≤ x1 → Q (some (.int (((x0.toUInt32 >>> ((nI 16).toUInt32 &&& Int32.toUInt32 31)).toInt32) - ((x0.toUInt32 >>> ((nI 16).toUInt32 &&& Int32.toUInt32 31)).toInt32) / x1 * x1))) M) (pq2 : ¬ (nI 1) ≤ x1 → Q (some (.int (nI 0))) M) : Wp d mdX2_drawn 0 [(0, .int x0), (1, .int x1)] [] M Q := by
  refine r_iload_n dX2_drawn_0 rfl 1 rfl ?_
  refine r_iconst (v := (nI 1)) dX2_drawn_1 rfl ?_
  refine r_icmp_ge (tgt := 9) dX2_drawn_2 (by decide) (fun c0 => ?_) (fun c0 => ?_)
  · skip
    refine r_iload_n dX2_drawn_9 rfl 0 rfl ?_
    refine r_bipush (v := (nI 16)) dX2_drawn_10 rfl ?_
    refine r_iushr dX2_drawn_12 ?_
    refine r_iload_n dX2_drawn_13 rfl 1 rfl ?_
    refine r_irem dX2_drawn_14 (pz0 c0) ?_
    exact r_ret (some (.int (((x0.toUInt32 >>> ((nI 16).toUInt32 &&& Int32.toUInt32 31)).toInt32) - ((x0.toUInt32 >>> ((nI 16).toUInt32 &&& Int32.toUInt32 31)).toInt32) / x1 * x1))) dX2_drawn_15 rfl (pq1 c0)
  · skip
    refine r_iconst (v := (nI 0)) dX2_drawn_5 rfl ?_
    refine r_goto (tgt := 15) dX2_drawn_6 (by decide) ?_
    exact r_ret (some (.int (nI 0))) dX2_drawn_15 rfl (pq2 c0)
-- X2_part
theorem gX2_part_0 {d : Nat} {Q : Option Value → Mem → Prop} {M : Mem} {a0 : Nat} {x1 : Int32} {a2 : Nat}  (pw0 : Wp d mdX2_part 2 [(0, .ref a0), (1, .int x1), (2, .ref a2), (3, .int (nI 0))] [] M Q) : Wp d mdX2_part 0 [(0, .ref a0), (1, .int x1), (2, .ref a2)] [] M Q := by
  refine r_iconst (v := (nI 0)) dX2_part_0 rfl ?_
  refine r_istore_n dX2_part_1 rfl (by decide) (ls' := [(3, .int (nI 0)), (0, .ref a0), (1, .int x1), (2, .ref a2)]) rfl ?_
  refine r_sub [1, 2, 3, 0] (ls' := [(0, .ref a0), (1, .int x1), (2, .ref a2), (3, .int (nI 0))]) rfl ?_
  exact pw0
theorem gX2_part_2 {d : Nat} {Q : Option Value → Mem → Prop} {M : Mem} {a0 : Nat} {x1 : Int32} {a2 : Nat} {x3 : Int32}  (pw0 : x1 < x3 → Wp d mdX2_part 108 [(0, .ref a0), (2, .ref a2), (3, .int (nI 0)), (4, .int (nI 0))] [] M Q) (pw1 : ¬ x1 < x3 → Wp d mdX2_part 10 [(0, .ref a0), (1, .int x1), (2, .ref a2), (3, .int x3), (4, .int (nI 0))] [] M Q) : Wp d mdX2_part 2 [(0, .ref a0), (1, .int x1), (2, .ref a2), (3, .int x3)] [] M Q := by
  refine r_iload_n dX2_part_2 rfl 3 rfl ?_
  refine r_iload_n dX2_part_3 rfl 1 rfl ?_
  refine r_icmp_gt (tgt := 103) dX2_part_4 (by decide) (fun c0 => ?_) (fun c0 => ?_)
  · skip
    refine r_iconst (v := (nI 0)) dX2_part_103 rfl ?_
    refine r_istore_n dX2_part_104 rfl (by decide) (ls' := [(3, .int (nI 0)), (0, .ref a0), (1, .int x1), (2, .ref a2)]) rfl ?_
    refine r_iconst (v := (nI 0)) dX2_part_105 rfl ?_
    refine r_istore dX2_part_106 (by decide) (ls' := [(4, .int (nI 0)), (3, .int (nI 0)), (0, .ref a0), (1, .int x1), (2, .ref a2)]) rfl ?_
    refine r_sub [2, 4, 1, 0] (ls' := [(0, .ref a0), (2, .ref a2), (3, .int (nI 0)), (4, .int (nI 0))]) rfl ?_
    exact (pw0 c0)
  · skip
    refine r_iconst (v := (nI 0)) dX2_part_7 rfl ?_
    refine r_istore dX2_part_8 (by decide) (ls' := [(4, .int (nI 0)), (0, .ref a0), (1, .int x1), (2, .ref a2), (3, .int x3)]) rfl ?_
    refine r_sub [1, 2, 3, 4, 0] (ls' := [(0, .ref a0), (1, .int x1), (2, .ref a2), (3, .int x3), (4, .int (nI 0))]) rfl ?_
    exact (pw1 c0)
theorem gX2_part_10 {d : Nat} {Q : Option Value → Mem → Prop} {M : Mem} {a0 : Nat} {x1 : Int32} {a2 : Nat} {x3 : Int32} {x4 : Int32} (k0 : mK M a0 = 5) (k1 : mK M a2 = 1) (pw0 : (mI M a0 0) ≤ x4 → Wp d mdX2_part 51 [(0, .ref a0), (1, .int x1), (2, .ref a2), (3, .int x3)] [] M Q) (pw1 : ¬ (mI M a0 0) ≤ x4 → (nI (mN M a2)) ≤ x4 → Wp d mdX2_part 51 [(0, .ref a0), (1, .int x1), (2, .ref a2), (3, .int x3)] [] M Q) (pw2 : ¬ (mI M a0 0) ≤ x4 → ¬ (nI (mN M a2)) ≤ x4 → x3 ≤ 0 → Wp d mdX2_part 41 [(0, .ref a0), (1, .int x1), (2, .ref a2), (3, .int x3), (4, .int x4)] [.int (nI 0), .int x4, .ref a0, .int x4, .ref a2] M Q) (pw3 : ¬ (mI M a0 0) ≤ x4 → ¬ (nI (mN M a2)) ≤ x4 → ¬ x3 ≤ 0 → Wp d mdX2_part 41 [(0, .ref a0), (1, .int x1), (2, .ref a2), (3, .int x3), (4, .int x4)] [.int (nI 1), .int x4, .ref a0, .int x4, .ref a2] M Q) : Wp d mdX2_part 10 [(0, .ref a0), (1, .int x1), (2, .ref a2), (3, .int x3), (4, .int x4)] [] M Q := by
  refine r_iload dX2_part_10 4 rfl ?_
  refine r_aload_n dX2_part_12 rfl 0 rfl ?_
  refine r_getI ck1 dX2_part_13 flX2_9 rfl k0 ?_
  refine r_icmp_ge (tgt := 51) dX2_part_16 (by decide) (fun c0 => ?_) (fun c0 => ?_)
  · skip
    refine r_sub [0, 1, 2, 3] (ls' := [(0, .ref a0), (1, .int x1), (2, .ref a2), (3, .int x3)]) rfl ?_
    exact (pw0 c0)
  · skip
    refine r_iload dX2_part_19 4 rfl ?_
    refine r_aload_n dX2_part_21 rfl 2 rfl ?_
    refine r_alen dX2_part_22 (Or.inl k1) ?_
    refine r_icmp_ge (tgt := 51) dX2_part_23 (by decide) (fun c1 => ?_) (fun c1 => ?_)
    · skip
      refine r_sub [0, 1, 2, 3] (ls' := [(0, .ref a0), (1, .int x1), (2, .ref a2), (3, .int x3)]) rfl ?_
      exact (pw1 c0 c1)
    · skip
      refine r_aload_n dX2_part_26 rfl 2 rfl ?_
      refine r_iload dX2_part_27 4 rfl ?_
      refine r_aload_n dX2_part_29 rfl 0 rfl ?_
      refine r_iload dX2_part_30 4 rfl ?_
      refine r_iload_n dX2_part_32 rfl 3 rfl ?_
      refine r_if_le (tgt := 40) dX2_part_33 (by decide) (fun c2 => ?_) (fun c2 => ?_)
      · skip
        refine r_iconst (v := (nI 0)) dX2_part_40 rfl ?_
        exact (pw2 c0 c1 c2)
      · skip
        refine r_iconst (v := (nI 1)) dX2_part_36 rfl ?_
        refine r_goto (tgt := 41) dX2_part_37 (by decide) ?_
        exact (pw3 c0 c1 c2)
theorem gX2_part_41 {d : Nat} {Q : Option Value → Mem → Prop} {M : Mem} {a0 : Nat} {x1 : Int32} {a2 : Nat} {x3 : Int32} {x4 : Int32} {sx0 : Int32} {sx1 : Int32} {sa2 : Nat} {sx3 : Int32} {sa4 : Nat} (k0 : mK M sa2 = 5) (pf0 : ClD d mdX2_leastAlike [.ref sa2, .int sx1, .int sx0] M (fun r1 M1 => Wp d mdX2_part 44 [(0, .ref a0), (1, .int x1), (2, .ref a2), (3, .int x3), (4, .int x4)] (r1.toList ++ [.int sx3, .ref sa4]) M1 Q)) : Wp d mdX2_part 41 [(0, .ref a0), (1, .int x1), (2, .ref a2), (3, .int x3), (4, .int x4)] [.int sx0, .int sx1, .ref sa2, .int sx3, .ref sa4] M Q := by
  obtain ⟨e9, hlt, h9⟩ := pf0
  exact r_callV (As := [.int sx1, .int sx0]) (rest := [.int sx3, .ref sa4]) (ci := 1) moX2_leastAlike dX2_part_41 mlX2_64 imX2_leastAlike seX2_leastAlike k0 rfl hlt (Nat.le_of_ble_eq_true rfl) h9
theorem gX2_part_44 {d : Nat} {Q : Option Value → Mem → Prop} {M : Mem} {a0 : Nat} {x1 : Int32} {a2 : Nat} {x3 : Int32} {x4 : Int32} {sx0 : Int32} {sx1 : Int32} {sa2 : Nat} (k0 : mK M sa2 = 1) (pb0 : vp_in sx1 (mN M sa2)) (pw1 : Wp d mdX2_part 10 [(0, .ref a0), (1, .int x1), (2, .ref a2), (3, .int x3), (4, .int (x4 + (nI 1)))] [] (sI M sa2 sx1.toNatClampNeg sx0) Q) : Wp d mdX2_part 44 [(0, .ref a0), (1, .int x1), (2, .ref a2), (3, .int x3), (4, .int x4)] [.int sx0, .int sx1, .ref sa2] M Q := by
  refine r_iast dX2_part_44 k0 pb0 ?_
  refine r_iinc dX2_part_45 4 rfl (v := x4 + (nI 1)) rfl (by decide) (ls' := [(4, .int (x4 + (nI 1))), (0, .ref a0), (1, .int x1), (2, .ref a2), (3, .int x3)]) rfl ?_
  refine r_goto (tgt := 10) dX2_part_48 (by decide) ?_
  refine r_sub [1, 2, 3, 4, 0] (ls' := [(0, .ref a0), (1, .int x1), (2, .ref a2), (3, .int x3), (4, .int (x4 + (nI 1)))]) rfl ?_
  exact pw1
theorem gX2_part_51 {d : Nat} {Q : Option Value → Mem → Prop} {M : Mem} {a0 : Nat} {x1 : Int32} {a2 : Nat} {x3 : Int32}  (pw0 : Wp d mdX2_part 54 [(0, .ref a0), (1, .int x1), (2, .ref a2), (3, .int x3), (4, .int (nI 0))] [] M Q) : Wp d mdX2_part 51 [(0, .ref a0), (1, .int x1), (2, .ref a2), (3, .int x3)] [] M Q := by
  refine r_iconst (v := (nI 0)) dX2_part_51 rfl ?_
  refine r_istore dX2_part_52 (by decide) (ls' := [(4, .int (nI 0)), (0, .ref a0), (1, .int x1), (2, .ref a2), (3, .int x3)]) rfl ?_
  refine r_sub [1, 2, 3, 4, 0] (ls' := [(0, .ref a0), (1, .int x1), (2, .ref a2), (3, .int x3), (4, .int (nI 0))]) rfl ?_
  exact pw0
theorem gX2_part_54 {d : Nat} {Q : Option Value → Mem → Prop} {M : Mem} {a0 : Nat} {x1 : Int32} {a2 : Nat} {x3 : Int32} {x4 : Int32} (k0 : mK M a0 = 5) (k1 : mK M a2 = 1) (k2 : mK M (mR M a0 4) = 1) (pw0 : (mI M a0 0) ≤ x4 → Wp d mdX2_part 2 [(0, .ref a0), (1, .int x1), (2, .ref a2), (3, .int (x3 + (nI 1)))] [] M Q) (pw1 : ¬ (mI M a0 0) ≤ x4 → (nI (mN M a2)) ≤ x4 → Wp d mdX2_part 2 [(0, .ref a0), (1, .int x1), (2, .ref a2), (3, .int (x3 + (nI 1)))] [] M Q) (pw2 : ¬ (mI M a0 0) ≤ x4 → ¬ (nI (mN M a2)) ≤ x4 → (nI (mN M (mR M a0 4))) ≤ x4 → Wp d mdX2_part 2 [(0, .ref a0), (1, .int x1), (2, .ref a2), (3, .int (x3 + (nI 1)))] [] M Q) (pb3 : ¬ (mI M a0 0) ≤ x4 → ¬ (nI (mN M a2)) ≤ x4 → ¬ (nI (mN M (mR M a0 4))) ≤ x4 → vp_in x4 (mN M a2)) (pb4 : ¬ (mI M a0 0) ≤ x4 → ¬ (nI (mN M a2)) ≤ x4 → ¬ (nI (mN M (mR M a0 4))) ≤ x4 → vp_in x4 (mN M (mR M a0 4))) (pw5 : ¬ (mI M a0 0) ≤ x4 → ¬ (nI (mN M a2)) ≤ x4 → ¬ (nI (mN M (mR M a0 4))) ≤ x4 → Wp d mdX2_part 54 [(0, .ref a0), (1, .int x1), (2, .ref a2), (3, .int x3), (4, .int (x4 + (nI 1)))] [] (sI M (mR M a0 4) x4.toNatClampNeg (mI M a2 x4.toNatClampNeg)) Q) : Wp d mdX2_part 54 [(0, .ref a0), (1, .int x1), (2, .ref a2), (3, .int x3), (4, .int x4)] [] M Q := by
  refine r_iload dX2_part_54 4 rfl ?_
  refine r_aload_n dX2_part_56 rfl 0 rfl ?_
  refine r_getI ck1 dX2_part_57 flX2_9 rfl k0 ?_
  refine r_icmp_ge (tgt := 97) dX2_part_60 (by decide) (fun c0 => ?_) (fun c0 => ?_)
  · skip
    refine r_iinc dX2_part_97 3 rfl (v := x3 + (nI 1)) rfl (by decide) (ls' := [(3, .int (x3 + (nI 1))), (0, .ref a0), (1, .int x1), (2, .ref a2), (4, .int x4)]) rfl ?_
    refine r_goto (tgt := 2) dX2_part_100 (by decide) ?_
    refine r_sub [1, 2, 3, 0] (ls' := [(0, .ref a0), (1, .int x1), (2, .ref a2), (3, .int (x3 + (nI 1)))]) rfl ?_
    exact (pw0 c0)
  · skip
    refine r_iload dX2_part_63 4 rfl ?_
    refine r_aload_n dX2_part_65 rfl 2 rfl ?_
    refine r_alen dX2_part_66 (Or.inl k1) ?_
    refine r_icmp_ge (tgt := 97) dX2_part_67 (by decide) (fun c1 => ?_) (fun c1 => ?_)
    · skip
      refine r_iinc dX2_part_97 3 rfl (v := x3 + (nI 1)) rfl (by decide) (ls' := [(3, .int (x3 + (nI 1))), (0, .ref a0), (1, .int x1), (2, .ref a2), (4, .int x4)]) rfl ?_
      refine r_goto (tgt := 2) dX2_part_100 (by decide) ?_
      refine r_sub [1, 2, 3, 0] (ls' := [(0, .ref a0), (1, .int x1), (2, .ref a2), (3, .int (x3 + (nI 1)))]) rfl ?_
      exact (pw1 c0 c1)
    · skip
      refine r_iload dX2_part_70 4 rfl ?_
      refine r_aload_n dX2_part_72 rfl 0 rfl ?_
      refine r_getR ck1 dX2_part_73 flX2_25 rfl k0 ?_
      refine r_alen dX2_part_76 (Or.inl k2) ?_
      refine r_icmp_ge (tgt := 97) dX2_part_77 (by decide) (fun c2 => ?_) (fun c2 => ?_)
      · skip
        refine r_iinc dX2_part_97 3 rfl (v := x3 + (nI 1)) rfl (by decide) (ls' := [(3, .int (x3 + (nI 1))), (0, .ref a0), (1, .int x1), (2, .ref a2), (4, .int x4)]) rfl ?_
        refine r_goto (tgt := 2) dX2_part_100 (by decide) ?_
        refine r_sub [1, 2, 3, 0] (ls' := [(0, .ref a0), (1, .int x1), (2, .ref a2), (3, .int (x3 + (nI 1)))]) rfl ?_
        exact (pw2 c0 c1 c2)
      · skip
        refine r_aload_n dX2_part_80 rfl 0 rfl ?_
        refine r_getR ck1 dX2_part_81 flX2_25 rfl k0 ?_
        refine r_iload dX2_part_84 4 rfl ?_
        refine r_aload_n dX2_part_86 rfl 2 rfl ?_
        refine r_iload dX2_part_87 4 rfl ?_
        refine r_iald dX2_part_89 k1 (pb3 c0 c1 c2) ?_
        refine r_iast dX2_part_90 k2 (pb4 c0 c1 c2) ?_
        refine r_iinc dX2_part_91 4 rfl (v := x4 + (nI 1)) rfl (by decide) (ls' := [(4, .int (x4 + (nI 1))), (0, .ref a0), (1, .int x1), (2, .ref a2), (3, .int x3)]) rfl ?_
        refine r_goto (tgt := 54) dX2_part_94 (by decide) ?_
        refine r_sub [1, 2, 3, 4, 0] (ls' := [(0, .ref a0), (1, .int x1), (2, .ref a2), (3, .int x3), (4, .int (x4 + (nI 1)))]) rfl ?_
        exact (pw5 c0 c1 c2)
theorem gX2_part_108 {d : Nat} {Q : Option Value → Mem → Prop} {M : Mem} {a0 : Nat} {a2 : Nat} {x3 : Int32} {x4 : Int32} (k0 : mK M a0 = 5) (k1 : mK M a2 = 1) (pq0 : (mI M a0 0) ≤ x4 → Q (some (.int x3)) M) (pq1 : ¬ (mI M a0 0) ≤ x4 → (nI (mN M a2)) ≤ x4 → Q (some (.int x3)) M) (pb2 : ¬ (mI M a0 0) ≤ x4 → ¬ (nI (mN M a2)) ≤ x4 → vp_in x4 (mN M a2)) (pw3 : ¬ (mI M a0 0) ≤ x4 → ¬ (nI (mN M a2)) ≤ x4 → ¬ (mI M a2 x4.toNatClampNeg) = x4 → Wp d mdX2_part 108 [(0, .ref a0), (2, .ref a2), (3, .int x3), (4, .int (x4 + (nI 1)))] [] M Q) (pw4 : ¬ (mI M a0 0) ≤ x4 → ¬ (nI (mN M a2)) ≤ x4 → (mI M a2 x4.toNatClampNeg) = x4 → Wp d mdX2_part 108 [(0, .ref a0), (2, .ref a2), (3, .int (x3 + (nI 1))), (4, .int (x4 + (nI 1)))] [] M Q) : Wp d mdX2_part 108 [(0, .ref a0), (2, .ref a2), (3, .int x3), (4, .int x4)] [] M Q := by
  refine r_iload dX2_part_108 3 rfl ?_
  refine r_aload_n dX2_part_110 rfl 0 rfl ?_
  refine r_getI ck1 dX2_part_111 flX2_9 rfl k0 ?_
  refine r_icmp_ge (tgt := 142) dX2_part_114 (by decide) (fun c0 => ?_) (fun c0 => ?_)
  · skip
    refine r_iload_n dX2_part_142 rfl 2 rfl ?_
    exact r_ret (some (.int x3)) dX2_part_143 rfl (pq0 c0)
  · skip
    refine r_iload dX2_part_117 3 rfl ?_
    refine r_aload_n dX2_part_119 rfl 1 rfl ?_
    refine r_alen dX2_part_120 (Or.inl k1) ?_
    refine r_icmp_ge (tgt := 142) dX2_part_121 (by decide) (fun c1 => ?_) (fun c1 => ?_)
    · skip
      refine r_iload_n dX2_part_142 rfl 2 rfl ?_
      exact r_ret (some (.int x3)) dX2_part_143 rfl (pq1 c0 c1)
    · skip
      refine r_aload_n dX2_part_124 rfl 1 rfl ?_
      refine r_iload dX2_part_125 3 rfl ?_
      refine r_iald dX2_part_127 k1 (pb2 c0 c1) ?_
      refine r_iload dX2_part_128 3 rfl ?_
      refine r_icmp_ne (tgt := 136) dX2_part_130 (by decide) (fun c2 => ?_) (fun c2 => ?_)
      · skip
        refine r_iinc dX2_part_136 3 rfl (v := x4 + (nI 1)) rfl (by decide) (ls' := [(4, .int (x4 + (nI 1))), (0, .ref a0), (2, .ref a2), (3, .int x3)]) rfl ?_
        refine r_goto (tgt := 108) dX2_part_139 (by decide) ?_
        refine r_sub [1, 2, 3, 0] (ls' := [(0, .ref a0), (2, .ref a2), (3, .int x3), (4, .int (x4 + (nI 1)))]) rfl ?_
        exact (pw3 c0 c1 c2)
      · skip
        refine r_iinc dX2_part_133 2 rfl (v := x3 + (nI 1)) rfl (by decide) (ls' := [(3, .int (x3 + (nI 1))), (0, .ref a0), (2, .ref a2), (4, .int x4)]) rfl ?_
        refine r_iinc dX2_part_136 3 rfl (v := x4 + (nI 1)) rfl (by decide) (ls' := [(4, .int (x4 + (nI 1))), (3, .int (x3 + (nI 1))), (0, .ref a0), (2, .ref a2)]) rfl ?_
        refine r_goto (tgt := 108) dX2_part_139 (by decide) ?_
        refine r_sub [2, 3, 1, 0] (ls' := [(0, .ref a0), (2, .ref a2), (3, .int (x3 + (nI 1))), (4, .int (x4 + (nI 1)))]) rfl ?_
        exact (pw4 c0 c1 c2)
-- X2_leastAlike
theorem gX2_leastAlike_0 {d : Nat} {Q : Option Value → Mem → Prop} {M : Mem} {a0 : Nat} {x1 : Int32} {x2 : Int32}  (pw0 : Wp d mdX2_leastAlike 2 [(0, .ref a0), (1, .int x1), (2, .int x2), (3, .int (nI 0))] [] M Q) : Wp d mdX2_leastAlike 0 [(0, .ref a0), (1, .int x1), (2, .int x2)] [] M Q := by
  refine r_iconst (v := (nI 0)) dX2_leastAlike_0 rfl ?_
  refine r_istore_n dX2_leastAlike_1 rfl (by decide) (ls' := [(3, .int (nI 0)), (0, .ref a0), (1, .int x1), (2, .int x2)]) rfl ?_
  refine r_sub [1, 2, 3, 0] (ls' := [(0, .ref a0), (1, .int x1), (2, .int x2), (3, .int (nI 0))]) rfl ?_
  exact pw0
theorem gX2_leastAlike_2 {d : Nat} {Q : Option Value → Mem → Prop} {M : Mem} {a0 : Nat} {x1 : Int32} {x2 : Int32} {x3 : Int32} (k0 : mK M a0 = 5) (pq0 : x1 ≤ x3 → Q (some (.int x1)) M) (pf1 : ¬ x1 ≤ x3 → ClD d mdX2_outputOf [.ref a0, .int x3] M (fun r1 M1 => Wp d mdX2_leastAlike 12 [(0, .ref a0), (1, .int x1), (2, .int x2), (3, .int x3)] (r1.toList ++ []) M1 Q)) : Wp d mdX2_leastAlike 2 [(0, .ref a0), (1, .int x1), (2, .int x2), (3, .int x3)] [] M Q := by
  refine r_iload_n dX2_leastAlike_2 rfl 3 rfl ?_
  refine r_iload_n dX2_leastAlike_3 rfl 1 rfl ?_
  refine r_icmp_ge (tgt := 41) dX2_leastAlike_4 (by decide) (fun c0 => ?_) (fun c0 => ?_)
  · skip
    refine r_iload_n dX2_leastAlike_41 rfl 1 rfl ?_
    exact r_ret (some (.int x1)) dX2_leastAlike_42 rfl (pq0 c0)
  · skip
    refine r_aload_n dX2_leastAlike_7 rfl 0 rfl ?_
    refine r_iload_n dX2_leastAlike_8 rfl 3 rfl ?_
    obtain ⟨e9, hlt, h9⟩ := (pf1 c0)
    exact r_callV (As := [.int x3]) (rest := []) (ci := 1) moX2_outputOf dX2_leastAlike_9 mlX2_28 imX2_outputOf seX2_outputOf k0 rfl hlt (Nat.le_of_ble_eq_true rfl) h9
theorem gX2_leastAlike_12 {d : Nat} {Q : Option Value → Mem → Prop} {M : Mem} {a0 : Nat} {x1 : Int32} {x2 : Int32} {x3 : Int32} {sx0 : Int32} (k0 : mK M a0 = 5) (pf0 : ClD d mdX2_outputOf [.ref a0, .int x1] M (fun r1 M1 => Wp d mdX2_leastAlike 17 [(0, .ref a0), (1, .int x1), (2, .int x2), (3, .int x3)] (r1.toList ++ [.int sx0]) M1 Q)) : Wp d mdX2_leastAlike 12 [(0, .ref a0), (1, .int x1), (2, .int x2), (3, .int x3)] [.int sx0] M Q := by
  refine r_aload_n dX2_leastAlike_12 rfl 0 rfl ?_
  refine r_iload_n dX2_leastAlike_13 rfl 1 rfl ?_
  obtain ⟨e9, hlt, h9⟩ := pf0
  exact r_callV (As := [.int x1]) (rest := [.int sx0]) (ci := 1) moX2_outputOf dX2_leastAlike_14 mlX2_28 imX2_outputOf seX2_outputOf k0 rfl hlt (Nat.le_of_ble_eq_true rfl) h9
theorem gX2_leastAlike_17 {d : Nat} {Q : Option Value → Mem → Prop} {M : Mem} {a0 : Nat} {x1 : Int32} {x2 : Int32} {x3 : Int32} {sx0 : Int32} {sx1 : Int32} (k0 : mK M a0 = 5) (pw0 : ¬ sx1 = sx0 → Wp d mdX2_leastAlike 2 [(0, .ref a0), (1, .int x1), (2, .int x2), (3, .int (x3 + (nI 1)))] [] M Q) (pq1 : sx1 = sx0 → x2 = 0 → Q (some (.int x3)) M) (pf2 : sx1 = sx0 → ¬ x2 = 0 → ClD d mdX2_nextsAlike [.ref a0, .int x3, .int x1] M (fun r1 M1 => Wp d mdX2_leastAlike 30 [(0, .ref a0), (1, .int x1), (2, .int x2), (3, .int x3)] (r1.toList ++ []) M1 Q)) : Wp d mdX2_leastAlike 17 [(0, .ref a0), (1, .int x1), (2, .int x2), (3, .int x3)] [.int sx0, .int sx1] M Q := by
  refine r_icmp_ne (tgt := 35) dX2_leastAlike_17 (by decide) (fun c0 => ?_) (fun c0 => ?_)
  · skip
    refine r_iinc dX2_leastAlike_35 3 rfl (v := x3 + (nI 1)) rfl (by decide) (ls' := [(3, .int (x3 + (nI 1))), (0, .ref a0), (1, .int x1), (2, .int x2)]) rfl ?_
    refine r_goto (tgt := 2) dX2_leastAlike_38 (by decide) ?_
    refine r_sub [1, 2, 3, 0] (ls' := [(0, .ref a0), (1, .int x1), (2, .int x2), (3, .int (x3 + (nI 1)))]) rfl ?_
    exact (pw0 c0)
  · skip
    refine r_iload_n dX2_leastAlike_20 rfl 2 rfl ?_
    refine r_if_eq (tgt := 33) dX2_leastAlike_21 (by decide) (fun c1 => ?_) (fun c1 => ?_)
    · skip
      refine r_iload_n dX2_leastAlike_33 rfl 3 rfl ?_
      exact r_ret (some (.int x3)) dX2_leastAlike_34 rfl (pq1 c0 c1)
    · skip
      refine r_aload_n dX2_leastAlike_24 rfl 0 rfl ?_
      refine r_iload_n dX2_leastAlike_25 rfl 3 rfl ?_
      refine r_iload_n dX2_leastAlike_26 rfl 1 rfl ?_
      obtain ⟨e9, hlt, h9⟩ := (pf2 c0 c1)
      exact r_callV (As := [.int x3, .int x1]) (rest := []) (ci := 1) moX2_nextsAlike dX2_leastAlike_27 mlX2_68 imX2_nextsAlike seX2_nextsAlike k0 rfl hlt (Nat.le_of_ble_eq_true rfl) h9
theorem gX2_leastAlike_30 {d : Nat} {Q : Option Value → Mem → Prop} {M : Mem} {a0 : Nat} {x1 : Int32} {x2 : Int32} {x3 : Int32} {sx0 : Int32}  (pw0 : sx0 = 0 → Wp d mdX2_leastAlike 2 [(0, .ref a0), (1, .int x1), (2, .int x2), (3, .int (x3 + (nI 1)))] [] M Q) (pq1 : ¬ sx0 = 0 → Q (some (.int x3)) M) : Wp d mdX2_leastAlike 30 [(0, .ref a0), (1, .int x1), (2, .int x2), (3, .int x3)] [.int sx0] M Q := by
  refine r_if_eq (tgt := 35) dX2_leastAlike_30 (by decide) (fun c0 => ?_) (fun c0 => ?_)
  · skip
    refine r_iinc dX2_leastAlike_35 3 rfl (v := x3 + (nI 1)) rfl (by decide) (ls' := [(3, .int (x3 + (nI 1))), (0, .ref a0), (1, .int x1), (2, .int x2)]) rfl ?_
    refine r_goto (tgt := 2) dX2_leastAlike_38 (by decide) ?_
    refine r_sub [1, 2, 3, 0] (ls' := [(0, .ref a0), (1, .int x1), (2, .int x2), (3, .int (x3 + (nI 1)))]) rfl ?_
    exact (pw0 c0)
  · skip
    refine r_iload_n dX2_leastAlike_33 rfl 3 rfl ?_
    exact r_ret (some (.int x3)) dX2_leastAlike_34 rfl (pq1 c0)
-- X2_nextsAlike
theorem gX2_nextsAlike_0 {d : Nat} {Q : Option Value → Mem → Prop} {M : Mem} {a0 : Nat} {x1 : Int32} {x2 : Int32}  (pw0 : Wp d mdX2_nextsAlike 2 [(0, .ref a0), (1, .int x1), (2, .int x2), (3, .int (nI 0))] [] M Q) : Wp d mdX2_nextsAlike 0 [(0, .ref a0), (1, .int x1), (2, .int x2)] [] M Q := by
  refine r_iconst (v := (nI 0)) dX2_nextsAlike_0 rfl ?_
  refine r_istore_n dX2_nextsAlike_1 rfl (by decide) (ls' := [(3, .int (nI 0)), (0, .ref a0), (1, .int x1), (2, .int x2)]) rfl ?_
  refine r_sub [1, 2, 3, 0] (ls' := [(0, .ref a0), (1, .int x1), (2, .int x2), (3, .int (nI 0))]) rfl ?_
  exact pw0
theorem gX2_nextsAlike_2 {d : Nat} {Q : Option Value → Mem → Prop} {M : Mem} {a0 : Nat} {x1 : Int32} {x2 : Int32} {x3 : Int32} (k0 : mK M a0 = 5) (pq0 : (mI M a0 1) ≤ x3 → Q (some (.int (nI 1))) M) (pf1 : ¬ (mI M a0 1) ≤ x3 → ClD d mdX2_nextOf [.ref a0, .int x1, .int x3] M (fun r1 M1 => Wp d mdX2_nextsAlike 17 [(0, .ref a0), (1, .int x1), (2, .int x2), (3, .int x3)] (r1.toList ++ [.ref a0]) M1 Q)) : Wp d mdX2_nextsAlike 2 [(0, .ref a0), (1, .int x1), (2, .int x2), (3, .int x3)] [] M Q := by
  refine r_iload_n dX2_nextsAlike_2 rfl 3 rfl ?_
  refine r_aload_n dX2_nextsAlike_3 rfl 0 rfl ?_
  refine r_getI ck1 dX2_nextsAlike_4 flX2_15 rfl k0 ?_
  refine r_icmp_ge (tgt := 41) dX2_nextsAlike_7 (by decide) (fun c0 => ?_) (fun c0 => ?_)
  · skip
    refine r_iconst (v := (nI 1)) dX2_nextsAlike_41 rfl ?_
    exact r_ret (some (.int (nI 1))) dX2_nextsAlike_42 rfl (pq0 c0)
  · skip
    refine r_aload_n dX2_nextsAlike_10 rfl 0 rfl ?_
    refine r_aload_n dX2_nextsAlike_11 rfl 0 rfl ?_
    refine r_iload_n dX2_nextsAlike_12 rfl 1 rfl ?_
    refine r_iload_n dX2_nextsAlike_13 rfl 3 rfl ?_
    obtain ⟨e9, hlt, h9⟩ := (pf1 c0)
    exact r_callV (As := [.int x1, .int x3]) (rest := [.ref a0]) (ci := 1) moX2_nextOf dX2_nextsAlike_14 mlX2_32 imX2_nextOf seX2_nextOf k0 rfl hlt (Nat.le_of_ble_eq_true rfl) h9
theorem gX2_nextsAlike_17 {d : Nat} {Q : Option Value → Mem → Prop} {M : Mem} {a0 : Nat} {x1 : Int32} {x2 : Int32} {x3 : Int32} {sx0 : Int32} {sa1 : Nat} (k0 : mK M sa1 = 5) (pf0 : ClD d mdX2_groupBefore [.ref sa1, .int sx0] M (fun r1 M1 => Wp d mdX2_nextsAlike 20 [(0, .ref a0), (1, .int x1), (2, .int x2), (3, .int x3)] (r1.toList ++ []) M1 Q)) : Wp d mdX2_nextsAlike 17 [(0, .ref a0), (1, .int x1), (2, .int x2), (3, .int x3)] [.int sx0, .ref sa1] M Q := by
  obtain ⟨e9, hlt, h9⟩ := pf0
  exact r_callV (As := [.int sx0]) (rest := []) (ci := 1) moX2_groupBefore dX2_nextsAlike_17 mlX2_72 imX2_groupBefore seX2_groupBefore k0 rfl hlt (Nat.le_of_ble_eq_true rfl) h9
theorem gX2_nextsAlike_20 {d : Nat} {Q : Option Value → Mem → Prop} {M : Mem} {a0 : Nat} {x1 : Int32} {x2 : Int32} {x3 : Int32} {sx0 : Int32} (k0 : mK M a0 = 5) (pf0 : ClD d mdX2_nextOf [.ref a0, .int x2, .int x3] M (fun r1 M1 => Wp d mdX2_nextsAlike 27 [(0, .ref a0), (1, .int x1), (2, .int x2), (3, .int x3)] (r1.toList ++ [.ref a0, .int sx0]) M1 Q)) : Wp d mdX2_nextsAlike 20 [(0, .ref a0), (1, .int x1), (2, .int x2), (3, .int x3)] [.int sx0] M Q := by
  refine r_aload_n dX2_nextsAlike_20 rfl 0 rfl ?_
  refine r_aload_n dX2_nextsAlike_21 rfl 0 rfl ?_
  refine r_iload_n dX2_nextsAlike_22 rfl 2 rfl ?_
  refine r_iload_n dX2_nextsAlike_23 rfl 3 rfl ?_
  obtain ⟨e9, hlt, h9⟩ := pf0
  exact r_callV (As := [.int x2, .int x3]) (rest := [.ref a0, .int sx0]) (ci := 1) moX2_nextOf dX2_nextsAlike_24 mlX2_32 imX2_nextOf seX2_nextOf k0 rfl hlt (Nat.le_of_ble_eq_true rfl) h9
theorem gX2_nextsAlike_27 {d : Nat} {Q : Option Value → Mem → Prop} {M : Mem} {a0 : Nat} {x1 : Int32} {x2 : Int32} {x3 : Int32} {sx0 : Int32} {sa1 : Nat} {sx2 : Int32} (k0 : mK M sa1 = 5) (pf0 : ClD d mdX2_groupBefore [.ref sa1, .int sx0] M (fun r1 M1 => Wp d mdX2_nextsAlike 30 [(0, .ref a0), (1, .int x1), (2, .int x2), (3, .int x3)] (r1.toList ++ [.int sx2]) M1 Q)) : Wp d mdX2_nextsAlike 27 [(0, .ref a0), (1, .int x1), (2, .int x2), (3, .int x3)] [.int sx0, .ref sa1, .int sx2] M Q := by
  obtain ⟨e9, hlt, h9⟩ := pf0
  exact r_callV (As := [.int sx0]) (rest := [.int sx2]) (ci := 1) moX2_groupBefore dX2_nextsAlike_27 mlX2_72 imX2_groupBefore seX2_groupBefore k0 rfl hlt (Nat.le_of_ble_eq_true rfl) h9
theorem gX2_nextsAlike_30 {d : Nat} {Q : Option Value → Mem → Prop} {M : Mem} {a0 : Nat} {x1 : Int32} {x2 : Int32} {x3 : Int32} {sx0 : Int32} {sx1 : Int32}  (pw0 : sx1 = sx0 → Wp d mdX2_nextsAlike 2 [(0, .ref a0), (1, .int x1), (2, .int x2), (3, .int (x3 + (nI 1)))] [] M Q) (pq1 : ¬ sx1 = sx0 → Q (some (.int (nI 0))) M) : Wp d mdX2_nextsAlike 30 [(0, .ref a0), (1, .int x1), (2, .int x2), (3, .int x3)] [.int sx0, .int sx1] M Q := by
  refine r_icmp_eq (tgt := 35) dX2_nextsAlike_30 (by decide) (fun c0 => ?_) (fun c0 => ?_)
  · skip
    refine r_iinc dX2_nextsAlike_35 3 rfl (v := x3 + (nI 1)) rfl (by decide) (ls' := [(3, .int (x3 + (nI 1))), (0, .ref a0), (1, .int x1), (2, .int x2)]) rfl ?_
    refine r_goto (tgt := 2) dX2_nextsAlike_38 (by decide) ?_
    refine r_sub [1, 2, 3, 0] (ls' := [(0, .ref a0), (1, .int x1), (2, .int x2), (3, .int (x3 + (nI 1)))]) rfl ?_
    exact (pw0 c0)
  · skip
    refine r_iconst (v := (nI 0)) dX2_nextsAlike_33 rfl ?_
    exact r_ret (some (.int (nI 0))) dX2_nextsAlike_34 rfl (pq1 c0)
-- X2_groupBefore
theorem gX2_groupBefore_0 {d : Nat} {Q : Option Value → Mem → Prop} {M : Mem} {a0 : Nat} {x1 : Int32} (k0 : mK M a0 = 5) (k1 : mK M (mR M a0 4) = 1) (pq0 : x1 < 0 → Q (some (.int (-1 : Int32))) M) (pb1 : ¬ x1 < 0 → x1 < (nI (mN M (mR M a0 4))) → vp_in x1 (mN M (mR M a0 4))) (pq2 : ¬ x1 < 0 → x1 < (nI (mN M (mR M a0 4))) → Q (some (.int (mI M (mR M a0 4) x1.toNatClampNeg))) M) (pq3 : ¬ x1 < 0 → ¬ x1 < (nI (mN M (mR M a0 4))) → Q (some (.int (-1 : Int32))) M) : Wp d mdX2_groupBefore 0 [(0, .ref a0), (1, .int x1)] [] M Q := by
  refine r_iload_n dX2_groupBefore_0 rfl 1 rfl ?_
  refine r_if_lt (tgt := 13) dX2_groupBefore_1 (by decide) (fun c0 => ?_) (fun c0 => ?_)
  · skip
    refine r_iconst (v := (-1)) dX2_groupBefore_13 rfl ?_
    refine r_goto (tgt := 23) dX2_groupBefore_14 (by decide) ?_
    exact r_ret (some (.int (-1 : Int32))) dX2_groupBefore_23 rfl (pq0 c0)
  · skip
    refine r_iload_n dX2_groupBefore_4 rfl 1 rfl ?_
    refine r_aload_n dX2_groupBefore_5 rfl 0 rfl ?_
    refine r_getR ck1 dX2_groupBefore_6 flX2_25 rfl k0 ?_
    refine r_alen dX2_groupBefore_9 (Or.inl k1) ?_
    refine r_icmp_lt (tgt := 17) dX2_groupBefore_10 (by decide) (fun c1 => ?_) (fun c1 => ?_)
    · skip
      refine r_aload_n dX2_groupBefore_17 rfl 0 rfl ?_
      refine r_getR ck1 dX2_groupBefore_18 flX2_25 rfl k0 ?_
      refine r_iload_n dX2_groupBefore_21 rfl 1 rfl ?_
      refine r_iald dX2_groupBefore_22 k1 (pb1 c0 c1) ?_
      exact r_ret (some (.int (mI M (mR M a0 4) x1.toNatClampNeg))) dX2_groupBefore_23 rfl (pq2 c0 c1)
    · skip
      refine r_iconst (v := (-1)) dX2_groupBefore_13 rfl ?_
      refine r_goto (tgt := 23) dX2_groupBefore_14 (by decide) ?_
      exact r_ret (some (.int (-1 : Int32))) dX2_groupBefore_23 rfl (pq3 c0 c1)
-- X3_init
theorem gX3_init_0 {d : Nat} {Q : Option Value → Mem → Prop} {M : Mem} {a0 : Nat} {a1 : Nat} (hd1 : 1 ≤ d) {cnk0 : Nat} (hnk0 : NT cnk0) (k0 : mK M a0 = cnk0 + 4) (pw0 : Wp d mdX3_init 8 [(0, .ref a0), (1, .ref a1)] [.ref (mC M + 2), .ref a0] (nwC M 11 2) Q) : Wp d mdX3_init 0 [(0, .ref a0), (1, .ref a1)] [] M Q := by
  refine r_aload_n dX3_init_0 rfl 0 rfl ?_
  refine r_objI (ci := cnk0) dX3_init_1 mlX3_3 obI_i obI_c k0 hd1 (Nat.le_of_ble_eq_true rfl) ?_
  refine r_aload_n dX3_init_4 rfl 0 rfl ?_
  refine r_new (ci := 7) ck7 (by decide) rk7 dX3_init_5 cwX3_9 ?_
  exact pw0
theorem gX3_init_8 {d : Nat} {Q : Option Value → Mem → Prop} {M : Mem} {a0 : Nat} {a1 : Nat} {sa0 : Nat} {sa1 : Nat} (k0 : mK M sa0 = 11) (pf0 : ClD d mdX9_init [.ref sa0, .int (nI 128)] M (fun r1 M1 => Wp d mdX3_init 15 [(0, .ref a0), (1, .ref a1)] (r1.toList ++ [.ref sa0, .ref sa1]) M1 Q)) : Wp d mdX3_init 8 [(0, .ref a0), (1, .ref a1)] [.ref sa0, .ref sa1] M Q := by
  refine r_dup dX3_init_8 rfl ?_
  refine r_sipush (v := (nI 128)) dX3_init_9 rfl ?_
  obtain ⟨e9, hlt, h9⟩ := pf0
  exact r_callI (As := [.int (nI 128)]) (rest := [.ref sa0, .ref sa1]) (ci := 7) moX9_init rfl rfl dX3_init_12 mlX3_11 imX9_init k0 rfl hlt (Nat.le_of_ble_eq_true rfl) h9
theorem gX3_init_15 {d : Nat} {Q : Option Value → Mem → Prop} {M : Mem} {a0 : Nat} {a1 : Nat} {sa0 : Nat} {sa1 : Nat} {cnk0 : Nat} (hnk0 : NT cnk0) (k0 : mK M sa1 = cnk0 + 4) (pw0 : Wp d mdX3_init 22 [(0, .ref a0), (1, .ref a1)] [.ref (mC (sR M sa1 1 sa0) + 2), .ref a0] (nwC (sR M sa1 1 sa0) 11 2) Q) : Wp d mdX3_init 15 [(0, .ref a0), (1, .ref a1)] [.ref sa0, .ref sa1] M Q := by
  refine r_putR (ckN hnk0) dX3_init_15 (flX3_14 hnk0) (by rcases hnk0 with rfl | rfl <;> rfl) (by rcases hnk0 with rfl | rfl <;> rfl) (by rcases hnk0 with rfl | rfl <;> exact Or.inr ⟨rfl, rfl, rfl⟩) k0 ?_
  refine r_aload_n dX3_init_18 rfl 0 rfl ?_
  refine r_new (ci := 7) ck7 (by decide) rk7 dX3_init_19 cwX3_9 ?_
  exact pw0
theorem gX3_init_22 {d : Nat} {Q : Option Value → Mem → Prop} {M : Mem} {a0 : Nat} {a1 : Nat} {sa0 : Nat} {sa1 : Nat} (k0 : mK M sa0 = 11) (pf0 : ClD d mdX9_init [.ref sa0, .int (nI 128)] M (fun r1 M1 => Wp d mdX3_init 29 [(0, .ref a0), (1, .ref a1)] (r1.toList ++ [.ref sa0, .ref sa1]) M1 Q)) : Wp d mdX3_init 22 [(0, .ref a0), (1, .ref a1)] [.ref sa0, .ref sa1] M Q := by
  refine r_dup dX3_init_22 rfl ?_
  refine r_sipush (v := (nI 128)) dX3_init_23 rfl ?_
  obtain ⟨e9, hlt, h9⟩ := pf0
  exact r_callI (As := [.int (nI 128)]) (rest := [.ref sa0, .ref sa1]) (ci := 7) moX9_init rfl rfl dX3_init_26 mlX3_11 imX9_init k0 rfl hlt (Nat.le_of_ble_eq_true rfl) h9
theorem gX3_init_29 {d : Nat} {Q : Option Value → Mem → Prop} {M : Mem} {a0 : Nat} {a1 : Nat} {sa0 : Nat} {sa1 : Nat} {cnk0 : Nat} (hnk0 : NT cnk0) (k0 : mK M sa1 = cnk0 + 4) (pw0 : Wp d mdX3_init 36 [(0, .ref a0), (1, .ref a1)] [.ref (mC (sR M sa1 2 sa0) + 2), .ref a0] (nwC (sR M sa1 2 sa0) 11 2) Q) : Wp d mdX3_init 29 [(0, .ref a0), (1, .ref a1)] [.ref sa0, .ref sa1] M Q := by
  refine r_putR (ckN hnk0) dX3_init_29 (flX3_20 hnk0) (by rcases hnk0 with rfl | rfl <;> rfl) (by rcases hnk0 with rfl | rfl <;> rfl) (by rcases hnk0 with rfl | rfl <;> exact Or.inr ⟨rfl, rfl, rfl⟩) k0 ?_
  refine r_aload_n dX3_init_32 rfl 0 rfl ?_
  refine r_new (ci := 7) ck7 (by decide) rk7 dX3_init_33 cwX3_9 ?_
  exact pw0
theorem gX3_init_36 {d : Nat} {Q : Option Value → Mem → Prop} {M : Mem} {a0 : Nat} {a1 : Nat} {sa0 : Nat} {sa1 : Nat} (k0 : mK M sa0 = 11) (pf0 : ClD d mdX9_init [.ref sa0, .int (nI 8)] M (fun r1 M1 => Wp d mdX3_init 42 [(0, .ref a0), (1, .ref a1)] (r1.toList ++ [.ref sa0, .ref sa1]) M1 Q)) : Wp d mdX3_init 36 [(0, .ref a0), (1, .ref a1)] [.ref sa0, .ref sa1] M Q := by
  refine r_dup dX3_init_36 rfl ?_
  refine r_bipush (v := (nI 8)) dX3_init_37 rfl ?_
  obtain ⟨e9, hlt, h9⟩ := pf0
  exact r_callI (As := [.int (nI 8)]) (rest := [.ref sa0, .ref sa1]) (ci := 7) moX9_init rfl rfl dX3_init_39 mlX3_11 imX9_init k0 rfl hlt (Nat.le_of_ble_eq_true rfl) h9
theorem gX3_init_42 {d : Nat} {Q : Option Value → Mem → Prop} {M : Mem} {a0 : Nat} {a1 : Nat} {sa0 : Nat} {sa1 : Nat} {cnk0 : Nat} (hnk0 : NT cnk0) (k0 : mK M sa1 = cnk0 + 4) (pw0 : Wp d mdX3_init 49 [(0, .ref a0), (1, .ref a1)] [.ref (mC (sR M sa1 3 sa0) + 2), .ref a0] (nwC (sR M sa1 3 sa0) 5 5) Q) : Wp d mdX3_init 42 [(0, .ref a0), (1, .ref a1)] [.ref sa0, .ref sa1] M Q := by
  refine r_putR (ckN hnk0) dX3_init_42 (flX3_23 hnk0) (by rcases hnk0 with rfl | rfl <;> rfl) (by rcases hnk0 with rfl | rfl <;> rfl) (by rcases hnk0 with rfl | rfl <;> exact Or.inr ⟨rfl, rfl, rfl⟩) k0 ?_
  refine r_aload_n dX3_init_45 rfl 0 rfl ?_
  refine r_new (ci := 1) ck1 (by decide) rk1 dX3_init_46 cwX3_26 ?_
  exact pw0
theorem gX3_init_49 {d : Nat} {Q : Option Value → Mem → Prop} {M : Mem} {a0 : Nat} {a1 : Nat} {sa0 : Nat} {sa1 : Nat} (k0 : mK M sa0 = 5) (pf0 : ClD d mdX2_init [.ref sa0] M (fun r1 M1 => Wp d mdX3_init 53 [(0, .ref a0), (1, .ref a1)] (r1.toList ++ [.ref sa0, .ref sa1]) M1 Q)) : Wp d mdX3_init 49 [(0, .ref a0), (1, .ref a1)] [.ref sa0, .ref sa1] M Q := by
  refine r_dup dX3_init_49 rfl ?_
  obtain ⟨e9, hlt, h9⟩ := pf0
  exact r_callIN (As := []) (rest := [.ref sa0, .ref sa1]) (ci := 1) moX2_init rfl rfl dX3_init_50 (by decide) imX2_init k0 rfl hlt (Nat.le_of_ble_eq_true rfl) h9
theorem gX3_init_53 {d : Nat} {Q : Option Value → Mem → Prop} {M : Mem} {a0 : Nat} {a1 : Nat} {sa0 : Nat} {sa1 : Nat} {cnk0 : Nat} (hnk0 : NT cnk0) (k0 : mK M sa1 = cnk0 + 4) {cnk1 : Nat} (hnk1 : NT cnk1) (k1 : mK M a0 = cnk1 + 4) (pq0 : Q none (sR (sR M sa1 4 sa0) a0 0 a1)) : Wp d mdX3_init 53 [(0, .ref a0), (1, .ref a1)] [.ref sa0, .ref sa1] M Q := by
  refine r_putR (ckN hnk0) dX3_init_53 (flX3_29 hnk0) (by rcases hnk0 with rfl | rfl <;> rfl) (by rcases hnk0 with rfl | rfl <;> rfl) (by rcases hnk0 with rfl | rfl <;> exact Or.inr ⟨rfl, rfl, rfl⟩) k0 ?_
  refine r_aload_n dX3_init_56 rfl 0 rfl ?_
  refine r_aload_n dX3_init_57 rfl 1 rfl ?_
  refine r_putR (ckN hnk1) dX3_init_58 (flX3_33 hnk1) (by rcases hnk1 with rfl | rfl <;> rfl) (by rcases hnk1 with rfl | rfl <;> rfl) (by rcases hnk1 with rfl | rfl <;> exact Or.inr ⟨rfl, rfl, rfl⟩) k1 ?_
  exact r_ret none dX3_init_61 rfl pq0
-- X3_renew
theorem gX3_renew_0 {d : Nat} {Q : Option Value → Mem → Prop} {M : Mem} {a0 : Nat} {x1 : Int32} {cnk0 : Nat} (hnk0 : NT cnk0) (k0 : mK M a0 = cnk0 + 4) (k1 : mK M (mR (sI (sI M a0 5 x1) a0 6 (nI 0)) a0 1) = 11) (pf0 : ClD d mdX9_clear [.ref (mR (sI (sI M a0 5 x1) a0 6 (nI 0)) a0 1)] (sI (sI M a0 5 x1) a0 6 (nI 0)) (fun r1 M1 => Wp d mdX3_renew 17 [(0, .ref a0)] (r1.toList ++ []) M1 Q)) : Wp d mdX3_renew 0 [(0, .ref a0), (1, .int x1)] [] M Q := by
  refine r_aload_n dX3_renew_0 rfl 0 rfl ?_
  refine r_iload_n dX3_renew_1 rfl 1 rfl ?_
  refine r_putI (ckN hnk0) dX3_renew_2 (flX3_37 hnk0) (by rcases hnk0 with rfl | rfl <;> rfl) (by rcases hnk0 with rfl | rfl <;> exact Or.inl rfl) k0 ?_
  refine r_aload_n dX3_renew_5 rfl 0 rfl ?_
  refine r_iconst (v := (nI 0)) dX3_renew_6 rfl ?_
  refine r_putI (ckN hnk0) dX3_renew_7 (flX3_41 hnk0) (by rcases hnk0 with rfl | rfl <;> rfl) (by rcases hnk0 with rfl | rfl <;> exact Or.inl rfl) k0 ?_
  refine r_aload_n dX3_renew_10 rfl 0 rfl ?_
  refine r_getR (ckN hnk0) dX3_renew_11 (flX3_14 hnk0) (by rcases hnk0 with rfl | rfl <;> rfl) k0 ?_
  refine r_sub [0] (ls' := [(0, .ref a0)]) rfl ?_
  obtain ⟨e9, hlt, h9⟩ := pf0
  exact r_callV (As := []) (rest := []) (ci := 7) moX9_clear dX3_renew_14 mlX3_44 imX9_clear seX9_clear k1 rfl hlt (Nat.le_of_ble_eq_true rfl) h9
theorem gX3_renew_17 {d : Nat} {Q : Option Value → Mem → Prop} {M : Mem} {a0 : Nat} {cnk0 : Nat} (hnk0 : NT cnk0) (k0 : mK M a0 = cnk0 + 4) (k1 : mK M (mR M a0 1) = 11) (pf0 : ClD d mdX9_add [.ref (mR M a0 1), .long (lN 1)] M (fun r1 M1 => Wp d mdX3_renew 25 [(0, .ref a0)] (r1.toList ++ []) M1 Q)) : Wp d mdX3_renew 17 [(0, .ref a0)] [] M Q := by
  refine r_aload_n dX3_renew_17 rfl 0 rfl ?_
  refine r_getR (ckN hnk0) dX3_renew_18 (flX3_14 hnk0) (by rcases hnk0 with rfl | rfl <;> rfl) k0 ?_
  refine r_lconst (v := (lN 1)) dX3_renew_21 rfl ?_
  obtain ⟨e9, hlt, h9⟩ := pf0
  exact r_callV (As := [.long (lN 1)]) (rest := []) (ci := 7) moX9_add dX3_renew_22 mlX3_47 imX9_add seX9_add k1 rfl hlt (Nat.le_of_ble_eq_true rfl) h9
theorem gX3_renew_25 {d : Nat} {Q : Option Value → Mem → Prop} {M : Mem} {a0 : Nat} {cnk0 : Nat} (hnk0 : NT cnk0) (k0 : mK M a0 = cnk0 + 4) (k1 : mK M (mR M a0 2) = 11) (pf0 : ClD d mdX9_clear [.ref (mR M a0 2)] M (fun r1 M1 => Wp d mdX3_renew 32 [(0, .ref a0)] (r1.toList ++ []) M1 Q)) : Wp d mdX3_renew 25 [(0, .ref a0)] [] M Q := by
  refine r_aload_n dX3_renew_25 rfl 0 rfl ?_
  refine r_getR (ckN hnk0) dX3_renew_26 (flX3_20 hnk0) (by rcases hnk0 with rfl | rfl <;> rfl) k0 ?_
  obtain ⟨e9, hlt, h9⟩ := pf0
  exact r_callV (As := []) (rest := []) (ci := 7) moX9_clear dX3_renew_29 mlX3_44 imX9_clear seX9_clear k1 rfl hlt (Nat.le_of_ble_eq_true rfl) h9
theorem gX3_renew_32 {d : Nat} {Q : Option Value → Mem → Prop} {M : Mem} {a0 : Nat} {cnk0 : Nat} (hnk0 : NT cnk0) (k0 : mK M a0 = cnk0 + 4) (k1 : mK M (mR M a0 2) = 11) (pf0 : ClD d mdX9_add [.ref (mR M a0 2), .long (lN 1)] M (fun r1 M1 => Wp d mdX3_renew 40 [(0, .ref a0)] (r1.toList ++ []) M1 Q)) : Wp d mdX3_renew 32 [(0, .ref a0)] [] M Q := by
  refine r_aload_n dX3_renew_32 rfl 0 rfl ?_
  refine r_getR (ckN hnk0) dX3_renew_33 (flX3_20 hnk0) (by rcases hnk0 with rfl | rfl <;> rfl) k0 ?_
  refine r_lconst (v := (lN 1)) dX3_renew_36 rfl ?_
  obtain ⟨e9, hlt, h9⟩ := pf0
  exact r_callV (As := [.long (lN 1)]) (rest := []) (ci := 7) moX9_add dX3_renew_37 mlX3_47 imX9_add seX9_add k1 rfl hlt (Nat.le_of_ble_eq_true rfl) h9
theorem gX3_renew_40 {d : Nat} {Q : Option Value → Mem → Prop} {M : Mem} {a0 : Nat} {cnk0 : Nat} (hnk0 : NT cnk0) (k0 : mK M a0 = cnk0 + 4) (pf0 : ClD d mdX3_dropGuess [.ref a0] M (fun r1 M1 => Wp d mdX3_renew 44 [(0, .ref a0)] (r1.toList ++ []) M1 Q)) : Wp d mdX3_renew 40 [(0, .ref a0)] [] M Q := by
  refine r_aload_n dX3_renew_40 rfl 0 rfl ?_
  obtain ⟨e9, hlt, h9⟩ := pf0
  rcases hnk0 with rfl | rfl
  · exact r_callU (As := []) (rest := []) (ci := 4) (x := yX3_dropGuess) (owner := "AskingPupil$Notes") moX3_dropGuess dX3_renew_41 mlX3_51 smX3_dropGuess imX3_dropGuess suX6_X3_dropGuess ⟨by decide +kernel, by decide +kernel⟩ (Or.inl rfl) k0 rfl hlt (Nat.le_of_ble_eq_true rfl) h9
  · exact r_callU (As := []) (rest := []) (ci := 6) (x := yX3_dropGuess) (owner := "AskingPupil$Notes") moX3_dropGuess dX3_renew_41 mlX3_51 smX3_dropGuess imX3_dropGuess suX8_X3_dropGuess ⟨by decide +kernel, by decide +kernel⟩ (Or.inl rfl) k0 rfl hlt (Nat.le_of_ble_eq_true rfl) h9
theorem gX3_renew_44 {d : Nat} {Q : Option Value → Mem → Prop} {M : Mem} {a0 : Nat} {cnk0 : Nat} (hnk0 : NT cnk0) (k0 : mK M a0 = cnk0 + 4) (pf0 : cnk0 = 4 → ClD d mdX6_begin [.ref a0] M (fun r1 M1 => Wp d mdX3_renew 48 [] (r1.toList ++ []) M1 Q)) (pf1 : cnk0 = 6 → ClD d mdX8_begin [.ref a0] M (fun r1 M1 => Wp d mdX3_renew 48 [] (r1.toList ++ []) M1 Q)) : Wp d mdX3_renew 44 [(0, .ref a0)] [] M Q := by
  refine r_aload_n dX3_renew_44 rfl 0 rfl ?_
  refine r_sub [] (ls' := []) rfl ?_
  rcases hnk0 with rfl | rfl
  · obtain ⟨e9, hlt, h9⟩ := pf0 rfl
    exact r_callU (As := []) (rest := []) (ci := 4) (x := ⟨"AskingPupil$Notes", "begin", "()V"⟩) (owner := "AskingPupil$Notes") moX6_begin dX3_renew_45 mlX3_54 smX3_begin imX6_begin suX6_X3_begin ⟨by decide +kernel, by decide +kernel⟩ (Or.inr (by decide +kernel)) k0 rfl hlt (Nat.le_of_ble_eq_true rfl) h9
  · obtain ⟨e9, hlt, h9⟩ := pf1 rfl
    exact r_callU (As := []) (rest := []) (ci := 6) (x := ⟨"AskingPupil$Notes", "begin", "()V"⟩) (owner := "AskingPupil$Notes") moX8_begin dX3_renew_45 mlX3_54 smX3_begin imX8_begin suX8_X3_begin ⟨by decide +kernel, by decide +kernel⟩ (Or.inr (by decide +kernel)) k0 rfl hlt (Nat.le_of_ble_eq_true rfl) h9
theorem gX3_renew_48 {d : Nat} {Q : Option Value → Mem → Prop} {M : Mem}  (pq0 : Q none M) : Wp d mdX3_renew 48 [] [] M Q := by
  exact r_ret none dX3_renew_48 rfl pq0
-- X3_hasGuess
theorem gX3_hasGuess_0 {d : Nat} {Q : Option Value → Mem → Prop} {M : Mem} {a0 : Nat} {cnk0 : Nat} (hnk0 : NT cnk0) (k0 : mK M a0 = cnk0 + 4) (k1 : mK M (mR M a0 4) = 5) (pq0 : (mI M (mR M a0 4) 0) ≤ 0 → Q (some (.int (nI 0))) M) (pq1 : ¬ (mI M (mR M a0 4) 0) ≤ 0 → Q (some (.int (nI 1))) M) : Wp d mdX3_hasGuess 0 [(0, .ref a0)] [] M Q := by
  refine r_aload_n dX3_hasGuess_0 rfl 0 rfl ?_
  refine r_getR (ckN hnk0) dX3_hasGuess_1 (flX3_29 hnk0) (by rcases hnk0 with rfl | rfl <;> rfl) k0 ?_
  refine r_getI ck1 dX3_hasGuess_4 flX3_57 rfl k1 ?_
  refine r_if_le (tgt := 14) dX3_hasGuess_7 (by decide) (fun c0 => ?_) (fun c0 => ?_)
  · skip
    refine r_iconst (v := (nI 0)) dX3_hasGuess_14 rfl ?_
    exact r_ret (some (.int (nI 0))) dX3_hasGuess_15 rfl (pq0 c0)
  · skip
    refine r_iconst (v := (nI 1)) dX3_hasGuess_10 rfl ?_
    refine r_goto (tgt := 15) dX3_hasGuess_11 (by decide) ?_
    exact r_ret (some (.int (nI 1))) dX3_hasGuess_15 rfl (pq1 c0)
-- X3_dropGuess
theorem gX3_dropGuess_0 {d : Nat} {Q : Option Value → Mem → Prop} {M : Mem} {a0 : Nat} {cnk0 : Nat} (hnk0 : NT cnk0) (k0 : mK M a0 = cnk0 + 4) (k1 : mK M (mR M a0 4) = 5) (pf0 : ClD d mdX2_shape [.ref (mR M a0 4), .int (nI 0), .int (nI 0)] M (fun r1 M1 => Wp d mdX3_dropGuess 9 [(0, .ref a0)] (r1.toList ++ []) M1 Q)) : Wp d mdX3_dropGuess 0 [(0, .ref a0)] [] M Q := by
  refine r_aload_n dX3_dropGuess_0 rfl 0 rfl ?_
  refine r_getR (ckN hnk0) dX3_dropGuess_1 (flX3_29 hnk0) (by rcases hnk0 with rfl | rfl <;> rfl) k0 ?_
  refine r_iconst (v := (nI 0)) dX3_dropGuess_4 rfl ?_
  refine r_iconst (v := (nI 0)) dX3_dropGuess_5 rfl ?_
  obtain ⟨e9, hlt, h9⟩ := pf0
  exact r_callV (As := [.int (nI 0), .int (nI 0)]) (rest := []) (ci := 1) moX2_shape dX3_dropGuess_6 mlX3_60 imX2_shape seX2_shape k1 rfl hlt (Nat.le_of_ble_eq_true rfl) h9
theorem gX3_dropGuess_9 {d : Nat} {Q : Option Value → Mem → Prop} {M : Mem} {a0 : Nat} {cnk0 : Nat} (hnk0 : NT cnk0) (k0 : mK M a0 = cnk0 + 4) (k1 : mK M (mR M a0 3) = 11) (pf0 : ClD d mdX9_clear [.ref (mR M a0 3)] M (fun r1 M1 => Wp d mdX3_dropGuess 16 [] (r1.toList ++ []) M1 Q)) : Wp d mdX3_dropGuess 9 [(0, .ref a0)] [] M Q := by
  refine r_aload_n dX3_dropGuess_9 rfl 0 rfl ?_
  refine r_getR (ckN hnk0) dX3_dropGuess_10 (flX3_23 hnk0) (by rcases hnk0 with rfl | rfl <;> rfl) k0 ?_
  refine r_sub [] (ls' := []) rfl ?_
  obtain ⟨e9, hlt, h9⟩ := pf0
  exact r_callV (As := []) (rest := []) (ci := 7) moX9_clear dX3_dropGuess_13 mlX3_44 imX9_clear seX9_clear k1 rfl hlt (Nat.le_of_ble_eq_true rfl) h9
theorem gX3_dropGuess_16 {d : Nat} {Q : Option Value → Mem → Prop} {M : Mem}  (pq0 : Q none M) : Wp d mdX3_dropGuess 16 [] [] M Q := by
  exact r_ret none dX3_dropGuess_16 rfl pq0
-- X3_settle
theorem gX3_settle_0 {d : Nat} {Q : Option Value → Mem → Prop} {M : Mem} {a0 : Nat} {cnk0 : Nat} (hnk0 : NT cnk0) (k0 : mK M a0 = cnk0 + 4) (k1 : mK M (mR M a0 3) = 11) (k2 : mK M (mR M a0 0) = 4) (k3 : mK M (mR M (mR M a0 0) 0) = 5) (k4 : mK M (mR M a0 4) = 5) (pf0 : ClD d mdX2_shape [.ref (mR M a0 4), .int (mI M (mR M a0 3) 0), .int (mI M (mR M (mR M a0 0) 0) 1)] M (fun r1 M1 => Wp d mdX3_settle 24 [(0, .ref a0)] (r1.toList ++ []) M1 Q)) : Wp d mdX3_settle 0 [(0, .ref a0)] [] M Q := by
  refine r_aload_n dX3_settle_0 rfl 0 rfl ?_
  refine r_getR (ckN hnk0) dX3_settle_1 (flX3_29 hnk0) (by rcases hnk0 with rfl | rfl <;> rfl) k0 ?_
  refine r_aload_n dX3_settle_4 rfl 0 rfl ?_
  refine r_getR (ckN hnk0) dX3_settle_5 (flX3_23 hnk0) (by rcases hnk0 with rfl | rfl <;> rfl) k0 ?_
  refine r_getI ck7 dX3_settle_8 flX3_64 rfl k1 ?_
  refine r_aload_n dX3_settle_11 rfl 0 rfl ?_
  refine r_getR (ckN hnk0) dX3_settle_12 (flX3_33 hnk0) (by rcases hnk0 with rfl | rfl <;> rfl) k0 ?_
  refine r_getR ck0 dX3_settle_15 flX3_67 rfl k2 ?_
  refine r_getI ck1 dX3_settle_18 flX3_72 rfl k3 ?_
  obtain ⟨e9, hlt, h9⟩ := pf0
  exact r_callV (As := [.int (mI M (mR M a0 3) 0), .int (mI M (mR M (mR M a0 0) 0) 1)]) (rest := []) (ci := 1) moX2_shape dX3_settle_21 mlX3_60 imX2_shape seX2_shape k4 rfl hlt (Nat.le_of_ble_eq_true rfl) h9
theorem gX3_settle_24 {d : Nat} {Q : Option Value → Mem → Prop} {M : Mem} {a0 : Nat}  (pw0 : Wp d mdX3_settle 26 [(0, .ref a0), (1, .int (nI 0))] [] M Q) : Wp d mdX3_settle 24 [(0, .ref a0)] [] M Q := by
  refine r_iconst (v := (nI 0)) dX3_settle_24 rfl ?_
  refine r_istore_n dX3_settle_25 rfl (by decide) (ls' := [(1, .int (nI 0)), (0, .ref a0)]) rfl ?_
  refine r_sub [1, 0] (ls' := [(0, .ref a0), (1, .int (nI 0))]) rfl ?_
  exact pw0
theorem gX3_settle_26 {d : Nat} {Q : Option Value → Mem → Prop} {M : Mem} {a0 : Nat} {x1 : Int32} {cnk0 : Nat} (hnk0 : NT cnk0) (k0 : mK M a0 = cnk0 + 4) (k1 : mK M (mR M a0 3) = 11) (pq0 : (mI M (mR M a0 3) 0) ≤ x1 → Q none M) (pf1 : ¬ (mI M (mR M a0 3) 0) ≤ x1 → ClD d mdX9_get [.ref (mR M a0 3), .int x1] M (fun r1 M1 => Wp d mdX3_settle 54 [(0, .ref a0), (1, .int x1)] (r1.toList ++ [.ref (mR M a0 0), .int x1, .ref (mR M a0 4)]) M1 Q)) : Wp d mdX3_settle 26 [(0, .ref a0), (1, .int x1)] [] M Q := by
  refine r_iload_n dX3_settle_26 rfl 1 rfl ?_
  refine r_aload_n dX3_settle_27 rfl 0 rfl ?_
  refine r_getR (ckN hnk0) dX3_settle_28 (flX3_23 hnk0) (by rcases hnk0 with rfl | rfl <;> rfl) k0 ?_
  refine r_getI ck7 dX3_settle_31 flX3_64 rfl k1 ?_
  refine r_icmp_ge (tgt := 66) dX3_settle_34 (by decide) (fun c0 => ?_) (fun c0 => ?_)
  · skip
    exact r_ret none dX3_settle_66 rfl (pq0 c0)
  · skip
    refine r_aload_n dX3_settle_37 rfl 0 rfl ?_
    refine r_getR (ckN hnk0) dX3_settle_38 (flX3_29 hnk0) (by rcases hnk0 with rfl | rfl <;> rfl) k0 ?_
    refine r_iload_n dX3_settle_41 rfl 1 rfl ?_
    refine r_aload_n dX3_settle_42 rfl 0 rfl ?_
    refine r_getR (ckN hnk0) dX3_settle_43 (flX3_33 hnk0) (by rcases hnk0 with rfl | rfl <;> rfl) k0 ?_
    refine r_aload_n dX3_settle_46 rfl 0 rfl ?_
    refine r_getR (ckN hnk0) dX3_settle_47 (flX3_23 hnk0) (by rcases hnk0 with rfl | rfl <;> rfl) k0 ?_
    refine r_iload_n dX3_settle_50 rfl 1 rfl ?_
    obtain ⟨e9, hlt, h9⟩ := (pf1 c0)
    exact r_callV (As := [.int x1]) (rest := [.ref (mR M a0 0), .int x1, .ref (mR M a0 4)]) (ci := 7) moX9_get dX3_settle_51 mlX3_75 imX9_get seX9_get k1 rfl hlt (Nat.le_of_ble_eq_true rfl) h9
theorem gX3_settle_54 {d : Nat} {Q : Option Value → Mem → Prop} {M : Mem} {a0 : Nat} {x1 : Int32} {sw0 : Int64} {sa1 : Nat} {sx2 : Int32} {sa3 : Nat} (k0 : mK M sa1 = 4) (pf0 : ClD d mdX0_ask [.ref sa1, .long sw0] M (fun r1 M1 => Wp d mdX3_settle 57 [(0, .ref a0), (1, .int x1)] (r1.toList ++ [.int sx2, .ref sa3]) M1 Q)) : Wp d mdX3_settle 54 [(0, .ref a0), (1, .int x1)] [.long sw0, .ref sa1, .int sx2, .ref sa3] M Q := by
  obtain ⟨e9, hlt, h9⟩ := pf0
  exact r_callV (As := [.long sw0]) (rest := [.int sx2, .ref sa3]) (ci := 0) moX0_ask dX3_settle_54 mlX3_79 imX0_ask seX0_ask k0 rfl hlt (Nat.le_of_ble_eq_true rfl) h9
theorem gX3_settle_57 {d : Nat} {Q : Option Value → Mem → Prop} {M : Mem} {a0 : Nat} {x1 : Int32} {sx0 : Int32} {sx1 : Int32} {sa2 : Nat} (k0 : mK M sa2 = 5) (pf0 : ClD d mdX2_setOutput [.ref sa2, .int sx1, .int sx0] M (fun r1 M1 => Wp d mdX3_settle 60 [(0, .ref a0), (1, .int x1)] (r1.toList ++ []) M1 Q)) : Wp d mdX3_settle 57 [(0, .ref a0), (1, .int x1)] [.int sx0, .int sx1, .ref sa2] M Q := by
  obtain ⟨e9, hlt, h9⟩ := pf0
  exact r_callV (As := [.int sx1, .int sx0]) (rest := []) (ci := 1) moX2_setOutput dX3_settle_57 mlX3_83 imX2_setOutput seX2_setOutput k0 rfl hlt (Nat.le_of_ble_eq_true rfl) h9
theorem gX3_settle_60 {d : Nat} {Q : Option Value → Mem → Prop} {M : Mem} {a0 : Nat} {x1 : Int32}  (pw0 : Wp d mdX3_settle 26 [(0, .ref a0), (1, .int (x1 + (nI 1)))] [] M Q) : Wp d mdX3_settle 60 [(0, .ref a0), (1, .int x1)] [] M Q := by
  refine r_iinc dX3_settle_60 1 rfl (v := x1 + (nI 1)) rfl (by decide) (ls' := [(1, .int (x1 + (nI 1))), (0, .ref a0)]) rfl ?_
  refine r_goto (tgt := 26) dX3_settle_63 (by decide) ?_
  refine r_sub [1, 0] (ls' := [(0, .ref a0), (1, .int (x1 + (nI 1)))]) rfl ?_
  exact pw0
-- X3_accessBy
theorem gX3_accessBy_0 {d : Nat} {Q : Option Value → Mem → Prop} {M : Mem} {a0 : Nat} {w1 : Int64} {cnk0 : Nat} (hnk0 : NT cnk0) (k0 : mK M a0 = cnk0 + 4) (k1 : mK M (mR M a0 4) = 5) (pf0 : ClD d mdX2_endFrom [.ref (mR M a0 4), .int (nI 0), .long w1] M (fun r1 M1 => Wp d mdX3_accessBy 13 [] (r1.toList ++ [.ref (mR M a0 3)]) M1 Q)) : Wp d mdX3_accessBy 0 [(0, .ref a0), (1, .long w1)] [] M Q := by
  refine r_aload_n dX3_accessBy_0 rfl 0 rfl ?_
  refine r_getR (ckN hnk0) dX3_accessBy_1 (flX3_23 hnk0) (by rcases hnk0 with rfl | rfl <;> rfl) k0 ?_
  refine r_aload_n dX3_accessBy_4 rfl 0 rfl ?_
  refine r_getR (ckN hnk0) dX3_accessBy_5 (flX3_29 hnk0) (by rcases hnk0 with rfl | rfl <;> rfl) k0 ?_
  refine r_iconst (v := (nI 0)) dX3_accessBy_8 rfl ?_
  refine r_lload_n dX3_accessBy_9 rfl 1 rfl ?_
  refine r_sub [] (ls' := []) rfl ?_
  obtain ⟨e9, hlt, h9⟩ := pf0
  exact r_callV (As := [.int (nI 0), .long w1]) (rest := [.ref (mR M a0 3)]) (ci := 1) moX2_endFrom dX3_accessBy_10 mlX3_86 imX2_endFrom seX2_endFrom k1 rfl hlt (Nat.le_of_ble_eq_true rfl) h9
theorem gX3_accessBy_13 {d : Nat} {Q : Option Value → Mem → Prop} {M : Mem} {sx0 : Int32} {sa1 : Nat} (k0 : mK M sa1 = 11) (pf0 : ClD d mdX9_get [.ref sa1, .int sx0] M (fun r1 M1 => Wp d mdX3_accessBy 16 [] (r1.toList ++ []) M1 Q)) : Wp d mdX3_accessBy 13 [] [.int sx0, .ref sa1] M Q := by
  obtain ⟨e9, hlt, h9⟩ := pf0
  exact r_callV (As := [.int sx0]) (rest := []) (ci := 7) moX9_get dX3_accessBy_13 mlX3_75 imX9_get seX9_get k0 rfl hlt (Nat.le_of_ble_eq_true rfl) h9
theorem gX3_accessBy_16 {d : Nat} {Q : Option Value → Mem → Prop} {M : Mem} {sw0 : Int64}  (pq0 : Q (some (.long sw0)) M) : Wp d mdX3_accessBy 16 [] [.long sw0] M Q := by
  exact r_ret (some (.long sw0)) dX3_accessBy_16 rfl pq0
-- X3_partingAt
theorem gX3_partingAt_0 {d : Nat} {Q : Option Value → Mem → Prop} {M : Mem} {a0 : Nat} {w1 : Int64} {x3 : Int32}  (pf0 : ClD d mdX1_length [.long w1] M (fun r1 M1 => Wp d mdX3_partingAt 7 [(0, .ref a0), (1, .long w1), (3, .int x3), (4, .int (nI 0))] (r1.toList ++ []) M1 Q)) : Wp d mdX3_partingAt 0 [(0, .ref a0), (1, .long w1), (3, .int x3)] [] M Q := by
  refine r_iconst (v := (nI 0)) dX3_partingAt_0 rfl ?_
  refine r_istore dX3_partingAt_1 (by decide) (ls' := [(4, .int (nI 0)), (0, .ref a0), (1, .long w1), (3, .int x3)]) rfl ?_
  refine r_lload_n dX3_partingAt_3 rfl 2 rfl ?_
  refine r_sub [1, 2, 3, 0] (ls' := [(0, .ref a0), (1, .long w1), (3, .int x3), (4, .int (nI 0))]) rfl ?_
  obtain ⟨e9, hlt, h9⟩ := pf0
  exact r_callS (As := [.long w1]) (rest := []) moX1_length dX3_partingAt_4 mlX3_90 saX1_length rfl hlt (Nat.le_of_ble_eq_true rfl) h9
theorem gX3_partingAt_7 {d : Nat} {Q : Option Value → Mem → Prop} {M : Mem} {a0 : Nat} {w1 : Int64} {x3 : Int32} {x4 : Int32} {sx0 : Int32}  (pw0 : Wp d mdX3_partingAt 12 [(0, .ref a0), (1, .long w1), (3, .int x3), (4, .int x4), (5, .int sx0), (6, .int (nI 0))] [] M Q) : Wp d mdX3_partingAt 7 [(0, .ref a0), (1, .long w1), (3, .int x3), (4, .int x4)] [.int sx0] M Q := by
  refine r_istore dX3_partingAt_7 (by decide) (ls' := [(5, .int sx0), (0, .ref a0), (1, .long w1), (3, .int x3), (4, .int x4)]) rfl ?_
  refine r_iconst (v := (nI 0)) dX3_partingAt_9 rfl ?_
  refine r_istore dX3_partingAt_10 (by decide) (ls' := [(6, .int (nI 0)), (5, .int sx0), (0, .ref a0), (1, .long w1), (3, .int x3), (4, .int x4)]) rfl ?_
  refine r_sub [2, 3, 4, 5, 1, 0] (ls' := [(0, .ref a0), (1, .long w1), (3, .int x3), (4, .int x4), (5, .int sx0), (6, .int (nI 0))]) rfl ?_
  exact pw0
theorem gX3_partingAt_12 {d : Nat} {Q : Option Value → Mem → Prop} {M : Mem} {a0 : Nat} {w1 : Int64} {x3 : Int32} {x4 : Int32} {x5 : Int32} {x6 : Int32}  (pq0 : (nI 30) ≤ x6 → Q (some (.int x5)) M) (pq1 : ¬ (nI 30) ≤ x6 → x5 ≤ (x4 + (nI 1)) → Q (some (.int x5)) M) (pf2 : ¬ (nI 30) ≤ x6 → ¬ x5 ≤ (x4 + (nI 1)) → ClD d mdX1_first [.long w1, .int ((x4 + x5) / (nI 2))] M (fun r1 M1 => Wp d mdX3_partingAt 44 [(0, .ref a0), (1, .long w1), (3, .int x3), (4, .int x4), (5, .int x5), (6, .int x6), (7, .int ((x4 + x5) / (nI 2)))] (r1.toList ++ [.ref a0]) M1 Q)) : Wp d mdX3_partingAt 12 [(0, .ref a0), (1, .long w1), (3, .int x3), (4, .int x4), (5, .int x5), (6, .int x6)] [] M Q := by
  refine r_iload dX3_partingAt_12 5 rfl ?_
  refine r_bipush (v := (nI 30)) dX3_partingAt_14 rfl ?_
  refine r_icmp_ge (tgt := 88) dX3_partingAt_16 (by decide) (fun c0 => ?_) (fun c0 => ?_)
  · skip
    refine r_iload dX3_partingAt_88 4 rfl ?_
    exact r_ret (some (.int x5)) dX3_partingAt_90 rfl (pq0 c0)
  · skip
    refine r_iload dX3_partingAt_19 4 rfl ?_
    refine r_iload dX3_partingAt_21 3 rfl ?_
    refine r_iconst (v := (nI 1)) dX3_partingAt_23 rfl ?_
    refine r_iadd dX3_partingAt_24 ?_
    refine r_icmp_le (tgt := 88) dX3_partingAt_25 (by decide) (fun c1 => ?_) (fun c1 => ?_)
    · skip
      refine r_iload dX3_partingAt_88 4 rfl ?_
      exact r_ret (some (.int x5)) dX3_partingAt_90 rfl (pq1 c0 c1)
    · skip
      refine r_iload dX3_partingAt_28 3 rfl ?_
      refine r_iload dX3_partingAt_30 4 rfl ?_
      refine r_iadd dX3_partingAt_32 ?_
      refine r_iconst (v := (nI 2)) dX3_partingAt_33 rfl ?_
      refine r_idiv dX3_partingAt_34 (by decide) ?_
      refine r_istore dX3_partingAt_35 (by decide) (ls' := [(7, .int ((x4 + x5) / (nI 2))), (0, .ref a0), (1, .long w1), (3, .int x3), (4, .int x4), (5, .int x5), (6, .int x6)]) rfl ?_
      refine r_aload_n dX3_partingAt_37 rfl 1 rfl ?_
      refine r_lload_n dX3_partingAt_38 rfl 2 rfl ?_
      refine r_iload dX3_partingAt_39 0 rfl ?_
      refine r_sub [1, 2, 3, 4, 5, 6, 0] (ls' := [(0, .ref a0), (1, .long w1), (3, .int x3), (4, .int x4), (5, .int x5), (6, .int x6), (7, .int ((x4 + x5) / (nI 2)))]) rfl ?_
      obtain ⟨e9, hlt, h9⟩ := (pf2 c0 c1)
      exact r_callS (As := [.long w1, .int ((x4 + x5) / (nI 2))]) (rest := [.ref a0]) moX1_first dX3_partingAt_41 mlX3_95 saX1_first rfl hlt (Nat.le_of_ble_eq_true rfl) h9
theorem gX3_partingAt_44 {d : Nat} {Q : Option Value → Mem → Prop} {M : Mem} {a0 : Nat} {w1 : Int64} {x3 : Int32} {x4 : Int32} {x5 : Int32} {x6 : Int32} {x7 : Int32} {sw0 : Int64} {sa1 : Nat} {cnk0 : Nat} (hnk0 : NT cnk0) (k0 : mK M sa1 = cnk0 + 4) (pf0 : ClD d mdX3_accessBy [.ref sa1, .long sw0] M (fun r1 M1 => Wp d mdX3_partingAt 47 [(0, .ref a0), (1, .long w1), (3, .int x3), (4, .int x4), (5, .int x5), (6, .int x6), (7, .int x7)] (r1.toList ++ []) M1 Q)) : Wp d mdX3_partingAt 44 [(0, .ref a0), (1, .long w1), (3, .int x3), (4, .int x4), (5, .int x5), (6, .int x6), (7, .int x7)] [.long sw0, .ref sa1] M Q := by
  obtain ⟨e9, hlt, h9⟩ := pf0
  rcases hnk0 with rfl | rfl
  · exact r_callU (As := [.long sw0]) (rest := []) (ci := 4) (x := yX3_accessBy) (owner := "AskingPupil$Notes") moX3_accessBy dX3_partingAt_44 mlX3_99 smX3_accessBy imX3_accessBy suX6_X3_accessBy ⟨by decide +kernel, by decide +kernel⟩ (Or.inl rfl) k0 rfl hlt (Nat.le_of_ble_eq_true rfl) h9
  · exact r_callU (As := [.long sw0]) (rest := []) (ci := 6) (x := yX3_accessBy) (owner := "AskingPupil$Notes") moX3_accessBy dX3_partingAt_44 mlX3_99 smX3_accessBy imX3_accessBy suX8_X3_accessBy ⟨by decide +kernel, by decide +kernel⟩ (Or.inl rfl) k0 rfl hlt (Nat.le_of_ble_eq_true rfl) h9
theorem gX3_partingAt_47 {d : Nat} {Q : Option Value → Mem → Prop} {M : Mem} {a0 : Nat} {w1 : Int64} {x3 : Int32} {x4 : Int32} {x5 : Int32} {x6 : Int32} {x7 : Int32} {sw0 : Int64} {cnk0 : Nat} (hnk0 : NT cnk0) (k0 : mK M a0 = cnk0 + 4) (pf0 : ClD d mdX1_behind [.long w1, .int x7] M (fun r1 M1 => Wp d mdX3_partingAt 61 [(0, .ref a0), (1, .long w1), (3, .int x3), (4, .int x4), (5, .int x5), (6, .int x6), (7, .int x7)] (r1.toList ++ [.long sw0, .ref (mR M a0 0)]) M1 Q)) : Wp d mdX3_partingAt 47 [(0, .ref a0), (1, .long w1), (3, .int x3), (4, .int x4), (5, .int x5), (6, .int x6), (7, .int x7)] [.long sw0] M Q := by
  refine r_lstore dX3_partingAt_47 (by decide) (ls' := [(8, .long sw0), (0, .ref a0), (1, .long w1), (3, .int x3), (4, .int x4), (5, .int x5), (6, .int x6), (7, .int x7)]) rfl ?_
  refine r_aload_n dX3_partingAt_49 rfl 1 rfl ?_
  refine r_getR (ckN hnk0) dX3_partingAt_50 (flX3_33 hnk0) (by rcases hnk0 with rfl | rfl <;> rfl) k0 ?_
  refine r_lload dX3_partingAt_53 0 rfl ?_
  refine r_lload_n dX3_partingAt_55 rfl 2 rfl ?_
  refine r_iload dX3_partingAt_56 7 rfl ?_
  refine r_sub [1, 2, 3, 4, 5, 6, 7] (ls' := [(0, .ref a0), (1, .long w1), (3, .int x3), (4, .int x4), (5, .int x5), (6, .int x6), (7, .int x7)]) rfl ?_
  obtain ⟨e9, hlt, h9⟩ := pf0
  exact r_callS (As := [.long w1, .int x7]) (rest := [.long sw0, .ref (mR M a0 0)]) moX1_behind dX3_partingAt_58 mlX3_103 saX1_behind rfl hlt (Nat.le_of_ble_eq_true rfl) h9
theorem gX3_partingAt_61 {d : Nat} {Q : Option Value → Mem → Prop} {M : Mem} {a0 : Nat} {w1 : Int64} {x3 : Int32} {x4 : Int32} {x5 : Int32} {x6 : Int32} {x7 : Int32} {sw0 : Int64} {sw1 : Int64} {sa2 : Nat}  (pf0 : ClD d mdX1_join [.long sw1, .long sw0] M (fun r1 M1 => Wp d mdX3_partingAt 64 [(0, .ref a0), (1, .long w1), (3, .int x3), (4, .int x4), (5, .int x5), (6, .int x6), (7, .int x7)] (r1.toList ++ [.ref sa2]) M1 Q)) : Wp d mdX3_partingAt 61 [(0, .ref a0), (1, .long w1), (3, .int x3), (4, .int x4), (5, .int x5), (6, .int x6), (7, .int x7)] [.long sw0, .long sw1, .ref sa2] M Q := by
  obtain ⟨e9, hlt, h9⟩ := pf0
  exact r_callS (As := [.long sw1, .long sw0]) (rest := [.ref sa2]) moX1_join dX3_partingAt_61 mlX3_106 saX1_join rfl hlt (Nat.le_of_ble_eq_true rfl) h9
theorem gX3_partingAt_64 {d : Nat} {Q : Option Value → Mem → Prop} {M : Mem} {a0 : Nat} {w1 : Int64} {x3 : Int32} {x4 : Int32} {x5 : Int32} {x6 : Int32} {x7 : Int32} {sw0 : Int64} {sa1 : Nat} (k0 : mK M sa1 = 4) (pf0 : ClD d mdX0_ask [.ref sa1, .long sw0] M (fun r1 M1 => Wp d mdX3_partingAt 67 [(0, .ref a0), (1, .long w1), (3, .int x3), (4, .int x4), (5, .int x5), (6, .int x6), (7, .int x7)] (r1.toList ++ []) M1 Q)) : Wp d mdX3_partingAt 64 [(0, .ref a0), (1, .long w1), (3, .int x3), (4, .int x4), (5, .int x5), (6, .int x6), (7, .int x7)] [.long sw0, .ref sa1] M Q := by
  obtain ⟨e9, hlt, h9⟩ := pf0
  exact r_callV (As := [.long sw0]) (rest := []) (ci := 0) moX0_ask dX3_partingAt_64 mlX3_79 imX0_ask seX0_ask k0 rfl hlt (Nat.le_of_ble_eq_true rfl) h9
theorem gX3_partingAt_67 {d : Nat} {Q : Option Value → Mem → Prop} {M : Mem} {a0 : Nat} {w1 : Int64} {x3 : Int32} {x4 : Int32} {x5 : Int32} {x6 : Int32} {x7 : Int32} {sx0 : Int32}  (pw0 : ¬ sx0 = x3 → Wp d mdX3_partingAt 12 [(0, .ref a0), (1, .long w1), (3, .int x3), (4, .int x4), (5, .int x7), (6, .int (x6 + (nI 1)))] [] M Q) (pw1 : sx0 = x3 → Wp d mdX3_partingAt 12 [(0, .ref a0), (1, .long w1), (3, .int x3), (4, .int x7), (5, .int x5), (6, .int (x6 + (nI 1)))] [] M Q) : Wp d mdX3_partingAt 67 [(0, .ref a0), (1, .long w1), (3, .int x3), (4, .int x4), (5, .int x5), (6, .int x6), (7, .int x7)] [.int sx0] M Q := by
  refine r_iload_n dX3_partingAt_67 rfl 2 rfl ?_
  refine r_icmp_ne (tgt := 78) dX3_partingAt_68 (by decide) (fun c0 => ?_) (fun c0 => ?_)
  · skip
    refine r_iload dX3_partingAt_78 6 rfl ?_
    refine r_istore dX3_partingAt_80 (by decide) (ls' := [(5, .int x7), (0, .ref a0), (1, .long w1), (3, .int x3), (4, .int x4), (6, .int x6), (7, .int x7)]) rfl ?_
    refine r_iinc dX3_partingAt_82 5 rfl (v := x6 + (nI 1)) rfl (by decide) (ls' := [(6, .int (x6 + (nI 1))), (5, .int x7), (0, .ref a0), (1, .long w1), (3, .int x3), (4, .int x4), (7, .int x7)]) rfl ?_
    refine r_goto (tgt := 12) dX3_partingAt_85 (by decide) ?_
    refine r_sub [2, 3, 4, 5, 1, 0] (ls' := [(0, .ref a0), (1, .long w1), (3, .int x3), (4, .int x4), (5, .int x7), (6, .int (x6 + (nI 1)))]) rfl ?_
    exact (pw0 c0)
  · skip
    refine r_iload dX3_partingAt_71 6 rfl ?_
    refine r_istore dX3_partingAt_73 (by decide) (ls' := [(4, .int x7), (0, .ref a0), (1, .long w1), (3, .int x3), (5, .int x5), (6, .int x6), (7, .int x7)]) rfl ?_
    refine r_goto (tgt := 82) dX3_partingAt_75 (by decide) ?_
    refine r_iinc dX3_partingAt_82 5 rfl (v := x6 + (nI 1)) rfl (by decide) (ls' := [(6, .int (x6 + (nI 1))), (4, .int x7), (0, .ref a0), (1, .long w1), (3, .int x3), (5, .int x5), (7, .int x7)]) rfl ?_
    refine r_goto (tgt := 12) dX3_partingAt_85 (by decide) ?_
    refine r_sub [2, 3, 4, 1, 5, 0] (ls' := [(0, .ref a0), (1, .long w1), (3, .int x3), (4, .int x7), (5, .int x5), (6, .int (x6 + (nI 1)))]) rfl ?_
    exact (pw1 c0)
-- X4_init
theorem gX4_init_0 {d : Nat} {Q : Option Value → Mem → Prop} {M : Mem} {a0 : Nat} {a1 : Nat} {a2 : Nat} (hd1 : 1 ≤ d) (k0 : mK M a0 = 6) (pw0 : Wp d mdX4_init 13 [(0, .ref a0), (1, .ref a1)] [.ref (mC (sR M a0 6 a2) + 2), .ref a0] (nwC (sR M a0 6 a2) 4 5) Q) : Wp d mdX4_init 0 [(0, .ref a0), (1, .ref a1), (2, .ref a2)] [] M Q := by
  refine r_aload_n dX4_init_0 rfl 0 rfl ?_
  refine r_objI (ci := 2) dX4_init_1 mlX4_3 obI_i obI_c k0 hd1 (Nat.le_of_ble_eq_true rfl) ?_
  refine r_aload_n dX4_init_4 rfl 0 rfl ?_
  refine r_aload_n dX4_init_5 rfl 2 rfl ?_
  refine r_putR ck2 dX4_init_6 flX4_9 rfl rfl (Or.inr ⟨rfl, rfl, rfl⟩) k0 ?_
  refine r_aload_n dX4_init_9 rfl 0 rfl ?_
  refine r_new (ci := 0) ck0 (by decide) rk0 dX4_init_10 cwX4_15 ?_
  refine r_sub [0, 1] (ls' := [(0, .ref a0), (1, .ref a1)]) rfl ?_
  exact pw0
theorem gX4_init_13 {d : Nat} {Q : Option Value → Mem → Prop} {M : Mem} {a0 : Nat} {a1 : Nat} {sa0 : Nat} {sa1 : Nat} (k0 : mK M sa0 = 4) (pf0 : ClD d mdX0_init [.ref sa0, .ref a1] M (fun r1 M1 => Wp d mdX4_init 18 [(0, .ref a0)] (r1.toList ++ [.ref sa0, .ref sa1]) M1 Q)) : Wp d mdX4_init 13 [(0, .ref a0), (1, .ref a1)] [.ref sa0, .ref sa1] M Q := by
  refine r_dup dX4_init_13 rfl ?_
  refine r_aload_n dX4_init_14 rfl 1 rfl ?_
  refine r_sub [0] (ls' := [(0, .ref a0)]) rfl ?_
  obtain ⟨e9, hlt, h9⟩ := pf0
  exact r_callI (As := [.ref a1]) (rest := [.ref sa0, .ref sa1]) (ci := 0) moX0_init rfl rfl dX4_init_15 mlX4_17 imX0_init k0 rfl hlt (Nat.le_of_ble_eq_true rfl) h9
theorem gX4_init_18 {d : Nat} {Q : Option Value → Mem → Prop} {M : Mem} {a0 : Nat} {sa0 : Nat} {sa1 : Nat} (k0 : mK M sa1 = 6) (pw0 : Wp d mdX4_init 25 [(0, .ref a0)] [.ref (mC (sR M sa1 0 sa0) + 2), .ref a0] (nwC (sR M sa1 0 sa0) 8 14) Q) : Wp d mdX4_init 18 [(0, .ref a0)] [.ref sa0, .ref sa1] M Q := by
  refine r_putR ck2 dX4_init_18 flX4_20 rfl rfl (Or.inr ⟨rfl, rfl, rfl⟩) k0 ?_
  refine r_aload_n dX4_init_21 rfl 0 rfl ?_
  refine r_new (ci := 4) ck4 (by decide) rk4 dX4_init_22 cwX4_24 ?_
  exact pw0
theorem gX4_init_25 {d : Nat} {Q : Option Value → Mem → Prop} {M : Mem} {a0 : Nat} {sa0 : Nat} {sa1 : Nat} (k0 : mK M a0 = 6) (k1 : mK M sa0 = 8) (pf0 : ClD d mdX6_init [.ref sa0, .ref (mR M a0 0)] M (fun r1 M1 => Wp d mdX4_init 33 [(0, .ref a0)] (r1.toList ++ [.ref sa0, .ref sa1]) M1 Q)) : Wp d mdX4_init 25 [(0, .ref a0)] [.ref sa0, .ref sa1] M Q := by
  refine r_dup dX4_init_25 rfl ?_
  refine r_aload_n dX4_init_26 rfl 0 rfl ?_
  refine r_getR ck2 dX4_init_27 flX4_20 rfl k0 ?_
  obtain ⟨e9, hlt, h9⟩ := pf0
  exact r_callI (As := [.ref (mR M a0 0)]) (rest := [.ref sa0, .ref sa1]) (ci := 4) moX6_init rfl rfl dX4_init_30 mlX4_26 imX6_init k1 rfl hlt (Nat.le_of_ble_eq_true rfl) h9
theorem gX4_init_33 {d : Nat} {Q : Option Value → Mem → Prop} {M : Mem} {a0 : Nat} {sa0 : Nat} {sa1 : Nat} (k0 : mK M sa1 = 6) (pw0 : Wp d mdX4_init 40 [(0, .ref a0)] [.ref (mC (sR M sa1 1 sa0) + 2), .ref a0] (nwC (sR M sa1 1 sa0) 10 10) Q) : Wp d mdX4_init 33 [(0, .ref a0)] [.ref sa0, .ref sa1] M Q := by
  refine r_putR ck2 dX4_init_33 flX4_29 rfl rfl (Or.inr ⟨rfl, rfl, rfl⟩) k0 ?_
  refine r_aload_n dX4_init_36 rfl 0 rfl ?_
  refine r_new (ci := 6) ck6 (by decide) rk6 dX4_init_37 cwX4_33 ?_
  exact pw0
theorem gX4_init_40 {d : Nat} {Q : Option Value → Mem → Prop} {M : Mem} {a0 : Nat} {sa0 : Nat} {sa1 : Nat} (k0 : mK M a0 = 6) (k1 : mK M sa0 = 10) (pf0 : ClD d mdX8_init [.ref sa0, .ref (mR M a0 0)] M (fun r1 M1 => Wp d mdX4_init 48 [(0, .ref a0)] (r1.toList ++ [.ref sa0, .ref sa1]) M1 Q)) : Wp d mdX4_init 40 [(0, .ref a0)] [.ref sa0, .ref sa1] M Q := by
  refine r_dup dX4_init_40 rfl ?_
  refine r_aload_n dX4_init_41 rfl 0 rfl ?_
  refine r_getR ck2 dX4_init_42 flX4_20 rfl k0 ?_
  obtain ⟨e9, hlt, h9⟩ := pf0
  exact r_callI (As := [.ref (mR M a0 0)]) (rest := [.ref sa0, .ref sa1]) (ci := 6) moX8_init rfl rfl dX4_init_45 mlX4_35 imX8_init k1 rfl hlt (Nat.le_of_ble_eq_true rfl) h9
theorem gX4_init_48 {d : Nat} {Q : Option Value → Mem → Prop} {M : Mem} {a0 : Nat} {sa0 : Nat} {sa1 : Nat} (k0 : mK M sa1 = 6) (k1 : mK M a0 = 6) (pq0 : Q none (sR (sR M sa1 2 sa0) a0 3 (mR (sR M sa1 2 sa0) a0 1))) : Wp d mdX4_init 48 [(0, .ref a0)] [.ref sa0, .ref sa1] M Q := by
  refine r_putR ck2 dX4_init_48 flX4_36 rfl rfl (Or.inr ⟨rfl, rfl, rfl⟩) k0 ?_
  refine r_aload_n dX4_init_51 rfl 0 rfl ?_
  refine r_aload_n dX4_init_52 rfl 0 rfl ?_
  refine r_getR ck2 dX4_init_53 flX4_29 rfl k1 ?_
  refine r_putR ck2 dX4_init_56 flX4_40 rfl rfl (Or.inl rfl) k1 ?_
  exact r_ret none dX4_init_59 rfl pq0
-- X4_renew
theorem gX4_renew_0 {d : Nat} {Q : Option Value → Mem → Prop} {M : Mem} {a0 : Nat} {x1 : Int32} (k0 : mK M a0 = 6) (pw0 : ¬ (mI (sI M a0 4 x1) a0 4) = (nI 3) → Wp d mdX4_renew 25 [(0, .ref a0)] [.ref (mR (sI M a0 4 x1) a0 1), .ref a0] (sI M a0 4 x1) Q) (pw1 : (mI (sI M a0 4 x1) a0 4) = (nI 3) → Wp d mdX4_renew 25 [(0, .ref a0)] [.ref (mR (sI M a0 4 x1) a0 2), .ref a0] (sI M a0 4 x1) Q) : Wp d mdX4_renew 0 [(0, .ref a0), (1, .int x1)] [] M Q := by
  refine r_aload_n dX4_renew_0 rfl 0 rfl ?_
  refine r_iload_n dX4_renew_1 rfl 1 rfl ?_
  refine r_putI ck2 dX4_renew_2 flX4_44 rfl (Or.inl rfl) k0 ?_
  refine r_aload_n dX4_renew_5 rfl 0 rfl ?_
  refine r_aload_n dX4_renew_6 rfl 0 rfl ?_
  refine r_getI ck2 dX4_renew_7 flX4_44 rfl k0 ?_
  refine r_iconst (v := (nI 3)) dX4_renew_10 rfl ?_
  refine r_icmp_ne (tgt := 21) dX4_renew_11 (by decide) (fun c0 => ?_) (fun c0 => ?_)
  · skip
    refine r_aload_n dX4_renew_21 rfl 0 rfl ?_
    refine r_getR ck2 dX4_renew_22 flX4_29 rfl k0 ?_
    refine r_sub [0] (ls' := [(0, .ref a0)]) rfl ?_
    exact (pw0 c0)
  · skip
    refine r_aload_n dX4_renew_14 rfl 0 rfl ?_
    refine r_getR ck2 dX4_renew_15 flX4_36 rfl k0 ?_
    refine r_goto (tgt := 25) dX4_renew_18 (by decide) ?_
    refine r_sub [0] (ls' := [(0, .ref a0)]) rfl ?_
    exact (pw1 c0)
theorem gX4_renew_25 {d : Nat} {Q : Option Value → Mem → Prop} {M : Mem} {a0 : Nat} {sa0 : Nat} {sa1 : Nat} (k0 : mK M sa1 = 6) (k1 : mK M a0 = 6) (k2 : mK M (mR (sR M sa1 3 sa0) a0 0) = 4) (pf0 : ClD d mdX0_forget [.ref (mR (sR M sa1 3 sa0) a0 0)] (sR M sa1 3 sa0) (fun r1 M1 => Wp d mdX4_renew 35 [(0, .ref a0)] (r1.toList ++ []) M1 Q)) : Wp d mdX4_renew 25 [(0, .ref a0)] [.ref sa0, .ref sa1] M Q := by
  refine r_putR ck2 dX4_renew_25 flX4_40 rfl rfl (Or.inl rfl) k0 ?_
  refine r_aload_n dX4_renew_28 rfl 0 rfl ?_
  refine r_getR ck2 dX4_renew_29 flX4_20 rfl k1 ?_
  obtain ⟨e9, hlt, h9⟩ := pf0
  exact r_callV (As := []) (rest := []) (ci := 0) moX0_forget dX4_renew_32 mlX4_48 imX0_forget seX0_forget k2 rfl hlt (Nat.le_of_ble_eq_true rfl) h9
theorem gX4_renew_35 {d : Nat} {Q : Option Value → Mem → Prop} {M : Mem} {a0 : Nat} (k0 : mK M a0 = 6) {cnk1 : Nat} (hnk1 : NT cnk1) (k1 : mK M (mR M a0 3) = cnk1 + 4) (pf0 : ClD d mdX3_renew [.ref (mR M a0 3), .int (mI M a0 4)] M (fun r1 M1 => Wp d mdX4_renew 46 [] (r1.toList ++ []) M1 Q)) : Wp d mdX4_renew 35 [(0, .ref a0)] [] M Q := by
  refine r_aload_n dX4_renew_35 rfl 0 rfl ?_
  refine r_getR ck2 dX4_renew_36 flX4_40 rfl k0 ?_
  refine r_aload_n dX4_renew_39 rfl 0 rfl ?_
  refine r_getI ck2 dX4_renew_40 flX4_44 rfl k0 ?_
  refine r_sub [] (ls' := []) rfl ?_
  obtain ⟨e9, hlt, h9⟩ := pf0
  rcases hnk1 with rfl | rfl
  · exact r_callU (As := [.int (mI M a0 4)]) (rest := []) (ci := 4) (x := yX3_renew) (owner := "AskingPupil$Notes") moX3_renew dX4_renew_43 mlX4_51 smX3_renew imX3_renew suX6_X3_renew ⟨by decide +kernel, by decide +kernel⟩ (Or.inl rfl) k1 rfl hlt (Nat.le_of_ble_eq_true rfl) h9
  · exact r_callU (As := [.int (mI M a0 4)]) (rest := []) (ci := 6) (x := yX3_renew) (owner := "AskingPupil$Notes") moX3_renew dX4_renew_43 mlX4_51 smX3_renew imX3_renew suX8_X3_renew ⟨by decide +kernel, by decide +kernel⟩ (Or.inl rfl) k1 rfl hlt (Nat.le_of_ble_eq_true rfl) h9
theorem gX4_renew_46 {d : Nat} {Q : Option Value → Mem → Prop} {M : Mem}  (pq0 : Q none M) : Wp d mdX4_renew 46 [] [] M Q := by
  exact r_ret none dX4_renew_46 rfl pq0
-- X4_learn
theorem gX4_learn_0 {d : Nat} {Q : Option Value → Mem → Prop} {M : Mem} {a0 : Nat} (k0 : mK M a0 = 6) (pw0 : Wp d mdX4_learn 7 [(0, .ref a0), (1, .int (nI 0))] [] (sI M a0 5 (nI 0)) Q) : Wp d mdX4_learn 0 [(0, .ref a0)] [] M Q := by
  refine r_aload_n dX4_learn_0 rfl 0 rfl ?_
  refine r_iconst (v := (nI 0)) dX4_learn_1 rfl ?_
  refine r_putI ck2 dX4_learn_2 flX4_57 rfl (Or.inl rfl) k0 ?_
  refine r_iconst (v := (nI 0)) dX4_learn_5 rfl ?_
  refine r_istore_n dX4_learn_6 rfl (by decide) (ls' := [(1, .int (nI 0)), (0, .ref a0)]) rfl ?_
  refine r_sub [1, 0] (ls' := [(0, .ref a0), (1, .int (nI 0))]) rfl ?_
  exact pw0
theorem gX4_learn_7 {d : Nat} {Q : Option Value → Mem → Prop} {M : Mem} {a0 : Nat} {x1 : Int32} (k0 : mK M a0 = 6) {cnk1 : Nat} (hnk1 : NT cnk1) (k1 : mK M (mR M a0 3) = cnk1 + 4) (pq0 : (nI 10000) ≤ x1 → Q none M) (pf1 : ¬ (nI 10000) ≤ x1 → ClD d mdX3_hasGuess [.ref (mR M a0 3)] M (fun r1 M1 => Wp d mdX4_learn 21 [(0, .ref a0), (1, .int x1)] (r1.toList ++ []) M1 Q)) : Wp d mdX4_learn 7 [(0, .ref a0), (1, .int x1)] [] M Q := by
  refine r_iload_n dX4_learn_7 rfl 1 rfl ?_
  refine r_sipush (v := (nI 10000)) dX4_learn_8 rfl ?_
  refine r_icmp_ge (tgt := 91) dX4_learn_11 (by decide) (fun c0 => ?_) (fun c0 => ?_)
  · skip
    exact r_ret none dX4_learn_91 rfl (pq0 c0)
  · skip
    refine r_aload_n dX4_learn_14 rfl 0 rfl ?_
    refine r_getR ck2 dX4_learn_15 flX4_40 rfl k0 ?_
    obtain ⟨e9, hlt, h9⟩ := (pf1 c0)
    rcases hnk1 with rfl | rfl
    · exact r_callU (As := []) (rest := []) (ci := 4) (x := yX3_hasGuess) (owner := "AskingPupil$Notes") moX3_hasGuess dX4_learn_18 mlX4_60 smX3_hasGuess imX3_hasGuess suX6_X3_hasGuess ⟨by decide +kernel, by decide +kernel⟩ (Or.inl rfl) k1 rfl hlt (Nat.le_of_ble_eq_true rfl) h9
    · exact r_callU (As := []) (rest := []) (ci := 6) (x := yX3_hasGuess) (owner := "AskingPupil$Notes") moX3_hasGuess dX4_learn_18 mlX4_60 smX3_hasGuess imX3_hasGuess suX8_X3_hasGuess ⟨by decide +kernel, by decide +kernel⟩ (Or.inl rfl) k1 rfl hlt (Nat.le_of_ble_eq_true rfl) h9
theorem gX4_learn_21 {d : Nat} {Q : Option Value → Mem → Prop} {M : Mem} {a0 : Nat} {x1 : Int32} {sx0 : Int32} (k0 : mK M a0 = 6) {cnk1 : Nat} (hnk1 : NT cnk1) (k1 : mK M (mR M a0 3) = cnk1 + 4) (k2 : mK M (mR M a0 0) = 4) (k3 : mK M (mR M a0 6) = 7) (pf0 : sx0 = 0 → cnk1 = 4 → ClD d mdX6_advance [.ref (mR M a0 3)] M (fun r1 M1 => Wp d mdX4_learn 74 [(0, .ref a0), (1, .int x1)] (r1.toList ++ []) M1 Q)) (pf1 : sx0 = 0 → cnk1 = 6 → ClD d mdX8_advance [.ref (mR M a0 3)] M (fun r1 M1 => Wp d mdX4_learn 74 [(0, .ref a0), (1, .int x1)] (r1.toList ++ []) M1 Q)) (pf2 : ¬ sx0 = 0 → ClD d mdX5_firstUnlike [.ref (mR M a0 6), .ref (mR M (mR M a0 3) 4), .int (nI 0), .ref (mR M (mR M a0 0) 0), .int (nI 0)] M (fun r1 M1 => Wp d mdX4_learn 47 [(0, .ref a0), (1, .int x1)] (r1.toList ++ []) M1 Q)) : Wp d mdX4_learn 21 [(0, .ref a0), (1, .int x1)] [.int sx0] M Q := by
  refine r_if_eq (tgt := 67) dX4_learn_21 (by decide) (fun c0 => ?_) (fun c0 => ?_)
  · skip
    refine r_aload_n dX4_learn_67 rfl 0 rfl ?_
    refine r_getR ck2 dX4_learn_68 flX4_40 rfl k0 ?_
    rcases hnk1 with rfl | rfl
    · obtain ⟨e9, hlt, h9⟩ := (pf0 c0) rfl
      exact r_callU (As := []) (rest := []) (ci := 4) (x := ⟨"AskingPupil$Notes", "advance", "()I"⟩) (owner := "AskingPupil$Notes") moX6_advance dX4_learn_71 mlX4_81 smX3_advance imX6_advance suX6_X3_advance ⟨by decide +kernel, by decide +kernel⟩ (Or.inr (by decide +kernel)) k1 rfl hlt (Nat.le_of_ble_eq_true rfl) h9
    · obtain ⟨e9, hlt, h9⟩ := (pf1 c0) rfl
      exact r_callU (As := []) (rest := []) (ci := 6) (x := ⟨"AskingPupil$Notes", "advance", "()I"⟩) (owner := "AskingPupil$Notes") moX8_advance dX4_learn_71 mlX4_81 smX3_advance imX8_advance suX8_X3_advance ⟨by decide +kernel, by decide +kernel⟩ (Or.inr (by decide +kernel)) k1 rfl hlt (Nat.le_of_ble_eq_true rfl) h9
  · skip
    refine r_aload_n dX4_learn_24 rfl 0 rfl ?_
    refine r_getR ck2 dX4_learn_25 flX4_9 rfl k0 ?_
    refine r_aload_n dX4_learn_28 rfl 0 rfl ?_
    refine r_getR ck2 dX4_learn_29 flX4_40 rfl k0 ?_
    refine r_getR (ckN hnk1) dX4_learn_32 (flX4_64 hnk1) (by rcases hnk1 with rfl | rfl <;> rfl) k1 ?_
    refine r_iconst (v := (nI 0)) dX4_learn_35 rfl ?_
    refine r_aload_n dX4_learn_36 rfl 0 rfl ?_
    refine r_getR ck2 dX4_learn_37 flX4_20 rfl k0 ?_
    refine r_getR ck0 dX4_learn_40 flX4_68 rfl k2 ?_
    refine r_iconst (v := (nI 0)) dX4_learn_43 rfl ?_
    obtain ⟨e9, hlt, h9⟩ := (pf2 c0)
    exact r_callV (As := [.ref (mR M (mR M a0 3) 4), .int (nI 0), .ref (mR M (mR M a0 0) 0), .int (nI 0)]) (rest := []) (ci := 3) moX5_firstUnlike dX4_learn_44 mlX4_71 imX5_firstUnlike seX5_firstUnlike k3 rfl hlt (Nat.le_of_ble_eq_true rfl) h9
theorem gX4_learn_47 {d : Nat} {Q : Option Value → Mem → Prop} {M : Mem} {a0 : Nat} {x1 : Int32} {sw0 : Int64} (k0 : mK M a0 = 6) {cnk1 : Nat} (hnk1 : NT cnk1) (k1 : mK M (mR M a0 3) = cnk1 + 4) (pf0 : ¬ sw0 = (lN 0) → cnk1 = 4 → ClD d mdX6_lesson [.ref (mR M a0 3), .long sw0] M (fun r1 M1 => Wp d mdX4_learn 63 [(0, .ref a0), (1, .int x1)] (r1.toList ++ []) M1 Q)) (pf1 : ¬ sw0 = (lN 0) → cnk1 = 6 → ClD d mdX8_lesson [.ref (mR M a0 3), .long sw0] M (fun r1 M1 => Wp d mdX4_learn 63 [(0, .ref a0), (1, .int x1)] (r1.toList ++ []) M1 Q)) (pq2 : sw0 = (lN 0) → Q none M) : Wp d mdX4_learn 47 [(0, .ref a0), (1, .int x1)] [.long sw0] M Q := by
  refine r_lstore_n dX4_learn_47 rfl (by decide) (ls' := [(2, .long sw0), (0, .ref a0), (1, .int x1)]) rfl ?_
  refine r_lload_n dX4_learn_48 rfl 0 rfl ?_
  refine r_lconst (v := (lN 0)) dX4_learn_49 rfl ?_
  refine r_lif_ne (tgt := 55) dX4_learn_50 dX4_learn_51 (by decide) (fun c0 => ?_) (fun c0 => ?_)
  · skip
    refine r_aload_n dX4_learn_55 rfl 1 rfl ?_
    refine r_getR ck2 dX4_learn_56 flX4_40 rfl k0 ?_
    refine r_lload_n dX4_learn_59 rfl 0 rfl ?_
    refine r_sub [1, 2] (ls' := [(0, .ref a0), (1, .int x1)]) rfl ?_
    rcases hnk1 with rfl | rfl
    · obtain ⟨e9, hlt, h9⟩ := (pf0 c0) rfl
      exact r_callU (As := [.long sw0]) (rest := []) (ci := 4) (x := ⟨"AskingPupil$Notes", "lesson", "(J)I"⟩) (owner := "AskingPupil$Notes") moX6_lesson dX4_learn_60 mlX4_77 smX3_lesson imX6_lesson suX6_X3_lesson ⟨by decide +kernel, by decide +kernel⟩ (Or.inr (by decide +kernel)) k1 rfl hlt (Nat.le_of_ble_eq_true rfl) h9
    · obtain ⟨e9, hlt, h9⟩ := (pf1 c0) rfl
      exact r_callU (As := [.long sw0]) (rest := []) (ci := 6) (x := ⟨"AskingPupil$Notes", "lesson", "(J)I"⟩) (owner := "AskingPupil$Notes") moX8_lesson dX4_learn_60 mlX4_77 smX3_lesson imX8_lesson suX8_X3_lesson ⟨by decide +kernel, by decide +kernel⟩ (Or.inr (by decide +kernel)) k1 rfl hlt (Nat.le_of_ble_eq_true rfl) h9
  · skip
    exact r_ret none dX4_learn_54 rfl (pq2 c0)
theorem gX4_learn_63 {d : Nat} {Q : Option Value → Mem → Prop} {M : Mem} {a0 : Nat} {x1 : Int32} {sx0 : Int32}  (pw0 : Wp d mdX4_learn 7 [(0, .ref a0), (1, .int (x1 + (nI 1)))] [] M Q) : Wp d mdX4_learn 63 [(0, .ref a0), (1, .int x1)] [.int sx0] M Q := by
  refine r_pop dX4_learn_63 rfl ?_
  refine r_goto (tgt := 85) dX4_learn_64 (by decide) ?_
  refine r_iinc dX4_learn_85 1 rfl (v := x1 + (nI 1)) rfl (by decide) (ls' := [(1, .int (x1 + (nI 1))), (0, .ref a0)]) rfl ?_
  refine r_goto (tgt := 7) dX4_learn_88 (by decide) ?_
  refine r_sub [1, 0] (ls' := [(0, .ref a0), (1, .int (x1 + (nI 1)))]) rfl ?_
  exact pw0
theorem gX4_learn_74 {d : Nat} {Q : Option Value → Mem → Prop} {M : Mem} {a0 : Nat} {x1 : Int32} {sx0 : Int32} (k0 : mK M a0 = 6) (pw0 : Wp d mdX4_learn 7 [(0, .ref a0), (1, .int (x1 + (nI 1)))] [] (sI M a0 5 ((mI M a0 5) + (nI 1))) Q) : Wp d mdX4_learn 74 [(0, .ref a0), (1, .int x1)] [.int sx0] M Q := by
  refine r_pop dX4_learn_74 rfl ?_
  refine r_aload_n dX4_learn_75 rfl 0 rfl ?_
  refine r_dup dX4_learn_76 rfl ?_
  refine r_getI ck2 dX4_learn_77 flX4_57 rfl k0 ?_
  refine r_iconst (v := (nI 1)) dX4_learn_80 rfl ?_
  refine r_iadd dX4_learn_81 ?_
  refine r_putI ck2 dX4_learn_82 flX4_57 rfl (Or.inl rfl) k0 ?_
  refine r_iinc dX4_learn_85 1 rfl (v := x1 + (nI 1)) rfl (by decide) (ls' := [(1, .int (x1 + (nI 1))), (0, .ref a0)]) rfl ?_
  refine r_goto (tgt := 7) dX4_learn_88 (by decide) ?_
  refine r_sub [1, 0] (ls' := [(0, .ref a0), (1, .int (x1 + (nI 1)))]) rfl ?_
  exact pw0
-- X5_init
theorem gX5_init_0 {d : Nat} {Q : Option Value → Mem → Prop} {M : Mem} {a0 : Nat} (hd1 : 1 ≤ d) (k0 : mK M a0 = 7) (pw0 : Wp d mdX5_init 9 [(0, .ref a0)] [.ref (mC M + 2), .ref a0] (nwC M 2 64) Q) : Wp d mdX5_init 0 [(0, .ref a0)] [] M Q := by
  refine r_aload_n dX5_init_0 rfl 0 rfl ?_
  refine r_objI (ci := 3) dX5_init_1 mlX5_3 obI_i obI_c k0 hd1 (Nat.le_of_ble_eq_true rfl) ?_
  refine r_aload_n dX5_init_4 rfl 0 rfl ?_
  refine r_bipush (v := (nI 64)) dX5_init_5 rfl ?_
  refine r_newa dX5_init_7 (Or.inr (Or.inl rfl)) ac_long (by decide) (N := 64) (by decide) (by decide) ?_
  exact pw0
theorem gX5_init_9 {d : Nat} {Q : Option Value → Mem → Prop} {M : Mem} {a0 : Nat} {sa0 : Nat} {sa1 : Nat} (k0 : mK M sa1 = 7) (pw0 : Wp d mdX5_init 17 [(0, .ref a0)] [.ref (mC (sR M sa1 0 sa0) + 2), .ref a0] (nwC (sR M sa1 0 sa0) 1 64) Q) : Wp d mdX5_init 9 [(0, .ref a0)] [.ref sa0, .ref sa1] M Q := by
  refine r_putR ck3 dX5_init_9 flX5_11 rfl rfl (Or.inr ⟨rfl, rfl, rfl⟩) k0 ?_
  refine r_aload_n dX5_init_12 rfl 0 rfl ?_
  refine r_bipush (v := (nI 64)) dX5_init_13 rfl ?_
  refine r_newa dX5_init_15 (Or.inl rfl) ac_int (by decide) (N := 64) (by decide) (by decide) ?_
  exact pw0
theorem gX5_init_17 {d : Nat} {Q : Option Value → Mem → Prop} {M : Mem} {a0 : Nat} {sa0 : Nat} {sa1 : Nat} (k0 : mK M sa1 = 7) (pw0 : Wp d mdX5_init 25 [(0, .ref a0)] [.ref (mC (sR M sa1 1 sa0) + 2), .ref a0] (nwC (sR M sa1 1 sa0) 1 64) Q) : Wp d mdX5_init 17 [(0, .ref a0)] [.ref sa0, .ref sa1] M Q := by
  refine r_putR ck3 dX5_init_17 flX5_15 rfl rfl (Or.inr ⟨rfl, rfl, rfl⟩) k0 ?_
  refine r_aload_n dX5_init_20 rfl 0 rfl ?_
  refine r_bipush (v := (nI 64)) dX5_init_21 rfl ?_
  refine r_newa dX5_init_23 (Or.inl rfl) ac_int (by decide) (N := 64) (by decide) (by decide) ?_
  exact pw0
theorem gX5_init_25 {d : Nat} {Q : Option Value → Mem → Prop} {M : Mem} {a0 : Nat} {sa0 : Nat} {sa1 : Nat} (k0 : mK M sa1 = 7) (pw0 : Wp d mdX5_init 33 [] [.ref (mC (sR M sa1 3 sa0) + 2), .ref a0] (nwC (sR M sa1 3 sa0) 1 64) Q) : Wp d mdX5_init 25 [(0, .ref a0)] [.ref sa0, .ref sa1] M Q := by
  refine r_putR ck3 dX5_init_25 flX5_19 rfl rfl (Or.inl rfl) k0 ?_
  refine r_aload_n dX5_init_28 rfl 0 rfl ?_
  refine r_bipush (v := (nI 64)) dX5_init_29 rfl ?_
  refine r_newa dX5_init_31 (Or.inl rfl) ac_int (by decide) (N := 64) (by decide) (by decide) ?_
  refine r_sub [] (ls' := []) rfl ?_
  exact pw0
theorem gX5_init_33 {d : Nat} {Q : Option Value → Mem → Prop} {M : Mem} {sa0 : Nat} {sa1 : Nat} (k0 : mK M sa1 = 7) (pq0 : Q none (sR M sa1 4 sa0)) : Wp d mdX5_init 33 [] [.ref sa0, .ref sa1] M Q := by
  refine r_putR ck3 dX5_init_33 flX5_22 rfl rfl (Or.inl rfl) k0 ?_
  exact r_ret none dX5_init_36 rfl pq0
-- X5_firstUnlike
theorem gX5_firstUnlike_0 {d : Nat} {Q : Option Value → Mem → Prop} {M : Mem} {a0 : Nat} {a1 : Nat} {x2 : Int32} {a3 : Nat} {x4 : Int32} (k0 : mK M a0 = 7) (pf0 : ClD d mdJ7_fill_d0a16 [.ref (mR M a0 0), .long (lN 0)] M (fun r1 M1 => Wp d mdX5_firstUnlike 8 [(0, .ref a0), (1, .ref a1), (2, .int x2), (3, .ref a3), (4, .int x4)] (r1.toList ++ []) M1 Q)) : Wp d mdX5_firstUnlike 0 [(0, .ref a0), (1, .ref a1), (2, .int x2), (3, .ref a3), (4, .int x4)] [] M Q := by
  refine r_aload_n dX5_firstUnlike_0 rfl 0 rfl ?_
  refine r_getR ck3 dX5_firstUnlike_1 flX5_11 rfl k0 ?_
  refine r_lconst (v := (lN 0)) dX5_firstUnlike_4 rfl ?_
  obtain ⟨e9, hlt, h9⟩ := pf0
  exact r_callS (As := [.ref (mR M a0 0), .long (lN 0)]) (rest := []) moJ7_fill_d0a16 dX5_firstUnlike_5 mlX5_25 saJ7_fill_d0a16 rfl hlt (Nat.le_of_ble_eq_true rfl) h9
theorem gX5_firstUnlike_8 {d : Nat} {Q : Option Value → Mem → Prop} {M : Mem} {a0 : Nat} {a1 : Nat} {x2 : Int32} {a3 : Nat} {x4 : Int32} (k0 : mK M a0 = 7) (pf0 : ClD d mdX5_comeTo [.ref a0, .int x2, .int x4, .long (lN 1)] (sI M a0 2 (nI 0)) (fun r1 M1 => Wp d mdX5_firstUnlike 21 [(0, .ref a0), (1, .ref a1), (3, .ref a3)] (r1.toList ++ []) M1 Q)) : Wp d mdX5_firstUnlike 8 [(0, .ref a0), (1, .ref a1), (2, .int x2), (3, .ref a3), (4, .int x4)] [] M Q := by
  refine r_aload_n dX5_firstUnlike_8 rfl 0 rfl ?_
  refine r_iconst (v := (nI 0)) dX5_firstUnlike_9 rfl ?_
  refine r_putI ck3 dX5_firstUnlike_10 flX5_31 rfl (Or.inl rfl) k0 ?_
  refine r_aload_n dX5_firstUnlike_13 rfl 0 rfl ?_
  refine r_iload_n dX5_firstUnlike_14 rfl 2 rfl ?_
  refine r_iload dX5_firstUnlike_15 4 rfl ?_
  refine r_lconst (v := (lN 1)) dX5_firstUnlike_17 rfl ?_
  refine r_sub [0, 1, 3] (ls' := [(0, .ref a0), (1, .ref a1), (3, .ref a3)]) rfl ?_
  obtain ⟨e9, hlt, h9⟩ := pf0
  exact r_callV (As := [.int x2, .int x4, .long (lN 1)]) (rest := []) (ci := 3) moX5_comeTo dX5_firstUnlike_18 mlX5_35 imX5_comeTo seX5_comeTo k0 rfl hlt (Nat.le_of_ble_eq_true rfl) h9
theorem gX5_firstUnlike_21 {d : Nat} {Q : Option Value → Mem → Prop} {M : Mem} {a0 : Nat} {a1 : Nat} {a3 : Nat}  (pw0 : Wp d mdX5_firstUnlike 24 [(0, .ref a0), (1, .ref a1), (3, .ref a3), (5, .int (nI 0))] [] M Q) : Wp d mdX5_firstUnlike 21 [(0, .ref a0), (1, .ref a1), (3, .ref a3)] [] M Q := by
  refine r_iconst (v := (nI 0)) dX5_firstUnlike_21 rfl ?_
  refine r_istore dX5_firstUnlike_22 (by decide) (ls' := [(5, .int (nI 0)), (0, .ref a0), (1, .ref a1), (3, .ref a3)]) rfl ?_
  refine r_sub [1, 2, 3, 0] (ls' := [(0, .ref a0), (1, .ref a1), (3, .ref a3), (5, .int (nI 0))]) rfl ?_
  exact pw0
theorem gX5_firstUnlike_24 {d : Nat} {Q : Option Value → Mem → Prop} {M : Mem} {a0 : Nat} {a1 : Nat} {a3 : Nat} {x5 : Int32} (k0 : mK M a0 = 7) (k1 : mK M (mR M a0 1) = 1) (pq0 : (mI M a0 2) ≤ x5 → Q (some (.long (lN 0))) M) (pq1 : ¬ (mI M a0 2) ≤ x5 → (nI (mN M (mR M a0 1))) ≤ x5 → Q (some (.long (lN 0))) M) (pb2 : ¬ (mI M a0 2) ≤ x5 → ¬ (nI (mN M (mR M a0 1))) ≤ x5 → vp_in x5 (mN M (mR M a0 1))) (pf3 : ¬ (mI M a0 2) ≤ x5 → ¬ (nI (mN M (mR M a0 1))) ≤ x5 → ClD d mdX5_firstTo [.ref a0, .int ((mI M (mR M a0 1) x5.toNatClampNeg) / (nI 8)), .int ((mI M (mR M a0 1) x5.toNatClampNeg) - (mI M (mR M a0 1) x5.toNatClampNeg) / (nI 8) * (nI 8))] M (fun r1 M1 => Wp d mdX5_firstUnlike 74 [(0, .ref a0), (1, .ref a1), (3, .ref a3), (5, .int x5), (7, .int ((mI M (mR M a0 1) x5.toNatClampNeg) / (nI 8))), (8, .int ((mI M (mR M a0 1) x5.toNatClampNeg) - (mI M (mR M a0 1) x5.toNatClampNeg) / (nI 8) * (nI 8)))] (r1.toList ++ []) M1 Q)) : Wp d mdX5_firstUnlike 24 [(0, .ref a0), (1, .ref a1), (3, .ref a3), (5, .int x5)] [] M Q := by
  refine r_iload dX5_firstUnlike_24 3 rfl ?_
  refine r_aload_n dX5_firstUnlike_26 rfl 0 rfl ?_
  refine r_getI ck3 dX5_firstUnlike_27 flX5_31 rfl k0 ?_
  refine r_icmp_ge (tgt := 154) dX5_firstUnlike_30 (by decide) (fun c0 => ?_) (fun c0 => ?_)
  · skip
    refine r_lconst (v := (lN 0)) dX5_firstUnlike_154 rfl ?_
    exact r_ret (some (.long (lN 0))) dX5_firstUnlike_155 rfl (pq0 c0)
  · skip
    refine r_iload dX5_firstUnlike_33 3 rfl ?_
    refine r_aload_n dX5_firstUnlike_35 rfl 0 rfl ?_
    refine r_getR ck3 dX5_firstUnlike_36 flX5_15 rfl k0 ?_
    refine r_alen dX5_firstUnlike_39 (Or.inl k1) ?_
    refine r_icmp_ge (tgt := 154) dX5_firstUnlike_40 (by decide) (fun c1 => ?_) (fun c1 => ?_)
    · skip
      refine r_lconst (v := (lN 0)) dX5_firstUnlike_154 rfl ?_
      exact r_ret (some (.long (lN 0))) dX5_firstUnlike_155 rfl (pq1 c0 c1)
    · skip
      refine r_aload_n dX5_firstUnlike_43 rfl 0 rfl ?_
      refine r_getR ck3 dX5_firstUnlike_44 flX5_15 rfl k0 ?_
      refine r_iload dX5_firstUnlike_47 3 rfl ?_
      refine r_iald dX5_firstUnlike_49 k1 (pb2 c0 c1) ?_
      refine r_istore dX5_firstUnlike_50 (by decide) (ls' := [(6, .int (mI M (mR M a0 1) x5.toNatClampNeg)), (0, .ref a0), (1, .ref a1), (3, .ref a3), (5, .int x5)]) rfl ?_
      refine r_iload dX5_firstUnlike_52 0 rfl ?_
      refine r_bipush (v := (nI 8)) dX5_firstUnlike_54 rfl ?_
      refine r_idiv dX5_firstUnlike_56 (by decide) ?_
      refine r_istore dX5_firstUnlike_57 (by decide) (ls' := [(7, .int ((mI M (mR M a0 1) x5.toNatClampNeg) / (nI 8))), (6, .int (mI M (mR M a0 1) x5.toNatClampNeg)), (0, .ref a0), (1, .ref a1), (3, .ref a3), (5, .int x5)]) rfl ?_
      refine r_iload dX5_firstUnlike_59 1 rfl ?_
      refine r_bipush (v := (nI 8)) dX5_firstUnlike_61 rfl ?_
      refine r_irem dX5_firstUnlike_63 (by decide) ?_
      refine r_istore dX5_firstUnlike_64 (by decide) (ls' := [(8, .int ((mI M (mR M a0 1) x5.toNatClampNeg) - (mI M (mR M a0 1) x5.toNatClampNeg) / (nI 8) * (nI 8))), (7, .int ((mI M (mR M a0 1) x5.toNatClampNeg) / (nI 8))), (6, .int (mI M (mR M a0 1) x5.toNatClampNeg)), (0, .ref a0), (1, .ref a1), (3, .ref a3), (5, .int x5)]) rfl ?_
      refine r_aload_n dX5_firstUnlike_66 rfl 3 rfl ?_
      refine r_iload dX5_firstUnlike_67 1 rfl ?_
      refine r_iload dX5_firstUnlike_69 0 rfl ?_
      refine r_sub [3, 4, 5, 6, 1, 0] (ls' := [(0, .ref a0), (1, .ref a1), (3, .ref a3), (5, .int x5), (7, .int ((mI M (mR M a0 1) x5.toNatClampNeg) / (nI 8))), (8, .int ((mI M (mR M a0 1) x5.toNatClampNeg) - (mI M (mR M a0 1) x5.toNatClampNeg) / (nI 8) * (nI 8)))]) rfl ?_
      obtain ⟨e9, hlt, h9⟩ := (pf3 c0 c1)
      exact r_callV (As := [.int ((mI M (mR M a0 1) x5.toNatClampNeg) / (nI 8)), .int ((mI M (mR M a0 1) x5.toNatClampNeg) - (mI M (mR M a0 1) x5.toNatClampNeg) / (nI 8) * (nI 8))]) (rest := []) (ci := 3) moX5_firstTo dX5_firstUnlike_71 mlX5_39 imX5_firstTo seX5_firstTo k0 rfl hlt (Nat.le_of_ble_eq_true rfl) h9
theorem gX5_firstUnlike_74 {d : Nat} {Q : Option Value → Mem → Prop} {M : Mem} {a0 : Nat} {a1 : Nat} {a3 : Nat} {x5 : Int32} {x7 : Int32} {x8 : Int32} {sw0 : Int64} (k0 : mK M a1 = 5) (pf0 : ClD d mdX2_outputOf [.ref a1, .int x7] M (fun r1 M1 => Wp d mdX5_firstUnlike 82 [(0, .ref a0), (1, .ref a1), (3, .ref a3), (5, .int x5), (7, .int x7), (8, .int x8), (9, .long sw0)] (r1.toList ++ []) M1 Q)) : Wp d mdX5_firstUnlike 74 [(0, .ref a0), (1, .ref a1), (3, .ref a3), (5, .int x5), (7, .int x7), (8, .int x8)] [.long sw0] M Q := by
  refine r_lstore dX5_firstUnlike_74 (by decide) (ls' := [(9, .long sw0), (0, .ref a0), (1, .ref a1), (3, .ref a3), (5, .int x5), (7, .int x7), (8, .int x8)]) rfl ?_
  refine r_aload_n dX5_firstUnlike_76 rfl 2 rfl ?_
  refine r_iload dX5_firstUnlike_77 5 rfl ?_
  refine r_sub [1, 2, 3, 4, 5, 6, 0] (ls' := [(0, .ref a0), (1, .ref a1), (3, .ref a3), (5, .int x5), (7, .int x7), (8, .int x8), (9, .long sw0)]) rfl ?_
  obtain ⟨e9, hlt, h9⟩ := pf0
  exact r_callV (As := [.int x7]) (rest := []) (ci := 1) moX2_outputOf dX5_firstUnlike_79 mlX5_43 imX2_outputOf seX2_outputOf k0 rfl hlt (Nat.le_of_ble_eq_true rfl) h9
theorem gX5_firstUnlike_82 {d : Nat} {Q : Option Value → Mem → Prop} {M : Mem} {a0 : Nat} {a1 : Nat} {a3 : Nat} {x5 : Int32} {x7 : Int32} {x8 : Int32} {w9 : Int64} {sx0 : Int32} (k0 : mK M a3 = 5) (pf0 : ClD d mdX2_outputOf [.ref a3, .int x8] M (fun r1 M1 => Wp d mdX5_firstUnlike 88 [(0, .ref a0), (1, .ref a1), (3, .ref a3), (5, .int x5), (7, .int x7), (8, .int x8), (9, .long w9)] (r1.toList ++ [.int sx0]) M1 Q)) : Wp d mdX5_firstUnlike 82 [(0, .ref a0), (1, .ref a1), (3, .ref a3), (5, .int x5), (7, .int x7), (8, .int x8), (9, .long w9)] [.int sx0] M Q := by
  refine r_aload_n dX5_firstUnlike_82 rfl 2 rfl ?_
  refine r_iload dX5_firstUnlike_83 5 rfl ?_
  obtain ⟨e9, hlt, h9⟩ := pf0
  exact r_callV (As := [.int x8]) (rest := [.int sx0]) (ci := 1) moX2_outputOf dX5_firstUnlike_85 mlX5_43 imX2_outputOf seX2_outputOf k0 rfl hlt (Nat.le_of_ble_eq_true rfl) h9
theorem gX5_firstUnlike_88 {d : Nat} {Q : Option Value → Mem → Prop} {M : Mem} {a0 : Nat} {a1 : Nat} {a3 : Nat} {x5 : Int32} {x7 : Int32} {x8 : Int32} {w9 : Int64} {sx0 : Int32} {sx1 : Int32}  (pw0 : sx1 = sx0 → Wp d mdX5_firstUnlike 97 [(0, .ref a0), (1, .ref a1), (3, .ref a3), (5, .int x5), (7, .int x7), (8, .int x8), (9, .long w9), (11, .int (nI 0))] [] M Q) (pq1 : ¬ sx1 = sx0 → Q (some (.long w9)) M) : Wp d mdX5_firstUnlike 88 [(0, .ref a0), (1, .ref a1), (3, .ref a3), (5, .int x5), (7, .int x7), (8, .int x8), (9, .long w9)] [.int sx0, .int sx1] M Q := by
  refine r_icmp_eq (tgt := 94) dX5_firstUnlike_88 (by decide) (fun c0 => ?_) (fun c0 => ?_)
  · skip
    refine r_iconst (v := (nI 0)) dX5_firstUnlike_94 rfl ?_
    refine r_istore dX5_firstUnlike_95 (by decide) (ls' := [(11, .int (nI 0)), (0, .ref a0), (1, .ref a1), (3, .ref a3), (5, .int x5), (7, .int x7), (8, .int x8), (9, .long w9)]) rfl ?_
    refine r_sub [1, 2, 3, 4, 5, 6, 7, 0] (ls' := [(0, .ref a0), (1, .ref a1), (3, .ref a3), (5, .int x5), (7, .int x7), (8, .int x8), (9, .long w9), (11, .int (nI 0))]) rfl ?_
    exact (pw0 c0)
  · skip
    refine r_lload dX5_firstUnlike_91 6 rfl ?_
    exact r_ret (some (.long w9)) dX5_firstUnlike_93 rfl (pq1 c0)
theorem gX5_firstUnlike_97 {d : Nat} {Q : Option Value → Mem → Prop} {M : Mem} {a0 : Nat} {a1 : Nat} {a3 : Nat} {x5 : Int32} {x7 : Int32} {x8 : Int32} {w9 : Int64} {x11 : Int32} (k0 : mK M a1 = 5) (pw0 : (mI M a1 1) ≤ x11 → Wp d mdX5_firstUnlike 24 [(0, .ref a0), (1, .ref a1), (3, .ref a3), (5, .int (x5 + (nI 1)))] [] M Q) (pw1 : ¬ (mI M a1 1) ≤ x11 → (lN 1073741824) ≤ w9 → Wp d mdX5_firstUnlike 24 [(0, .ref a0), (1, .ref a1), (3, .ref a3), (5, .int (x5 + (nI 1)))] [] M Q) (pf2 : ¬ (mI M a1 1) ≤ x11 → ¬ (lN 1073741824) ≤ w9 → ClD d mdX2_nextOf [.ref a1, .int x7, .int x11] M (fun r1 M1 => Wp d mdX5_firstUnlike 124 [(0, .ref a0), (1, .ref a1), (3, .ref a3), (5, .int x5), (7, .int x7), (8, .int x8), (9, .long w9), (11, .int x11)] (r1.toList ++ [.ref a0]) M1 Q)) : Wp d mdX5_firstUnlike 97 [(0, .ref a0), (1, .ref a1), (3, .ref a3), (5, .int x5), (7, .int x7), (8, .int x8), (9, .long w9), (11, .int x11)] [] M Q := by
  refine r_iload dX5_firstUnlike_97 7 rfl ?_
  refine r_aload_n dX5_firstUnlike_99 rfl 1 rfl ?_
  refine r_getI ck1 dX5_firstUnlike_100 flX5_49 rfl k0 ?_
  refine r_icmp_ge (tgt := 148) dX5_firstUnlike_103 (by decide) (fun c0 => ?_) (fun c0 => ?_)
  · skip
    refine r_iinc dX5_firstUnlike_148 3 rfl (v := x5 + (nI 1)) rfl (by decide) (ls' := [(5, .int (x5 + (nI 1))), (0, .ref a0), (1, .ref a1), (3, .ref a3), (7, .int x7), (8, .int x8), (9, .long w9), (11, .int x11)]) rfl ?_
    refine r_goto (tgt := 24) dX5_firstUnlike_151 (by decide) ?_
    refine r_sub [1, 2, 3, 0] (ls' := [(0, .ref a0), (1, .ref a1), (3, .ref a3), (5, .int (x5 + (nI 1)))]) rfl ?_
    exact (pw0 c0)
  · skip
    refine r_lload dX5_firstUnlike_106 6 rfl ?_
    refine r_ldc2 dX5_firstUnlike_108 kwX5_52 ?_
    refine r_lif_ge (tgt := 148) dX5_firstUnlike_111 dX5_firstUnlike_112 (by decide) (fun c1 => ?_) (fun c1 => ?_)
    · skip
      refine r_iinc dX5_firstUnlike_148 3 rfl (v := x5 + (nI 1)) rfl (by decide) (ls' := [(5, .int (x5 + (nI 1))), (0, .ref a0), (1, .ref a1), (3, .ref a3), (7, .int x7), (8, .int x8), (9, .long w9), (11, .int x11)]) rfl ?_
      refine r_goto (tgt := 24) dX5_firstUnlike_151 (by decide) ?_
      refine r_sub [1, 2, 3, 0] (ls' := [(0, .ref a0), (1, .ref a1), (3, .ref a3), (5, .int (x5 + (nI 1)))]) rfl ?_
      exact (pw1 c0 c1)
    · skip
      refine r_aload_n dX5_firstUnlike_115 rfl 0 rfl ?_
      refine r_aload_n dX5_firstUnlike_116 rfl 1 rfl ?_
      refine r_iload dX5_firstUnlike_117 4 rfl ?_
      refine r_iload dX5_firstUnlike_119 7 rfl ?_
      obtain ⟨e9, hlt, h9⟩ := (pf2 c0 c1)
      exact r_callV (As := [.int x7, .int x11]) (rest := [.ref a0]) (ci := 1) moX2_nextOf dX5_firstUnlike_121 mlX5_54 imX2_nextOf seX2_nextOf k0 rfl hlt (Nat.le_of_ble_eq_true rfl) h9
theorem gX5_firstUnlike_124 {d : Nat} {Q : Option Value → Mem → Prop} {M : Mem} {a0 : Nat} {a1 : Nat} {a3 : Nat} {x5 : Int32} {x7 : Int32} {x8 : Int32} {w9 : Int64} {x11 : Int32} {sx0 : Int32} {sa1 : Nat} (k0 : mK M a3 = 5) (pf0 : ClD d mdX2_nextOf [.ref a3, .int x8, .int x11] M (fun r1 M1 => Wp d mdX5_firstUnlike 132 [(0, .ref a0), (1, .ref a1), (3, .ref a3), (5, .int x5), (7, .int x7), (8, .int x8), (9, .long w9), (11, .int x11)] (r1.toList ++ [.int sx0, .ref sa1]) M1 Q)) : Wp d mdX5_firstUnlike 124 [(0, .ref a0), (1, .ref a1), (3, .ref a3), (5, .int x5), (7, .int x7), (8, .int x8), (9, .long w9), (11, .int x11)] [.int sx0, .ref sa1] M Q := by
  refine r_aload_n dX5_firstUnlike_124 rfl 2 rfl ?_
  refine r_iload dX5_firstUnlike_125 5 rfl ?_
  refine r_iload dX5_firstUnlike_127 7 rfl ?_
  obtain ⟨e9, hlt, h9⟩ := pf0
  exact r_callV (As := [.int x8, .int x11]) (rest := [.int sx0, .ref sa1]) (ci := 1) moX2_nextOf dX5_firstUnlike_129 mlX5_54 imX2_nextOf seX2_nextOf k0 rfl hlt (Nat.le_of_ble_eq_true rfl) h9
theorem gX5_firstUnlike_132 {d : Nat} {Q : Option Value → Mem → Prop} {M : Mem} {a0 : Nat} {a1 : Nat} {a3 : Nat} {x5 : Int32} {x7 : Int32} {x8 : Int32} {w9 : Int64} {x11 : Int32} {sx0 : Int32} {sx1 : Int32} {sa2 : Nat}  (pf0 : ClD d mdX1_then [.long w9, .int x11] M (fun r1 M1 => Wp d mdX5_firstUnlike 139 [(0, .ref a0), (1, .ref a1), (3, .ref a3), (5, .int x5), (7, .int x7), (8, .int x8), (9, .long w9), (11, .int x11)] (r1.toList ++ [.int sx0, .int sx1, .ref sa2]) M1 Q)) : Wp d mdX5_firstUnlike 132 [(0, .ref a0), (1, .ref a1), (3, .ref a3), (5, .int x5), (7, .int x7), (8, .int x8), (9, .long w9), (11, .int x11)] [.int sx0, .int sx1, .ref sa2] M Q := by
  refine r_lload dX5_firstUnlike_132 6 rfl ?_
  refine r_iload dX5_firstUnlike_134 7 rfl ?_
  obtain ⟨e9, hlt, h9⟩ := pf0
  exact r_callS (As := [.long w9, .int x11]) (rest := [.int sx0, .int sx1, .ref sa2]) moX1_then dX5_firstUnlike_136 mlX5_58 saX1_then rfl hlt (Nat.le_of_ble_eq_true rfl) h9
theorem gX5_firstUnlike_139 {d : Nat} {Q : Option Value → Mem → Prop} {M : Mem} {a0 : Nat} {a1 : Nat} {a3 : Nat} {x5 : Int32} {x7 : Int32} {x8 : Int32} {w9 : Int64} {x11 : Int32} {sw0 : Int64} {sx1 : Int32} {sx2 : Int32} {sa3 : Nat} (k0 : mK M sa3 = 7) (pf0 : ClD d mdX5_comeTo [.ref sa3, .int sx2, .int sx1, .long sw0] M (fun r1 M1 => Wp d mdX5_firstUnlike 142 [(0, .ref a0), (1, .ref a1), (3, .ref a3), (5, .int x5), (7, .int x7), (8, .int x8), (9, .long w9), (11, .int x11)] (r1.toList ++ []) M1 Q)) : Wp d mdX5_firstUnlike 139 [(0, .ref a0), (1, .ref a1), (3, .ref a3), (5, .int x5), (7, .int x7), (8, .int x8), (9, .long w9), (11, .int x11)] [.long sw0, .int sx1, .int sx2, .ref sa3] M Q := by
  obtain ⟨e9, hlt, h9⟩ := pf0
  exact r_callV (As := [.int sx2, .int sx1, .long sw0]) (rest := []) (ci := 3) moX5_comeTo dX5_firstUnlike_139 mlX5_35 imX5_comeTo seX5_comeTo k0 rfl hlt (Nat.le_of_ble_eq_true rfl) h9
theorem gX5_firstUnlike_142 {d : Nat} {Q : Option Value → Mem → Prop} {M : Mem} {a0 : Nat} {a1 : Nat} {a3 : Nat} {x5 : Int32} {x7 : Int32} {x8 : Int32} {w9 : Int64} {x11 : Int32}  (pw0 : Wp d mdX5_firstUnlike 97 [(0, .ref a0), (1, .ref a1), (3, .ref a3), (5, .int x5), (7, .int x7), (8, .int x8), (9, .long w9), (11, .int (x11 + (nI 1)))] [] M Q) : Wp d mdX5_firstUnlike 142 [(0, .ref a0), (1, .ref a1), (3, .ref a3), (5, .int x5), (7, .int x7), (8, .int x8), (9, .long w9), (11, .int x11)] [] M Q := by
  refine r_iinc dX5_firstUnlike_142 7 rfl (v := x11 + (nI 1)) rfl (by decide) (ls' := [(11, .int (x11 + (nI 1))), (0, .ref a0), (1, .ref a1), (3, .ref a3), (5, .int x5), (7, .int x7), (8, .int x8), (9, .long w9)]) rfl ?_
  refine r_goto (tgt := 97) dX5_firstUnlike_145 (by decide) ?_
  refine r_sub [1, 2, 3, 4, 5, 6, 7, 0] (ls' := [(0, .ref a0), (1, .ref a1), (3, .ref a3), (5, .int x5), (7, .int x7), (8, .int x8), (9, .long w9), (11, .int (x11 + (nI 1)))]) rfl ?_
  exact pw0
-- X5_walk
theorem gX5_walk_0 {d : Nat} {Q : Option Value → Mem → Prop} {M : Mem} {a0 : Nat} {a1 : Nat} (k0 : mK M a0 = 7) (pf0 : ClD d mdX5_firstUnlike [.ref a0, .ref a1, .int (nI 0), .ref a1, .int (nI 0)] M (fun r1 M1 => Wp d mdX5_walk 8 [] (r1.toList ++ []) M1 Q)) : Wp d mdX5_walk 0 [(0, .ref a0), (1, .ref a1)] [] M Q := by
  refine r_aload_n dX5_walk_0 rfl 0 rfl ?_
  refine r_aload_n dX5_walk_1 rfl 1 rfl ?_
  refine r_iconst (v := (nI 0)) dX5_walk_2 rfl ?_
  refine r_aload_n dX5_walk_3 rfl 1 rfl ?_
  refine r_iconst (v := (nI 0)) dX5_walk_4 rfl ?_
  refine r_sub [] (ls' := []) rfl ?_
  obtain ⟨e9, hlt, h9⟩ := pf0
  exact r_callV (As := [.ref a1, .int (nI 0), .ref a1, .int (nI 0)]) (rest := []) (ci := 3) moX5_firstUnlike dX5_walk_5 mlX5_64 imX5_firstUnlike seX5_firstUnlike k0 rfl hlt (Nat.le_of_ble_eq_true rfl) h9
theorem gX5_walk_8 {d : Nat} {Q : Option Value → Mem → Prop} {M : Mem} {sw0 : Int64}  (pq0 : Q none M) : Wp d mdX5_walk 8 [] [.long sw0] M Q := by
  refine r_pop2 dX5_walk_8 rfl ?_
  exact r_ret none dX5_walk_9 rfl pq0
-- X5_firstTo
theorem gX5_firstTo_0 {d : Nat} {Q : Option Value → Mem → Prop} {M : Mem} {a0 : Nat} {x1 : Int32} {x2 : Int32}  (pf0 : ClD d mdX5_pairOf [.int x1, .int x2] M (fun r1 M1 => Wp d mdX5_firstTo 5 [(0, .ref a0)] (r1.toList ++ []) M1 Q)) : Wp d mdX5_firstTo 0 [(0, .ref a0), (1, .int x1), (2, .int x2)] [] M Q := by
  refine r_iload_n dX5_firstTo_0 rfl 1 rfl ?_
  refine r_iload_n dX5_firstTo_1 rfl 2 rfl ?_
  refine r_sub [0] (ls' := [(0, .ref a0)]) rfl ?_
  obtain ⟨e9, hlt, h9⟩ := pf0
  exact r_callS (As := [.int x1, .int x2]) (rest := []) moX5_pairOf dX5_firstTo_2 mlX5_68 saX5_pairOf rfl hlt (Nat.le_of_ble_eq_true rfl) h9
theorem gX5_firstTo_5 {d : Nat} {Q : Option Value → Mem → Prop} {M : Mem} {a0 : Nat} {sx0 : Int32} (k0 : mK M a0 = 7) (k1 : mK M (mR M a0 0) = 2) (pq0 : sx0 < 0 → Q (some (.long (lN 0))) M) (pb1 : ¬ sx0 < 0 → sx0 < (nI (mN M (mR M a0 0))) → vp_in sx0 (mN M (mR M a0 0))) (pq2 : ¬ sx0 < 0 → sx0 < (nI (mN M (mR M a0 0))) → Q (some (.long (mJ M (mR M a0 0) sx0.toNatClampNeg))) M) (pq3 : ¬ sx0 < 0 → ¬ sx0 < (nI (mN M (mR M a0 0))) → Q (some (.long (lN 0))) M) : Wp d mdX5_firstTo 5 [(0, .ref a0)] [.int sx0] M Q := by
  refine r_istore_n dX5_firstTo_5 rfl (by decide) (ls' := [(3, .int sx0), (0, .ref a0)]) rfl ?_
  refine r_iload_n dX5_firstTo_6 rfl 0 rfl ?_
  refine r_if_lt (tgt := 19) dX5_firstTo_7 (by decide) (fun c0 => ?_) (fun c0 => ?_)
  · skip
    refine r_lconst (v := (lN 0)) dX5_firstTo_19 rfl ?_
    refine r_goto (tgt := 29) dX5_firstTo_20 (by decide) ?_
    exact r_ret (some (.long (lN 0))) dX5_firstTo_29 rfl (pq0 c0)
  · skip
    refine r_iload_n dX5_firstTo_10 rfl 0 rfl ?_
    refine r_aload_n dX5_firstTo_11 rfl 1 rfl ?_
    refine r_getR ck3 dX5_firstTo_12 flX5_11 rfl k0 ?_
    refine r_alen dX5_firstTo_15 (Or.inr (Or.inl k1)) ?_
    refine r_icmp_lt (tgt := 23) dX5_firstTo_16 (by decide) (fun c1 => ?_) (fun c1 => ?_)
    · skip
      refine r_aload_n dX5_firstTo_23 rfl 1 rfl ?_
      refine r_getR ck3 dX5_firstTo_24 flX5_11 rfl k0 ?_
      refine r_iload_n dX5_firstTo_27 rfl 0 rfl ?_
      refine r_lald dX5_firstTo_28 k1 (pb1 c0 c1) ?_
      exact r_ret (some (.long (mJ M (mR M a0 0) sx0.toNatClampNeg))) dX5_firstTo_29 rfl (pq2 c0 c1)
    · skip
      refine r_lconst (v := (lN 0)) dX5_firstTo_19 rfl ?_
      refine r_goto (tgt := 29) dX5_firstTo_20 (by decide) ?_
      exact r_ret (some (.long (lN 0))) dX5_firstTo_29 rfl (pq3 c0 c1)
-- X5_comeTo
theorem gX5_comeTo_0 {d : Nat} {Q : Option Value → Mem → Prop} {M : Mem} {a0 : Nat} {x1 : Int32} {x2 : Int32} {w3 : Int64}  (pf0 : ClD d mdX5_pairOf [.int x1, .int x2] M (fun r1 M1 => Wp d mdX5_comeTo 5 [(0, .ref a0), (3, .long w3)] (r1.toList ++ []) M1 Q)) : Wp d mdX5_comeTo 0 [(0, .ref a0), (1, .int x1), (2, .int x2), (3, .long w3)] [] M Q := by
  refine r_iload_n dX5_comeTo_0 rfl 1 rfl ?_
  refine r_iload_n dX5_comeTo_1 rfl 2 rfl ?_
  refine r_sub [0, 3] (ls' := [(0, .ref a0), (3, .long w3)]) rfl ?_
  obtain ⟨e9, hlt, h9⟩ := pf0
  exact r_callS (As := [.int x1, .int x2]) (rest := []) moX5_pairOf dX5_comeTo_2 mlX5_68 saX5_pairOf rfl hlt (Nat.le_of_ble_eq_true rfl) h9
theorem gX5_comeTo_5 {d : Nat} {Q : Option Value → Mem → Prop} {M : Mem} {a0 : Nat} {w3 : Int64} {sx0 : Int32} (k0 : mK M a0 = 7) (k1 : mK M (mR M a0 0) = 2) (k2 : mK M (mR (sJ M (mR M a0 0) sx0.toNatClampNeg w3) a0 1) = 1) (pq0 : sx0 < 0 → Q none M) (pq1 : ¬ sx0 < 0 → (nI (mN M (mR M a0 0))) ≤ sx0 → Q none M) (pb2 : ¬ sx0 < 0 → ¬ (nI (mN M (mR M a0 0))) ≤ sx0 → vp_in sx0 (mN M (mR M a0 0))) (pb3 : ¬ sx0 < 0 → ¬ (nI (mN M (mR M a0 0))) ≤ sx0 → (mJ M (mR M a0 0) sx0.toNatClampNeg) = (lN 0) → vp_in sx0 (mN M (mR M a0 0))) (pq4 : ¬ sx0 < 0 → ¬ (nI (mN M (mR M a0 0))) ≤ sx0 → (mJ M (mR M a0 0) sx0.toNatClampNeg) = (lN 0) → (nI (mN (sJ M (mR M a0 0) sx0.toNatClampNeg w3) (mR (sJ M (mR M a0 0) sx0.toNatClampNeg w3) a0 1))) ≤ (mI (sJ M (mR M a0 0) sx0.toNatClampNeg w3) a0 2) → Q none (sJ M (mR M a0 0) sx0.toNatClampNeg w3)) (pb5 : ¬ sx0 < 0 → ¬ (nI (mN M (mR M a0 0))) ≤ sx0 → (mJ M (mR M a0 0) sx0.toNatClampNeg) = (lN 0) → ¬ (nI (mN (sJ M (mR M a0 0) sx0.toNatClampNeg w3) (mR (sJ M (mR M a0 0) sx0.toNatClampNeg w3) a0 1))) ≤ (mI (sJ M (mR M a0 0) sx0.toNatClampNeg w3) a0 2) → vp_in (mI (sJ M (mR M a0 0) sx0.toNatClampNeg w3) a0 2) (mN (sI (sJ M (mR M a0 0) sx0.toNatClampNeg w3) a0 2 ((mI (sJ M (mR M a0 0) sx0.toNatClampNeg w3) a0 2) + (nI 1))) (mR (sJ M (mR M a0 0) sx0.toNatClampNeg w3) a0 1))) (pq6 : ¬ sx0 < 0 → ¬ (nI (mN M (mR M a0 0))) ≤ sx0 → (mJ M (mR M a0 0) sx0.toNatClampNeg) = (lN 0) → ¬ (nI (mN (sJ M (mR M a0 0) sx0.toNatClampNeg w3) (mR (sJ M (mR M a0 0) sx0.toNatClampNeg w3) a0 1))) ≤ (mI (sJ M (mR M a0 0) sx0.toNatClampNeg w3) a0 2) → Q none (sI (sI (sJ M (mR M a0 0) sx0.toNatClampNeg w3) a0 2 ((mI (sJ M (mR M a0 0) sx0.toNatClampNeg w3) a0 2) + (nI 1))) (mR (sJ M (mR M a0 0) sx0.toNatClampNeg w3) a0 1) (mI (sJ M (mR M a0 0) sx0.toNatClampNeg w3) a0 2).toNatClampNeg sx0)) (pq7 : ¬ sx0 < 0 → ¬ (nI (mN M (mR M a0 0))) ≤ sx0 → ¬ (mJ M (mR M a0 0) sx0.toNatClampNeg) = (lN 0) → Q none M) : Wp d mdX5_comeTo 5 [(0, .ref a0), (3, .long w3)] [.int sx0] M Q := by
  refine r_istore dX5_comeTo_5 (by decide) (ls' := [(5, .int sx0), (0, .ref a0), (3, .long w3)]) rfl ?_
  refine r_iload dX5_comeTo_7 0 rfl ?_
  refine r_if_lt (tgt := 34) dX5_comeTo_9 (by decide) (fun c0 => ?_) (fun c0 => ?_)
  · skip
    exact r_ret none dX5_comeTo_34 rfl (pq0 c0)
  · skip
    refine r_iload dX5_comeTo_12 0 rfl ?_
    refine r_aload_n dX5_comeTo_14 rfl 1 rfl ?_
    refine r_getR ck3 dX5_comeTo_15 flX5_11 rfl k0 ?_
    refine r_alen dX5_comeTo_18 (Or.inr (Or.inl k1)) ?_
    refine r_icmp_ge (tgt := 34) dX5_comeTo_19 (by decide) (fun c1 => ?_) (fun c1 => ?_)
    · skip
      exact r_ret none dX5_comeTo_34 rfl (pq1 c0 c1)
    · skip
      refine r_aload_n dX5_comeTo_22 rfl 1 rfl ?_
      refine r_getR ck3 dX5_comeTo_23 flX5_11 rfl k0 ?_
      refine r_iload dX5_comeTo_26 0 rfl ?_
      refine r_lald dX5_comeTo_28 k1 (pb2 c0 c1) ?_
      refine r_lconst (v := (lN 0)) dX5_comeTo_29 rfl ?_
      refine r_lif_eq (tgt := 35) dX5_comeTo_30 dX5_comeTo_31 (by decide) (fun c2 => ?_) (fun c2 => ?_)
      · skip
        refine r_aload_n dX5_comeTo_35 rfl 1 rfl ?_
        refine r_getR ck3 dX5_comeTo_36 flX5_11 rfl k0 ?_
        refine r_iload dX5_comeTo_39 0 rfl ?_
        refine r_lload_n dX5_comeTo_41 rfl 2 rfl ?_
        refine r_last dX5_comeTo_42 k1 (pb3 c0 c1 c2) ?_
        refine r_aload_n dX5_comeTo_43 rfl 1 rfl ?_
        refine r_getI ck3 dX5_comeTo_44 flX5_31 rfl k0 ?_
        refine r_aload_n dX5_comeTo_47 rfl 1 rfl ?_
        refine r_getR ck3 dX5_comeTo_48 flX5_15 rfl k0 ?_
        refine r_alen dX5_comeTo_51 (Or.inl k2) ?_
        refine r_icmp_ge (tgt := 73) dX5_comeTo_52 (by decide) (fun c3 => ?_) (fun c3 => ?_)
        · skip
          exact r_ret none dX5_comeTo_73 rfl (pq4 c0 c1 c2 c3)
        · skip
          refine r_aload_n dX5_comeTo_55 rfl 1 rfl ?_
          refine r_getR ck3 dX5_comeTo_56 flX5_15 rfl k0 ?_
          refine r_aload_n dX5_comeTo_59 rfl 1 rfl ?_
          refine r_dup dX5_comeTo_60 rfl ?_
          refine r_getI ck3 dX5_comeTo_61 flX5_31 rfl k0 ?_
          refine r_dup_x1 dX5_comeTo_64 rfl rfl ?_
          refine r_iconst (v := (nI 1)) dX5_comeTo_65 rfl ?_
          refine r_iadd dX5_comeTo_66 ?_
          refine r_putI ck3 dX5_comeTo_67 flX5_31 rfl (Or.inl rfl) k0 ?_
          refine r_iload dX5_comeTo_70 0 rfl ?_
          refine r_iast dX5_comeTo_72 k2 (pb5 c0 c1 c2 c3) ?_
          exact r_ret none dX5_comeTo_73 rfl (pq6 c0 c1 c2 c3)
      · skip
        exact r_ret none dX5_comeTo_34 rfl (pq7 c0 c1 c2)
-- X5_pairOf
theorem gX5_pairOf_0 {d : Nat} {Q : Option Value → Mem → Prop} {M : Mem} {x0 : Int32} {x1 : Int32}  (pq0 : x0 < 0 → Q (some (.int (-1 : Int32))) M) (pq1 : ¬ x0 < 0 → (nI 8) ≤ x0 → Q (some (.int (-1 : Int32))) M) (pq2 : ¬ x0 < 0 → ¬ (nI 8) ≤ x0 → x1 < 0 → Q (some (.int (-1 : Int32))) M) (pq3 : ¬ x0 < 0 → ¬ (nI 8) ≤ x0 → ¬ x1 < 0 → x1 < (nI 8) → Q (some (.int ((x0 * (nI 8)) + x1))) M) (pq4 : ¬ x0 < 0 → ¬ (nI 8) ≤ x0 → ¬ x1 < 0 → ¬ x1 < (nI 8) → Q (some (.int (-1 : Int32))) M) : Wp d mdX5_pairOf 0 [(0, .int x0), (1, .int x1)] [] M Q := by
  refine r_iload_n dX5_pairOf_0 rfl 0 rfl ?_
  refine r_if_lt (tgt := 20) dX5_pairOf_1 (by decide) (fun c0 => ?_) (fun c0 => ?_)
  · skip
    refine r_iconst (v := (-1)) dX5_pairOf_20 rfl ?_
    exact r_ret (some (.int (-1 : Int32))) dX5_pairOf_21 rfl (pq0 c0)
  · skip
    refine r_iload_n dX5_pairOf_4 rfl 0 rfl ?_
    refine r_bipush (v := (nI 8)) dX5_pairOf_5 rfl ?_
    refine r_icmp_ge (tgt := 20) dX5_pairOf_7 (by decide) (fun c1 => ?_) (fun c1 => ?_)
    · skip
      refine r_iconst (v := (-1)) dX5_pairOf_20 rfl ?_
      exact r_ret (some (.int (-1 : Int32))) dX5_pairOf_21 rfl (pq1 c0 c1)
    · skip
      refine r_iload_n dX5_pairOf_10 rfl 1 rfl ?_
      refine r_if_lt (tgt := 20) dX5_pairOf_11 (by decide) (fun c2 => ?_) (fun c2 => ?_)
      · skip
        refine r_iconst (v := (-1)) dX5_pairOf_20 rfl ?_
        exact r_ret (some (.int (-1 : Int32))) dX5_pairOf_21 rfl (pq2 c0 c1 c2)
      · skip
        refine r_iload_n dX5_pairOf_14 rfl 1 rfl ?_
        refine r_bipush (v := (nI 8)) dX5_pairOf_15 rfl ?_
        refine r_icmp_lt (tgt := 22) dX5_pairOf_17 (by decide) (fun c3 => ?_) (fun c3 => ?_)
        · skip
          refine r_iload_n dX5_pairOf_22 rfl 0 rfl ?_
          refine r_bipush (v := (nI 8)) dX5_pairOf_23 rfl ?_
          refine r_imul dX5_pairOf_25 ?_
          refine r_iload_n dX5_pairOf_26 rfl 1 rfl ?_
          refine r_iadd dX5_pairOf_27 ?_
          exact r_ret (some (.int ((x0 * (nI 8)) + x1))) dX5_pairOf_28 rfl (pq3 c0 c1 c2 c3)
        · skip
          refine r_iconst (v := (-1)) dX5_pairOf_20 rfl ?_
          exact r_ret (some (.int (-1 : Int32))) dX5_pairOf_21 rfl (pq4 c0 c1 c2 c3)
-- X5_countUnlike
theorem gX5_countUnlike_0 {d : Nat} {Q : Option Value → Mem → Prop} {M : Mem} {a0 : Nat} {a1 : Nat} {a2 : Nat} {x3 : Int32}  (pw0 : Wp d mdX5_countUnlike 3 [(0, .ref a0), (1, .ref a1), (2, .ref a2), (3, .int x3), (4, .int (nI 0))] [] M Q) : Wp d mdX5_countUnlike 0 [(0, .ref a0), (1, .ref a1), (2, .ref a2), (3, .int x3)] [] M Q := by
  refine r_iconst (v := (nI 0)) dX5_countUnlike_0 rfl ?_
  refine r_istore dX5_countUnlike_1 (by decide) (ls' := [(4, .int (nI 0)), (0, .ref a0), (1, .ref a1), (2, .ref a2), (3, .int x3)]) rfl ?_
  refine r_sub [1, 2, 3, 4, 0] (ls' := [(0, .ref a0), (1, .ref a1), (2, .ref a2), (3, .int x3), (4, .int (nI 0))]) rfl ?_
  exact pw0
theorem gX5_countUnlike_3 {d : Nat} {Q : Option Value → Mem → Prop} {M : Mem} {a0 : Nat} {a1 : Nat} {a2 : Nat} {x3 : Int32} {x4 : Int32} (k0 : mK M a0 = 7) (k1 : mK M (mR M a0 3) = 1) (pw0 : (nI (mN M (mR M a0 3))) ≤ x4 → Wp d mdX5_countUnlike 42 [(0, .ref a0), (1, .ref a1), (2, .ref a2), (3, .int x3), (4, .int (nI 0)), (5, .int (nI 0))] [] M Q) (pw1 : ¬ (nI (mN M (mR M a0 3))) ≤ x4 → ¬ x4 = 0 → Wp d mdX5_countUnlike 29 [(0, .ref a0), (1, .ref a1), (2, .ref a2), (3, .int x3), (4, .int x4)] [.int (nI 0), .int x4, .ref (mR M a0 3)] M Q) (pw2 : ¬ (nI (mN M (mR M a0 3))) ≤ x4 → x4 = 0 → Wp d mdX5_countUnlike 29 [(0, .ref a0), (1, .ref a1), (2, .ref a2), (3, .int x3), (4, .int x4)] [.int (nI 1), .int x4, .ref (mR M a0 3)] M Q) : Wp d mdX5_countUnlike 3 [(0, .ref a0), (1, .ref a1), (2, .ref a2), (3, .int x3), (4, .int x4)] [] M Q := by
  refine r_iload dX5_countUnlike_3 4 rfl ?_
  refine r_aload_n dX5_countUnlike_5 rfl 0 rfl ?_
  refine r_getR ck3 dX5_countUnlike_6 flX5_19 rfl k0 ?_
  refine r_alen dX5_countUnlike_9 (Or.inl k1) ?_
  refine r_icmp_ge (tgt := 36) dX5_countUnlike_10 (by decide) (fun c0 => ?_) (fun c0 => ?_)
  · skip
    refine r_iconst (v := (nI 0)) dX5_countUnlike_36 rfl ?_
    refine r_istore dX5_countUnlike_37 (by decide) (ls' := [(4, .int (nI 0)), (0, .ref a0), (1, .ref a1), (2, .ref a2), (3, .int x3)]) rfl ?_
    refine r_iconst (v := (nI 0)) dX5_countUnlike_39 rfl ?_
    refine r_istore dX5_countUnlike_40 (by decide) (ls' := [(5, .int (nI 0)), (4, .int (nI 0)), (0, .ref a0), (1, .ref a1), (2, .ref a2), (3, .int x3)]) rfl ?_
    refine r_sub [2, 3, 4, 5, 1, 0] (ls' := [(0, .ref a0), (1, .ref a1), (2, .ref a2), (3, .int x3), (4, .int (nI 0)), (5, .int (nI 0))]) rfl ?_
    exact (pw0 c0)
  · skip
    refine r_aload_n dX5_countUnlike_13 rfl 0 rfl ?_
    refine r_getR ck3 dX5_countUnlike_14 flX5_19 rfl k0 ?_
    refine r_iload dX5_countUnlike_17 4 rfl ?_
    refine r_iload dX5_countUnlike_19 4 rfl ?_
    refine r_if_ne (tgt := 28) dX5_countUnlike_21 (by decide) (fun c1 => ?_) (fun c1 => ?_)
    · skip
      refine r_iconst (v := (nI 0)) dX5_countUnlike_28 rfl ?_
      exact (pw1 c0 c1)
    · skip
      refine r_iconst (v := (nI 1)) dX5_countUnlike_24 rfl ?_
      refine r_goto (tgt := 29) dX5_countUnlike_25 (by decide) ?_
      exact (pw2 c0 c1)
theorem gX5_countUnlike_29 {d : Nat} {Q : Option Value → Mem → Prop} {M : Mem} {a0 : Nat} {a1 : Nat} {a2 : Nat} {x3 : Int32} {x4 : Int32} {sx0 : Int32} {sx1 : Int32} {sa2 : Nat} (k0 : mK M sa2 = 1) (pb0 : vp_in sx1 (mN M sa2)) (pw1 : Wp d mdX5_countUnlike 3 [(0, .ref a0), (1, .ref a1), (2, .ref a2), (3, .int x3), (4, .int (x4 + (nI 1)))] [] (sI M sa2 sx1.toNatClampNeg sx0) Q) : Wp d mdX5_countUnlike 29 [(0, .ref a0), (1, .ref a1), (2, .ref a2), (3, .int x3), (4, .int x4)] [.int sx0, .int sx1, .ref sa2] M Q := by
  refine r_iast dX5_countUnlike_29 k0 pb0 ?_
  refine r_iinc dX5_countUnlike_30 4 rfl (v := x4 + (nI 1)) rfl (by decide) (ls' := [(4, .int (x4 + (nI 1))), (0, .ref a0), (1, .ref a1), (2, .ref a2), (3, .int x3)]) rfl ?_
  refine r_goto (tgt := 3) dX5_countUnlike_33 (by decide) ?_
  refine r_sub [1, 2, 3, 4, 0] (ls' := [(0, .ref a0), (1, .ref a1), (2, .ref a2), (3, .int x3), (4, .int (x4 + (nI 1)))]) rfl ?_
  exact pw1
theorem gX5_countUnlike_42 {d : Nat} {Q : Option Value → Mem → Prop} {M : Mem} {a0 : Nat} {a1 : Nat} {a2 : Nat} {x3 : Int32} {x4 : Int32} {x5 : Int32} (k0 : mK M a0 = 7) (pq0 : x3 < x5 → Q (some (.int x4)) M) (pf1 : ¬ x3 < x5 → ClD d mdX5_unlikeWays [.ref a0, .ref a1, .ref a2] M (fun r1 M1 => Wp d mdX5_countUnlike 56 [(0, .ref a0), (1, .ref a1), (2, .ref a2), (3, .int x3), (5, .int x5)] (r1.toList ++ [.int x4]) M1 Q)) : Wp d mdX5_countUnlike 42 [(0, .ref a0), (1, .ref a1), (2, .ref a2), (3, .int x3), (4, .int x4), (5, .int x5)] [] M Q := by
  refine r_iload dX5_countUnlike_42 5 rfl ?_
  refine r_iload_n dX5_countUnlike_44 rfl 3 rfl ?_
  refine r_icmp_gt (tgt := 71) dX5_countUnlike_45 (by decide) (fun c0 => ?_) (fun c0 => ?_)
  · skip
    refine r_iload dX5_countUnlike_71 4 rfl ?_
    exact r_ret (some (.int x4)) dX5_countUnlike_73 rfl (pq0 c0)
  · skip
    refine r_iload dX5_countUnlike_48 4 rfl ?_
    refine r_aload_n dX5_countUnlike_50 rfl 0 rfl ?_
    refine r_aload_n dX5_countUnlike_51 rfl 1 rfl ?_
    refine r_aload_n dX5_countUnlike_52 rfl 2 rfl ?_
    refine r_sub [0, 1, 2, 3, 5] (ls' := [(0, .ref a0), (1, .ref a1), (2, .ref a2), (3, .int x3), (5, .int x5)]) rfl ?_
    obtain ⟨e9, hlt, h9⟩ := (pf1 c0)
    exact r_callV (As := [.ref a1, .ref a2]) (rest := [.int x4]) (ci := 3) moX5_unlikeWays dX5_countUnlike_53 mlX5_71 imX5_unlikeWays seX5_unlikeWays k0 rfl hlt (Nat.le_of_ble_eq_true rfl) h9
theorem gX5_countUnlike_56 {d : Nat} {Q : Option Value → Mem → Prop} {M : Mem} {a0 : Nat} {a1 : Nat} {a2 : Nat} {x3 : Int32} {x5 : Int32} {sx0 : Int32} {sx1 : Int32} (k0 : mK M a0 = 7) (pf0 : ClD d mdX5_goOn [.ref a0, .ref a1, .ref a2] M (fun r1 M1 => Wp d mdX5_countUnlike 65 [(0, .ref a0), (1, .ref a1), (2, .ref a2), (3, .int x3), (4, .int (sx1 + sx0)), (5, .int x5)] (r1.toList ++ []) M1 Q)) : Wp d mdX5_countUnlike 56 [(0, .ref a0), (1, .ref a1), (2, .ref a2), (3, .int x3), (5, .int x5)] [.int sx0, .int sx1] M Q := by
  refine r_iadd dX5_countUnlike_56 ?_
  refine r_istore dX5_countUnlike_57 (by decide) (ls' := [(4, .int (sx1 + sx0)), (0, .ref a0), (1, .ref a1), (2, .ref a2), (3, .int x3), (5, .int x5)]) rfl ?_
  refine r_aload_n dX5_countUnlike_59 rfl 1 rfl ?_
  refine r_aload_n dX5_countUnlike_60 rfl 2 rfl ?_
  refine r_aload_n dX5_countUnlike_61 rfl 3 rfl ?_
  refine r_sub [1, 2, 3, 4, 0, 5] (ls' := [(0, .ref a0), (1, .ref a1), (2, .ref a2), (3, .int x3), (4, .int (sx1 + sx0)), (5, .int x5)]) rfl ?_
  obtain ⟨e9, hlt, h9⟩ := pf0
  exact r_callV (As := [.ref a1, .ref a2]) (rest := []) (ci := 3) moX5_goOn dX5_countUnlike_62 mlX5_75 imX5_goOn seX5_goOn k0 rfl hlt (Nat.le_of_ble_eq_true rfl) h9
theorem gX5_countUnlike_65 {d : Nat} {Q : Option Value → Mem → Prop} {M : Mem} {a0 : Nat} {a1 : Nat} {a2 : Nat} {x3 : Int32} {x4 : Int32} {x5 : Int32}  (pw0 : Wp d mdX5_countUnlike 42 [(0, .ref a0), (1, .ref a1), (2, .ref a2), (3, .int x3), (4, .int x4), (5, .int (x5 + (nI 1)))] [] M Q) : Wp d mdX5_countUnlike 65 [(0, .ref a0), (1, .ref a1), (2, .ref a2), (3, .int x3), (4, .int x4), (5, .int x5)] [] M Q := by
  refine r_iinc dX5_countUnlike_65 5 rfl (v := x5 + (nI 1)) rfl (by decide) (ls' := [(5, .int (x5 + (nI 1))), (0, .ref a0), (1, .ref a1), (2, .ref a2), (3, .int x3), (4, .int x4)]) rfl ?_
  refine r_goto (tgt := 42) dX5_countUnlike_68 (by decide) ?_
  refine r_sub [1, 2, 3, 4, 5, 0] (ls' := [(0, .ref a0), (1, .ref a1), (2, .ref a2), (3, .int x3), (4, .int x4), (5, .int (x5 + (nI 1)))]) rfl ?_
  exact pw0
-- X5_unlikeWays
theorem gX5_unlikeWays_0 {d : Nat} {Q : Option Value → Mem → Prop} {M : Mem} {a0 : Nat} {a1 : Nat} {a2 : Nat}  (pw0 : Wp d mdX5_unlikeWays 5 [(0, .ref a0), (1, .ref a1), (2, .ref a2), (3, .int (nI 0)), (4, .int (nI 0))] [] M Q) : Wp d mdX5_unlikeWays 0 [(0, .ref a0), (1, .ref a1), (2, .ref a2)] [] M Q := by
  refine r_iconst (v := (nI 0)) dX5_unlikeWays_0 rfl ?_
  refine r_istore_n dX5_unlikeWays_1 rfl (by decide) (ls' := [(3, .int (nI 0)), (0, .ref a0), (1, .ref a1), (2, .ref a2)]) rfl ?_
  refine r_iconst (v := (nI 0)) dX5_unlikeWays_2 rfl ?_
  refine r_istore dX5_unlikeWays_3 (by decide) (ls' := [(4, .int (nI 0)), (3, .int (nI 0)), (0, .ref a0), (1, .ref a1), (2, .ref a2)]) rfl ?_
  refine r_sub [2, 3, 4, 1, 0] (ls' := [(0, .ref a0), (1, .ref a1), (2, .ref a2), (3, .int (nI 0)), (4, .int (nI 0))]) rfl ?_
  exact pw0
theorem gX5_unlikeWays_5 {d : Nat} {Q : Option Value → Mem → Prop} {M : Mem} {a0 : Nat} {a1 : Nat} {a2 : Nat} {x3 : Int32} {x4 : Int32} (k0 : mK M a0 = 7) (k1 : mK M (mR M a0 3) = 1) (k2 : mK M a1 = 5) (pq0 : (nI (mN M (mR M a0 3))) ≤ x4 → Q (some (.int x3)) M) (pf1 : ¬ (nI (mN M (mR M a0 3))) ≤ x4 → ClD d mdX2_outputOf [.ref a1, .int (x4 / (nI 8))] M (fun r1 M1 => Wp d mdX5_unlikeWays 24 [(0, .ref a0), (1, .ref a1), (2, .ref a2), (3, .int x3), (4, .int x4)] (r1.toList ++ []) M1 Q)) : Wp d mdX5_unlikeWays 5 [(0, .ref a0), (1, .ref a1), (2, .ref a2), (3, .int x3), (4, .int x4)] [] M Q := by
  refine r_iload dX5_unlikeWays_5 4 rfl ?_
  refine r_aload_n dX5_unlikeWays_7 rfl 0 rfl ?_
  refine r_getR ck3 dX5_unlikeWays_8 flX5_19 rfl k0 ?_
  refine r_alen dX5_unlikeWays_11 (Or.inl k1) ?_
  refine r_icmp_ge (tgt := 52) dX5_unlikeWays_12 (by decide) (fun c0 => ?_) (fun c0 => ?_)
  · skip
    refine r_iload_n dX5_unlikeWays_52 rfl 3 rfl ?_
    exact r_ret (some (.int x3)) dX5_unlikeWays_53 rfl (pq0 c0)
  · skip
    refine r_aload_n dX5_unlikeWays_15 rfl 1 rfl ?_
    refine r_iload dX5_unlikeWays_16 4 rfl ?_
    refine r_bipush (v := (nI 8)) dX5_unlikeWays_18 rfl ?_
    refine r_idiv dX5_unlikeWays_20 (by decide) ?_
    obtain ⟨e9, hlt, h9⟩ := (pf1 c0)
    exact r_callV (As := [.int (x4 / (nI 8))]) (rest := []) (ci := 1) moX2_outputOf dX5_unlikeWays_21 mlX5_43 imX2_outputOf seX2_outputOf k2 rfl hlt (Nat.le_of_ble_eq_true rfl) h9
theorem gX5_unlikeWays_24 {d : Nat} {Q : Option Value → Mem → Prop} {M : Mem} {a0 : Nat} {a1 : Nat} {a2 : Nat} {x3 : Int32} {x4 : Int32} {sx0 : Int32} (k0 : mK M a2 = 5) (pf0 : ClD d mdX2_outputOf [.ref a2, .int (x4 - x4 / (nI 8) * (nI 8))] M (fun r1 M1 => Wp d mdX5_unlikeWays 33 [(0, .ref a0), (1, .ref a1), (2, .ref a2), (3, .int x3), (4, .int x4)] (r1.toList ++ [.int sx0]) M1 Q)) : Wp d mdX5_unlikeWays 24 [(0, .ref a0), (1, .ref a1), (2, .ref a2), (3, .int x3), (4, .int x4)] [.int sx0] M Q := by
  refine r_aload_n dX5_unlikeWays_24 rfl 2 rfl ?_
  refine r_iload dX5_unlikeWays_25 4 rfl ?_
  refine r_bipush (v := (nI 8)) dX5_unlikeWays_27 rfl ?_
  refine r_irem dX5_unlikeWays_29 (by decide) ?_
  obtain ⟨e9, hlt, h9⟩ := pf0
  exact r_callV (As := [.int (x4 - x4 / (nI 8) * (nI 8))]) (rest := [.int sx0]) (ci := 1) moX2_outputOf dX5_unlikeWays_30 mlX5_43 imX2_outputOf seX2_outputOf k0 rfl hlt (Nat.le_of_ble_eq_true rfl) h9
theorem gX5_unlikeWays_33 {d : Nat} {Q : Option Value → Mem → Prop} {M : Mem} {a0 : Nat} {a1 : Nat} {a2 : Nat} {x3 : Int32} {x4 : Int32} {sx0 : Int32} {sx1 : Int32} (k0 : mK M a0 = 7) (k1 : mK M (mR M a0 3) = 1) (pw0 : sx1 = sx0 → Wp d mdX5_unlikeWays 5 [(0, .ref a0), (1, .ref a1), (2, .ref a2), (3, .int x3), (4, .int (x4 + (nI 1)))] [] M Q) (pb1 : ¬ sx1 = sx0 → vp_in x4 (mN M (mR M a0 3))) (pw2 : ¬ sx1 = sx0 → Wp d mdX5_unlikeWays 5 [(0, .ref a0), (1, .ref a1), (2, .ref a2), (3, .int (x3 + (mI M (mR M a0 3) x4.toNatClampNeg))), (4, .int (x4 + (nI 1)))] [] M Q) : Wp d mdX5_unlikeWays 33 [(0, .ref a0), (1, .ref a1), (2, .ref a2), (3, .int x3), (4, .int x4)] [.int sx0, .int sx1] M Q := by
  refine r_icmp_eq (tgt := 46) dX5_unlikeWays_33 (by decide) (fun c0 => ?_) (fun c0 => ?_)
  · skip
    refine r_iinc dX5_unlikeWays_46 4 rfl (v := x4 + (nI 1)) rfl (by decide) (ls' := [(4, .int (x4 + (nI 1))), (0, .ref a0), (1, .ref a1), (2, .ref a2), (3, .int x3)]) rfl ?_
    refine r_goto (tgt := 5) dX5_unlikeWays_49 (by decide) ?_
    refine r_sub [1, 2, 3, 4, 0] (ls' := [(0, .ref a0), (1, .ref a1), (2, .ref a2), (3, .int x3), (4, .int (x4 + (nI 1)))]) rfl ?_
    exact (pw0 c0)
  · skip
    refine r_iload_n dX5_unlikeWays_36 rfl 3 rfl ?_
    refine r_aload_n dX5_unlikeWays_37 rfl 0 rfl ?_
    refine r_getR ck3 dX5_unlikeWays_38 flX5_19 rfl k0 ?_
    refine r_iload dX5_unlikeWays_41 4 rfl ?_
    refine r_iald dX5_unlikeWays_43 k1 (pb1 c0) ?_
    refine r_iadd dX5_unlikeWays_44 ?_
    refine r_istore_n dX5_unlikeWays_45 rfl (by decide) (ls' := [(3, .int (x3 + (mI M (mR M a0 3) x4.toNatClampNeg))), (0, .ref a0), (1, .ref a1), (2, .ref a2), (4, .int x4)]) rfl ?_
    refine r_iinc dX5_unlikeWays_46 4 rfl (v := x4 + (nI 1)) rfl (by decide) (ls' := [(4, .int (x4 + (nI 1))), (3, .int (x3 + (mI M (mR M a0 3) x4.toNatClampNeg))), (0, .ref a0), (1, .ref a1), (2, .ref a2)]) rfl ?_
    refine r_goto (tgt := 5) dX5_unlikeWays_49 (by decide) ?_
    refine r_sub [2, 3, 4, 1, 0] (ls' := [(0, .ref a0), (1, .ref a1), (2, .ref a2), (3, .int (x3 + (mI M (mR M a0 3) x4.toNatClampNeg))), (4, .int (x4 + (nI 1)))]) rfl ?_
    exact (pw2 c0)
-- X5_goOn
theorem gX5_goOn_0 {d : Nat} {Q : Option Value → Mem → Prop} {M : Mem} {a0 : Nat} {a1 : Nat} {a2 : Nat} (k0 : mK M a0 = 7) (pf0 : ClD d mdJ7_fill_53178 [.ref (mR M a0 4), .int (nI 0)] M (fun r1 M1 => Wp d mdX5_goOn 8 [(0, .ref a0), (1, .ref a1), (2, .ref a2)] (r1.toList ++ []) M1 Q)) : Wp d mdX5_goOn 0 [(0, .ref a0), (1, .ref a1), (2, .ref a2)] [] M Q := by
  refine r_aload_n dX5_goOn_0 rfl 0 rfl ?_
  refine r_getR ck3 dX5_goOn_1 flX5_22 rfl k0 ?_
  refine r_iconst (v := (nI 0)) dX5_goOn_4 rfl ?_
  obtain ⟨e9, hlt, h9⟩ := pf0
  exact r_callS (As := [.ref (mR M a0 4), .int (nI 0)]) (rest := []) moJ7_fill_53178 dX5_goOn_5 mlX5_79 saJ7_fill_53178 rfl hlt (Nat.le_of_ble_eq_true rfl) h9
theorem gX5_goOn_8 {d : Nat} {Q : Option Value → Mem → Prop} {M : Mem} {a0 : Nat} {a1 : Nat} {a2 : Nat}  (pw0 : Wp d mdX5_goOn 10 [(0, .ref a0), (1, .ref a1), (2, .ref a2), (3, .int (nI 0))] [] M Q) : Wp d mdX5_goOn 8 [(0, .ref a0), (1, .ref a1), (2, .ref a2)] [] M Q := by
  refine r_iconst (v := (nI 0)) dX5_goOn_8 rfl ?_
  refine r_istore_n dX5_goOn_9 rfl (by decide) (ls' := [(3, .int (nI 0)), (0, .ref a0), (1, .ref a1), (2, .ref a2)]) rfl ?_
  refine r_sub [1, 2, 3, 0] (ls' := [(0, .ref a0), (1, .ref a1), (2, .ref a2), (3, .int (nI 0))]) rfl ?_
  exact pw0
theorem gX5_goOn_10 {d : Nat} {Q : Option Value → Mem → Prop} {M : Mem} {a0 : Nat} {a1 : Nat} {a2 : Nat} {x3 : Int32} (k0 : mK M a0 = 7) (k1 : mK M (mR M a0 3) = 1) (pq0 : (nI (mN M (mR M a0 3))) ≤ x3 → Q none (sR (sR M a0 3 (mR M a0 4)) a0 4 (mR M a0 3))) (pw1 : ¬ (nI (mN M (mR M a0 3))) ≤ x3 → Wp d mdX5_goOn 22 [(0, .ref a0), (1, .ref a1), (2, .ref a2), (3, .int x3), (4, .int (nI 0))] [] M Q) : Wp d mdX5_goOn 10 [(0, .ref a0), (1, .ref a1), (2, .ref a2), (3, .int x3)] [] M Q := by
  refine r_iload_n dX5_goOn_10 rfl 3 rfl ?_
  refine r_aload_n dX5_goOn_11 rfl 0 rfl ?_
  refine r_getR ck3 dX5_goOn_12 flX5_19 rfl k0 ?_
  refine r_alen dX5_goOn_15 (Or.inl k1) ?_
  refine r_icmp_ge (tgt := 108) dX5_goOn_16 (by decide) (fun c0 => ?_) (fun c0 => ?_)
  · skip
    refine r_aload_n dX5_goOn_108 rfl 0 rfl ?_
    refine r_getR ck3 dX5_goOn_109 flX5_19 rfl k0 ?_
    refine r_astore_n dX5_goOn_112 rfl (by decide) (ls' := [(3, .ref (mR M a0 3)), (0, .ref a0), (1, .ref a1), (2, .ref a2)]) rfl ?_
    refine r_aload_n dX5_goOn_113 rfl 1 rfl ?_
    refine r_aload_n dX5_goOn_114 rfl 1 rfl ?_
    refine r_getR ck3 dX5_goOn_115 flX5_22 rfl k0 ?_
    refine r_putR ck3 dX5_goOn_118 flX5_19 rfl rfl (Or.inl rfl) k0 ?_
    refine r_aload_n dX5_goOn_121 rfl 1 rfl ?_
    refine r_aload_n dX5_goOn_122 rfl 0 rfl ?_
    refine r_putR ck3 dX5_goOn_123 flX5_22 rfl rfl (Or.inl rfl) k0 ?_
    exact r_ret none dX5_goOn_126 rfl (pq0 c0)
  · skip
    refine r_iconst (v := (nI 0)) dX5_goOn_19 rfl ?_
    refine r_istore dX5_goOn_20 (by decide) (ls' := [(4, .int (nI 0)), (0, .ref a0), (1, .ref a1), (2, .ref a2), (3, .int x3)]) rfl ?_
    refine r_sub [1, 2, 3, 4, 0] (ls' := [(0, .ref a0), (1, .ref a1), (2, .ref a2), (3, .int x3), (4, .int (nI 0))]) rfl ?_
    exact (pw1 c0)
theorem gX5_goOn_22 {d : Nat} {Q : Option Value → Mem → Prop} {M : Mem} {a0 : Nat} {a1 : Nat} {a2 : Nat} {x3 : Int32} {x4 : Int32} (k0 : mK M a1 = 5) (k1 : mK M a0 = 7) (k2 : mK M (mR M a0 3) = 1) (pw0 : (mI M a1 1) ≤ x4 → Wp d mdX5_goOn 10 [(0, .ref a0), (1, .ref a1), (2, .ref a2), (3, .int (x3 + (nI 1)))] [] M Q) (pb1 : ¬ (mI M a1 1) ≤ x4 → vp_in x3 (mN M (mR M a0 3))) (pw2 : ¬ (mI M a1 1) ≤ x4 → (mI M (mR M a0 3) x3.toNatClampNeg) ≤ 0 → Wp d mdX5_goOn 10 [(0, .ref a0), (1, .ref a1), (2, .ref a2), (3, .int (x3 + (nI 1)))] [] M Q) (pf3 : ¬ (mI M a1 1) ≤ x4 → ¬ (mI M (mR M a0 3) x3.toNatClampNeg) ≤ 0 → ClD d mdX2_nextOf [.ref a1, .int (x3 / (nI 8)), .int x4] M (fun r1 M1 => Wp d mdX5_goOn 50 [(0, .ref a0), (1, .ref a1), (2, .ref a2), (3, .int x3), (4, .int x4)] (r1.toList ++ []) M1 Q)) : Wp d mdX5_goOn 22 [(0, .ref a0), (1, .ref a1), (2, .ref a2), (3, .int x3), (4, .int x4)] [] M Q := by
  refine r_iload dX5_goOn_22 4 rfl ?_
  refine r_aload_n dX5_goOn_24 rfl 1 rfl ?_
  refine r_getI ck1 dX5_goOn_25 flX5_49 rfl k0 ?_
  refine r_icmp_ge (tgt := 102) dX5_goOn_28 (by decide) (fun c0 => ?_) (fun c0 => ?_)
  · skip
    refine r_iinc dX5_goOn_102 3 rfl (v := x3 + (nI 1)) rfl (by decide) (ls' := [(3, .int (x3 + (nI 1))), (0, .ref a0), (1, .ref a1), (2, .ref a2), (4, .int x4)]) rfl ?_
    refine r_goto (tgt := 10) dX5_goOn_105 (by decide) ?_
    refine r_sub [1, 2, 3, 0] (ls' := [(0, .ref a0), (1, .ref a1), (2, .ref a2), (3, .int (x3 + (nI 1)))]) rfl ?_
    exact (pw0 c0)
  · skip
    refine r_aload_n dX5_goOn_31 rfl 0 rfl ?_
    refine r_getR ck3 dX5_goOn_32 flX5_19 rfl k1 ?_
    refine r_iload_n dX5_goOn_35 rfl 3 rfl ?_
    refine r_iald dX5_goOn_36 k2 (pb1 c0) ?_
    refine r_if_le (tgt := 102) dX5_goOn_37 (by decide) (fun c1 => ?_) (fun c1 => ?_)
    · skip
      refine r_iinc dX5_goOn_102 3 rfl (v := x3 + (nI 1)) rfl (by decide) (ls' := [(3, .int (x3 + (nI 1))), (0, .ref a0), (1, .ref a1), (2, .ref a2), (4, .int x4)]) rfl ?_
      refine r_goto (tgt := 10) dX5_goOn_105 (by decide) ?_
      refine r_sub [1, 2, 3, 0] (ls' := [(0, .ref a0), (1, .ref a1), (2, .ref a2), (3, .int (x3 + (nI 1)))]) rfl ?_
      exact (pw2 c0 c1)
    · skip
      refine r_aload_n dX5_goOn_40 rfl 1 rfl ?_
      refine r_iload_n dX5_goOn_41 rfl 3 rfl ?_
      refine r_bipush (v := (nI 8)) dX5_goOn_42 rfl ?_
      refine r_idiv dX5_goOn_44 (by decide) ?_
      refine r_iload dX5_goOn_45 4 rfl ?_
      obtain ⟨e9, hlt, h9⟩ := (pf3 c0 c1)
      exact r_callV (As := [.int (x3 / (nI 8)), .int x4]) (rest := []) (ci := 1) moX2_nextOf dX5_goOn_47 mlX5_54 imX2_nextOf seX2_nextOf k0 rfl hlt (Nat.le_of_ble_eq_true rfl) h9
theorem gX5_goOn_50 {d : Nat} {Q : Option Value → Mem → Prop} {M : Mem} {a0 : Nat} {a1 : Nat} {a2 : Nat} {x3 : Int32} {x4 : Int32} {sx0 : Int32} (k0 : mK M a2 = 5) (pf0 : ClD d mdX2_nextOf [.ref a2, .int (x3 - x3 / (nI 8) * (nI 8)), .int x4] M (fun r1 M1 => Wp d mdX5_goOn 60 [(0, .ref a0), (1, .ref a1), (2, .ref a2), (3, .int x3), (4, .int x4)] (r1.toList ++ [.int sx0]) M1 Q)) : Wp d mdX5_goOn 50 [(0, .ref a0), (1, .ref a1), (2, .ref a2), (3, .int x3), (4, .int x4)] [.int sx0] M Q := by
  refine r_aload_n dX5_goOn_50 rfl 2 rfl ?_
  refine r_iload_n dX5_goOn_51 rfl 3 rfl ?_
  refine r_bipush (v := (nI 8)) dX5_goOn_52 rfl ?_
  refine r_irem dX5_goOn_54 (by decide) ?_
  refine r_iload dX5_goOn_55 4 rfl ?_
  obtain ⟨e9, hlt, h9⟩ := pf0
  exact r_callV (As := [.int (x3 - x3 / (nI 8) * (nI 8)), .int x4]) (rest := [.int sx0]) (ci := 1) moX2_nextOf dX5_goOn_57 mlX5_54 imX2_nextOf seX2_nextOf k0 rfl hlt (Nat.le_of_ble_eq_true rfl) h9
theorem gX5_goOn_60 {d : Nat} {Q : Option Value → Mem → Prop} {M : Mem} {a0 : Nat} {a1 : Nat} {a2 : Nat} {x3 : Int32} {x4 : Int32} {sx0 : Int32} {sx1 : Int32}  (pf0 : ClD d mdX5_pairOf [.int sx1, .int sx0] M (fun r1 M1 => Wp d mdX5_goOn 63 [(0, .ref a0), (1, .ref a1), (2, .ref a2), (3, .int x3), (4, .int x4)] (r1.toList ++ []) M1 Q)) : Wp d mdX5_goOn 60 [(0, .ref a0), (1, .ref a1), (2, .ref a2), (3, .int x3), (4, .int x4)] [.int sx0, .int sx1] M Q := by
  obtain ⟨e9, hlt, h9⟩ := pf0
  exact r_callS (As := [.int sx1, .int sx0]) (rest := []) moX5_pairOf dX5_goOn_60 mlX5_68 saX5_pairOf rfl hlt (Nat.le_of_ble_eq_true rfl) h9
theorem gX5_goOn_63 {d : Nat} {Q : Option Value → Mem → Prop} {M : Mem} {a0 : Nat} {a1 : Nat} {a2 : Nat} {x3 : Int32} {x4 : Int32} {sx0 : Int32} (k0 : mK M a0 = 7) (k1 : mK M (mR M a0 4) = 1) (k2 : mK M (mR M a0 3) = 1) (pw0 : sx0 < 0 → Wp d mdX5_goOn 22 [(0, .ref a0), (1, .ref a1), (2, .ref a2), (3, .int x3), (4, .int (x4 + (nI 1)))] [] M Q) (pw1 : ¬ sx0 < 0 → (nI (mN M (mR M a0 4))) ≤ sx0 → Wp d mdX5_goOn 22 [(0, .ref a0), (1, .ref a1), (2, .ref a2), (3, .int x3), (4, .int (x4 + (nI 1)))] [] M Q) (pb2 : ¬ sx0 < 0 → ¬ (nI (mN M (mR M a0 4))) ≤ sx0 → vp_in sx0 (mN M (mR M a0 4))) (pb3 : ¬ sx0 < 0 → ¬ (nI (mN M (mR M a0 4))) ≤ sx0 → vp_in x3 (mN M (mR M a0 3))) (pw4 : ¬ sx0 < 0 → ¬ (nI (mN M (mR M a0 4))) ≤ sx0 → Wp d mdX5_goOn 22 [(0, .ref a0), (1, .ref a1), (2, .ref a2), (3, .int x3), (4, .int (x4 + (nI 1)))] [] (sI M (mR M a0 4) sx0.toNatClampNeg ((mI M (mR M a0 4) sx0.toNatClampNeg) + (mI M (mR M a0 3) x3.toNatClampNeg))) Q) : Wp d mdX5_goOn 63 [(0, .ref a0), (1, .ref a1), (2, .ref a2), (3, .int x3), (4, .int x4)] [.int sx0] M Q := by
  refine r_istore dX5_goOn_63 (by decide) (ls' := [(5, .int sx0), (0, .ref a0), (1, .ref a1), (2, .ref a2), (3, .int x3), (4, .int x4)]) rfl ?_
  refine r_iload dX5_goOn_65 0 rfl ?_
  refine r_if_lt (tgt := 96) dX5_goOn_67 (by decide) (fun c0 => ?_) (fun c0 => ?_)
  · skip
    refine r_iinc dX5_goOn_96 5 rfl (v := x4 + (nI 1)) rfl (by decide) (ls' := [(4, .int (x4 + (nI 1))), (5, .int sx0), (0, .ref a0), (1, .ref a1), (2, .ref a2), (3, .int x3)]) rfl ?_
    refine r_goto (tgt := 22) dX5_goOn_99 (by decide) ?_
    refine r_sub [2, 3, 4, 5, 0] (ls' := [(0, .ref a0), (1, .ref a1), (2, .ref a2), (3, .int x3), (4, .int (x4 + (nI 1)))]) rfl ?_
    exact (pw0 c0)
  · skip
    refine r_iload dX5_goOn_70 0 rfl ?_
    refine r_aload_n dX5_goOn_72 rfl 1 rfl ?_
    refine r_getR ck3 dX5_goOn_73 flX5_22 rfl k0 ?_
    refine r_alen dX5_goOn_76 (Or.inl k1) ?_
    refine r_icmp_ge (tgt := 96) dX5_goOn_77 (by decide) (fun c1 => ?_) (fun c1 => ?_)
    · skip
      refine r_iinc dX5_goOn_96 5 rfl (v := x4 + (nI 1)) rfl (by decide) (ls' := [(4, .int (x4 + (nI 1))), (5, .int sx0), (0, .ref a0), (1, .ref a1), (2, .ref a2), (3, .int x3)]) rfl ?_
      refine r_goto (tgt := 22) dX5_goOn_99 (by decide) ?_
      refine r_sub [2, 3, 4, 5, 0] (ls' := [(0, .ref a0), (1, .ref a1), (2, .ref a2), (3, .int x3), (4, .int (x4 + (nI 1)))]) rfl ?_
      exact (pw1 c0 c1)
    · skip
      refine r_aload_n dX5_goOn_80 rfl 1 rfl ?_
      refine r_getR ck3 dX5_goOn_81 flX5_22 rfl k0 ?_
      refine r_iload dX5_goOn_84 0 rfl ?_
      refine r_dup2 dX5_goOn_86 rfl rfl ?_
      refine r_iald dX5_goOn_87 k1 (pb2 c0 c1) ?_
      refine r_aload_n dX5_goOn_88 rfl 1 rfl ?_
      refine r_getR ck3 dX5_goOn_89 flX5_19 rfl k0 ?_
      refine r_iload_n dX5_goOn_92 rfl 4 rfl ?_
      refine r_iald dX5_goOn_93 k2 (pb3 c0 c1) ?_
      refine r_iadd dX5_goOn_94 ?_
      refine r_iast dX5_goOn_95 k1 (pb2 c0 c1) ?_
      refine r_iinc dX5_goOn_96 5 rfl (v := x4 + (nI 1)) rfl (by decide) (ls' := [(4, .int (x4 + (nI 1))), (5, .int sx0), (0, .ref a0), (1, .ref a1), (2, .ref a2), (3, .int x3)]) rfl ?_
      refine r_goto (tgt := 22) dX5_goOn_99 (by decide) ?_
      refine r_sub [2, 3, 4, 5, 0] (ls' := [(0, .ref a0), (1, .ref a1), (2, .ref a2), (3, .int x3), (4, .int (x4 + (nI 1)))]) rfl ?_
      exact (pw4 c0 c1)
-- X6_init
theorem gX6_init_0 {d : Nat} {Q : Option Value → Mem → Prop} {M : Mem} {a0 : Nat} {a1 : Nat} (k0 : mK M a0 = 8) (pf0 : ClD d mdX3_init [.ref a0, .ref a1] M (fun r1 M1 => Wp d mdX6_init 5 [(0, .ref a0)] (r1.toList ++ []) M1 Q)) : Wp d mdX6_init 0 [(0, .ref a0), (1, .ref a1)] [] M Q := by
  refine r_aload_n dX6_init_0 rfl 0 rfl ?_
  refine r_aload_n dX6_init_1 rfl 1 rfl ?_
  refine r_sub [0] (ls' := [(0, .ref a0)]) rfl ?_
  obtain ⟨e9, hlt, h9⟩ := pf0
  exact r_callI (As := [.ref a1]) (rest := []) (ci := 4) moX3_init rfl rfl dX6_init_2 mlX6_3 imX3_init k0 rfl hlt (Nat.le_of_ble_eq_true rfl) h9
theorem gX6_init_5 {d : Nat} {Q : Option Value → Mem → Prop} {M : Mem} {a0 : Nat}  (pw0 : Wp d mdX6_init 10 [(0, .ref a0)] [.ref (mC M + 2), .ref a0] (nwC M 1 8) Q) : Wp d mdX6_init 5 [(0, .ref a0)] [] M Q := by
  refine r_aload_n dX6_init_5 rfl 0 rfl ?_
  refine r_bipush (v := (nI 8)) dX6_init_6 rfl ?_
  refine r_newa dX6_init_8 (Or.inl rfl) ac_int (by decide) (N := 8) (by decide) (by decide) ?_
  exact pw0
theorem gX6_init_10 {d : Nat} {Q : Option Value → Mem → Prop} {M : Mem} {a0 : Nat} {sa0 : Nat} {sa1 : Nat} (k0 : mK M sa1 = 8) (pw0 : Wp d mdX6_init 18 [(0, .ref a0)] [.ref (mC (sR M sa1 9 sa0) + 2), .ref a0] (nwC (sR M sa1 9 sa0) 1 8) Q) : Wp d mdX6_init 10 [(0, .ref a0)] [.ref sa0, .ref sa1] M Q := by
  refine r_putR ck4 dX6_init_10 flX6_9 rfl rfl (Or.inr ⟨rfl, rfl, rfl⟩) k0 ?_
  refine r_aload_n dX6_init_13 rfl 0 rfl ?_
  refine r_bipush (v := (nI 8)) dX6_init_14 rfl ?_
  refine r_newa dX6_init_16 (Or.inl rfl) ac_int (by decide) (N := 8) (by decide) (by decide) ?_
  exact pw0
theorem gX6_init_18 {d : Nat} {Q : Option Value → Mem → Prop} {M : Mem} {a0 : Nat} {sa0 : Nat} {sa1 : Nat} (k0 : mK M sa1 = 8) (pw0 : Wp d mdX6_init 26 [(0, .ref a0)] [.ref (mC (sR M sa1 10 sa0) + 2), .ref a0] (nwC (sR M sa1 10 sa0) 1 8) Q) : Wp d mdX6_init 18 [(0, .ref a0)] [.ref sa0, .ref sa1] M Q := by
  refine r_putR ck4 dX6_init_18 flX6_15 rfl rfl (Or.inr ⟨rfl, rfl, rfl⟩) k0 ?_
  refine r_aload_n dX6_init_21 rfl 0 rfl ?_
  refine r_bipush (v := (nI 8)) dX6_init_22 rfl ?_
  refine r_newa dX6_init_24 (Or.inl rfl) ac_int (by decide) (N := 8) (by decide) (by decide) ?_
  exact pw0
theorem gX6_init_26 {d : Nat} {Q : Option Value → Mem → Prop} {M : Mem} {a0 : Nat} {sa0 : Nat} {sa1 : Nat} (k0 : mK M sa1 = 8) (pw0 : Wp d mdX6_init 34 [(0, .ref a0)] [.ref (mC (sR M sa1 11 sa0) + 2), .ref a0] (nwC (sR M sa1 11 sa0) 1 8) Q) : Wp d mdX6_init 26 [(0, .ref a0)] [.ref sa0, .ref sa1] M Q := by
  refine r_putR ck4 dX6_init_26 flX6_18 rfl rfl (Or.inr ⟨rfl, rfl, rfl⟩) k0 ?_
  refine r_aload_n dX6_init_29 rfl 0 rfl ?_
  refine r_bipush (v := (nI 8)) dX6_init_30 rfl ?_
  refine r_newa dX6_init_32 (Or.inl rfl) ac_int (by decide) (N := 8) (by decide) (by decide) ?_
  exact pw0
theorem gX6_init_34 {d : Nat} {Q : Option Value → Mem → Prop} {M : Mem} {a0 : Nat} {sa0 : Nat} {sa1 : Nat} (k0 : mK M sa1 = 8) (pw0 : Wp d mdX6_init 43 [] [.ref (mC (sR M sa1 12 sa0) + 2), .ref a0] (nwC (sR M sa1 12 sa0) 1 128) Q) : Wp d mdX6_init 34 [(0, .ref a0)] [.ref sa0, .ref sa1] M Q := by
  refine r_putR ck4 dX6_init_34 flX6_21 rfl rfl (Or.inr ⟨rfl, rfl, rfl⟩) k0 ?_
  refine r_aload_n dX6_init_37 rfl 0 rfl ?_
  refine r_sipush (v := (nI 128)) dX6_init_38 rfl ?_
  refine r_newa dX6_init_41 (Or.inl rfl) ac_int (by decide) (N := 128) (by decide) (by decide) ?_
  refine r_sub [] (ls' := []) rfl ?_
  exact pw0
theorem gX6_init_43 {d : Nat} {Q : Option Value → Mem → Prop} {M : Mem} {sa0 : Nat} {sa1 : Nat} (k0 : mK M sa1 = 8) (pq0 : Q none (sR M sa1 13 sa0)) : Wp d mdX6_init 43 [] [.ref sa0, .ref sa1] M Q := by
  refine r_putR ck4 dX6_init_43 flX6_24 rfl rfl (Or.inr ⟨rfl, rfl, rfl⟩) k0 ?_
  exact r_ret none dX6_init_46 rfl pq0
-- X6_begin
theorem gX6_begin_0 {d : Nat} {Q : Option Value → Mem → Prop} {M : Mem} {a0 : Nat} (k0 : mK M a0 = 8) (pq0 : Q none (sI (sI M a0 7 (nI 0)) a0 8 (nI 0))) : Wp d mdX6_begin 0 [(0, .ref a0)] [] M Q := by
  refine r_aload_n dX6_begin_0 rfl 0 rfl ?_
  refine r_iconst (v := (nI 0)) dX6_begin_1 rfl ?_
  refine r_putI ck4 dX6_begin_2 flX6_27 rfl (Or.inl rfl) k0 ?_
  refine r_aload_n dX6_begin_5 rfl 0 rfl ?_
  refine r_iconst (v := (nI 0)) dX6_begin_6 rfl ?_
  refine r_putI ck4 dX6_begin_7 flX6_31 rfl (Or.inl rfl) k0 ?_
  exact r_ret none dX6_begin_10 rfl pq0
-- X6_advance
theorem gX6_advance_0 {d : Nat} {Q : Option Value → Mem → Prop} {M : Mem} {a0 : Nat} (k0 : mK M a0 = 8) (pf0 : ClD d mdX6_askAll [.ref a0] M (fun r1 M1 => Wp d mdX6_advance 4 [(0, .ref a0)] (r1.toList ++ []) M1 Q)) : Wp d mdX6_advance 0 [(0, .ref a0)] [] M Q := by
  refine r_aload_n dX6_advance_0 rfl 0 rfl ?_
  obtain ⟨e9, hlt, h9⟩ := pf0
  exact r_callV (As := []) (rest := []) (ci := 4) moX6_askAll dX6_advance_1 mlX6_34 imX6_askAll seX6_askAll k0 rfl hlt (Nat.le_of_ble_eq_true rfl) h9
theorem gX6_advance_4 {d : Nat} {Q : Option Value → Mem → Prop} {M : Mem} {a0 : Nat} (k0 : mK M a0 = 8) (pf0 : ClD d mdX6_findLines [.ref a0] M (fun r1 M1 => Wp d mdX6_advance 8 [(0, .ref a0)] (r1.toList ++ []) M1 Q)) : Wp d mdX6_advance 4 [(0, .ref a0)] [] M Q := by
  refine r_aload_n dX6_advance_4 rfl 0 rfl ?_
  obtain ⟨e9, hlt, h9⟩ := pf0
  exact r_callV (As := []) (rest := []) (ci := 4) moX6_findLines dX6_advance_5 mlX6_38 imX6_findLines seX6_findLines k0 rfl hlt (Nat.le_of_ble_eq_true rfl) h9
theorem gX6_advance_8 {d : Nat} {Q : Option Value → Mem → Prop} {M : Mem} {a0 : Nat} (k0 : mK M a0 = 8) (pf0 : ClD d mdX6_headComes [.ref a0] M (fun r1 M1 => Wp d mdX6_advance 12 [(0, .ref a0)] (r1.toList ++ []) M1 Q)) : Wp d mdX6_advance 8 [(0, .ref a0)] [] M Q := by
  refine r_aload_n dX6_advance_8 rfl 0 rfl ?_
  obtain ⟨e9, hlt, h9⟩ := pf0
  exact r_callV (As := []) (rest := []) (ci := 4) moX6_headComes dX6_advance_9 mlX6_41 imX6_headComes seX6_headComes k0 rfl hlt (Nat.le_of_ble_eq_true rfl) h9
theorem gX6_advance_12 {d : Nat} {Q : Option Value → Mem → Prop} {M : Mem} {a0 : Nat} {sx0 : Int32} (k0 : mK M a0 = 8) (pw0 : sx0 = 0 → ¬ (mI M a0 5) = 0 → Wp d mdX6_advance 33 [(0, .ref a0)] [] M Q) (pf1 : sx0 = 0 → (mI M a0 5) = 0 → ClD d mdX6_tailComes [.ref a0] M (fun r1 M1 => Wp d mdX6_advance 28 [(0, .ref a0)] (r1.toList ++ []) M1 Q)) (pq2 : ¬ sx0 = 0 → Q (some (.int (nI 1))) M) : Wp d mdX6_advance 12 [(0, .ref a0)] [.int sx0] M Q := by
  refine r_if_eq (tgt := 17) dX6_advance_12 (by decide) (fun c0 => ?_) (fun c0 => ?_)
  · skip
    refine r_aload_n dX6_advance_17 rfl 0 rfl ?_
    refine r_getI ck4 dX6_advance_18 flX6_45 rfl k0 ?_
    refine r_if_ne (tgt := 33) dX6_advance_21 (by decide) (fun c1 => ?_) (fun c1 => ?_)
    · skip
      exact (pw0 c0 c1)
    · skip
      refine r_aload_n dX6_advance_24 rfl 0 rfl ?_
      obtain ⟨e9, hlt, h9⟩ := (pf1 c0 c1)
      exact r_callV (As := []) (rest := []) (ci := 4) moX6_tailComes dX6_advance_25 mlX6_48 imX6_tailComes seX6_tailComes k0 rfl hlt (Nat.le_of_ble_eq_true rfl) h9
  · skip
    refine r_iconst (v := (nI 1)) dX6_advance_15 rfl ?_
    exact r_ret (some (.int (nI 1))) dX6_advance_16 rfl (pq2 c0)
theorem gX6_advance_28 {d : Nat} {Q : Option Value → Mem → Prop} {M : Mem} {a0 : Nat} {sx0 : Int32}  (pw0 : sx0 = 0 → Wp d mdX6_advance 33 [(0, .ref a0)] [] M Q) (pq1 : ¬ sx0 = 0 → Q (some (.int (nI 2))) M) : Wp d mdX6_advance 28 [(0, .ref a0)] [.int sx0] M Q := by
  refine r_if_eq (tgt := 33) dX6_advance_28 (by decide) (fun c0 => ?_) (fun c0 => ?_)
  · skip
    exact (pw0 c0)
  · skip
    refine r_iconst (v := (nI 2)) dX6_advance_31 rfl ?_
    exact r_ret (some (.int (nI 2))) dX6_advance_32 rfl (pq1 c0)
theorem gX6_advance_33 {d : Nat} {Q : Option Value → Mem → Prop} {M : Mem} {a0 : Nat} (k0 : mK M a0 = 8) (pf0 : ClD d mdX6_joinStates [.ref a0] M (fun r1 M1 => Wp d mdX6_advance 37 [(0, .ref a0)] (r1.toList ++ []) M1 Q)) : Wp d mdX6_advance 33 [(0, .ref a0)] [] M Q := by
  refine r_aload_n dX6_advance_33 rfl 0 rfl ?_
  obtain ⟨e9, hlt, h9⟩ := pf0
  exact r_callV (As := []) (rest := []) (ci := 4) moX6_joinStates dX6_advance_34 mlX6_51 imX6_joinStates seX6_joinStates k0 rfl hlt (Nat.le_of_ble_eq_true rfl) h9
theorem gX6_advance_37 {d : Nat} {Q : Option Value → Mem → Prop} {M : Mem} {a0 : Nat} (k0 : mK M a0 = 8) (pf0 : ClD d mdX3_settle [.ref a0] M (fun r1 M1 => Wp d mdX6_advance 41 [] (r1.toList ++ []) M1 Q)) : Wp d mdX6_advance 37 [(0, .ref a0)] [] M Q := by
  refine r_aload_n dX6_advance_37 rfl 0 rfl ?_
  refine r_sub [] (ls' := []) rfl ?_
  obtain ⟨e9, hlt, h9⟩ := pf0
  exact r_callU (As := []) (rest := []) (ci := 4) (x := ⟨"AskingPupil$Table", "settle", "()V"⟩) (owner := "AskingPupil$Notes") moX3_settle dX6_advance_38 mlX6_54 smX6_settle imX3_settle suX6_X6_settle ⟨by decide +kernel, by decide +kernel⟩ (Or.inl rfl) k0 rfl hlt (Nat.le_of_ble_eq_true rfl) h9
theorem gX6_advance_41 {d : Nat} {Q : Option Value → Mem → Prop} {M : Mem}  (pq0 : Q (some (.int (nI 0))) M) : Wp d mdX6_advance 41 [] [] M Q := by
  refine r_iconst (v := (nI 0)) dX6_advance_41 rfl ?_
  exact r_ret (some (.int (nI 0))) dX6_advance_42 rfl pq0
-- X6_lesson
theorem gX6_lesson_0 {d : Nat} {Q : Option Value → Mem → Prop} {M : Mem} {a0 : Nat} {w1 : Int64} (k0 : mK M a0 = 8) (k1 : mK M (mR M a0 1) = 11) (k2 : mK M (mR M a0 2) = 11) (k3 : mK M (mR M a0 0) = 4) (pf0 : ClD d mdX0_ask [.ref (mR M a0 0), .long w1] M (fun r1 M1 => Wp d mdX6_lesson 24 [(0, .ref a0), (1, .long w1), (3, .int ((mI M (mR M a0 1) 0) + (mI M (mR M a0 2) 0)))] (r1.toList ++ []) M1 Q)) : Wp d mdX6_lesson 0 [(0, .ref a0), (1, .long w1)] [] M Q := by
  refine r_aload_n dX6_lesson_0 rfl 0 rfl ?_
  refine r_getR ck4 dX6_lesson_1 flX6_57 rfl k0 ?_
  refine r_getI ck7 dX6_lesson_4 flX6_61 rfl k1 ?_
  refine r_aload_n dX6_lesson_7 rfl 0 rfl ?_
  refine r_getR ck4 dX6_lesson_8 flX6_66 rfl k0 ?_
  refine r_getI ck7 dX6_lesson_11 flX6_61 rfl k2 ?_
  refine r_iadd dX6_lesson_14 ?_
  refine r_istore_n dX6_lesson_15 rfl (by decide) (ls' := [(3, .int ((mI M (mR M a0 1) 0) + (mI M (mR M a0 2) 0))), (0, .ref a0), (1, .long w1)]) rfl ?_
  refine r_aload_n dX6_lesson_16 rfl 1 rfl ?_
  refine r_getR ck4 dX6_lesson_17 flX6_69 rfl k0 ?_
  refine r_lload_n dX6_lesson_20 rfl 2 rfl ?_
  refine r_sub [1, 2, 0] (ls' := [(0, .ref a0), (1, .long w1), (3, .int ((mI M (mR M a0 1) 0) + (mI M (mR M a0 2) 0)))]) rfl ?_
  obtain ⟨e9, hlt, h9⟩ := pf0
  exact r_callV (As := [.long w1]) (rest := []) (ci := 0) moX0_ask dX6_lesson_21 mlX6_73 imX0_ask seX0_ask k3 rfl hlt (Nat.le_of_ble_eq_true rfl) h9
theorem gX6_lesson_24 {d : Nat} {Q : Option Value → Mem → Prop} {M : Mem} {a0 : Nat} {w1 : Int64} {x3 : Int32} {sx0 : Int32} (k0 : mK M a0 = 8) (pf0 : ¬ (mI (sI M a0 6 ((mI M a0 6) + (nI 1))) a0 5) = 0 → ¬ (mI (sI M a0 6 ((mI M a0 6) + (nI 1))) a0 5) = (nI 1) → ClD d mdX3_partingAt [.ref a0, .long w1, .int sx0] (sI M a0 6 ((mI M a0 6) + (nI 1))) (fun r1 M1 => Wp d mdX6_lesson 79 [(0, .ref a0), (3, .int x3)] (r1.toList ++ [.long w1, .ref (mR (sI M a0 6 ((mI M a0 6) + (nI 1))) a0 2)]) M1 Q)) (pf1 : ¬ (mI (sI M a0 6 ((mI M a0 6) + (nI 1))) a0 5) = 0 → (mI (sI M a0 6 ((mI M a0 6) + (nI 1))) a0 5) = (nI 1) → ClD d mdX6_noteEnds [.ref a0, .long w1] (sI M a0 6 ((mI M a0 6) + (nI 1))) (fun r1 M1 => Wp d mdX6_lesson 64 [(0, .ref a0), (3, .int x3)] (r1.toList ++ []) M1 Q)) (pf2 : (mI (sI M a0 6 ((mI M a0 6) + (nI 1))) a0 5) = 0 → ClD d mdX6_noteBeginnings [.ref a0, .long w1] (sI M a0 6 ((mI M a0 6) + (nI 1))) (fun r1 M1 => Wp d mdX6_lesson 48 [(0, .ref a0), (3, .int x3)] (r1.toList ++ []) M1 Q)) : Wp d mdX6_lesson 24 [(0, .ref a0), (1, .long w1), (3, .int x3)] [.int sx0] M Q := by
  refine r_istore dX6_lesson_24 (by decide) (ls' := [(4, .int sx0), (0, .ref a0), (1, .long w1), (3, .int x3)]) rfl ?_
  refine r_aload_n dX6_lesson_26 rfl 1 rfl ?_
  refine r_dup dX6_lesson_27 rfl ?_
  refine r_getI ck4 dX6_lesson_28 flX6_79 rfl k0 ?_
  refine r_iconst (v := (nI 1)) dX6_lesson_31 rfl ?_
  refine r_iadd dX6_lesson_32 ?_
  refine r_putI ck4 dX6_lesson_33 flX6_79 rfl (Or.inl rfl) k0 ?_
  refine r_aload_n dX6_lesson_36 rfl 1 rfl ?_
  refine r_getI ck4 dX6_lesson_37 flX6_45 rfl k0 ?_
  refine r_if_ne (tgt := 51) dX6_lesson_40 (by decide) (fun c0 => ?_) (fun c0 => ?_)
  · skip
    refine r_aload_n dX6_lesson_51 rfl 1 rfl ?_
    refine r_getI ck4 dX6_lesson_52 flX6_45 rfl k0 ?_
    refine r_iconst (v := (nI 1)) dX6_lesson_55 rfl ?_
    refine r_icmp_ne (tgt := 67) dX6_lesson_56 (by decide) (fun c1 => ?_) (fun c1 => ?_)
    · skip
      refine r_aload_n dX6_lesson_67 rfl 1 rfl ?_
      refine r_getR ck4 dX6_lesson_68 flX6_66 rfl k0 ?_
      refine r_lload_n dX6_lesson_71 rfl 2 rfl ?_
      refine r_aload_n dX6_lesson_72 rfl 1 rfl ?_
      refine r_lload_n dX6_lesson_73 rfl 2 rfl ?_
      refine r_iload dX6_lesson_74 0 rfl ?_
      refine r_sub [1, 3] (ls' := [(0, .ref a0), (3, .int x3)]) rfl ?_
      obtain ⟨e9, hlt, h9⟩ := (pf0 c0 c1)
      exact r_callU (As := [.long w1, .int sx0]) (rest := [.long w1, .ref (mR (sI M a0 6 ((mI M a0 6) + (nI 1))) a0 2)]) (ci := 4) (x := ⟨"AskingPupil$Table", "partingAt", "(JI)I"⟩) (owner := "AskingPupil$Notes") moX3_partingAt dX6_lesson_76 mlX6_89 smX6_partingAt imX3_partingAt suX6_X6_partingAt ⟨by decide +kernel, by decide +kernel⟩ (Or.inl rfl) k0 rfl hlt (Nat.le_of_ble_eq_true rfl) h9
    · skip
      refine r_aload_n dX6_lesson_59 rfl 1 rfl ?_
      refine r_lload_n dX6_lesson_60 rfl 2 rfl ?_
      refine r_sub [1, 3] (ls' := [(0, .ref a0), (3, .int x3)]) rfl ?_
      obtain ⟨e9, hlt, h9⟩ := (pf1 c0 c1)
      exact r_callV (As := [.long w1]) (rest := []) (ci := 4) moX6_noteEnds dX6_lesson_61 mlX6_86 imX6_noteEnds seX6_noteEnds k0 rfl hlt (Nat.le_of_ble_eq_true rfl) h9
  · skip
    refine r_aload_n dX6_lesson_43 rfl 1 rfl ?_
    refine r_lload_n dX6_lesson_44 rfl 2 rfl ?_
    refine r_sub [1, 3] (ls' := [(0, .ref a0), (3, .int x3)]) rfl ?_
    obtain ⟨e9, hlt, h9⟩ := (pf2 c0)
    exact r_callV (As := [.long w1]) (rest := []) (ci := 4) moX6_noteBeginnings dX6_lesson_45 mlX6_82 imX6_noteBeginnings seX6_noteBeginnings k0 rfl hlt (Nat.le_of_ble_eq_true rfl) h9
theorem gX6_lesson_48 {d : Nat} {Q : Option Value → Mem → Prop} {M : Mem} {a0 : Nat} {x3 : Int32}  (pw0 : Wp d mdX6_lesson 85 [(0, .ref a0), (3, .int x3)] [] M Q) : Wp d mdX6_lesson 48 [(0, .ref a0), (3, .int x3)] [] M Q := by
  refine r_goto (tgt := 85) dX6_lesson_48 (by decide) ?_
  exact pw0
theorem gX6_lesson_64 {d : Nat} {Q : Option Value → Mem → Prop} {M : Mem} {a0 : Nat} {x3 : Int32}  (pw0 : Wp d mdX6_lesson 85 [(0, .ref a0), (3, .int x3)] [] M Q) : Wp d mdX6_lesson 64 [(0, .ref a0), (3, .int x3)] [] M Q := by
  refine r_goto (tgt := 85) dX6_lesson_64 (by decide) ?_
  exact pw0
theorem gX6_lesson_79 {d : Nat} {Q : Option Value → Mem → Prop} {M : Mem} {a0 : Nat} {x3 : Int32} {sx0 : Int32} {sw1 : Int64} {sa2 : Nat}  (pf0 : ClD d mdX1_behind [.long sw1, .int sx0] M (fun r1 M1 => Wp d mdX6_lesson 82 [(0, .ref a0), (3, .int x3)] (r1.toList ++ [.ref sa2]) M1 Q)) : Wp d mdX6_lesson 79 [(0, .ref a0), (3, .int x3)] [.int sx0, .long sw1, .ref sa2] M Q := by
  obtain ⟨e9, hlt, h9⟩ := pf0
  exact r_callS (As := [.long sw1, .int sx0]) (rest := [.ref sa2]) moX1_behind dX6_lesson_79 mlX6_93 saX1_behind rfl hlt (Nat.le_of_ble_eq_true rfl) h9
theorem gX6_lesson_82 {d : Nat} {Q : Option Value → Mem → Prop} {M : Mem} {a0 : Nat} {x3 : Int32} {sw0 : Int64} {sa1 : Nat} (k0 : mK M sa1 = 11) (pf0 : ClD d mdX9_add [.ref sa1, .long sw0] M (fun r1 M1 => Wp d mdX6_lesson 85 [(0, .ref a0), (3, .int x3)] (r1.toList ++ []) M1 Q)) : Wp d mdX6_lesson 82 [(0, .ref a0), (3, .int x3)] [.long sw0, .ref sa1] M Q := by
  obtain ⟨e9, hlt, h9⟩ := pf0
  exact r_callV (As := [.long sw0]) (rest := []) (ci := 7) moX9_add dX6_lesson_82 mlX6_99 imX9_add seX9_add k0 rfl hlt (Nat.le_of_ble_eq_true rfl) h9
theorem gX6_lesson_85 {d : Nat} {Q : Option Value → Mem → Prop} {M : Mem} {a0 : Nat} {x3 : Int32} (k0 : mK M a0 = 8) (pf0 : ClD d mdX3_dropGuess [.ref a0] M (fun r1 M1 => Wp d mdX6_lesson 89 [(0, .ref a0), (3, .int x3)] (r1.toList ++ []) M1 Q)) : Wp d mdX6_lesson 85 [(0, .ref a0), (3, .int x3)] [] M Q := by
  refine r_aload_n dX6_lesson_85 rfl 0 rfl ?_
  obtain ⟨e9, hlt, h9⟩ := pf0
  exact r_callU (As := []) (rest := []) (ci := 4) (x := ⟨"AskingPupil$Table", "dropGuess", "()V"⟩) (owner := "AskingPupil$Notes") moX3_dropGuess dX6_lesson_86 mlX6_102 smX6_dropGuess imX3_dropGuess suX6_X6_dropGuess ⟨by decide +kernel, by decide +kernel⟩ (Or.inl rfl) k0 rfl hlt (Nat.le_of_ble_eq_true rfl) h9
theorem gX6_lesson_89 {d : Nat} {Q : Option Value → Mem → Prop} {M : Mem} {a0 : Nat} {x3 : Int32} (k0 : mK M a0 = 8) (k1 : mK M (mR M a0 1) = 11) (k2 : mK M (mR M a0 2) = 11) (pq0 : Q (some (.int (((mI M (mR M a0 1) 0) + (mI M (mR M a0 2) 0)) - x3))) M) : Wp d mdX6_lesson 89 [(0, .ref a0), (3, .int x3)] [] M Q := by
  refine r_aload_n dX6_lesson_89 rfl 0 rfl ?_
  refine r_getR ck4 dX6_lesson_90 flX6_57 rfl k0 ?_
  refine r_getI ck7 dX6_lesson_93 flX6_61 rfl k1 ?_
  refine r_aload_n dX6_lesson_96 rfl 0 rfl ?_
  refine r_getR ck4 dX6_lesson_97 flX6_66 rfl k0 ?_
  refine r_getI ck7 dX6_lesson_100 flX6_61 rfl k2 ?_
  refine r_iadd dX6_lesson_103 ?_
  refine r_iload_n dX6_lesson_104 rfl 1 rfl ?_
  refine r_isub dX6_lesson_105 ?_
  exact r_ret (some (.int (((mI M (mR M a0 1) 0) + (mI M (mR M a0 2) 0)) - x3))) dX6_lesson_106 rfl pq0
-- X6_noteBeginnings
theorem gX6_noteBeginnings_0 {d : Nat} {Q : Option Value → Mem → Prop} {M : Mem} {a0 : Nat} {w1 : Int64}  (pf0 : ClD d mdX1_length [.long w1] M (fun r1 M1 => Wp d mdX6_noteBeginnings 4 [(0, .ref a0), (1, .long w1)] (r1.toList ++ []) M1 Q)) : Wp d mdX6_noteBeginnings 0 [(0, .ref a0), (1, .long w1)] [] M Q := by
  refine r_lload_n dX6_noteBeginnings_0 rfl 1 rfl ?_
  obtain ⟨e9, hlt, h9⟩ := pf0
  exact r_callS (As := [.long w1]) (rest := []) moX1_length dX6_noteBeginnings_1 mlX6_105 saX1_length rfl hlt (Nat.le_of_ble_eq_true rfl) h9
theorem gX6_noteBeginnings_4 {d : Nat} {Q : Option Value → Mem → Prop} {M : Mem} {a0 : Nat} {w1 : Int64} {sx0 : Int32}  (pw0 : Wp d mdX6_noteBeginnings 8 [(0, .ref a0), (1, .long w1), (3, .int sx0), (4, .int (nI 0))] [] M Q) : Wp d mdX6_noteBeginnings 4 [(0, .ref a0), (1, .long w1)] [.int sx0] M Q := by
  refine r_istore_n dX6_noteBeginnings_4 rfl (by decide) (ls' := [(3, .int sx0), (0, .ref a0), (1, .long w1)]) rfl ?_
  refine r_iconst (v := (nI 0)) dX6_noteBeginnings_5 rfl ?_
  refine r_istore dX6_noteBeginnings_6 (by decide) (ls' := [(4, .int (nI 0)), (3, .int sx0), (0, .ref a0), (1, .long w1)]) rfl ?_
  refine r_sub [2, 3, 1, 0] (ls' := [(0, .ref a0), (1, .long w1), (3, .int sx0), (4, .int (nI 0))]) rfl ?_
  exact pw0
theorem gX6_noteBeginnings_8 {d : Nat} {Q : Option Value → Mem → Prop} {M : Mem} {a0 : Nat} {w1 : Int64} {x3 : Int32} {x4 : Int32}  (pq0 : x3 < x4 → Q none M) (pf1 : ¬ x3 < x4 → ClD d mdX1_first [.long w1, .int x4] M (fun r1 M1 => Wp d mdX6_noteBeginnings 20 [(0, .ref a0), (1, .long w1), (3, .int x3), (4, .int x4)] (r1.toList ++ []) M1 Q)) : Wp d mdX6_noteBeginnings 8 [(0, .ref a0), (1, .long w1), (3, .int x3), (4, .int x4)] [] M Q := by
  refine r_iload dX6_noteBeginnings_8 3 rfl ?_
  refine r_iload_n dX6_noteBeginnings_10 rfl 2 rfl ?_
  refine r_icmp_gt (tgt := 49) dX6_noteBeginnings_11 (by decide) (fun c0 => ?_) (fun c0 => ?_)
  · skip
    exact r_ret none dX6_noteBeginnings_49 rfl (pq0 c0)
  · skip
    refine r_lload_n dX6_noteBeginnings_14 rfl 1 rfl ?_
    refine r_iload dX6_noteBeginnings_15 3 rfl ?_
    obtain ⟨e9, hlt, h9⟩ := (pf1 c0)
    exact r_callS (As := [.long w1, .int x4]) (rest := []) moX1_first dX6_noteBeginnings_17 mlX6_108 saX1_first rfl hlt (Nat.le_of_ble_eq_true rfl) h9
theorem gX6_noteBeginnings_20 {d : Nat} {Q : Option Value → Mem → Prop} {M : Mem} {a0 : Nat} {w1 : Int64} {x3 : Int32} {x4 : Int32} {sw0 : Int64} (k0 : mK M a0 = 8) (k1 : mK M (mR M a0 1) = 11) (pf0 : ClD d mdX9_has [.ref (mR M a0 1), .long sw0] M (fun r1 M1 => Wp d mdX6_noteBeginnings 31 [(0, .ref a0), (1, .long w1), (3, .int x3), (4, .int x4), (5, .long sw0)] (r1.toList ++ []) M1 Q)) : Wp d mdX6_noteBeginnings 20 [(0, .ref a0), (1, .long w1), (3, .int x3), (4, .int x4)] [.long sw0] M Q := by
  refine r_lstore dX6_noteBeginnings_20 (by decide) (ls' := [(5, .long sw0), (0, .ref a0), (1, .long w1), (3, .int x3), (4, .int x4)]) rfl ?_
  refine r_aload_n dX6_noteBeginnings_22 rfl 1 rfl ?_
  refine r_getR ck4 dX6_noteBeginnings_23 flX6_57 rfl k0 ?_
  refine r_lload dX6_noteBeginnings_26 0 rfl ?_
  refine r_sub [1, 2, 3, 4, 0] (ls' := [(0, .ref a0), (1, .long w1), (3, .int x3), (4, .int x4), (5, .long sw0)]) rfl ?_
  obtain ⟨e9, hlt, h9⟩ := pf0
  exact r_callV (As := [.long sw0]) (rest := []) (ci := 7) moX9_has dX6_noteBeginnings_28 mlX6_111 imX9_has seX9_has k1 rfl hlt (Nat.le_of_ble_eq_true rfl) h9
theorem gX6_noteBeginnings_31 {d : Nat} {Q : Option Value → Mem → Prop} {M : Mem} {a0 : Nat} {w1 : Int64} {x3 : Int32} {x4 : Int32} {w5 : Int64} {sx0 : Int32} (k0 : mK M a0 = 8) (k1 : mK M (mR M a0 1) = 11) (pw0 : ¬ sx0 = 0 → Wp d mdX6_noteBeginnings 43 [(0, .ref a0), (1, .long w1), (3, .int x3), (4, .int x4)] [] M Q) (pf1 : sx0 = 0 → ClD d mdX9_add [.ref (mR M a0 1), .long w5] M (fun r1 M1 => Wp d mdX6_noteBeginnings 43 [(0, .ref a0), (1, .long w1), (3, .int x3), (4, .int x4)] (r1.toList ++ []) M1 Q)) : Wp d mdX6_noteBeginnings 31 [(0, .ref a0), (1, .long w1), (3, .int x3), (4, .int x4), (5, .long w5)] [.int sx0] M Q := by
  refine r_if_ne (tgt := 43) dX6_noteBeginnings_31 (by decide) (fun c0 => ?_) (fun c0 => ?_)
  · skip
    refine r_sub [0, 1, 2, 3] (ls' := [(0, .ref a0), (1, .long w1), (3, .int x3), (4, .int x4)]) rfl ?_
    exact (pw0 c0)
  · skip
    refine r_aload_n dX6_noteBeginnings_34 rfl 0 rfl ?_
    refine r_getR ck4 dX6_noteBeginnings_35 flX6_57 rfl k0 ?_
    refine r_lload dX6_noteBeginnings_38 4 rfl ?_
    refine r_sub [0, 1, 2, 3] (ls' := [(0, .ref a0), (1, .long w1), (3, .int x3), (4, .int x4)]) rfl ?_
    obtain ⟨e9, hlt, h9⟩ := (pf1 c0)
    exact r_callV (As := [.long w5]) (rest := []) (ci := 7) moX9_add dX6_noteBeginnings_40 mlX6_99 imX9_add seX9_add k1 rfl hlt (Nat.le_of_ble_eq_true rfl) h9
theorem gX6_noteBeginnings_43 {d : Nat} {Q : Option Value → Mem → Prop} {M : Mem} {a0 : Nat} {w1 : Int64} {x3 : Int32} {x4 : Int32}  (pw0 : Wp d mdX6_noteBeginnings 8 [(0, .ref a0), (1, .long w1), (3, .int x3), (4, .int (x4 + (nI 1)))] [] M Q) : Wp d mdX6_noteBeginnings 43 [(0, .ref a0), (1, .long w1), (3, .int x3), (4, .int x4)] [] M Q := by
  refine r_iinc dX6_noteBeginnings_43 3 rfl (v := x4 + (nI 1)) rfl (by decide) (ls' := [(4, .int (x4 + (nI 1))), (0, .ref a0), (1, .long w1), (3, .int x3)]) rfl ?_
  refine r_goto (tgt := 8) dX6_noteBeginnings_46 (by decide) ?_
  refine r_sub [1, 2, 3, 0] (ls' := [(0, .ref a0), (1, .long w1), (3, .int x3), (4, .int (x4 + (nI 1)))]) rfl ?_
  exact pw0
-- X6_noteEnds
theorem gX6_noteEnds_0 {d : Nat} {Q : Option Value → Mem → Prop} {M : Mem} {a0 : Nat} {w1 : Int64}  (pf0 : ClD d mdX1_length [.long w1] M (fun r1 M1 => Wp d mdX6_noteEnds 4 [(0, .ref a0), (1, .long w1)] (r1.toList ++ []) M1 Q)) : Wp d mdX6_noteEnds 0 [(0, .ref a0), (1, .long w1)] [] M Q := by
  refine r_lload_n dX6_noteEnds_0 rfl 1 rfl ?_
  obtain ⟨e9, hlt, h9⟩ := pf0
  exact r_callS (As := [.long w1]) (rest := []) moX1_length dX6_noteEnds_1 mlX6_105 saX1_length rfl hlt (Nat.le_of_ble_eq_true rfl) h9
theorem gX6_noteEnds_4 {d : Nat} {Q : Option Value → Mem → Prop} {M : Mem} {a0 : Nat} {w1 : Int64} {sx0 : Int32}  (pw0 : Wp d mdX6_noteEnds 5 [(0, .ref a0), (1, .long w1), (3, .int sx0)] [] M Q) : Wp d mdX6_noteEnds 4 [(0, .ref a0), (1, .long w1)] [.int sx0] M Q := by
  refine r_istore_n dX6_noteEnds_4 rfl (by decide) (ls' := [(3, .int sx0), (0, .ref a0), (1, .long w1)]) rfl ?_
  refine r_sub [1, 2, 0] (ls' := [(0, .ref a0), (1, .long w1), (3, .int sx0)]) rfl ?_
  exact pw0
theorem gX6_noteEnds_5 {d : Nat} {Q : Option Value → Mem → Prop} {M : Mem} {a0 : Nat} {w1 : Int64} {x3 : Int32}  (pq0 : x3 < 0 → Q none M) (pf1 : ¬ x3 < 0 → ClD d mdX1_behind [.long w1, .int x3] M (fun r1 M1 => Wp d mdX6_noteEnds 14 [(0, .ref a0), (1, .long w1), (3, .int x3)] (r1.toList ++ []) M1 Q)) : Wp d mdX6_noteEnds 5 [(0, .ref a0), (1, .long w1), (3, .int x3)] [] M Q := by
  refine r_iload_n dX6_noteEnds_5 rfl 2 rfl ?_
  refine r_if_lt (tgt := 43) dX6_noteEnds_6 (by decide) (fun c0 => ?_) (fun c0 => ?_)
  · skip
    exact r_ret none dX6_noteEnds_43 rfl (pq0 c0)
  · skip
    refine r_lload_n dX6_noteEnds_9 rfl 1 rfl ?_
    refine r_iload_n dX6_noteEnds_10 rfl 2 rfl ?_
    obtain ⟨e9, hlt, h9⟩ := (pf1 c0)
    exact r_callS (As := [.long w1, .int x3]) (rest := []) moX1_behind dX6_noteEnds_11 mlX6_93 saX1_behind rfl hlt (Nat.le_of_ble_eq_true rfl) h9
theorem gX6_noteEnds_14 {d : Nat} {Q : Option Value → Mem → Prop} {M : Mem} {a0 : Nat} {w1 : Int64} {x3 : Int32} {sw0 : Int64} (k0 : mK M a0 = 8) (k1 : mK M (mR M a0 2) = 11) (pf0 : ClD d mdX9_has [.ref (mR M a0 2), .long sw0] M (fun r1 M1 => Wp d mdX6_noteEnds 25 [(0, .ref a0), (1, .long w1), (3, .int x3), (4, .long sw0)] (r1.toList ++ []) M1 Q)) : Wp d mdX6_noteEnds 14 [(0, .ref a0), (1, .long w1), (3, .int x3)] [.long sw0] M Q := by
  refine r_lstore dX6_noteEnds_14 (by decide) (ls' := [(4, .long sw0), (0, .ref a0), (1, .long w1), (3, .int x3)]) rfl ?_
  refine r_aload_n dX6_noteEnds_16 rfl 1 rfl ?_
  refine r_getR ck4 dX6_noteEnds_17 flX6_66 rfl k0 ?_
  refine r_lload dX6_noteEnds_20 0 rfl ?_
  refine r_sub [1, 2, 3, 0] (ls' := [(0, .ref a0), (1, .long w1), (3, .int x3), (4, .long sw0)]) rfl ?_
  obtain ⟨e9, hlt, h9⟩ := pf0
  exact r_callV (As := [.long sw0]) (rest := []) (ci := 7) moX9_has dX6_noteEnds_22 mlX6_111 imX9_has seX9_has k1 rfl hlt (Nat.le_of_ble_eq_true rfl) h9
theorem gX6_noteEnds_25 {d : Nat} {Q : Option Value → Mem → Prop} {M : Mem} {a0 : Nat} {w1 : Int64} {x3 : Int32} {w4 : Int64} {sx0 : Int32} (k0 : mK M a0 = 8) (k1 : mK M (mR M a0 2) = 11) (pw0 : ¬ sx0 = 0 → Wp d mdX6_noteEnds 37 [(0, .ref a0), (1, .long w1), (3, .int x3)] [] M Q) (pf1 : sx0 = 0 → ClD d mdX9_add [.ref (mR M a0 2), .long w4] M (fun r1 M1 => Wp d mdX6_noteEnds 37 [(0, .ref a0), (1, .long w1), (3, .int x3)] (r1.toList ++ []) M1 Q)) : Wp d mdX6_noteEnds 25 [(0, .ref a0), (1, .long w1), (3, .int x3), (4, .long w4)] [.int sx0] M Q := by
  refine r_if_ne (tgt := 37) dX6_noteEnds_25 (by decide) (fun c0 => ?_) (fun c0 => ?_)
  · skip
    refine r_sub [0, 1, 2] (ls' := [(0, .ref a0), (1, .long w1), (3, .int x3)]) rfl ?_
    exact (pw0 c0)
  · skip
    refine r_aload_n dX6_noteEnds_28 rfl 0 rfl ?_
    refine r_getR ck4 dX6_noteEnds_29 flX6_66 rfl k0 ?_
    refine r_lload dX6_noteEnds_32 3 rfl ?_
    refine r_sub [0, 1, 2] (ls' := [(0, .ref a0), (1, .long w1), (3, .int x3)]) rfl ?_
    obtain ⟨e9, hlt, h9⟩ := (pf1 c0)
    exact r_callV (As := [.long w4]) (rest := []) (ci := 7) moX9_add dX6_noteEnds_34 mlX6_99 imX9_add seX9_add k1 rfl hlt (Nat.le_of_ble_eq_true rfl) h9
theorem gX6_noteEnds_37 {d : Nat} {Q : Option Value → Mem → Prop} {M : Mem} {a0 : Nat} {w1 : Int64} {x3 : Int32}  (pw0 : Wp d mdX6_noteEnds 5 [(0, .ref a0), (1, .long w1), (3, .int (x3 + (-1 : Int32)))] [] M Q) : Wp d mdX6_noteEnds 37 [(0, .ref a0), (1, .long w1), (3, .int x3)] [] M Q := by
  refine r_iinc dX6_noteEnds_37 2 rfl (v := x3 + (-1 : Int32)) rfl (by decide) (ls' := [(3, .int (x3 + (-1 : Int32))), (0, .ref a0), (1, .long w1)]) rfl ?_
  refine r_goto (tgt := 5) dX6_noteEnds_40 (by decide) ?_
  refine r_sub [1, 2, 0] (ls' := [(0, .ref a0), (1, .long w1), (3, .int (x3 + (-1 : Int32)))]) rfl ?_
  exact pw0
-- X6_askAll
theorem gX6_askAll_0 {d : Nat} {Q : Option Value → Mem → Prop} {M : Mem} {a0 : Nat}  (pw0 : Wp d mdX6_askAll 2 [(0, .ref a0), (1, .int (nI 0))] [] M Q) : Wp d mdX6_askAll 0 [(0, .ref a0)] [] M Q := by
  refine r_iconst (v := (nI 0)) dX6_askAll_0 rfl ?_
  refine r_istore_n dX6_askAll_1 rfl (by decide) (ls' := [(1, .int (nI 0)), (0, .ref a0)]) rfl ?_
  refine r_sub [1, 0] (ls' := [(0, .ref a0), (1, .int (nI 0))]) rfl ?_
  exact pw0
theorem gX6_askAll_2 {d : Nat} {Q : Option Value → Mem → Prop} {M : Mem} {a0 : Nat} {x1 : Int32} (k0 : mK M a0 = 8) (k1 : mK M (mR M a0 1) = 11) (k2 : mK M (mR (sI M a0 7 (mI M (mR M a0 1) 0)) a0 2) = 11) (pq0 : (mI M (mR M a0 1) 0) ≤ x1 → Q none (sI (sI M a0 7 (mI M (mR M a0 1) 0)) a0 8 (mI (sI M a0 7 (mI M (mR M a0 1) 0)) (mR (sI M a0 7 (mI M (mR M a0 1) 0)) a0 2) 0))) (pw1 : ¬ (mI M (mR M a0 1) 0) ≤ x1 → Wp d mdX6_askAll 15 [(0, .ref a0), (1, .int x1), (2, .int (-1 : Int32))] [] M Q) : Wp d mdX6_askAll 2 [(0, .ref a0), (1, .int x1)] [] M Q := by
  refine r_iload_n dX6_askAll_2 rfl 1 rfl ?_
  refine r_aload_n dX6_askAll_3 rfl 0 rfl ?_
  refine r_getR ck4 dX6_askAll_4 flX6_57 rfl k0 ?_
  refine r_getI ck7 dX6_askAll_7 flX6_61 rfl k1 ?_
  refine r_icmp_ge (tgt := 94) dX6_askAll_10 (by decide) (fun c0 => ?_) (fun c0 => ?_)
  · skip
    refine r_aload_n dX6_askAll_94 rfl 0 rfl ?_
    refine r_aload_n dX6_askAll_95 rfl 0 rfl ?_
    refine r_getR ck4 dX6_askAll_96 flX6_57 rfl k0 ?_
    refine r_getI ck7 dX6_askAll_99 flX6_61 rfl k1 ?_
    refine r_putI ck4 dX6_askAll_102 flX6_27 rfl (Or.inl rfl) k0 ?_
    refine r_aload_n dX6_askAll_105 rfl 0 rfl ?_
    refine r_aload_n dX6_askAll_106 rfl 0 rfl ?_
    refine r_getR ck4 dX6_askAll_107 flX6_66 rfl k0 ?_
    refine r_getI ck7 dX6_askAll_110 flX6_61 rfl k2 ?_
    refine r_putI ck4 dX6_askAll_113 flX6_31 rfl (Or.inl rfl) k0 ?_
    exact r_ret none dX6_askAll_116 rfl (pq0 c0)
  · skip
    refine r_iconst (v := (-1)) dX6_askAll_13 rfl ?_
    refine r_istore_n dX6_askAll_14 rfl (by decide) (ls' := [(2, .int (-1 : Int32)), (0, .ref a0), (1, .int x1)]) rfl ?_
    refine r_sub [1, 2, 0] (ls' := [(0, .ref a0), (1, .int x1), (2, .int (-1 : Int32))]) rfl ?_
    exact (pw1 c0)
theorem gX6_askAll_15 {d : Nat} {Q : Option Value → Mem → Prop} {M : Mem} {a0 : Nat} {x1 : Int32} {x2 : Int32} (k0 : mK M a0 = 8) (k1 : mK M (mR M a0 0) = 4) (k2 : mK M (mR M (mR M a0 0) 0) = 5) (pw0 : (mI M (mR M (mR M a0 0) 0) 1) ≤ x2 → Wp d mdX6_askAll 2 [(0, .ref a0), (1, .int (x1 + (nI 1)))] [] M Q) (pf1 : ¬ (mI M (mR M (mR M a0 0) 0) 1) ≤ x2 → ClD d mdX6_rowWord [.ref a0, .int x1, .int x2] M (fun r1 M1 => Wp d mdX6_askAll 35 [(0, .ref a0), (1, .int x1), (2, .int x2)] (r1.toList ++ []) M1 Q)) : Wp d mdX6_askAll 15 [(0, .ref a0), (1, .int x1), (2, .int x2)] [] M Q := by
  refine r_iload_n dX6_askAll_15 rfl 2 rfl ?_
  refine r_aload_n dX6_askAll_16 rfl 0 rfl ?_
  refine r_getR ck4 dX6_askAll_17 flX6_69 rfl k0 ?_
  refine r_getR ck0 dX6_askAll_20 flX6_115 rfl k1 ?_
  refine r_getI ck1 dX6_askAll_23 flX6_119 rfl k2 ?_
  refine r_icmp_ge (tgt := 88) dX6_askAll_26 (by decide) (fun c0 => ?_) (fun c0 => ?_)
  · skip
    refine r_iinc dX6_askAll_88 1 rfl (v := x1 + (nI 1)) rfl (by decide) (ls' := [(1, .int (x1 + (nI 1))), (0, .ref a0), (2, .int x2)]) rfl ?_
    refine r_goto (tgt := 2) dX6_askAll_91 (by decide) ?_
    refine r_sub [1, 0] (ls' := [(0, .ref a0), (1, .int (x1 + (nI 1)))]) rfl ?_
    exact (pw0 c0)
  · skip
    refine r_aload_n dX6_askAll_29 rfl 0 rfl ?_
    refine r_iload_n dX6_askAll_30 rfl 1 rfl ?_
    refine r_iload_n dX6_askAll_31 rfl 2 rfl ?_
    obtain ⟨e9, hlt, h9⟩ := (pf1 c0)
    exact r_callV (As := [.int x1, .int x2]) (rest := []) (ci := 4) moX6_rowWord dX6_askAll_32 mlX6_124 imX6_rowWord seX6_rowWord k0 rfl hlt (Nat.le_of_ble_eq_true rfl) h9
theorem gX6_askAll_35 {d : Nat} {Q : Option Value → Mem → Prop} {M : Mem} {a0 : Nat} {x1 : Int32} {x2 : Int32} {sw0 : Int64} (k0 : mK M a0 = 8) (pf0 : ClD d mdX6_firstUnfilled [.ref a0, .int x1] M (fun r1 M1 => Wp d mdX6_askAll 41 [(0, .ref a0), (1, .int x1), (2, .int x2), (3, .long sw0)] (r1.toList ++ []) M1 Q)) : Wp d mdX6_askAll 35 [(0, .ref a0), (1, .int x1), (2, .int x2)] [.long sw0] M Q := by
  refine r_lstore_n dX6_askAll_35 rfl (by decide) (ls' := [(3, .long sw0), (0, .ref a0), (1, .int x1), (2, .int x2)]) rfl ?_
  refine r_aload_n dX6_askAll_36 rfl 1 rfl ?_
  refine r_iload_n dX6_askAll_37 rfl 2 rfl ?_
  refine r_sub [1, 2, 3, 0] (ls' := [(0, .ref a0), (1, .int x1), (2, .int x2), (3, .long sw0)]) rfl ?_
  obtain ⟨e9, hlt, h9⟩ := pf0
  exact r_callV (As := [.int x1]) (rest := []) (ci := 4) moX6_firstUnfilled dX6_askAll_38 mlX6_128 imX6_firstUnfilled seX6_firstUnfilled k0 rfl hlt (Nat.le_of_ble_eq_true rfl) h9
theorem gX6_askAll_41 {d : Nat} {Q : Option Value → Mem → Prop} {M : Mem} {a0 : Nat} {x1 : Int32} {x2 : Int32} {w3 : Int64} {sx0 : Int32}  (pw0 : Wp d mdX6_askAll 43 [(0, .ref a0), (1, .int x1), (2, .int x2), (3, .long w3), (5, .int sx0)] [] M Q) : Wp d mdX6_askAll 41 [(0, .ref a0), (1, .int x1), (2, .int x2), (3, .long w3)] [.int sx0] M Q := by
  refine r_istore dX6_askAll_41 (by decide) (ls' := [(5, .int sx0), (0, .ref a0), (1, .int x1), (2, .int x2), (3, .long w3)]) rfl ?_
  refine r_sub [1, 2, 3, 4, 0] (ls' := [(0, .ref a0), (1, .int x1), (2, .int x2), (3, .long w3), (5, .int sx0)]) rfl ?_
  exact pw0
theorem gX6_askAll_43 {d : Nat} {Q : Option Value → Mem → Prop} {M : Mem} {a0 : Nat} {x1 : Int32} {x2 : Int32} {w3 : Int64} {x5 : Int32} (k0 : mK M a0 = 8) (k1 : mK M (mR M a0 2) = 11) (pw0 : (mI M (mR M a0 2) 0) ≤ x5 → Wp d mdX6_askAll 15 [(0, .ref a0), (1, .int x1), (2, .int (x2 + (nI 1)))] [] M Q) (pf1 : ¬ (mI M (mR M a0 2) 0) ≤ x5 → ClD d mdX9_get [.ref (mR M a0 2), .int x5] M (fun r1 M1 => Wp d mdX6_askAll 69 [(0, .ref a0), (1, .int x1), (2, .int x2), (3, .long w3), (5, .int x5)] (r1.toList ++ [.long w3, .ref (mR M a0 0)]) M1 Q)) : Wp d mdX6_askAll 43 [(0, .ref a0), (1, .int x1), (2, .int x2), (3, .long w3), (5, .int x5)] [] M Q := by
  refine r_iload dX6_askAll_43 4 rfl ?_
  refine r_aload_n dX6_askAll_45 rfl 0 rfl ?_
  refine r_getR ck4 dX6_askAll_46 flX6_66 rfl k0 ?_
  refine r_getI ck7 dX6_askAll_49 flX6_61 rfl k1 ?_
  refine r_icmp_ge (tgt := 82) dX6_askAll_52 (by decide) (fun c0 => ?_) (fun c0 => ?_)
  · skip
    refine r_iinc dX6_askAll_82 2 rfl (v := x2 + (nI 1)) rfl (by decide) (ls' := [(2, .int (x2 + (nI 1))), (0, .ref a0), (1, .int x1), (3, .long w3), (5, .int x5)]) rfl ?_
    refine r_goto (tgt := 15) dX6_askAll_85 (by decide) ?_
    refine r_sub [1, 2, 0] (ls' := [(0, .ref a0), (1, .int x1), (2, .int (x2 + (nI 1)))]) rfl ?_
    exact (pw0 c0)
  · skip
    refine r_aload_n dX6_askAll_55 rfl 0 rfl ?_
    refine r_getR ck4 dX6_askAll_56 flX6_69 rfl k0 ?_
    refine r_lload_n dX6_askAll_59 rfl 3 rfl ?_
    refine r_aload_n dX6_askAll_60 rfl 0 rfl ?_
    refine r_getR ck4 dX6_askAll_61 flX6_66 rfl k0 ?_
    refine r_iload dX6_askAll_64 4 rfl ?_
    obtain ⟨e9, hlt, h9⟩ := (pf1 c0)
    exact r_callV (As := [.int x5]) (rest := [.long w3, .ref (mR M a0 0)]) (ci := 7) moX9_get dX6_askAll_66 mlX6_132 imX9_get seX9_get k1 rfl hlt (Nat.le_of_ble_eq_true rfl) h9
theorem gX6_askAll_69 {d : Nat} {Q : Option Value → Mem → Prop} {M : Mem} {a0 : Nat} {x1 : Int32} {x2 : Int32} {w3 : Int64} {x5 : Int32} {sw0 : Int64} {sw1 : Int64} {sa2 : Nat}  (pf0 : ClD d mdX1_join [.long sw1, .long sw0] M (fun r1 M1 => Wp d mdX6_askAll 72 [(0, .ref a0), (1, .int x1), (2, .int x2), (3, .long w3), (5, .int x5)] (r1.toList ++ [.ref sa2]) M1 Q)) : Wp d mdX6_askAll 69 [(0, .ref a0), (1, .int x1), (2, .int x2), (3, .long w3), (5, .int x5)] [.long sw0, .long sw1, .ref sa2] M Q := by
  obtain ⟨e9, hlt, h9⟩ := pf0
  exact r_callS (As := [.long sw1, .long sw0]) (rest := [.ref sa2]) moX1_join dX6_askAll_69 mlX6_136 saX1_join rfl hlt (Nat.le_of_ble_eq_true rfl) h9
theorem gX6_askAll_72 {d : Nat} {Q : Option Value → Mem → Prop} {M : Mem} {a0 : Nat} {x1 : Int32} {x2 : Int32} {w3 : Int64} {x5 : Int32} {sw0 : Int64} {sa1 : Nat} (k0 : mK M sa1 = 4) (pf0 : ClD d mdX0_ask [.ref sa1, .long sw0] M (fun r1 M1 => Wp d mdX6_askAll 75 [(0, .ref a0), (1, .int x1), (2, .int x2), (3, .long w3), (5, .int x5)] (r1.toList ++ []) M1 Q)) : Wp d mdX6_askAll 72 [(0, .ref a0), (1, .int x1), (2, .int x2), (3, .long w3), (5, .int x5)] [.long sw0, .ref sa1] M Q := by
  obtain ⟨e9, hlt, h9⟩ := pf0
  exact r_callV (As := [.long sw0]) (rest := []) (ci := 0) moX0_ask dX6_askAll_72 mlX6_73 imX0_ask seX0_ask k0 rfl hlt (Nat.le_of_ble_eq_true rfl) h9
theorem gX6_askAll_75 {d : Nat} {Q : Option Value → Mem → Prop} {M : Mem} {a0 : Nat} {x1 : Int32} {x2 : Int32} {w3 : Int64} {x5 : Int32} {sx0 : Int32}  (pw0 : Wp d mdX6_askAll 43 [(0, .ref a0), (1, .int x1), (2, .int x2), (3, .long w3), (5, .int (x5 + (nI 1)))] [] M Q) : Wp d mdX6_askAll 75 [(0, .ref a0), (1, .int x1), (2, .int x2), (3, .long w3), (5, .int x5)] [.int sx0] M Q := by
  refine r_pop dX6_askAll_75 rfl ?_
  refine r_iinc dX6_askAll_76 4 rfl (v := x5 + (nI 1)) rfl (by decide) (ls' := [(5, .int (x5 + (nI 1))), (0, .ref a0), (1, .int x1), (2, .int x2), (3, .long w3)]) rfl ?_
  refine r_goto (tgt := 43) dX6_askAll_79 (by decide) ?_
  refine r_sub [1, 2, 3, 4, 0] (ls' := [(0, .ref a0), (1, .int x1), (2, .int x2), (3, .long w3), (5, .int (x5 + (nI 1)))]) rfl ?_
  exact pw0
-- X6_isFull
theorem gX6_isFull_0 {d : Nat} {Q : Option Value → Mem → Prop} {M : Mem} {a0 : Nat}  (pw0 : Wp d mdX6_isFull 2 [(0, .ref a0), (1, .int (nI 0))] [] M Q) : Wp d mdX6_isFull 0 [(0, .ref a0)] [] M Q := by
  refine r_iconst (v := (nI 0)) dX6_isFull_0 rfl ?_
  refine r_istore_n dX6_isFull_1 rfl (by decide) (ls' := [(1, .int (nI 0)), (0, .ref a0)]) rfl ?_
  refine r_sub [1, 0] (ls' := [(0, .ref a0), (1, .int (nI 0))]) rfl ?_
  exact pw0
theorem gX6_isFull_2 {d : Nat} {Q : Option Value → Mem → Prop} {M : Mem} {a0 : Nat} {x1 : Int32} (k0 : mK M a0 = 8) (k1 : mK M (mR M a0 1) = 11) (pq0 : (mI M (mR M a0 1) 0) ≤ x1 → Q (some (.int (nI 1))) M) (pw1 : ¬ (mI M (mR M a0 1) 0) ≤ x1 → Wp d mdX6_isFull 15 [(0, .ref a0), (1, .int x1), (2, .int (-1 : Int32))] [] M Q) : Wp d mdX6_isFull 2 [(0, .ref a0), (1, .int x1)] [] M Q := by
  refine r_iload_n dX6_isFull_2 rfl 1 rfl ?_
  refine r_aload_n dX6_isFull_3 rfl 0 rfl ?_
  refine r_getR ck4 dX6_isFull_4 flX6_57 rfl k0 ?_
  refine r_getI ck7 dX6_isFull_7 flX6_61 rfl k1 ?_
  refine r_icmp_ge (tgt := 61) dX6_isFull_10 (by decide) (fun c0 => ?_) (fun c0 => ?_)
  · skip
    refine r_iconst (v := (nI 1)) dX6_isFull_61 rfl ?_
    exact r_ret (some (.int (nI 1))) dX6_isFull_62 rfl (pq0 c0)
  · skip
    refine r_iconst (v := (-1)) dX6_isFull_13 rfl ?_
    refine r_istore_n dX6_isFull_14 rfl (by decide) (ls' := [(2, .int (-1 : Int32)), (0, .ref a0), (1, .int x1)]) rfl ?_
    refine r_sub [1, 2, 0] (ls' := [(0, .ref a0), (1, .int x1), (2, .int (-1 : Int32))]) rfl ?_
    exact (pw1 c0)
theorem gX6_isFull_15 {d : Nat} {Q : Option Value → Mem → Prop} {M : Mem} {a0 : Nat} {x1 : Int32} {x2 : Int32} (k0 : mK M a0 = 8) (k1 : mK M (mR M a0 0) = 4) (k2 : mK M (mR M (mR M a0 0) 0) = 5) (pw0 : (mI M (mR M (mR M a0 0) 0) 1) ≤ x2 → Wp d mdX6_isFull 2 [(0, .ref a0), (1, .int (x1 + (nI 1)))] [] M Q) (pf1 : ¬ (mI M (mR M (mR M a0 0) 0) 1) ≤ x2 → ClD d mdX6_rowWord [.ref a0, .int x1, .int x2] M (fun r1 M1 => Wp d mdX6_isFull 36 [(0, .ref a0), (1, .int x1), (2, .int x2)] (r1.toList ++ [.ref a0]) M1 Q)) : Wp d mdX6_isFull 15 [(0, .ref a0), (1, .int x1), (2, .int x2)] [] M Q := by
  refine r_iload_n dX6_isFull_15 rfl 2 rfl ?_
  refine r_aload_n dX6_isFull_16 rfl 0 rfl ?_
  refine r_getR ck4 dX6_isFull_17 flX6_69 rfl k0 ?_
  refine r_getR ck0 dX6_isFull_20 flX6_115 rfl k1 ?_
  refine r_getI ck1 dX6_isFull_23 flX6_119 rfl k2 ?_
  refine r_icmp_ge (tgt := 55) dX6_isFull_26 (by decide) (fun c0 => ?_) (fun c0 => ?_)
  · skip
    refine r_iinc dX6_isFull_55 1 rfl (v := x1 + (nI 1)) rfl (by decide) (ls' := [(1, .int (x1 + (nI 1))), (0, .ref a0), (2, .int x2)]) rfl ?_
    refine r_goto (tgt := 2) dX6_isFull_58 (by decide) ?_
    refine r_sub [1, 0] (ls' := [(0, .ref a0), (1, .int (x1 + (nI 1)))]) rfl ?_
    exact (pw0 c0)
  · skip
    refine r_aload_n dX6_isFull_29 rfl 0 rfl ?_
    refine r_aload_n dX6_isFull_30 rfl 0 rfl ?_
    refine r_iload_n dX6_isFull_31 rfl 1 rfl ?_
    refine r_iload_n dX6_isFull_32 rfl 2 rfl ?_
    obtain ⟨e9, hlt, h9⟩ := (pf1 c0)
    exact r_callV (As := [.int x1, .int x2]) (rest := [.ref a0]) (ci := 4) moX6_rowWord dX6_isFull_33 mlX6_124 imX6_rowWord seX6_rowWord k0 rfl hlt (Nat.le_of_ble_eq_true rfl) h9
theorem gX6_isFull_36 {d : Nat} {Q : Option Value → Mem → Prop} {M : Mem} {a0 : Nat} {x1 : Int32} {x2 : Int32} {sw0 : Int64} {sa1 : Nat} (k0 : mK M a0 = 8) (pf0 : ClD d mdX6_firstUnfilled [.ref a0, .int x1] M (fun r1 M1 => Wp d mdX6_isFull 41 [(0, .ref a0), (1, .int x1), (2, .int x2)] (r1.toList ++ [.long sw0, .ref sa1]) M1 Q)) : Wp d mdX6_isFull 36 [(0, .ref a0), (1, .int x1), (2, .int x2)] [.long sw0, .ref sa1] M Q := by
  refine r_aload_n dX6_isFull_36 rfl 0 rfl ?_
  refine r_iload_n dX6_isFull_37 rfl 1 rfl ?_
  obtain ⟨e9, hlt, h9⟩ := pf0
  exact r_callV (As := [.int x1]) (rest := [.long sw0, .ref sa1]) (ci := 4) moX6_firstUnfilled dX6_isFull_38 mlX6_128 imX6_firstUnfilled seX6_firstUnfilled k0 rfl hlt (Nat.le_of_ble_eq_true rfl) h9
theorem gX6_isFull_41 {d : Nat} {Q : Option Value → Mem → Prop} {M : Mem} {a0 : Nat} {x1 : Int32} {x2 : Int32} {sx0 : Int32} {sw1 : Int64} {sa2 : Nat} (k0 : mK M sa2 = 8) (pf0 : ClD d mdX6_isAsked [.ref sa2, .long sw1, .int sx0] M (fun r1 M1 => Wp d mdX6_isFull 44 [(0, .ref a0), (1, .int x1), (2, .int x2)] (r1.toList ++ []) M1 Q)) : Wp d mdX6_isFull 41 [(0, .ref a0), (1, .int x1), (2, .int x2)] [.int sx0, .long sw1, .ref sa2] M Q := by
  obtain ⟨e9, hlt, h9⟩ := pf0
  exact r_callV (As := [.long sw1, .int sx0]) (rest := []) (ci := 4) moX6_isAsked dX6_isFull_41 mlX6_140 imX6_isAsked seX6_isAsked k0 rfl hlt (Nat.le_of_ble_eq_true rfl) h9
theorem gX6_isFull_44 {d : Nat} {Q : Option Value → Mem → Prop} {M : Mem} {a0 : Nat} {x1 : Int32} {x2 : Int32} {sx0 : Int32}  (pw0 : ¬ sx0 = 0 → Wp d mdX6_isFull 15 [(0, .ref a0), (1, .int x1), (2, .int (x2 + (nI 1)))] [] M Q) (pq1 : sx0 = 0 → Q (some (.int (nI 0))) M) : Wp d mdX6_isFull 44 [(0, .ref a0), (1, .int x1), (2, .int x2)] [.int sx0] M Q := by
  refine r_if_ne (tgt := 49) dX6_isFull_44 (by decide) (fun c0 => ?_) (fun c0 => ?_)
  · skip
    refine r_iinc dX6_isFull_49 2 rfl (v := x2 + (nI 1)) rfl (by decide) (ls' := [(2, .int (x2 + (nI 1))), (0, .ref a0), (1, .int x1)]) rfl ?_
    refine r_goto (tgt := 15) dX6_isFull_52 (by decide) ?_
    refine r_sub [1, 2, 0] (ls' := [(0, .ref a0), (1, .int x1), (2, .int (x2 + (nI 1)))]) rfl ?_
    exact (pw0 c0)
  · skip
    refine r_iconst (v := (nI 0)) dX6_isFull_47 rfl ?_
    exact r_ret (some (.int (nI 0))) dX6_isFull_48 rfl (pq1 c0)
-- X6_isAsked
theorem gX6_isAsked_0 {d : Nat} {Q : Option Value → Mem → Prop} {M : Mem} {a0 : Nat} {w1 : Int64} {x3 : Int32}  (pw0 : Wp d mdX6_isAsked 3 [(0, .ref a0), (1, .long w1), (4, .int x3)] [] M Q) : Wp d mdX6_isAsked 0 [(0, .ref a0), (1, .long w1), (3, .int x3)] [] M Q := by
  refine r_iload_n dX6_isAsked_0 rfl 2 rfl ?_
  refine r_istore dX6_isAsked_1 (by decide) (ls' := [(4, .int x3), (0, .ref a0), (1, .long w1), (3, .int x3)]) rfl ?_
  refine r_sub [1, 2, 0] (ls' := [(0, .ref a0), (1, .long w1), (4, .int x3)]) rfl ?_
  exact pw0
theorem gX6_isAsked_3 {d : Nat} {Q : Option Value → Mem → Prop} {M : Mem} {a0 : Nat} {w1 : Int64} {x4 : Int32} (k0 : mK M a0 = 8) (k1 : mK M (mR M a0 2) = 11) (k2 : mK M (mR M a0 0) = 4) (pq0 : (mI M (mR M a0 2) 0) ≤ x4 → Q (some (.int (nI 1))) M) (pf1 : ¬ (mI M (mR M a0 2) 0) ≤ x4 → ClD d mdX9_get [.ref (mR M a0 2), .int x4] M (fun r1 M1 => Wp d mdX6_isAsked 32 [(0, .ref a0), (1, .long w1), (4, .int x4)] (r1.toList ++ [.long w1, .ref (mR M (mR M a0 0) 1)]) M1 Q)) : Wp d mdX6_isAsked 3 [(0, .ref a0), (1, .long w1), (4, .int x4)] [] M Q := by
  refine r_iload dX6_isAsked_3 2 rfl ?_
  refine r_aload_n dX6_isAsked_5 rfl 0 rfl ?_
  refine r_getR ck4 dX6_isAsked_6 flX6_66 rfl k0 ?_
  refine r_getI ck7 dX6_isAsked_9 flX6_61 rfl k1 ?_
  refine r_icmp_ge (tgt := 49) dX6_isAsked_12 (by decide) (fun c0 => ?_) (fun c0 => ?_)
  · skip
    refine r_iconst (v := (nI 1)) dX6_isAsked_49 rfl ?_
    exact r_ret (some (.int (nI 1))) dX6_isAsked_50 rfl (pq0 c0)
  · skip
    refine r_aload_n dX6_isAsked_15 rfl 0 rfl ?_
    refine r_getR ck4 dX6_isAsked_16 flX6_69 rfl k0 ?_
    refine r_getR ck0 dX6_isAsked_19 flX6_144 rfl k2 ?_
    refine r_lload_n dX6_isAsked_22 rfl 1 rfl ?_
    refine r_aload_n dX6_isAsked_23 rfl 0 rfl ?_
    refine r_getR ck4 dX6_isAsked_24 flX6_66 rfl k0 ?_
    refine r_iload dX6_isAsked_27 2 rfl ?_
    obtain ⟨e9, hlt, h9⟩ := (pf1 c0)
    exact r_callV (As := [.int x4]) (rest := [.long w1, .ref (mR M (mR M a0 0) 1)]) (ci := 7) moX9_get dX6_isAsked_29 mlX6_132 imX9_get seX9_get k1 rfl hlt (Nat.le_of_ble_eq_true rfl) h9
theorem gX6_isAsked_32 {d : Nat} {Q : Option Value → Mem → Prop} {M : Mem} {a0 : Nat} {w1 : Int64} {x4 : Int32} {sw0 : Int64} {sw1 : Int64} {sa2 : Nat}  (pf0 : ClD d mdX1_join [.long sw1, .long sw0] M (fun r1 M1 => Wp d mdX6_isAsked 35 [(0, .ref a0), (1, .long w1), (4, .int x4)] (r1.toList ++ [.ref sa2]) M1 Q)) : Wp d mdX6_isAsked 32 [(0, .ref a0), (1, .long w1), (4, .int x4)] [.long sw0, .long sw1, .ref sa2] M Q := by
  obtain ⟨e9, hlt, h9⟩ := pf0
  exact r_callS (As := [.long sw1, .long sw0]) (rest := [.ref sa2]) moX1_join dX6_isAsked_32 mlX6_136 saX1_join rfl hlt (Nat.le_of_ble_eq_true rfl) h9
theorem gX6_isAsked_35 {d : Nat} {Q : Option Value → Mem → Prop} {M : Mem} {a0 : Nat} {w1 : Int64} {x4 : Int32} {sw0 : Int64} {sa1 : Nat} (k0 : mK M sa1 = 12) (pf0 : ClD d mdX10_has [.ref sa1, .long sw0] M (fun r1 M1 => Wp d mdX6_isAsked 38 [(0, .ref a0), (1, .long w1), (4, .int x4)] (r1.toList ++ []) M1 Q)) : Wp d mdX6_isAsked 35 [(0, .ref a0), (1, .long w1), (4, .int x4)] [.long sw0, .ref sa1] M Q := by
  obtain ⟨e9, hlt, h9⟩ := pf0
  exact r_callV (As := [.long sw0]) (rest := []) (ci := 8) moX10_has dX6_isAsked_35 mlX6_148 imX10_has seX10_has k0 rfl hlt (Nat.le_of_ble_eq_true rfl) h9
theorem gX6_isAsked_38 {d : Nat} {Q : Option Value → Mem → Prop} {M : Mem} {a0 : Nat} {w1 : Int64} {x4 : Int32} {sx0 : Int32}  (pw0 : ¬ sx0 = 0 → Wp d mdX6_isAsked 3 [(0, .ref a0), (1, .long w1), (4, .int (x4 + (nI 1)))] [] M Q) (pq1 : sx0 = 0 → Q (some (.int (nI 0))) M) : Wp d mdX6_isAsked 38 [(0, .ref a0), (1, .long w1), (4, .int x4)] [.int sx0] M Q := by
  refine r_if_ne (tgt := 43) dX6_isAsked_38 (by decide) (fun c0 => ?_) (fun c0 => ?_)
  · skip
    refine r_iinc dX6_isAsked_43 2 rfl (v := x4 + (nI 1)) rfl (by decide) (ls' := [(4, .int (x4 + (nI 1))), (0, .ref a0), (1, .long w1)]) rfl ?_
    refine r_goto (tgt := 3) dX6_isAsked_46 (by decide) ?_
    refine r_sub [1, 2, 0] (ls' := [(0, .ref a0), (1, .long w1), (4, .int (x4 + (nI 1)))]) rfl ?_
    exact (pw0 c0)
  · skip
    refine r_iconst (v := (nI 0)) dX6_isAsked_41 rfl ?_
    exact r_ret (some (.int (nI 0))) dX6_isAsked_42 rfl (pq1 c0)
-- X6_rowWord
theorem gX6_rowWord_0 {d : Nat} {Q : Option Value → Mem → Prop} {M : Mem} {a0 : Nat} {x1 : Int32} {x2 : Int32} (k0 : mK M a0 = 8) (k1 : mK M (mR M a0 1) = 11) (pf0 : ¬ x2 = (-1 : Int32) → ClD d mdX9_get [.ref (mR M a0 1), .int x1] M (fun r1 M1 => Wp d mdX6_rowWord 24 [(2, .int x2)] (r1.toList ++ []) M1 Q)) (pf1 : x2 = (-1 : Int32) → ClD d mdX9_get [.ref (mR M a0 1), .int x1] M (fun r1 M1 => Wp d mdX6_rowWord 13 [] (r1.toList ++ []) M1 Q)) : Wp d mdX6_rowWord 0 [(0, .ref a0), (1, .int x1), (2, .int x2)] [] M Q := by
  refine r_iload_n dX6_rowWord_0 rfl 2 rfl ?_
  refine r_iconst (v := (-1)) dX6_rowWord_1 rfl ?_
  refine r_icmp_ne (tgt := 16) dX6_rowWord_2 (by decide) (fun c0 => ?_) (fun c0 => ?_)
  · skip
    refine r_aload_n dX6_rowWord_16 rfl 0 rfl ?_
    refine r_getR ck4 dX6_rowWord_17 flX6_57 rfl k0 ?_
    refine r_iload_n dX6_rowWord_20 rfl 1 rfl ?_
    refine r_sub [2] (ls' := [(2, .int x2)]) rfl ?_
    obtain ⟨e9, hlt, h9⟩ := (pf0 c0)
    exact r_callV (As := [.int x1]) (rest := []) (ci := 7) moX9_get dX6_rowWord_21 mlX6_132 imX9_get seX9_get k1 rfl hlt (Nat.le_of_ble_eq_true rfl) h9
  · skip
    refine r_aload_n dX6_rowWord_5 rfl 0 rfl ?_
    refine r_getR ck4 dX6_rowWord_6 flX6_57 rfl k0 ?_
    refine r_iload_n dX6_rowWord_9 rfl 1 rfl ?_
    refine r_sub [] (ls' := []) rfl ?_
    obtain ⟨e9, hlt, h9⟩ := (pf1 c0)
    exact r_callV (As := [.int x1]) (rest := []) (ci := 7) moX9_get dX6_rowWord_10 mlX6_132 imX9_get seX9_get k1 rfl hlt (Nat.le_of_ble_eq_true rfl) h9
theorem gX6_rowWord_13 {d : Nat} {Q : Option Value → Mem → Prop} {M : Mem} {sw0 : Int64}  (pw0 : Wp d mdX6_rowWord 28 [] [.long sw0] M Q) : Wp d mdX6_rowWord 13 [] [.long sw0] M Q := by
  refine r_goto (tgt := 28) dX6_rowWord_13 (by decide) ?_
  exact pw0
theorem gX6_rowWord_24 {d : Nat} {Q : Option Value → Mem → Prop} {M : Mem} {x2 : Int32} {sw0 : Int64}  (pf0 : ClD d mdX1_then [.long sw0, .int x2] M (fun r1 M1 => Wp d mdX6_rowWord 28 [] (r1.toList ++ []) M1 Q)) : Wp d mdX6_rowWord 24 [(2, .int x2)] [.long sw0] M Q := by
  refine r_iload_n dX6_rowWord_24 rfl 0 rfl ?_
  refine r_sub [] (ls' := []) rfl ?_
  obtain ⟨e9, hlt, h9⟩ := pf0
  exact r_callS (As := [.long sw0, .int x2]) (rest := []) moX1_then dX6_rowWord_25 mlX6_151 saX1_then rfl hlt (Nat.le_of_ble_eq_true rfl) h9
theorem gX6_rowWord_28 {d : Nat} {Q : Option Value → Mem → Prop} {M : Mem} {sw0 : Int64}  (pq0 : Q (some (.long sw0)) M) : Wp d mdX6_rowWord 28 [] [.long sw0] M Q := by
  exact r_ret (some (.long sw0)) dX6_rowWord_28 rfl pq0
-- X6_firstUnfilled
theorem gX6_firstUnfilled_0 {d : Nat} {Q : Option Value → Mem → Prop} {M : Mem} {a0 : Nat} {x1 : Int32} (k0 : mK M a0 = 8) (pq0 : (mI M a0 7) ≤ x1 → Q (some (.int (nI 0))) M) (pq1 : ¬ (mI M a0 7) ≤ x1 → Q (some (.int (mI M a0 8))) M) : Wp d mdX6_firstUnfilled 0 [(0, .ref a0), (1, .int x1)] [] M Q := by
  refine r_iload_n dX6_firstUnfilled_0 rfl 1 rfl ?_
  refine r_aload_n dX6_firstUnfilled_1 rfl 0 rfl ?_
  refine r_getI ck4 dX6_firstUnfilled_2 flX6_27 rfl k0 ?_
  refine r_icmp_ge (tgt := 15) dX6_firstUnfilled_5 (by decide) (fun c0 => ?_) (fun c0 => ?_)
  · skip
    refine r_iconst (v := (nI 0)) dX6_firstUnfilled_15 rfl ?_
    exact r_ret (some (.int (nI 0))) dX6_firstUnfilled_16 rfl (pq0 c0)
  · skip
    refine r_aload_n dX6_firstUnfilled_8 rfl 0 rfl ?_
    refine r_getI ck4 dX6_firstUnfilled_9 flX6_31 rfl k0 ?_
    refine r_goto (tgt := 16) dX6_firstUnfilled_12 (by decide) ?_
    exact r_ret (some (.int (mI M a0 8))) dX6_firstUnfilled_16 rfl (pq1 c0)
-- X6_findLines
theorem gX6_findLines_0 {d : Nat} {Q : Option Value → Mem → Prop} {M : Mem} {a0 : Nat} (k0 : mK M a0 = 8) (pf0 : ClD d mdJ7_fill_53178 [.ref (mR M a0 9), .int (nI 0)] M (fun r1 M1 => Wp d mdX6_findLines 8 [(0, .ref a0)] (r1.toList ++ []) M1 Q)) : Wp d mdX6_findLines 0 [(0, .ref a0)] [] M Q := by
  refine r_aload_n dX6_findLines_0 rfl 0 rfl ?_
  refine r_getR ck4 dX6_findLines_1 flX6_9 rfl k0 ?_
  refine r_iconst (v := (nI 0)) dX6_findLines_4 rfl ?_
  obtain ⟨e9, hlt, h9⟩ := pf0
  exact r_callS (As := [.ref (mR M a0 9), .int (nI 0)]) (rest := []) moJ7_fill_53178 dX6_findLines_5 mlX6_154 saJ7_fill_53178 rfl hlt (Nat.le_of_ble_eq_true rfl) h9
theorem gX6_findLines_8 {d : Nat} {Q : Option Value → Mem → Prop} {M : Mem} {a0 : Nat}  (pw0 : Wp d mdX6_findLines 10 [(0, .ref a0), (1, .int (nI 0))] [] M Q) : Wp d mdX6_findLines 8 [(0, .ref a0)] [] M Q := by
  refine r_iconst (v := (nI 0)) dX6_findLines_8 rfl ?_
  refine r_istore_n dX6_findLines_9 rfl (by decide) (ls' := [(1, .int (nI 0)), (0, .ref a0)]) rfl ?_
  refine r_sub [1, 0] (ls' := [(0, .ref a0), (1, .int (nI 0))]) rfl ?_
  exact pw0
theorem gX6_findLines_10 {d : Nat} {Q : Option Value → Mem → Prop} {M : Mem} {a0 : Nat} {x1 : Int32} (k0 : mK M a0 = 8) (k1 : mK M (mR M a0 2) = 11) (pf0 : (mI M (mR M a0 2) 0) ≤ x1 → ClD d mdJ7_fill_53178 [.ref (mR M a0 12), .int (-1 : Int32)] M (fun r1 M1 => Wp d mdX6_findLines 47 [(0, .ref a0)] (r1.toList ++ []) M1 Q)) (pf1 : ¬ (mI M (mR M a0 2) 0) ≤ x1 → ClD d mdX9_get [.ref (mR M a0 2), .int x1] M (fun r1 M1 => Wp d mdX6_findLines 30 [(0, .ref a0), (1, .int x1)] (r1.toList ++ [.ref a0]) M1 Q)) : Wp d mdX6_findLines 10 [(0, .ref a0), (1, .int x1)] [] M Q := by
  refine r_iload_n dX6_findLines_10 rfl 1 rfl ?_
  refine r_aload_n dX6_findLines_11 rfl 0 rfl ?_
  refine r_getR ck4 dX6_findLines_12 flX6_66 rfl k0 ?_
  refine r_getI ck7 dX6_findLines_15 flX6_61 rfl k1 ?_
  refine r_icmp_ge (tgt := 39) dX6_findLines_18 (by decide) (fun c0 => ?_) (fun c0 => ?_)
  · skip
    refine r_aload_n dX6_findLines_39 rfl 0 rfl ?_
    refine r_getR ck4 dX6_findLines_40 flX6_21 rfl k0 ?_
    refine r_iconst (v := (-1)) dX6_findLines_43 rfl ?_
    refine r_sub [0] (ls' := [(0, .ref a0)]) rfl ?_
    obtain ⟨e9, hlt, h9⟩ := (pf0 c0)
    exact r_callS (As := [.ref (mR M a0 12), .int (-1 : Int32)]) (rest := []) moJ7_fill_53178 dX6_findLines_44 mlX6_154 saJ7_fill_53178 rfl hlt (Nat.le_of_ble_eq_true rfl) h9
  · skip
    refine r_aload_n dX6_findLines_21 rfl 0 rfl ?_
    refine r_aload_n dX6_findLines_22 rfl 0 rfl ?_
    refine r_getR ck4 dX6_findLines_23 flX6_66 rfl k0 ?_
    refine r_iload_n dX6_findLines_26 rfl 1 rfl ?_
    obtain ⟨e9, hlt, h9⟩ := (pf1 c0)
    exact r_callV (As := [.int x1]) (rest := [.ref a0]) (ci := 7) moX9_get dX6_findLines_27 mlX6_132 imX9_get seX9_get k1 rfl hlt (Nat.le_of_ble_eq_true rfl) h9
theorem gX6_findLines_30 {d : Nat} {Q : Option Value → Mem → Prop} {M : Mem} {a0 : Nat} {x1 : Int32} {sw0 : Int64} {sa1 : Nat} (k0 : mK M sa1 = 8) (pf0 : ClD d mdX6_splitLines [.ref sa1, .long sw0] M (fun r1 M1 => Wp d mdX6_findLines 33 [(0, .ref a0), (1, .int x1)] (r1.toList ++ []) M1 Q)) : Wp d mdX6_findLines 30 [(0, .ref a0), (1, .int x1)] [.long sw0, .ref sa1] M Q := by
  obtain ⟨e9, hlt, h9⟩ := pf0
  exact r_callV (As := [.long sw0]) (rest := []) (ci := 4) moX6_splitLines dX6_findLines_30 mlX6_160 imX6_splitLines seX6_splitLines k0 rfl hlt (Nat.le_of_ble_eq_true rfl) h9
theorem gX6_findLines_33 {d : Nat} {Q : Option Value → Mem → Prop} {M : Mem} {a0 : Nat} {x1 : Int32}  (pw0 : Wp d mdX6_findLines 10 [(0, .ref a0), (1, .int (x1 + (nI 1)))] [] M Q) : Wp d mdX6_findLines 33 [(0, .ref a0), (1, .int x1)] [] M Q := by
  refine r_iinc dX6_findLines_33 1 rfl (v := x1 + (nI 1)) rfl (by decide) (ls' := [(1, .int (x1 + (nI 1))), (0, .ref a0)]) rfl ?_
  refine r_goto (tgt := 10) dX6_findLines_36 (by decide) ?_
  refine r_sub [1, 0] (ls' := [(0, .ref a0), (1, .int (x1 + (nI 1)))]) rfl ?_
  exact pw0
theorem gX6_findLines_47 {d : Nat} {Q : Option Value → Mem → Prop} {M : Mem} {a0 : Nat}  (pw0 : Wp d mdX6_findLines 49 [(0, .ref a0), (1, .int (nI 0))] [] M Q) : Wp d mdX6_findLines 47 [(0, .ref a0)] [] M Q := by
  refine r_iconst (v := (nI 0)) dX6_findLines_47 rfl ?_
  refine r_istore_n dX6_findLines_48 rfl (by decide) (ls' := [(1, .int (nI 0)), (0, .ref a0)]) rfl ?_
  refine r_sub [1, 0] (ls' := [(0, .ref a0), (1, .int (nI 0))]) rfl ?_
  exact pw0
theorem gX6_findLines_49 {d : Nat} {Q : Option Value → Mem → Prop} {M : Mem} {a0 : Nat} {x1 : Int32} (k0 : mK M a0 = 8) (k1 : mK M (mR M a0 1) = 11) (k2 : mK M (mR M a0 13) = 1) (k3 : mK M (mR M a0 0) = 4) (pq0 : (mI M (mR M a0 1) 0) ≤ x1 → Q none M) (pq1 : ¬ (mI M (mR M a0 1) 0) ≤ x1 → (nI (mN M (mR M a0 13))) ≤ x1 → Q none M) (pf2 : ¬ (mI M (mR M a0 1) 0) ≤ x1 → ¬ (nI (mN M (mR M a0 13))) ≤ x1 → ClD d mdX9_get [.ref (mR M a0 1), .int x1] M (fun r1 M1 => Wp d mdX6_findLines 90 [(0, .ref a0), (1, .int x1)] (r1.toList ++ [.int (nI 0), .ref (mR M (mR M a0 0) 0), .int x1, .ref (mR M a0 13)]) M1 Q)) : Wp d mdX6_findLines 49 [(0, .ref a0), (1, .int x1)] [] M Q := by
  refine r_iload_n dX6_findLines_49 rfl 1 rfl ?_
  refine r_aload_n dX6_findLines_50 rfl 0 rfl ?_
  refine r_getR ck4 dX6_findLines_51 flX6_57 rfl k0 ?_
  refine r_getI ck7 dX6_findLines_54 flX6_61 rfl k1 ?_
  refine r_icmp_ge (tgt := 115) dX6_findLines_57 (by decide) (fun c0 => ?_) (fun c0 => ?_)
  · skip
    exact r_ret none dX6_findLines_115 rfl (pq0 c0)
  · skip
    refine r_iload_n dX6_findLines_60 rfl 1 rfl ?_
    refine r_aload_n dX6_findLines_61 rfl 0 rfl ?_
    refine r_getR ck4 dX6_findLines_62 flX6_24 rfl k0 ?_
    refine r_alen dX6_findLines_65 (Or.inl k2) ?_
    refine r_icmp_ge (tgt := 115) dX6_findLines_66 (by decide) (fun c1 => ?_) (fun c1 => ?_)
    · skip
      exact r_ret none dX6_findLines_115 rfl (pq1 c0 c1)
    · skip
      refine r_aload_n dX6_findLines_69 rfl 0 rfl ?_
      refine r_getR ck4 dX6_findLines_70 flX6_24 rfl k0 ?_
      refine r_iload_n dX6_findLines_73 rfl 1 rfl ?_
      refine r_aload_n dX6_findLines_74 rfl 0 rfl ?_
      refine r_getR ck4 dX6_findLines_75 flX6_69 rfl k0 ?_
      refine r_getR ck0 dX6_findLines_78 flX6_115 rfl k3 ?_
      refine r_iconst (v := (nI 0)) dX6_findLines_81 rfl ?_
      refine r_aload_n dX6_findLines_82 rfl 0 rfl ?_
      refine r_getR ck4 dX6_findLines_83 flX6_57 rfl k0 ?_
      refine r_iload_n dX6_findLines_86 rfl 1 rfl ?_
      obtain ⟨e9, hlt, h9⟩ := (pf2 c0 c1)
      exact r_callV (As := [.int x1]) (rest := [.int (nI 0), .ref (mR M (mR M a0 0) 0), .int x1, .ref (mR M a0 13)]) (ci := 7) moX9_get dX6_findLines_87 mlX6_132 imX9_get seX9_get k1 rfl hlt (Nat.le_of_ble_eq_true rfl) h9
theorem gX6_findLines_90 {d : Nat} {Q : Option Value → Mem → Prop} {M : Mem} {a0 : Nat} {x1 : Int32} {sw0 : Int64} {sx1 : Int32} {sa2 : Nat} {sx3 : Int32} {sa4 : Nat} (k0 : mK M sa2 = 5) (pf0 : ClD d mdX2_endFrom [.ref sa2, .int sx1, .long sw0] M (fun r1 M1 => Wp d mdX6_findLines 93 [(0, .ref a0), (1, .int x1)] (r1.toList ++ [.int sx3, .ref sa4]) M1 Q)) : Wp d mdX6_findLines 90 [(0, .ref a0), (1, .int x1)] [.long sw0, .int sx1, .ref sa2, .int sx3, .ref sa4] M Q := by
  obtain ⟨e9, hlt, h9⟩ := pf0
  exact r_callV (As := [.int sx1, .long sw0]) (rest := [.int sx3, .ref sa4]) (ci := 1) moX2_endFrom dX6_findLines_90 mlX6_163 imX2_endFrom seX2_endFrom k0 rfl hlt (Nat.le_of_ble_eq_true rfl) h9
theorem gX6_findLines_93 {d : Nat} {Q : Option Value → Mem → Prop} {M : Mem} {a0 : Nat} {x1 : Int32} {sx0 : Int32} {sx1 : Int32} {sa2 : Nat} (k0 : mK M sa2 = 1) (k1 : mK M a0 = 8) (k2 : mK M (mR (sI M sa2 sx1.toNatClampNeg sx0) a0 13) = 1) (pb0 : vp_in sx1 (mN M sa2)) (pb1 : vp_in x1 (mN (sI M sa2 sx1.toNatClampNeg sx0) (mR (sI M sa2 sx1.toNatClampNeg sx0) a0 13))) (pf2 : ClD d mdX6_lineOf [.ref a0, .int (mI (sI M sa2 sx1.toNatClampNeg sx0) (mR (sI M sa2 sx1.toNatClampNeg sx0) a0 13) x1.toNatClampNeg)] (sI M sa2 sx1.toNatClampNeg sx0) (fun r1 M1 => Wp d mdX6_findLines 105 [(0, .ref a0), (1, .int x1)] (r1.toList ++ [.ref a0]) M1 Q)) : Wp d mdX6_findLines 93 [(0, .ref a0), (1, .int x1)] [.int sx0, .int sx1, .ref sa2] M Q := by
  refine r_iast dX6_findLines_93 k0 pb0 ?_
  refine r_aload_n dX6_findLines_94 rfl 0 rfl ?_
  refine r_aload_n dX6_findLines_95 rfl 0 rfl ?_
  refine r_aload_n dX6_findLines_96 rfl 0 rfl ?_
  refine r_getR ck4 dX6_findLines_97 flX6_24 rfl k1 ?_
  refine r_iload_n dX6_findLines_100 rfl 1 rfl ?_
  refine r_iald dX6_findLines_101 k2 pb1 ?_
  obtain ⟨e9, hlt, h9⟩ := pf2
  exact r_callV (As := [.int (mI (sI M sa2 sx1.toNatClampNeg sx0) (mR (sI M sa2 sx1.toNatClampNeg sx0) a0 13) x1.toNatClampNeg)]) (rest := [.ref a0]) (ci := 4) moX6_lineOf dX6_findLines_102 mlX6_167 imX6_lineOf seX6_lineOf k1 rfl hlt (Nat.le_of_ble_eq_true rfl) h9
theorem gX6_findLines_105 {d : Nat} {Q : Option Value → Mem → Prop} {M : Mem} {a0 : Nat} {x1 : Int32} {sx0 : Int32} {sa1 : Nat} (k0 : mK M sa1 = 8) (pf0 : ClD d mdX6_setFirstHead [.ref sa1, .int sx0, .int x1] M (fun r1 M1 => Wp d mdX6_findLines 109 [(0, .ref a0), (1, .int x1)] (r1.toList ++ []) M1 Q)) : Wp d mdX6_findLines 105 [(0, .ref a0), (1, .int x1)] [.int sx0, .ref sa1] M Q := by
  refine r_iload_n dX6_findLines_105 rfl 1 rfl ?_
  obtain ⟨e9, hlt, h9⟩ := pf0
  exact r_callV (As := [.int sx0, .int x1]) (rest := []) (ci := 4) moX6_setFirstHead dX6_findLines_106 mlX6_170 imX6_setFirstHead seX6_setFirstHead k0 rfl hlt (Nat.le_of_ble_eq_true rfl) h9
theorem gX6_findLines_109 {d : Nat} {Q : Option Value → Mem → Prop} {M : Mem} {a0 : Nat} {x1 : Int32}  (pw0 : Wp d mdX6_findLines 49 [(0, .ref a0), (1, .int (x1 + (nI 1)))] [] M Q) : Wp d mdX6_findLines 109 [(0, .ref a0), (1, .int x1)] [] M Q := by
  refine r_iinc dX6_findLines_109 1 rfl (v := x1 + (nI 1)) rfl (by decide) (ls' := [(1, .int (x1 + (nI 1))), (0, .ref a0)]) rfl ?_
  refine r_goto (tgt := 49) dX6_findLines_112 (by decide) ?_
  refine r_sub [1, 0] (ls' := [(0, .ref a0), (1, .int (x1 + (nI 1)))]) rfl ?_
  exact pw0
-- X6_splitLines
theorem gX6_splitLines_0 {d : Nat} {Q : Option Value → Mem → Prop} {M : Mem} {a0 : Nat} {w1 : Int64} (hd1 : 1 ≤ d) (k0 : mK M a0 = 8) (k1 : mK M (mR M a0 9) = 1) (k2 : mK M (mR M a0 10) = 1) (pb0 : cpOK M (mR M a0 9) (nI 0) (mR M a0 10) (nI 0) (jmin (nI (mN M (mR M a0 9))) (nI (mN M (mR M a0 10))))) (pw1 : Wp d mdX6_splitLines 28 [(0, .ref a0), (1, .long w1), (3, .int (nI 0))] [] (cpM M (mR M a0 9) (nI 0) (mR M a0 10) (nI 0) (jmin (nI (mN M (mR M a0 9))) (nI (mN M (mR M a0 10))))) Q) : Wp d mdX6_splitLines 0 [(0, .ref a0), (1, .long w1)] [] M Q := by
  refine r_aload_n dX6_splitLines_0 rfl 0 rfl ?_
  refine r_getR ck4 dX6_splitLines_1 flX6_9 rfl k0 ?_
  refine r_iconst (v := (nI 0)) dX6_splitLines_4 rfl ?_
  refine r_aload_n dX6_splitLines_5 rfl 0 rfl ?_
  refine r_getR ck4 dX6_splitLines_6 flX6_15 rfl k0 ?_
  refine r_iconst (v := (nI 0)) dX6_splitLines_9 rfl ?_
  refine r_aload_n dX6_splitLines_10 rfl 0 rfl ?_
  refine r_getR ck4 dX6_splitLines_11 flX6_9 rfl k0 ?_
  refine r_alen dX6_splitLines_14 (Or.inl k1) ?_
  refine r_aload_n dX6_splitLines_15 rfl 0 rfl ?_
  refine r_getR ck4 dX6_splitLines_16 flX6_15 rfl k0 ?_
  refine r_alen dX6_splitLines_19 (Or.inl k2) ?_
  refine r_math_min dX6_splitLines_20 mlX6_174 hd1 (Nat.le_of_ble_eq_true rfl) ?_
  refine r_copyi dX6_splitLines_23 mlX6_180 k1 k2 pb0 hd1 (Nat.le_of_ble_eq_true rfl) ?_
  refine r_iconst (v := (nI 0)) dX6_splitLines_26 rfl ?_
  refine r_istore_n dX6_splitLines_27 rfl (by decide) (ls' := [(3, .int (nI 0)), (0, .ref a0), (1, .long w1)]) rfl ?_
  refine r_sub [1, 2, 0] (ls' := [(0, .ref a0), (1, .long w1), (3, .int (nI 0))]) rfl ?_
  exact pw1
theorem gX6_splitLines_28 {d : Nat} {Q : Option Value → Mem → Prop} {M : Mem} {a0 : Nat} {w1 : Int64} {x3 : Int32} (k0 : mK M a0 = 8) (k1 : mK M (mR M a0 9) = 1) (k2 : mK M (mR M a0 11) = 1) (k3 : mK M (mR M a0 0) = 4) (k4 : mK M (mR M (mR M a0 0) 0) = 5) (pq0 : (nI (mN M (mR M a0 9))) ≤ x3 → Q none M) (pq1 : ¬ (nI (mN M (mR M a0 9))) ≤ x3 → (nI (mN M (mR M a0 11))) ≤ x3 → Q none M) (pf2 : ¬ (nI (mN M (mR M a0 9))) ≤ x3 → ¬ (nI (mN M (mR M a0 11))) ≤ x3 → ClD d mdX2_endFrom [.ref (mR M (mR M a0 0) 0), .int x3, .long w1] M (fun r1 M1 => Wp d mdX6_splitLines 70 [(0, .ref a0), (1, .long w1), (3, .int x3)] (r1.toList ++ [.ref (mR M (mR M a0 0) 0), .int x3, .ref (mR M a0 11)]) M1 Q)) : Wp d mdX6_splitLines 28 [(0, .ref a0), (1, .long w1), (3, .int x3)] [] M Q := by
  refine r_iload_n dX6_splitLines_28 rfl 2 rfl ?_
  refine r_aload_n dX6_splitLines_29 rfl 0 rfl ?_
  refine r_getR ck4 dX6_splitLines_30 flX6_9 rfl k0 ?_
  refine r_alen dX6_splitLines_33 (Or.inl k1) ?_
  refine r_icmp_ge (tgt := 91) dX6_splitLines_34 (by decide) (fun c0 => ?_) (fun c0 => ?_)
  · skip
    exact r_ret none dX6_splitLines_91 rfl (pq0 c0)
  · skip
    refine r_iload_n dX6_splitLines_37 rfl 2 rfl ?_
    refine r_aload_n dX6_splitLines_38 rfl 0 rfl ?_
    refine r_getR ck4 dX6_splitLines_39 flX6_18 rfl k0 ?_
    refine r_alen dX6_splitLines_42 (Or.inl k2) ?_
    refine r_icmp_ge (tgt := 91) dX6_splitLines_43 (by decide) (fun c1 => ?_) (fun c1 => ?_)
    · skip
      exact r_ret none dX6_splitLines_91 rfl (pq1 c0 c1)
    · skip
      refine r_aload_n dX6_splitLines_46 rfl 0 rfl ?_
      refine r_getR ck4 dX6_splitLines_47 flX6_18 rfl k0 ?_
      refine r_iload_n dX6_splitLines_50 rfl 2 rfl ?_
      refine r_aload_n dX6_splitLines_51 rfl 0 rfl ?_
      refine r_getR ck4 dX6_splitLines_52 flX6_69 rfl k0 ?_
      refine r_getR ck0 dX6_splitLines_55 flX6_115 rfl k3 ?_
      refine r_aload_n dX6_splitLines_58 rfl 0 rfl ?_
      refine r_getR ck4 dX6_splitLines_59 flX6_69 rfl k0 ?_
      refine r_getR ck0 dX6_splitLines_62 flX6_115 rfl k3 ?_
      refine r_iload_n dX6_splitLines_65 rfl 2 rfl ?_
      refine r_lload_n dX6_splitLines_66 rfl 1 rfl ?_
      obtain ⟨e9, hlt, h9⟩ := (pf2 c0 c1)
      exact r_callV (As := [.int x3, .long w1]) (rest := [.ref (mR M (mR M a0 0) 0), .int x3, .ref (mR M a0 11)]) (ci := 1) moX2_endFrom dX6_splitLines_67 mlX6_163 imX2_endFrom seX2_endFrom k4 rfl hlt (Nat.le_of_ble_eq_true rfl) h9
theorem gX6_splitLines_70 {d : Nat} {Q : Option Value → Mem → Prop} {M : Mem} {a0 : Nat} {w1 : Int64} {x3 : Int32} {sx0 : Int32} {sa1 : Nat} {sx2 : Int32} {sa3 : Nat} (k0 : mK M sa1 = 5) (pf0 : ClD d mdX2_outputOf [.ref sa1, .int sx0] M (fun r1 M1 => Wp d mdX6_splitLines 73 [(0, .ref a0), (1, .long w1), (3, .int x3)] (r1.toList ++ [.int sx2, .ref sa3]) M1 Q)) : Wp d mdX6_splitLines 70 [(0, .ref a0), (1, .long w1), (3, .int x3)] [.int sx0, .ref sa1, .int sx2, .ref sa3] M Q := by
  obtain ⟨e9, hlt, h9⟩ := pf0
  exact r_callV (As := [.int sx0]) (rest := [.int sx2, .ref sa3]) (ci := 1) moX2_outputOf dX6_splitLines_70 mlX6_186 imX2_outputOf seX2_outputOf k0 rfl hlt (Nat.le_of_ble_eq_true rfl) h9
theorem gX6_splitLines_73 {d : Nat} {Q : Option Value → Mem → Prop} {M : Mem} {a0 : Nat} {w1 : Int64} {x3 : Int32} {sx0 : Int32} {sx1 : Int32} {sa2 : Nat} (k0 : mK M sa2 = 1) (k1 : mK M a0 = 8) (pb0 : vp_in sx1 (mN M sa2)) (pf1 : ClD d mdX6_leastAlike [.ref a0, .int x3] (sI M sa2 sx1.toNatClampNeg sx0) (fun r1 M1 => Wp d mdX6_splitLines 84 [(0, .ref a0), (1, .long w1), (3, .int x3)] (r1.toList ++ [.int x3, .ref (mR (sI M sa2 sx1.toNatClampNeg sx0) a0 9)]) M1 Q)) : Wp d mdX6_splitLines 73 [(0, .ref a0), (1, .long w1), (3, .int x3)] [.int sx0, .int sx1, .ref sa2] M Q := by
  refine r_iast dX6_splitLines_73 k0 pb0 ?_
  refine r_aload_n dX6_splitLines_74 rfl 0 rfl ?_
  refine r_getR ck4 dX6_splitLines_75 flX6_9 rfl k1 ?_
  refine r_iload_n dX6_splitLines_78 rfl 2 rfl ?_
  refine r_aload_n dX6_splitLines_79 rfl 0 rfl ?_
  refine r_iload_n dX6_splitLines_80 rfl 2 rfl ?_
  obtain ⟨e9, hlt, h9⟩ := pf1
  exact r_callV (As := [.int x3]) (rest := [.int x3, .ref (mR (sI M sa2 sx1.toNatClampNeg sx0) a0 9)]) (ci := 4) moX6_leastAlike dX6_splitLines_81 mlX6_189 imX6_leastAlike seX6_leastAlike k1 rfl hlt (Nat.le_of_ble_eq_true rfl) h9
theorem gX6_splitLines_84 {d : Nat} {Q : Option Value → Mem → Prop} {M : Mem} {a0 : Nat} {w1 : Int64} {x3 : Int32} {sx0 : Int32} {sx1 : Int32} {sa2 : Nat} (k0 : mK M sa2 = 1) (pb0 : vp_in sx1 (mN M sa2)) (pw1 : Wp d mdX6_splitLines 28 [(0, .ref a0), (1, .long w1), (3, .int (x3 + (nI 1)))] [] (sI M sa2 sx1.toNatClampNeg sx0) Q) : Wp d mdX6_splitLines 84 [(0, .ref a0), (1, .long w1), (3, .int x3)] [.int sx0, .int sx1, .ref sa2] M Q := by
  refine r_iast dX6_splitLines_84 k0 pb0 ?_
  refine r_iinc dX6_splitLines_85 2 rfl (v := x3 + (nI 1)) rfl (by decide) (ls' := [(3, .int (x3 + (nI 1))), (0, .ref a0), (1, .long w1)]) rfl ?_
  refine r_goto (tgt := 28) dX6_splitLines_88 (by decide) ?_
  refine r_sub [1, 2, 0] (ls' := [(0, .ref a0), (1, .long w1), (3, .int (x3 + (nI 1)))]) rfl ?_
  exact pw1
-- X6_leastAlike
theorem gX6_leastAlike_0 {d : Nat} {Q : Option Value → Mem → Prop} {M : Mem} {a0 : Nat} {x1 : Int32}  (pw0 : Wp d mdX6_leastAlike 2 [(0, .ref a0), (1, .int x1), (2, .int (nI 0))] [] M Q) : Wp d mdX6_leastAlike 0 [(0, .ref a0), (1, .int x1)] [] M Q := by
  refine r_iconst (v := (nI 0)) dX6_leastAlike_0 rfl ?_
  refine r_istore_n dX6_leastAlike_1 rfl (by decide) (ls' := [(2, .int (nI 0)), (0, .ref a0), (1, .int x1)]) rfl ?_
  refine r_sub [1, 2, 0] (ls' := [(0, .ref a0), (1, .int x1), (2, .int (nI 0))]) rfl ?_
  exact pw0
theorem gX6_leastAlike_2 {d : Nat} {Q : Option Value → Mem → Prop} {M : Mem} {a0 : Nat} {x1 : Int32} {x2 : Int32} (k0 : mK M a0 = 8) (k1 : mK M (mR M a0 10) = 1) (k2 : mK M (mR M a0 11) = 1) (pq0 : x1 ≤ x2 → Q (some (.int x1)) M) (pq1 : ¬ x1 ≤ x2 → (nI (mN M (mR M a0 10))) ≤ x1 → Q (some (.int x1)) M) (pq2 : ¬ x1 ≤ x2 → ¬ (nI (mN M (mR M a0 10))) ≤ x1 → (nI (mN M (mR M a0 11))) ≤ x1 → Q (some (.int x1)) M) (pb3 : ¬ x1 ≤ x2 → ¬ (nI (mN M (mR M a0 10))) ≤ x1 → ¬ (nI (mN M (mR M a0 11))) ≤ x1 → vp_in x2 (mN M (mR M a0 10))) (pb4 : ¬ x1 ≤ x2 → ¬ (nI (mN M (mR M a0 10))) ≤ x1 → ¬ (nI (mN M (mR M a0 11))) ≤ x1 → vp_in x1 (mN M (mR M a0 10))) (pw5 : ¬ x1 ≤ x2 → ¬ (nI (mN M (mR M a0 10))) ≤ x1 → ¬ (nI (mN M (mR M a0 11))) ≤ x1 → ¬ (mI M (mR M a0 10) x2.toNatClampNeg) = (mI M (mR M a0 10) x1.toNatClampNeg) → Wp d mdX6_leastAlike 2 [(0, .ref a0), (1, .int x1), (2, .int (x2 + (nI 1)))] [] M Q) (pb6 : ¬ x1 ≤ x2 → ¬ (nI (mN M (mR M a0 10))) ≤ x1 → ¬ (nI (mN M (mR M a0 11))) ≤ x1 → (mI M (mR M a0 10) x2.toNatClampNeg) = (mI M (mR M a0 10) x1.toNatClampNeg) → vp_in x2 (mN M (mR M a0 11))) (pb7 : ¬ x1 ≤ x2 → ¬ (nI (mN M (mR M a0 10))) ≤ x1 → ¬ (nI (mN M (mR M a0 11))) ≤ x1 → (mI M (mR M a0 10) x2.toNatClampNeg) = (mI M (mR M a0 10) x1.toNatClampNeg) → vp_in x1 (mN M (mR M a0 11))) (pw8 : ¬ x1 ≤ x2 → ¬ (nI (mN M (mR M a0 10))) ≤ x1 → ¬ (nI (mN M (mR M a0 11))) ≤ x1 → (mI M (mR M a0 10) x2.toNatClampNeg) = (mI M (mR M a0 10) x1.toNatClampNeg) → ¬ (mI M (mR M a0 11) x2.toNatClampNeg) = (mI M (mR M a0 11) x1.toNatClampNeg) → Wp d mdX6_leastAlike 2 [(0, .ref a0), (1, .int x1), (2, .int (x2 + (nI 1)))] [] M Q) (pq9 : ¬ x1 ≤ x2 → ¬ (nI (mN M (mR M a0 10))) ≤ x1 → ¬ (nI (mN M (mR M a0 11))) ≤ x1 → (mI M (mR M a0 10) x2.toNatClampNeg) = (mI M (mR M a0 10) x1.toNatClampNeg) → (mI M (mR M a0 11) x2.toNatClampNeg) = (mI M (mR M a0 11) x1.toNatClampNeg) → Q (some (.int x2)) M) : Wp d mdX6_leastAlike 2 [(0, .ref a0), (1, .int x1), (2, .int x2)] [] M Q := by
  refine r_iload_n dX6_leastAlike_2 rfl 2 rfl ?_
  refine r_iload_n dX6_leastAlike_3 rfl 1 rfl ?_
  refine r_icmp_ge (tgt := 63) dX6_leastAlike_4 (by decide) (fun c0 => ?_) (fun c0 => ?_)
  · skip
    refine r_iload_n dX6_leastAlike_63 rfl 1 rfl ?_
    exact r_ret (some (.int x1)) dX6_leastAlike_64 rfl (pq0 c0)
  · skip
    refine r_iload_n dX6_leastAlike_7 rfl 1 rfl ?_
    refine r_aload_n dX6_leastAlike_8 rfl 0 rfl ?_
    refine r_getR ck4 dX6_leastAlike_9 flX6_15 rfl k0 ?_
    refine r_alen dX6_leastAlike_12 (Or.inl k1) ?_
    refine r_icmp_ge (tgt := 63) dX6_leastAlike_13 (by decide) (fun c1 => ?_) (fun c1 => ?_)
    · skip
      refine r_iload_n dX6_leastAlike_63 rfl 1 rfl ?_
      exact r_ret (some (.int x1)) dX6_leastAlike_64 rfl (pq1 c0 c1)
    · skip
      refine r_iload_n dX6_leastAlike_16 rfl 1 rfl ?_
      refine r_aload_n dX6_leastAlike_17 rfl 0 rfl ?_
      refine r_getR ck4 dX6_leastAlike_18 flX6_18 rfl k0 ?_
      refine r_alen dX6_leastAlike_21 (Or.inl k2) ?_
      refine r_icmp_ge (tgt := 63) dX6_leastAlike_22 (by decide) (fun c2 => ?_) (fun c2 => ?_)
      · skip
        refine r_iload_n dX6_leastAlike_63 rfl 1 rfl ?_
        exact r_ret (some (.int x1)) dX6_leastAlike_64 rfl (pq2 c0 c1 c2)
      · skip
        refine r_aload_n dX6_leastAlike_25 rfl 0 rfl ?_
        refine r_getR ck4 dX6_leastAlike_26 flX6_15 rfl k0 ?_
        refine r_iload_n dX6_leastAlike_29 rfl 2 rfl ?_
        refine r_iald dX6_leastAlike_30 k1 (pb3 c0 c1 c2) ?_
        refine r_aload_n dX6_leastAlike_31 rfl 0 rfl ?_
        refine r_getR ck4 dX6_leastAlike_32 flX6_15 rfl k0 ?_
        refine r_iload_n dX6_leastAlike_35 rfl 1 rfl ?_
        refine r_iald dX6_leastAlike_36 k1 (pb4 c0 c1 c2) ?_
        refine r_icmp_ne (tgt := 57) dX6_leastAlike_37 (by decide) (fun c3 => ?_) (fun c3 => ?_)
        · skip
          refine r_iinc dX6_leastAlike_57 2 rfl (v := x2 + (nI 1)) rfl (by decide) (ls' := [(2, .int (x2 + (nI 1))), (0, .ref a0), (1, .int x1)]) rfl ?_
          refine r_goto (tgt := 2) dX6_leastAlike_60 (by decide) ?_
          refine r_sub [1, 2, 0] (ls' := [(0, .ref a0), (1, .int x1), (2, .int (x2 + (nI 1)))]) rfl ?_
          exact (pw5 c0 c1 c2 c3)
        · skip
          refine r_aload_n dX6_leastAlike_40 rfl 0 rfl ?_
          refine r_getR ck4 dX6_leastAlike_41 flX6_18 rfl k0 ?_
          refine r_iload_n dX6_leastAlike_44 rfl 2 rfl ?_
          refine r_iald dX6_leastAlike_45 k2 (pb6 c0 c1 c2 c3) ?_
          refine r_aload_n dX6_leastAlike_46 rfl 0 rfl ?_
          refine r_getR ck4 dX6_leastAlike_47 flX6_18 rfl k0 ?_
          refine r_iload_n dX6_leastAlike_50 rfl 1 rfl ?_
          refine r_iald dX6_leastAlike_51 k2 (pb7 c0 c1 c2 c3) ?_
          refine r_icmp_ne (tgt := 57) dX6_leastAlike_52 (by decide) (fun c4 => ?_) (fun c4 => ?_)
          · skip
            refine r_iinc dX6_leastAlike_57 2 rfl (v := x2 + (nI 1)) rfl (by decide) (ls' := [(2, .int (x2 + (nI 1))), (0, .ref a0), (1, .int x1)]) rfl ?_
            refine r_goto (tgt := 2) dX6_leastAlike_60 (by decide) ?_
            refine r_sub [1, 2, 0] (ls' := [(0, .ref a0), (1, .int x1), (2, .int (x2 + (nI 1)))]) rfl ?_
            exact (pw8 c0 c1 c2 c3 c4)
          · skip
            refine r_iload_n dX6_leastAlike_55 rfl 2 rfl ?_
            exact r_ret (some (.int x2)) dX6_leastAlike_56 rfl (pq9 c0 c1 c2 c3 c4)
-- X6_setFirstHead
theorem gX6_setFirstHead_0 {d : Nat} {Q : Option Value → Mem → Prop} {M : Mem} {a0 : Nat} {x1 : Int32} {x2 : Int32}  (pw0 : Wp d mdX6_setFirstHead 2 [(0, .ref a0), (1, .int x1), (2, .int x2), (3, .int (nI 0))] [] M Q) : Wp d mdX6_setFirstHead 0 [(0, .ref a0), (1, .int x1), (2, .int x2)] [] M Q := by
  refine r_iconst (v := (nI 0)) dX6_setFirstHead_0 rfl ?_
  refine r_istore_n dX6_setFirstHead_1 rfl (by decide) (ls' := [(3, .int (nI 0)), (0, .ref a0), (1, .int x1), (2, .int x2)]) rfl ?_
  refine r_sub [1, 2, 3, 0] (ls' := [(0, .ref a0), (1, .int x1), (2, .int x2), (3, .int (nI 0))]) rfl ?_
  exact pw0
theorem gX6_setFirstHead_2 {d : Nat} {Q : Option Value → Mem → Prop} {M : Mem} {a0 : Nat} {x1 : Int32} {x2 : Int32} {x3 : Int32} (k0 : mK M a0 = 8) (k1 : mK M (mR M a0 12) = 1) (pq0 : (nI (mN M (mR M a0 12))) ≤ x3 → Q none M) (pf1 : ¬ (nI (mN M (mR M a0 12))) ≤ x3 → ClD d mdX6_lineOf [.ref a0, .int x3] M (fun r1 M1 => Wp d mdX6_setFirstHead 16 [(0, .ref a0), (1, .int x1), (2, .int x2), (3, .int x3)] (r1.toList ++ []) M1 Q)) : Wp d mdX6_setFirstHead 2 [(0, .ref a0), (1, .int x1), (2, .int x2), (3, .int x3)] [] M Q := by
  refine r_iload_n dX6_setFirstHead_2 rfl 3 rfl ?_
  refine r_aload_n dX6_setFirstHead_3 rfl 0 rfl ?_
  refine r_getR ck4 dX6_setFirstHead_4 flX6_21 rfl k0 ?_
  refine r_alen dX6_setFirstHead_7 (Or.inl k1) ?_
  refine r_icmp_ge (tgt := 43) dX6_setFirstHead_8 (by decide) (fun c0 => ?_) (fun c0 => ?_)
  · skip
    exact r_ret none dX6_setFirstHead_43 rfl (pq0 c0)
  · skip
    refine r_aload_n dX6_setFirstHead_11 rfl 0 rfl ?_
    refine r_iload_n dX6_setFirstHead_12 rfl 3 rfl ?_
    obtain ⟨e9, hlt, h9⟩ := (pf1 c0)
    exact r_callV (As := [.int x3]) (rest := []) (ci := 4) moX6_lineOf dX6_setFirstHead_13 mlX6_167 imX6_lineOf seX6_lineOf k0 rfl hlt (Nat.le_of_ble_eq_true rfl) h9
theorem gX6_setFirstHead_16 {d : Nat} {Q : Option Value → Mem → Prop} {M : Mem} {a0 : Nat} {x1 : Int32} {x2 : Int32} {x3 : Int32} {sx0 : Int32} (k0 : mK M a0 = 8) (k1 : mK M (mR M a0 12) = 1) (pw0 : ¬ sx0 = x1 → Wp d mdX6_setFirstHead 2 [(0, .ref a0), (1, .int x1), (2, .int x2), (3, .int (x3 + (nI 1)))] [] M Q) (pb1 : sx0 = x1 → vp_in x3 (mN M (mR M a0 12))) (pw2 : sx0 = x1 → ¬ (mI M (mR M a0 12) x3.toNatClampNeg) = (-1 : Int32) → Wp d mdX6_setFirstHead 2 [(0, .ref a0), (1, .int x1), (2, .int x2), (3, .int (x3 + (nI 1)))] [] M Q) (pb3 : sx0 = x1 → (mI M (mR M a0 12) x3.toNatClampNeg) = (-1 : Int32) → vp_in x3 (mN M (mR M a0 12))) (pw4 : sx0 = x1 → (mI M (mR M a0 12) x3.toNatClampNeg) = (-1 : Int32) → Wp d mdX6_setFirstHead 2 [(0, .ref a0), (1, .int x1), (2, .int x2), (3, .int (x3 + (nI 1)))] [] (sI M (mR M a0 12) x3.toNatClampNeg x2) Q) : Wp d mdX6_setFirstHead 16 [(0, .ref a0), (1, .int x1), (2, .int x2), (3, .int x3)] [.int sx0] M Q := by
  refine r_iload_n dX6_setFirstHead_16 rfl 1 rfl ?_
  refine r_icmp_ne (tgt := 37) dX6_setFirstHead_17 (by decide) (fun c0 => ?_) (fun c0 => ?_)
  · skip
    refine r_iinc dX6_setFirstHead_37 3 rfl (v := x3 + (nI 1)) rfl (by decide) (ls' := [(3, .int (x3 + (nI 1))), (0, .ref a0), (1, .int x1), (2, .int x2)]) rfl ?_
    refine r_goto (tgt := 2) dX6_setFirstHead_40 (by decide) ?_
    refine r_sub [1, 2, 3, 0] (ls' := [(0, .ref a0), (1, .int x1), (2, .int x2), (3, .int (x3 + (nI 1)))]) rfl ?_
    exact (pw0 c0)
  · skip
    refine r_aload_n dX6_setFirstHead_20 rfl 0 rfl ?_
    refine r_getR ck4 dX6_setFirstHead_21 flX6_21 rfl k0 ?_
    refine r_iload_n dX6_setFirstHead_24 rfl 3 rfl ?_
    refine r_iald dX6_setFirstHead_25 k1 (pb1 c0) ?_
    refine r_iconst (v := (-1)) dX6_setFirstHead_26 rfl ?_
    refine r_icmp_ne (tgt := 37) dX6_setFirstHead_27 (by decide) (fun c1 => ?_) (fun c1 => ?_)
    · skip
      refine r_iinc dX6_setFirstHead_37 3 rfl (v := x3 + (nI 1)) rfl (by decide) (ls' := [(3, .int (x3 + (nI 1))), (0, .ref a0), (1, .int x1), (2, .int x2)]) rfl ?_
      refine r_goto (tgt := 2) dX6_setFirstHead_40 (by decide) ?_
      refine r_sub [1, 2, 3, 0] (ls' := [(0, .ref a0), (1, .int x1), (2, .int x2), (3, .int (x3 + (nI 1)))]) rfl ?_
      exact (pw2 c0 c1)
    · skip
      refine r_aload_n dX6_setFirstHead_30 rfl 0 rfl ?_
      refine r_getR ck4 dX6_setFirstHead_31 flX6_21 rfl k0 ?_
      refine r_iload_n dX6_setFirstHead_34 rfl 3 rfl ?_
      refine r_iload_n dX6_setFirstHead_35 rfl 2 rfl ?_
      refine r_iast dX6_setFirstHead_36 k1 (pb3 c0 c1) ?_
      refine r_iinc dX6_setFirstHead_37 3 rfl (v := x3 + (nI 1)) rfl (by decide) (ls' := [(3, .int (x3 + (nI 1))), (0, .ref a0), (1, .int x1), (2, .int x2)]) rfl ?_
      refine r_goto (tgt := 2) dX6_setFirstHead_40 (by decide) ?_
      refine r_sub [1, 2, 3, 0] (ls' := [(0, .ref a0), (1, .int x1), (2, .int x2), (3, .int (x3 + (nI 1)))]) rfl ?_
      exact (pw4 c0 c1)
-- X6_lineOf
theorem gX6_lineOf_0 {d : Nat} {Q : Option Value → Mem → Prop} {M : Mem} {a0 : Nat} {x1 : Int32} (k0 : mK M a0 = 8) (k1 : mK M (mR M a0 9) = 1) (pq0 : x1 < 0 → Q (some (.int (-1 : Int32))) M) (pb1 : ¬ x1 < 0 → x1 < (nI (mN M (mR M a0 9))) → vp_in x1 (mN M (mR M a0 9))) (pq2 : ¬ x1 < 0 → x1 < (nI (mN M (mR M a0 9))) → Q (some (.int (mI M (mR M a0 9) x1.toNatClampNeg))) M) (pq3 : ¬ x1 < 0 → ¬ x1 < (nI (mN M (mR M a0 9))) → Q (some (.int (-1 : Int32))) M) : Wp d mdX6_lineOf 0 [(0, .ref a0), (1, .int x1)] [] M Q := by
  refine r_iload_n dX6_lineOf_0 rfl 1 rfl ?_
  refine r_if_lt (tgt := 13) dX6_lineOf_1 (by decide) (fun c0 => ?_) (fun c0 => ?_)
  · skip
    refine r_iconst (v := (-1)) dX6_lineOf_13 rfl ?_
    refine r_goto (tgt := 23) dX6_lineOf_14 (by decide) ?_
    exact r_ret (some (.int (-1 : Int32))) dX6_lineOf_23 rfl (pq0 c0)
  · skip
    refine r_iload_n dX6_lineOf_4 rfl 1 rfl ?_
    refine r_aload_n dX6_lineOf_5 rfl 0 rfl ?_
    refine r_getR ck4 dX6_lineOf_6 flX6_9 rfl k0 ?_
    refine r_alen dX6_lineOf_9 (Or.inl k1) ?_
    refine r_icmp_lt (tgt := 17) dX6_lineOf_10 (by decide) (fun c1 => ?_) (fun c1 => ?_)
    · skip
      refine r_aload_n dX6_lineOf_17 rfl 0 rfl ?_
      refine r_getR ck4 dX6_lineOf_18 flX6_9 rfl k0 ?_
      refine r_iload_n dX6_lineOf_21 rfl 1 rfl ?_
      refine r_iald dX6_lineOf_22 k1 (pb1 c0 c1) ?_
      exact r_ret (some (.int (mI M (mR M a0 9) x1.toNatClampNeg))) dX6_lineOf_23 rfl (pq2 c0 c1)
    · skip
      refine r_iconst (v := (-1)) dX6_lineOf_13 rfl ?_
      refine r_goto (tgt := 23) dX6_lineOf_14 (by decide) ?_
      exact r_ret (some (.int (-1 : Int32))) dX6_lineOf_23 rfl (pq3 c0 c1)
-- X6_endOf
theorem gX6_endOf_0 {d : Nat} {Q : Option Value → Mem → Prop} {M : Mem} {a0 : Nat} {x1 : Int32} (k0 : mK M a0 = 8) (k1 : mK M (mR M a0 13) = 1) (pq0 : x1 < 0 → Q (some (.int (-1 : Int32))) M) (pb1 : ¬ x1 < 0 → x1 < (nI (mN M (mR M a0 13))) → vp_in x1 (mN M (mR M a0 13))) (pq2 : ¬ x1 < 0 → x1 < (nI (mN M (mR M a0 13))) → Q (some (.int (mI M (mR M a0 13) x1.toNatClampNeg))) M) (pq3 : ¬ x1 < 0 → ¬ x1 < (nI (mN M (mR M a0 13))) → Q (some (.int (-1 : Int32))) M) : Wp d mdX6_endOf 0 [(0, .ref a0), (1, .int x1)] [] M Q := by
  refine r_iload_n dX6_endOf_0 rfl 1 rfl ?_
  refine r_if_lt (tgt := 13) dX6_endOf_1 (by decide) (fun c0 => ?_) (fun c0 => ?_)
  · skip
    refine r_iconst (v := (-1)) dX6_endOf_13 rfl ?_
    refine r_goto (tgt := 23) dX6_endOf_14 (by decide) ?_
    exact r_ret (some (.int (-1 : Int32))) dX6_endOf_23 rfl (pq0 c0)
  · skip
    refine r_iload_n dX6_endOf_4 rfl 1 rfl ?_
    refine r_aload_n dX6_endOf_5 rfl 0 rfl ?_
    refine r_getR ck4 dX6_endOf_6 flX6_24 rfl k0 ?_
    refine r_alen dX6_endOf_9 (Or.inl k1) ?_
    refine r_icmp_lt (tgt := 17) dX6_endOf_10 (by decide) (fun c1 => ?_) (fun c1 => ?_)
    · skip
      refine r_aload_n dX6_endOf_17 rfl 0 rfl ?_
      refine r_getR ck4 dX6_endOf_18 flX6_24 rfl k0 ?_
      refine r_iload_n dX6_endOf_21 rfl 1 rfl ?_
      refine r_iald dX6_endOf_22 k1 (pb1 c0 c1) ?_
      exact r_ret (some (.int (mI M (mR M a0 13) x1.toNatClampNeg))) dX6_endOf_23 rfl (pq2 c0 c1)
    · skip
      refine r_iconst (v := (-1)) dX6_endOf_13 rfl ?_
      refine r_goto (tgt := 23) dX6_endOf_14 (by decide) ?_
      exact r_ret (some (.int (-1 : Int32))) dX6_endOf_23 rfl (pq3 c0 c1)
-- X6_headLike
theorem gX6_headLike_0 {d : Nat} {Q : Option Value → Mem → Prop} {M : Mem} {a0 : Nat} {x1 : Int32} (k0 : mK M a0 = 8) (k1 : mK M (mR M a0 12) = 1) (pq0 : x1 < 0 → Q (some (.int (-1 : Int32))) M) (pb1 : ¬ x1 < 0 → x1 < (nI (mN M (mR M a0 12))) → vp_in x1 (mN M (mR M a0 12))) (pq2 : ¬ x1 < 0 → x1 < (nI (mN M (mR M a0 12))) → Q (some (.int (mI M (mR M a0 12) x1.toNatClampNeg))) M) (pq3 : ¬ x1 < 0 → ¬ x1 < (nI (mN M (mR M a0 12))) → Q (some (.int (-1 : Int32))) M) : Wp d mdX6_headLike 0 [(0, .ref a0), (1, .int x1)] [] M Q := by
  refine r_iload_n dX6_headLike_0 rfl 1 rfl ?_
  refine r_if_lt (tgt := 13) dX6_headLike_1 (by decide) (fun c0 => ?_) (fun c0 => ?_)
  · skip
    refine r_iconst (v := (-1)) dX6_headLike_13 rfl ?_
    refine r_goto (tgt := 23) dX6_headLike_14 (by decide) ?_
    exact r_ret (some (.int (-1 : Int32))) dX6_headLike_23 rfl (pq0 c0)
  · skip
    refine r_iload_n dX6_headLike_4 rfl 1 rfl ?_
    refine r_aload_n dX6_headLike_5 rfl 0 rfl ?_
    refine r_getR ck4 dX6_headLike_6 flX6_21 rfl k0 ?_
    refine r_alen dX6_headLike_9 (Or.inl k1) ?_
    refine r_icmp_lt (tgt := 17) dX6_headLike_10 (by decide) (fun c1 => ?_) (fun c1 => ?_)
    · skip
      refine r_aload_n dX6_headLike_17 rfl 0 rfl ?_
      refine r_getR ck4 dX6_headLike_18 flX6_21 rfl k0 ?_
      refine r_iload_n dX6_headLike_21 rfl 1 rfl ?_
      refine r_iald dX6_headLike_22 k1 (pb1 c0 c1) ?_
      exact r_ret (some (.int (mI M (mR M a0 12) x1.toNatClampNeg))) dX6_headLike_23 rfl (pq2 c0 c1)
    · skip
      refine r_iconst (v := (-1)) dX6_headLike_13 rfl ?_
      refine r_goto (tgt := 23) dX6_headLike_14 (by decide) ?_
      exact r_ret (some (.int (-1 : Int32))) dX6_headLike_23 rfl (pq3 c0 c1)
-- X6_isFirstOfLine
theorem gX6_isFirstOfLine_0 {d : Nat} {Q : Option Value → Mem → Prop} {M : Mem} {a0 : Nat} {x1 : Int32} (k0 : mK M a0 = 8) (pf0 : ClD d mdX6_endOf [.ref a0, .int x1] M (fun r1 M1 => Wp d mdX6_isFirstOfLine 6 [(1, .int x1)] (r1.toList ++ [.ref a0]) M1 Q)) : Wp d mdX6_isFirstOfLine 0 [(0, .ref a0), (1, .int x1)] [] M Q := by
  refine r_aload_n dX6_isFirstOfLine_0 rfl 0 rfl ?_
  refine r_aload_n dX6_isFirstOfLine_1 rfl 0 rfl ?_
  refine r_iload_n dX6_isFirstOfLine_2 rfl 1 rfl ?_
  refine r_sub [1] (ls' := [(1, .int x1)]) rfl ?_
  obtain ⟨e9, hlt, h9⟩ := pf0
  exact r_callV (As := [.int x1]) (rest := [.ref a0]) (ci := 4) moX6_endOf dX6_isFirstOfLine_3 mlX6_192 imX6_endOf seX6_endOf k0 rfl hlt (Nat.le_of_ble_eq_true rfl) h9
theorem gX6_isFirstOfLine_6 {d : Nat} {Q : Option Value → Mem → Prop} {M : Mem} {x1 : Int32} {sx0 : Int32} {sa1 : Nat} (k0 : mK M sa1 = 8) (pf0 : ClD d mdX6_headLike [.ref sa1, .int sx0] M (fun r1 M1 => Wp d mdX6_isFirstOfLine 9 [(1, .int x1)] (r1.toList ++ []) M1 Q)) : Wp d mdX6_isFirstOfLine 6 [(1, .int x1)] [.int sx0, .ref sa1] M Q := by
  obtain ⟨e9, hlt, h9⟩ := pf0
  exact r_callV (As := [.int sx0]) (rest := []) (ci := 4) moX6_headLike dX6_isFirstOfLine_6 mlX6_195 imX6_headLike seX6_headLike k0 rfl hlt (Nat.le_of_ble_eq_true rfl) h9
theorem gX6_isFirstOfLine_9 {d : Nat} {Q : Option Value → Mem → Prop} {M : Mem} {x1 : Int32} {sx0 : Int32}  (pq0 : ¬ sx0 = x1 → Q (some (.int (nI 0))) M) (pq1 : sx0 = x1 → Q (some (.int (nI 1))) M) : Wp d mdX6_isFirstOfLine 9 [(1, .int x1)] [.int sx0] M Q := by
  refine r_iload_n dX6_isFirstOfLine_9 rfl 0 rfl ?_
  refine r_icmp_ne (tgt := 17) dX6_isFirstOfLine_10 (by decide) (fun c0 => ?_) (fun c0 => ?_)
  · skip
    refine r_iconst (v := (nI 0)) dX6_isFirstOfLine_17 rfl ?_
    exact r_ret (some (.int (nI 0))) dX6_isFirstOfLine_18 rfl (pq0 c0)
  · skip
    refine r_iconst (v := (nI 1)) dX6_isFirstOfLine_13 rfl ?_
    refine r_goto (tgt := 18) dX6_isFirstOfLine_14 (by decide) ?_
    exact r_ret (some (.int (nI 1))) dX6_isFirstOfLine_18 rfl (pq1 c0)
-- X6_headBehind
theorem gX6_headBehind_0 {d : Nat} {Q : Option Value → Mem → Prop} {M : Mem} {a0 : Nat} {x1 : Int32} {x2 : Int32} (k0 : mK M a0 = 8) (k1 : mK M (mR M a0 0) = 4) (pf0 : ClD d mdX6_endOf [.ref a0, .int x1] M (fun r1 M1 => Wp d mdX6_headBehind 13 [(2, .int x2)] (r1.toList ++ [.ref (mR M (mR M a0 0) 0), .ref a0]) M1 Q)) : Wp d mdX6_headBehind 0 [(0, .ref a0), (1, .int x1), (2, .int x2)] [] M Q := by
  refine r_aload_n dX6_headBehind_0 rfl 0 rfl ?_
  refine r_aload_n dX6_headBehind_1 rfl 0 rfl ?_
  refine r_getR ck4 dX6_headBehind_2 flX6_69 rfl k0 ?_
  refine r_getR ck0 dX6_headBehind_5 flX6_115 rfl k1 ?_
  refine r_aload_n dX6_headBehind_8 rfl 0 rfl ?_
  refine r_iload_n dX6_headBehind_9 rfl 1 rfl ?_
  refine r_sub [2] (ls' := [(2, .int x2)]) rfl ?_
  obtain ⟨e9, hlt, h9⟩ := pf0
  exact r_callV (As := [.int x1]) (rest := [.ref (mR M (mR M a0 0) 0), .ref a0]) (ci := 4) moX6_endOf dX6_headBehind_10 mlX6_192 imX6_endOf seX6_endOf k0 rfl hlt (Nat.le_of_ble_eq_true rfl) h9
theorem gX6_headBehind_13 {d : Nat} {Q : Option Value → Mem → Prop} {M : Mem} {x2 : Int32} {sx0 : Int32} {sa1 : Nat} {sa2 : Nat} (k0 : mK M sa1 = 5) (pf0 : ClD d mdX2_nextOf [.ref sa1, .int sx0, .int x2] M (fun r1 M1 => Wp d mdX6_headBehind 17 [] (r1.toList ++ [.ref sa2]) M1 Q)) : Wp d mdX6_headBehind 13 [(2, .int x2)] [.int sx0, .ref sa1, .ref sa2] M Q := by
  refine r_iload_n dX6_headBehind_13 rfl 0 rfl ?_
  refine r_sub [] (ls' := []) rfl ?_
  obtain ⟨e9, hlt, h9⟩ := pf0
  exact r_callV (As := [.int sx0, .int x2]) (rest := [.ref sa2]) (ci := 1) moX2_nextOf dX6_headBehind_14 mlX6_198 imX2_nextOf seX2_nextOf k0 rfl hlt (Nat.le_of_ble_eq_true rfl) h9
theorem gX6_headBehind_17 {d : Nat} {Q : Option Value → Mem → Prop} {M : Mem} {sx0 : Int32} {sa1 : Nat} (k0 : mK M sa1 = 8) (pf0 : ClD d mdX6_headLike [.ref sa1, .int sx0] M (fun r1 M1 => Wp d mdX6_headBehind 20 [] (r1.toList ++ []) M1 Q)) : Wp d mdX6_headBehind 17 [] [.int sx0, .ref sa1] M Q := by
  obtain ⟨e9, hlt, h9⟩ := pf0
  exact r_callV (As := [.int sx0]) (rest := []) (ci := 4) moX6_headLike dX6_headBehind_17 mlX6_195 imX6_headLike seX6_headLike k0 rfl hlt (Nat.le_of_ble_eq_true rfl) h9
theorem gX6_headBehind_20 {d : Nat} {Q : Option Value → Mem → Prop} {M : Mem} {sx0 : Int32}  (pq0 : Q (some (.int sx0)) M) : Wp d mdX6_headBehind 20 [] [.int sx0] M Q := by
  exact r_ret (some (.int sx0)) dX6_headBehind_20 rfl pq0
-- X6_unlikeLines
theorem gX6_unlikeLines_0 {d : Nat} {Q : Option Value → Mem → Prop} {M : Mem} {a0 : Nat}  (pw0 : Wp d mdX6_unlikeLines 4 [(0, .ref a0), (1, .int (nI 0)), (2, .int (nI 0))] [] M Q) : Wp d mdX6_unlikeLines 0 [(0, .ref a0)] [] M Q := by
  refine r_iconst (v := (nI 0)) dX6_unlikeLines_0 rfl ?_
  refine r_istore_n dX6_unlikeLines_1 rfl (by decide) (ls' := [(1, .int (nI 0)), (0, .ref a0)]) rfl ?_
  refine r_iconst (v := (nI 0)) dX6_unlikeLines_2 rfl ?_
  refine r_istore_n dX6_unlikeLines_3 rfl (by decide) (ls' := [(2, .int (nI 0)), (1, .int (nI 0)), (0, .ref a0)]) rfl ?_
  refine r_sub [2, 1, 0] (ls' := [(0, .ref a0), (1, .int (nI 0)), (2, .int (nI 0))]) rfl ?_
  exact pw0
theorem gX6_unlikeLines_4 {d : Nat} {Q : Option Value → Mem → Prop} {M : Mem} {a0 : Nat} {x1 : Int32} {x2 : Int32} (k0 : mK M a0 = 8) (k1 : mK M (mR M a0 1) = 11) (pq0 : (mI M (mR M a0 1) 0) ≤ x2 → Q (some (.int x1)) M) (pf1 : ¬ (mI M (mR M a0 1) 0) ≤ x2 → ClD d mdX6_isFirstOfLine [.ref a0, .int x2] M (fun r1 M1 => Wp d mdX6_unlikeLines 20 [(0, .ref a0), (1, .int x1), (2, .int x2)] (r1.toList ++ []) M1 Q)) : Wp d mdX6_unlikeLines 4 [(0, .ref a0), (1, .int x1), (2, .int x2)] [] M Q := by
  refine r_iload_n dX6_unlikeLines_4 rfl 2 rfl ?_
  refine r_aload_n dX6_unlikeLines_5 rfl 0 rfl ?_
  refine r_getR ck4 dX6_unlikeLines_6 flX6_57 rfl k0 ?_
  refine r_getI ck7 dX6_unlikeLines_9 flX6_61 rfl k1 ?_
  refine r_icmp_ge (tgt := 32) dX6_unlikeLines_12 (by decide) (fun c0 => ?_) (fun c0 => ?_)
  · skip
    refine r_iload_n dX6_unlikeLines_32 rfl 1 rfl ?_
    exact r_ret (some (.int x1)) dX6_unlikeLines_33 rfl (pq0 c0)
  · skip
    refine r_aload_n dX6_unlikeLines_15 rfl 0 rfl ?_
    refine r_iload_n dX6_unlikeLines_16 rfl 2 rfl ?_
    obtain ⟨e9, hlt, h9⟩ := (pf1 c0)
    exact r_callV (As := [.int x2]) (rest := []) (ci := 4) moX6_isFirstOfLine dX6_unlikeLines_17 mlX6_201 imX6_isFirstOfLine seX6_isFirstOfLine k0 rfl hlt (Nat.le_of_ble_eq_true rfl) h9
theorem gX6_unlikeLines_20 {d : Nat} {Q : Option Value → Mem → Prop} {M : Mem} {a0 : Nat} {x1 : Int32} {x2 : Int32} {sx0 : Int32}  (pw0 : sx0 = 0 → Wp d mdX6_unlikeLines 4 [(0, .ref a0), (1, .int x1), (2, .int (x2 + (nI 1)))] [] M Q) (pw1 : ¬ sx0 = 0 → Wp d mdX6_unlikeLines 4 [(0, .ref a0), (1, .int (x1 + (nI 1))), (2, .int (x2 + (nI 1)))] [] M Q) : Wp d mdX6_unlikeLines 20 [(0, .ref a0), (1, .int x1), (2, .int x2)] [.int sx0] M Q := by
  refine r_if_eq (tgt := 26) dX6_unlikeLines_20 (by decide) (fun c0 => ?_) (fun c0 => ?_)
  · skip
    refine r_iinc dX6_unlikeLines_26 2 rfl (v := x2 + (nI 1)) rfl (by decide) (ls' := [(2, .int (x2 + (nI 1))), (0, .ref a0), (1, .int x1)]) rfl ?_
    refine r_goto (tgt := 4) dX6_unlikeLines_29 (by decide) ?_
    refine r_sub [1, 2, 0] (ls' := [(0, .ref a0), (1, .int x1), (2, .int (x2 + (nI 1)))]) rfl ?_
    exact (pw0 c0)
  · skip
    refine r_iinc dX6_unlikeLines_23 1 rfl (v := x1 + (nI 1)) rfl (by decide) (ls' := [(1, .int (x1 + (nI 1))), (0, .ref a0), (2, .int x2)]) rfl ?_
    refine r_iinc dX6_unlikeLines_26 2 rfl (v := x2 + (nI 1)) rfl (by decide) (ls' := [(2, .int (x2 + (nI 1))), (1, .int (x1 + (nI 1))), (0, .ref a0)]) rfl ?_
    refine r_goto (tgt := 4) dX6_unlikeLines_29 (by decide) ?_
    refine r_sub [2, 1, 0] (ls' := [(0, .ref a0), (1, .int (x1 + (nI 1))), (2, .int (x2 + (nI 1)))]) rfl ?_
    exact (pw1 c0)
-- X6_openWords
theorem gX6_openWords_0 {d : Nat} {Q : Option Value → Mem → Prop} {M : Mem} {a0 : Nat}  (pw0 : Wp d mdX6_openWords 4 [(0, .ref a0), (1, .int (nI 0)), (2, .int (nI 0))] [] M Q) : Wp d mdX6_openWords 0 [(0, .ref a0)] [] M Q := by
  refine r_iconst (v := (nI 0)) dX6_openWords_0 rfl ?_
  refine r_istore_n dX6_openWords_1 rfl (by decide) (ls' := [(1, .int (nI 0)), (0, .ref a0)]) rfl ?_
  refine r_iconst (v := (nI 0)) dX6_openWords_2 rfl ?_
  refine r_istore_n dX6_openWords_3 rfl (by decide) (ls' := [(2, .int (nI 0)), (1, .int (nI 0)), (0, .ref a0)]) rfl ?_
  refine r_sub [2, 1, 0] (ls' := [(0, .ref a0), (1, .int (nI 0)), (2, .int (nI 0))]) rfl ?_
  exact pw0
theorem gX6_openWords_4 {d : Nat} {Q : Option Value → Mem → Prop} {M : Mem} {a0 : Nat} {x1 : Int32} {x2 : Int32} (k0 : mK M a0 = 8) (k1 : mK M (mR M a0 1) = 11) (pq0 : (mI M (mR M a0 1) 0) ≤ x2 → Q (some (.int x1)) M) (pw1 : ¬ (mI M (mR M a0 1) 0) ≤ x2 → Wp d mdX6_openWords 17 [(0, .ref a0), (1, .int x1), (2, .int x2), (3, .int (nI 0))] [] M Q) : Wp d mdX6_openWords 4 [(0, .ref a0), (1, .int x1), (2, .int x2)] [] M Q := by
  refine r_iload_n dX6_openWords_4 rfl 2 rfl ?_
  refine r_aload_n dX6_openWords_5 rfl 0 rfl ?_
  refine r_getR ck4 dX6_openWords_6 flX6_57 rfl k0 ?_
  refine r_getI ck7 dX6_openWords_9 flX6_61 rfl k1 ?_
  refine r_icmp_ge (tgt := 56) dX6_openWords_12 (by decide) (fun c0 => ?_) (fun c0 => ?_)
  · skip
    refine r_iload_n dX6_openWords_56 rfl 1 rfl ?_
    exact r_ret (some (.int x1)) dX6_openWords_57 rfl (pq0 c0)
  · skip
    refine r_iconst (v := (nI 0)) dX6_openWords_15 rfl ?_
    refine r_istore_n dX6_openWords_16 rfl (by decide) (ls' := [(3, .int (nI 0)), (0, .ref a0), (1, .int x1), (2, .int x2)]) rfl ?_
    refine r_sub [1, 2, 3, 0] (ls' := [(0, .ref a0), (1, .int x1), (2, .int x2), (3, .int (nI 0))]) rfl ?_
    exact (pw1 c0)
theorem gX6_openWords_17 {d : Nat} {Q : Option Value → Mem → Prop} {M : Mem} {a0 : Nat} {x1 : Int32} {x2 : Int32} {x3 : Int32} (k0 : mK M a0 = 8) (k1 : mK M (mR M a0 0) = 4) (k2 : mK M (mR M (mR M a0 0) 0) = 5) (pw0 : (mI M (mR M (mR M a0 0) 0) 1) ≤ x3 → Wp d mdX6_openWords 4 [(0, .ref a0), (1, .int x1), (2, .int (x2 + (nI 1)))] [] M Q) (pf1 : ¬ (mI M (mR M (mR M a0 0) 0) 1) ≤ x3 → ClD d mdX6_headBehind [.ref a0, .int x2, .int x3] M (fun r1 M1 => Wp d mdX6_openWords 37 [(0, .ref a0), (1, .int x1), (2, .int x2), (3, .int x3)] (r1.toList ++ []) M1 Q)) : Wp d mdX6_openWords 17 [(0, .ref a0), (1, .int x1), (2, .int x2), (3, .int x3)] [] M Q := by
  refine r_iload_n dX6_openWords_17 rfl 3 rfl ?_
  refine r_aload_n dX6_openWords_18 rfl 0 rfl ?_
  refine r_getR ck4 dX6_openWords_19 flX6_69 rfl k0 ?_
  refine r_getR ck0 dX6_openWords_22 flX6_115 rfl k1 ?_
  refine r_getI ck1 dX6_openWords_25 flX6_119 rfl k2 ?_
  refine r_icmp_ge (tgt := 50) dX6_openWords_28 (by decide) (fun c0 => ?_) (fun c0 => ?_)
  · skip
    refine r_iinc dX6_openWords_50 2 rfl (v := x2 + (nI 1)) rfl (by decide) (ls' := [(2, .int (x2 + (nI 1))), (0, .ref a0), (1, .int x1), (3, .int x3)]) rfl ?_
    refine r_goto (tgt := 4) dX6_openWords_53 (by decide) ?_
    refine r_sub [1, 2, 0] (ls' := [(0, .ref a0), (1, .int x1), (2, .int (x2 + (nI 1)))]) rfl ?_
    exact (pw0 c0)
  · skip
    refine r_aload_n dX6_openWords_31 rfl 0 rfl ?_
    refine r_iload_n dX6_openWords_32 rfl 2 rfl ?_
    refine r_iload_n dX6_openWords_33 rfl 3 rfl ?_
    obtain ⟨e9, hlt, h9⟩ := (pf1 c0)
    exact r_callV (As := [.int x2, .int x3]) (rest := []) (ci := 4) moX6_headBehind dX6_openWords_34 mlX6_205 imX6_headBehind seX6_headBehind k0 rfl hlt (Nat.le_of_ble_eq_true rfl) h9
theorem gX6_openWords_37 {d : Nat} {Q : Option Value → Mem → Prop} {M : Mem} {a0 : Nat} {x1 : Int32} {x2 : Int32} {x3 : Int32} {sx0 : Int32}  (pw0 : ¬ sx0 = (-1 : Int32) → Wp d mdX6_openWords 17 [(0, .ref a0), (1, .int x1), (2, .int x2), (3, .int (x3 + (nI 1)))] [] M Q) (pw1 : sx0 = (-1 : Int32) → Wp d mdX6_openWords 17 [(0, .ref a0), (1, .int (x1 + (nI 1))), (2, .int x2), (3, .int (x3 + (nI 1)))] [] M Q) : Wp d mdX6_openWords 37 [(0, .ref a0), (1, .int x1), (2, .int x2), (3, .int x3)] [.int sx0] M Q := by
  refine r_iconst (v := (-1)) dX6_openWords_37 rfl ?_
  refine r_icmp_ne (tgt := 44) dX6_openWords_38 (by decide) (fun c0 => ?_) (fun c0 => ?_)
  · skip
    refine r_iinc dX6_openWords_44 3 rfl (v := x3 + (nI 1)) rfl (by decide) (ls' := [(3, .int (x3 + (nI 1))), (0, .ref a0), (1, .int x1), (2, .int x2)]) rfl ?_
    refine r_goto (tgt := 17) dX6_openWords_47 (by decide) ?_
    refine r_sub [1, 2, 3, 0] (ls' := [(0, .ref a0), (1, .int x1), (2, .int x2), (3, .int (x3 + (nI 1)))]) rfl ?_
    exact (pw0 c0)
  · skip
    refine r_iinc dX6_openWords_41 1 rfl (v := x1 + (nI 1)) rfl (by decide) (ls' := [(1, .int (x1 + (nI 1))), (0, .ref a0), (2, .int x2), (3, .int x3)]) rfl ?_
    refine r_iinc dX6_openWords_44 3 rfl (v := x3 + (nI 1)) rfl (by decide) (ls' := [(3, .int (x3 + (nI 1))), (1, .int (x1 + (nI 1))), (0, .ref a0), (2, .int x2)]) rfl ?_
    refine r_goto (tgt := 17) dX6_openWords_47 (by decide) ?_
    refine r_sub [2, 1, 3, 0] (ls' := [(0, .ref a0), (1, .int (x1 + (nI 1))), (2, .int x2), (3, .int (x3 + (nI 1)))]) rfl ?_
    exact (pw1 c0)
-- X6_headComes
theorem gX6_headComes_0 {d : Nat} {Q : Option Value → Mem → Prop} {M : Mem} {a0 : Nat}  (pw0 : Wp d mdX6_headComes 2 [(0, .ref a0), (1, .int (nI 0))] [] M Q) : Wp d mdX6_headComes 0 [(0, .ref a0)] [] M Q := by
  refine r_iconst (v := (nI 0)) dX6_headComes_0 rfl ?_
  refine r_istore_n dX6_headComes_1 rfl (by decide) (ls' := [(1, .int (nI 0)), (0, .ref a0)]) rfl ?_
  refine r_sub [1, 0] (ls' := [(0, .ref a0), (1, .int (nI 0))]) rfl ?_
  exact pw0
theorem gX6_headComes_2 {d : Nat} {Q : Option Value → Mem → Prop} {M : Mem} {a0 : Nat} {x1 : Int32} (k0 : mK M a0 = 8) (k1 : mK M (mR M a0 1) = 11) (pq0 : (mI M (mR M a0 1) 0) ≤ x1 → Q (some (.int (nI 0))) M) (pw1 : ¬ (mI M (mR M a0 1) 0) ≤ x1 → Wp d mdX6_headComes 15 [(0, .ref a0), (1, .int x1), (2, .int (nI 0))] [] M Q) : Wp d mdX6_headComes 2 [(0, .ref a0), (1, .int x1)] [] M Q := by
  refine r_iload_n dX6_headComes_2 rfl 1 rfl ?_
  refine r_aload_n dX6_headComes_3 rfl 0 rfl ?_
  refine r_getR ck4 dX6_headComes_4 flX6_57 rfl k0 ?_
  refine r_getI ck7 dX6_headComes_7 flX6_61 rfl k1 ?_
  refine r_icmp_ge (tgt := 69) dX6_headComes_10 (by decide) (fun c0 => ?_) (fun c0 => ?_)
  · skip
    refine r_iconst (v := (nI 0)) dX6_headComes_69 rfl ?_
    exact r_ret (some (.int (nI 0))) dX6_headComes_70 rfl (pq0 c0)
  · skip
    refine r_iconst (v := (nI 0)) dX6_headComes_13 rfl ?_
    refine r_istore_n dX6_headComes_14 rfl (by decide) (ls' := [(2, .int (nI 0)), (0, .ref a0), (1, .int x1)]) rfl ?_
    refine r_sub [1, 2, 0] (ls' := [(0, .ref a0), (1, .int x1), (2, .int (nI 0))]) rfl ?_
    exact (pw1 c0)
theorem gX6_headComes_15 {d : Nat} {Q : Option Value → Mem → Prop} {M : Mem} {a0 : Nat} {x1 : Int32} {x2 : Int32} (k0 : mK M a0 = 8) (k1 : mK M (mR M a0 0) = 4) (k2 : mK M (mR M (mR M a0 0) 0) = 5) (pw0 : (mI M (mR M (mR M a0 0) 0) 1) ≤ x2 → Wp d mdX6_headComes 2 [(0, .ref a0), (1, .int (x1 + (nI 1)))] [] M Q) (pf1 : ¬ (mI M (mR M (mR M a0 0) 0) 1) ≤ x2 → ClD d mdX6_headBehind [.ref a0, .int x1, .int x2] M (fun r1 M1 => Wp d mdX6_headComes 35 [(0, .ref a0), (1, .int x1), (2, .int x2)] (r1.toList ++ []) M1 Q)) : Wp d mdX6_headComes 15 [(0, .ref a0), (1, .int x1), (2, .int x2)] [] M Q := by
  refine r_iload_n dX6_headComes_15 rfl 2 rfl ?_
  refine r_aload_n dX6_headComes_16 rfl 0 rfl ?_
  refine r_getR ck4 dX6_headComes_17 flX6_69 rfl k0 ?_
  refine r_getR ck0 dX6_headComes_20 flX6_115 rfl k1 ?_
  refine r_getI ck1 dX6_headComes_23 flX6_119 rfl k2 ?_
  refine r_icmp_ge (tgt := 63) dX6_headComes_26 (by decide) (fun c0 => ?_) (fun c0 => ?_)
  · skip
    refine r_iinc dX6_headComes_63 1 rfl (v := x1 + (nI 1)) rfl (by decide) (ls' := [(1, .int (x1 + (nI 1))), (0, .ref a0), (2, .int x2)]) rfl ?_
    refine r_goto (tgt := 2) dX6_headComes_66 (by decide) ?_
    refine r_sub [1, 0] (ls' := [(0, .ref a0), (1, .int (x1 + (nI 1)))]) rfl ?_
    exact (pw0 c0)
  · skip
    refine r_aload_n dX6_headComes_29 rfl 0 rfl ?_
    refine r_iload_n dX6_headComes_30 rfl 1 rfl ?_
    refine r_iload_n dX6_headComes_31 rfl 2 rfl ?_
    obtain ⟨e9, hlt, h9⟩ := (pf1 c0)
    exact r_callV (As := [.int x1, .int x2]) (rest := []) (ci := 4) moX6_headBehind dX6_headComes_32 mlX6_205 imX6_headBehind seX6_headBehind k0 rfl hlt (Nat.le_of_ble_eq_true rfl) h9
theorem gX6_headComes_35 {d : Nat} {Q : Option Value → Mem → Prop} {M : Mem} {a0 : Nat} {x1 : Int32} {x2 : Int32} {sx0 : Int32} (k0 : mK M a0 = 8) (pf0 : sx0 = (-1 : Int32) → ClD d mdX6_rowWord [.ref a0, .int x1, .int x2] M (fun r1 M1 => Wp d mdX6_headComes 52 [] (r1.toList ++ [.ref (mR M a0 1)]) M1 Q)) (pw1 : ¬ sx0 = (-1 : Int32) → Wp d mdX6_headComes 15 [(0, .ref a0), (1, .int x1), (2, .int (x2 + (nI 1)))] [] M Q) : Wp d mdX6_headComes 35 [(0, .ref a0), (1, .int x1), (2, .int x2)] [.int sx0] M Q := by
  refine r_iconst (v := (-1)) dX6_headComes_35 rfl ?_
  refine r_icmp_eq (tgt := 42) dX6_headComes_36 (by decide) (fun c0 => ?_) (fun c0 => ?_)
  · skip
    refine r_aload_n dX6_headComes_42 rfl 0 rfl ?_
    refine r_getR ck4 dX6_headComes_43 flX6_57 rfl k0 ?_
    refine r_aload_n dX6_headComes_46 rfl 0 rfl ?_
    refine r_iload_n dX6_headComes_47 rfl 1 rfl ?_
    refine r_iload_n dX6_headComes_48 rfl 2 rfl ?_
    refine r_sub [] (ls' := []) rfl ?_
    obtain ⟨e9, hlt, h9⟩ := (pf0 c0)
    exact r_callV (As := [.int x1, .int x2]) (rest := [.ref (mR M a0 1)]) (ci := 4) moX6_rowWord dX6_headComes_49 mlX6_124 imX6_rowWord seX6_rowWord k0 rfl hlt (Nat.le_of_ble_eq_true rfl) h9
  · skip
    refine r_goto (tgt := 57) dX6_headComes_39 (by decide) ?_
    refine r_iinc dX6_headComes_57 2 rfl (v := x2 + (nI 1)) rfl (by decide) (ls' := [(2, .int (x2 + (nI 1))), (0, .ref a0), (1, .int x1)]) rfl ?_
    refine r_goto (tgt := 15) dX6_headComes_60 (by decide) ?_
    refine r_sub [1, 2, 0] (ls' := [(0, .ref a0), (1, .int x1), (2, .int (x2 + (nI 1)))]) rfl ?_
    exact (pw1 c0)
theorem gX6_headComes_52 {d : Nat} {Q : Option Value → Mem → Prop} {M : Mem} {sw0 : Int64} {sa1 : Nat} (k0 : mK M sa1 = 11) (pf0 : ClD d mdX9_add [.ref sa1, .long sw0] M (fun r1 M1 => Wp d mdX6_headComes 55 [] (r1.toList ++ []) M1 Q)) : Wp d mdX6_headComes 52 [] [.long sw0, .ref sa1] M Q := by
  obtain ⟨e9, hlt, h9⟩ := pf0
  exact r_callV (As := [.long sw0]) (rest := []) (ci := 7) moX9_add dX6_headComes_52 mlX6_99 imX9_add seX9_add k0 rfl hlt (Nat.le_of_ble_eq_true rfl) h9
theorem gX6_headComes_55 {d : Nat} {Q : Option Value → Mem → Prop} {M : Mem}  (pq0 : Q (some (.int (nI 1))) M) : Wp d mdX6_headComes 55 [] [] M Q := by
  refine r_iconst (v := (nI 1)) dX6_headComes_55 rfl ?_
  exact r_ret (some (.int (nI 1))) dX6_headComes_56 rfl pq0
-- X6_tailComes
theorem gX6_tailComes_0 {d : Nat} {Q : Option Value → Mem → Prop} {M : Mem} {a0 : Nat}  (pw0 : Wp d mdX6_tailComes 2 [(0, .ref a0), (1, .int (nI 0))] [] M Q) : Wp d mdX6_tailComes 0 [(0, .ref a0)] [] M Q := by
  refine r_iconst (v := (nI 0)) dX6_tailComes_0 rfl ?_
  refine r_istore_n dX6_tailComes_1 rfl (by decide) (ls' := [(1, .int (nI 0)), (0, .ref a0)]) rfl ?_
  refine r_sub [1, 0] (ls' := [(0, .ref a0), (1, .int (nI 0))]) rfl ?_
  exact pw0
theorem gX6_tailComes_2 {d : Nat} {Q : Option Value → Mem → Prop} {M : Mem} {a0 : Nat} {x1 : Int32} (k0 : mK M a0 = 8) (k1 : mK M (mR M a0 1) = 11) (pq0 : (mI M (mR M a0 1) 0) ≤ x1 → Q (some (.int (nI 0))) M) (pw1 : ¬ (mI M (mR M a0 1) 0) ≤ x1 → Wp d mdX6_tailComes 17 [(0, .ref a0), (1, .int x1), (2, .int (x1 + (nI 1)))] [] M Q) : Wp d mdX6_tailComes 2 [(0, .ref a0), (1, .int x1)] [] M Q := by
  refine r_iload_n dX6_tailComes_2 rfl 1 rfl ?_
  refine r_aload_n dX6_tailComes_3 rfl 0 rfl ?_
  refine r_getR ck4 dX6_tailComes_4 flX6_57 rfl k0 ?_
  refine r_getI ck7 dX6_tailComes_7 flX6_61 rfl k1 ?_
  refine r_icmp_ge (tgt := 165) dX6_tailComes_10 (by decide) (fun c0 => ?_) (fun c0 => ?_)
  · skip
    refine r_iconst (v := (nI 0)) dX6_tailComes_165 rfl ?_
    exact r_ret (some (.int (nI 0))) dX6_tailComes_166 rfl (pq0 c0)
  · skip
    refine r_iload_n dX6_tailComes_13 rfl 1 rfl ?_
    refine r_iconst (v := (nI 1)) dX6_tailComes_14 rfl ?_
    refine r_iadd dX6_tailComes_15 ?_
    refine r_istore_n dX6_tailComes_16 rfl (by decide) (ls' := [(2, .int (x1 + (nI 1))), (0, .ref a0), (1, .int x1)]) rfl ?_
    refine r_sub [1, 2, 0] (ls' := [(0, .ref a0), (1, .int x1), (2, .int (x1 + (nI 1)))]) rfl ?_
    exact (pw1 c0)
theorem gX6_tailComes_17 {d : Nat} {Q : Option Value → Mem → Prop} {M : Mem} {a0 : Nat} {x1 : Int32} {x2 : Int32} (k0 : mK M a0 = 8) (k1 : mK M (mR M a0 1) = 11) (pw0 : (mI M (mR M a0 1) 0) ≤ x2 → Wp d mdX6_tailComes 2 [(0, .ref a0), (1, .int (x1 + (nI 1)))] [] M Q) (pf1 : ¬ (mI M (mR M a0 1) 0) ≤ x2 → ClD d mdX6_endOf [.ref a0, .int x1] M (fun r1 M1 => Wp d mdX6_tailComes 34 [(0, .ref a0), (1, .int x1), (2, .int x2)] (r1.toList ++ [.ref a0]) M1 Q)) : Wp d mdX6_tailComes 17 [(0, .ref a0), (1, .int x1), (2, .int x2)] [] M Q := by
  refine r_iload_n dX6_tailComes_17 rfl 2 rfl ?_
  refine r_aload_n dX6_tailComes_18 rfl 0 rfl ?_
  refine r_getR ck4 dX6_tailComes_19 flX6_57 rfl k0 ?_
  refine r_getI ck7 dX6_tailComes_22 flX6_61 rfl k1 ?_
  refine r_icmp_ge (tgt := 159) dX6_tailComes_25 (by decide) (fun c0 => ?_) (fun c0 => ?_)
  · skip
    refine r_iinc dX6_tailComes_159 1 rfl (v := x1 + (nI 1)) rfl (by decide) (ls' := [(1, .int (x1 + (nI 1))), (0, .ref a0), (2, .int x2)]) rfl ?_
    refine r_goto (tgt := 2) dX6_tailComes_162 (by decide) ?_
    refine r_sub [1, 0] (ls' := [(0, .ref a0), (1, .int (x1 + (nI 1)))]) rfl ?_
    exact (pw0 c0)
  · skip
    refine r_aload_n dX6_tailComes_28 rfl 0 rfl ?_
    refine r_aload_n dX6_tailComes_29 rfl 0 rfl ?_
    refine r_iload_n dX6_tailComes_30 rfl 1 rfl ?_
    obtain ⟨e9, hlt, h9⟩ := (pf1 c0)
    exact r_callV (As := [.int x1]) (rest := [.ref a0]) (ci := 4) moX6_endOf dX6_tailComes_31 mlX6_192 imX6_endOf seX6_endOf k0 rfl hlt (Nat.le_of_ble_eq_true rfl) h9
theorem gX6_tailComes_34 {d : Nat} {Q : Option Value → Mem → Prop} {M : Mem} {a0 : Nat} {x1 : Int32} {x2 : Int32} {sx0 : Int32} {sa1 : Nat} (k0 : mK M sa1 = 8) (pf0 : ClD d mdX6_lineOf [.ref sa1, .int sx0] M (fun r1 M1 => Wp d mdX6_tailComes 37 [(0, .ref a0), (1, .int x1), (2, .int x2)] (r1.toList ++ []) M1 Q)) : Wp d mdX6_tailComes 34 [(0, .ref a0), (1, .int x1), (2, .int x2)] [.int sx0, .ref sa1] M Q := by
  obtain ⟨e9, hlt, h9⟩ := pf0
  exact r_callV (As := [.int sx0]) (rest := []) (ci := 4) moX6_lineOf dX6_tailComes_34 mlX6_167 imX6_lineOf seX6_lineOf k0 rfl hlt (Nat.le_of_ble_eq_true rfl) h9
theorem gX6_tailComes_37 {d : Nat} {Q : Option Value → Mem → Prop} {M : Mem} {a0 : Nat} {x1 : Int32} {x2 : Int32} {sx0 : Int32} (k0 : mK M a0 = 8) (pf0 : ClD d mdX6_endOf [.ref a0, .int x2] M (fun r1 M1 => Wp d mdX6_tailComes 43 [(0, .ref a0), (1, .int x1), (2, .int x2)] (r1.toList ++ [.ref a0, .int sx0]) M1 Q)) : Wp d mdX6_tailComes 37 [(0, .ref a0), (1, .int x1), (2, .int x2)] [.int sx0] M Q := by
  refine r_aload_n dX6_tailComes_37 rfl 0 rfl ?_
  refine r_aload_n dX6_tailComes_38 rfl 0 rfl ?_
  refine r_iload_n dX6_tailComes_39 rfl 2 rfl ?_
  obtain ⟨e9, hlt, h9⟩ := pf0
  exact r_callV (As := [.int x2]) (rest := [.ref a0, .int sx0]) (ci := 4) moX6_endOf dX6_tailComes_40 mlX6_192 imX6_endOf seX6_endOf k0 rfl hlt (Nat.le_of_ble_eq_true rfl) h9
theorem gX6_tailComes_43 {d : Nat} {Q : Option Value → Mem → Prop} {M : Mem} {a0 : Nat} {x1 : Int32} {x2 : Int32} {sx0 : Int32} {sa1 : Nat} {sx2 : Int32} (k0 : mK M sa1 = 8) (pf0 : ClD d mdX6_lineOf [.ref sa1, .int sx0] M (fun r1 M1 => Wp d mdX6_tailComes 46 [(0, .ref a0), (1, .int x1), (2, .int x2)] (r1.toList ++ [.int sx2]) M1 Q)) : Wp d mdX6_tailComes 43 [(0, .ref a0), (1, .int x1), (2, .int x2)] [.int sx0, .ref sa1, .int sx2] M Q := by
  obtain ⟨e9, hlt, h9⟩ := pf0
  exact r_callV (As := [.int sx0]) (rest := [.int sx2]) (ci := 4) moX6_lineOf dX6_tailComes_43 mlX6_167 imX6_lineOf seX6_lineOf k0 rfl hlt (Nat.le_of_ble_eq_true rfl) h9
theorem gX6_tailComes_46 {d : Nat} {Q : Option Value → Mem → Prop} {M : Mem} {a0 : Nat} {x1 : Int32} {x2 : Int32} {sx0 : Int32} {sx1 : Int32}  (pw0 : sx1 = sx0 → Wp d mdX6_tailComes 54 [(0, .ref a0), (1, .int x1), (2, .int x2), (3, .int (nI 0))] [] M Q) (pw1 : ¬ sx1 = sx0 → Wp d mdX6_tailComes 17 [(0, .ref a0), (1, .int x1), (2, .int (x2 + (nI 1)))] [] M Q) : Wp d mdX6_tailComes 46 [(0, .ref a0), (1, .int x1), (2, .int x2)] [.int sx0, .int sx1] M Q := by
  refine r_icmp_eq (tgt := 52) dX6_tailComes_46 (by decide) (fun c0 => ?_) (fun c0 => ?_)
  · skip
    refine r_iconst (v := (nI 0)) dX6_tailComes_52 rfl ?_
    refine r_istore_n dX6_tailComes_53 rfl (by decide) (ls' := [(3, .int (nI 0)), (0, .ref a0), (1, .int x1), (2, .int x2)]) rfl ?_
    refine r_sub [1, 2, 3, 0] (ls' := [(0, .ref a0), (1, .int x1), (2, .int x2), (3, .int (nI 0))]) rfl ?_
    exact (pw0 c0)
  · skip
    refine r_goto (tgt := 153) dX6_tailComes_49 (by decide) ?_
    refine r_iinc dX6_tailComes_153 2 rfl (v := x2 + (nI 1)) rfl (by decide) (ls' := [(2, .int (x2 + (nI 1))), (0, .ref a0), (1, .int x1)]) rfl ?_
    refine r_goto (tgt := 17) dX6_tailComes_156 (by decide) ?_
    refine r_sub [1, 2, 0] (ls' := [(0, .ref a0), (1, .int x1), (2, .int (x2 + (nI 1)))]) rfl ?_
    exact (pw1 c0)
theorem gX6_tailComes_54 {d : Nat} {Q : Option Value → Mem → Prop} {M : Mem} {a0 : Nat} {x1 : Int32} {x2 : Int32} {x3 : Int32} (k0 : mK M a0 = 8) (k1 : mK M (mR M a0 0) = 4) (k2 : mK M (mR M (mR M a0 0) 0) = 5) (pw0 : (mI M (mR M (mR M a0 0) 0) 1) ≤ x3 → Wp d mdX6_tailComes 17 [(0, .ref a0), (1, .int x1), (2, .int (x2 + (nI 1)))] [] M Q) (pf1 : ¬ (mI M (mR M (mR M a0 0) 0) 1) ≤ x3 → ClD d mdX6_endOf [.ref a0, .int x1] M (fun r1 M1 => Wp d mdX6_tailComes 80 [(0, .ref a0), (1, .int x1), (2, .int x2), (3, .int x3)] (r1.toList ++ [.ref (mR M (mR M a0 0) 0)]) M1 Q)) : Wp d mdX6_tailComes 54 [(0, .ref a0), (1, .int x1), (2, .int x2), (3, .int x3)] [] M Q := by
  refine r_iload_n dX6_tailComes_54 rfl 3 rfl ?_
  refine r_aload_n dX6_tailComes_55 rfl 0 rfl ?_
  refine r_getR ck4 dX6_tailComes_56 flX6_69 rfl k0 ?_
  refine r_getR ck0 dX6_tailComes_59 flX6_115 rfl k1 ?_
  refine r_getI ck1 dX6_tailComes_62 flX6_119 rfl k2 ?_
  refine r_icmp_ge (tgt := 153) dX6_tailComes_65 (by decide) (fun c0 => ?_) (fun c0 => ?_)
  · skip
    refine r_iinc dX6_tailComes_153 2 rfl (v := x2 + (nI 1)) rfl (by decide) (ls' := [(2, .int (x2 + (nI 1))), (0, .ref a0), (1, .int x1), (3, .int x3)]) rfl ?_
    refine r_goto (tgt := 17) dX6_tailComes_156 (by decide) ?_
    refine r_sub [1, 2, 0] (ls' := [(0, .ref a0), (1, .int x1), (2, .int (x2 + (nI 1)))]) rfl ?_
    exact (pw0 c0)
  · skip
    refine r_aload_n dX6_tailComes_68 rfl 0 rfl ?_
    refine r_getR ck4 dX6_tailComes_69 flX6_69 rfl k0 ?_
    refine r_getR ck0 dX6_tailComes_72 flX6_115 rfl k1 ?_
    refine r_aload_n dX6_tailComes_75 rfl 0 rfl ?_
    refine r_iload_n dX6_tailComes_76 rfl 1 rfl ?_
    obtain ⟨e9, hlt, h9⟩ := (pf1 c0)
    exact r_callV (As := [.int x1]) (rest := [.ref (mR M (mR M a0 0) 0)]) (ci := 4) moX6_endOf dX6_tailComes_77 mlX6_192 imX6_endOf seX6_endOf k0 rfl hlt (Nat.le_of_ble_eq_true rfl) h9
theorem gX6_tailComes_80 {d : Nat} {Q : Option Value → Mem → Prop} {M : Mem} {a0 : Nat} {x1 : Int32} {x2 : Int32} {x3 : Int32} {sx0 : Int32} {sa1 : Nat} (k0 : mK M sa1 = 5) (pf0 : ClD d mdX2_nextOf [.ref sa1, .int sx0, .int x3] M (fun r1 M1 => Wp d mdX6_tailComes 84 [(0, .ref a0), (1, .int x1), (2, .int x2), (3, .int x3)] (r1.toList ++ []) M1 Q)) : Wp d mdX6_tailComes 80 [(0, .ref a0), (1, .int x1), (2, .int x2), (3, .int x3)] [.int sx0, .ref sa1] M Q := by
  refine r_iload_n dX6_tailComes_80 rfl 3 rfl ?_
  obtain ⟨e9, hlt, h9⟩ := pf0
  exact r_callV (As := [.int sx0, .int x3]) (rest := []) (ci := 1) moX2_nextOf dX6_tailComes_81 mlX6_198 imX2_nextOf seX2_nextOf k0 rfl hlt (Nat.le_of_ble_eq_true rfl) h9
theorem gX6_tailComes_84 {d : Nat} {Q : Option Value → Mem → Prop} {M : Mem} {a0 : Nat} {x1 : Int32} {x2 : Int32} {x3 : Int32} {sx0 : Int32} (k0 : mK M a0 = 8) (k1 : mK M (mR M a0 0) = 4) (pf0 : ClD d mdX6_endOf [.ref a0, .int x2] M (fun r1 M1 => Wp d mdX6_tailComes 98 [(0, .ref a0), (1, .int x1), (2, .int x2), (3, .int x3), (4, .int sx0)] (r1.toList ++ [.ref (mR M (mR M a0 0) 0)]) M1 Q)) : Wp d mdX6_tailComes 84 [(0, .ref a0), (1, .int x1), (2, .int x2), (3, .int x3)] [.int sx0] M Q := by
  refine r_istore dX6_tailComes_84 (by decide) (ls' := [(4, .int sx0), (0, .ref a0), (1, .int x1), (2, .int x2), (3, .int x3)]) rfl ?_
  refine r_aload_n dX6_tailComes_86 rfl 1 rfl ?_
  refine r_getR ck4 dX6_tailComes_87 flX6_69 rfl k0 ?_
  refine r_getR ck0 dX6_tailComes_90 flX6_115 rfl k1 ?_
  refine r_aload_n dX6_tailComes_93 rfl 1 rfl ?_
  refine r_iload_n dX6_tailComes_94 rfl 3 rfl ?_
  refine r_sub [1, 2, 3, 4, 0] (ls' := [(0, .ref a0), (1, .int x1), (2, .int x2), (3, .int x3), (4, .int sx0)]) rfl ?_
  obtain ⟨e9, hlt, h9⟩ := pf0
  exact r_callV (As := [.int x2]) (rest := [.ref (mR M (mR M a0 0) 0)]) (ci := 4) moX6_endOf dX6_tailComes_95 mlX6_192 imX6_endOf seX6_endOf k0 rfl hlt (Nat.le_of_ble_eq_true rfl) h9
theorem gX6_tailComes_98 {d : Nat} {Q : Option Value → Mem → Prop} {M : Mem} {a0 : Nat} {x1 : Int32} {x2 : Int32} {x3 : Int32} {x4 : Int32} {sx0 : Int32} {sa1 : Nat} (k0 : mK M sa1 = 5) (pf0 : ClD d mdX2_nextOf [.ref sa1, .int sx0, .int x3] M (fun r1 M1 => Wp d mdX6_tailComes 102 [(0, .ref a0), (1, .int x1), (2, .int x2), (3, .int x3), (4, .int x4)] (r1.toList ++ []) M1 Q)) : Wp d mdX6_tailComes 98 [(0, .ref a0), (1, .int x1), (2, .int x2), (3, .int x3), (4, .int x4)] [.int sx0, .ref sa1] M Q := by
  refine r_iload_n dX6_tailComes_98 rfl 3 rfl ?_
  obtain ⟨e9, hlt, h9⟩ := pf0
  exact r_callV (As := [.int sx0, .int x3]) (rest := []) (ci := 1) moX2_nextOf dX6_tailComes_99 mlX6_198 imX2_nextOf seX2_nextOf k0 rfl hlt (Nat.le_of_ble_eq_true rfl) h9
theorem gX6_tailComes_102 {d : Nat} {Q : Option Value → Mem → Prop} {M : Mem} {a0 : Nat} {x1 : Int32} {x2 : Int32} {x3 : Int32} {x4 : Int32} {sx0 : Int32} (k0 : mK M a0 = 8) (pf0 : ClD d mdX6_lineOf [.ref a0, .int x4] M (fun r1 M1 => Wp d mdX6_tailComes 110 [(0, .ref a0), (1, .int x1), (2, .int x2), (3, .int x3), (4, .int x4), (5, .int sx0)] (r1.toList ++ []) M1 Q)) : Wp d mdX6_tailComes 102 [(0, .ref a0), (1, .int x1), (2, .int x2), (3, .int x3), (4, .int x4)] [.int sx0] M Q := by
  refine r_istore dX6_tailComes_102 (by decide) (ls' := [(5, .int sx0), (0, .ref a0), (1, .int x1), (2, .int x2), (3, .int x3), (4, .int x4)]) rfl ?_
  refine r_aload_n dX6_tailComes_104 rfl 1 rfl ?_
  refine r_iload dX6_tailComes_105 5 rfl ?_
  refine r_sub [1, 2, 3, 4, 5, 0] (ls' := [(0, .ref a0), (1, .int x1), (2, .int x2), (3, .int x3), (4, .int x4), (5, .int sx0)]) rfl ?_
  obtain ⟨e9, hlt, h9⟩ := pf0
  exact r_callV (As := [.int x4]) (rest := []) (ci := 4) moX6_lineOf dX6_tailComes_107 mlX6_167 imX6_lineOf seX6_lineOf k0 rfl hlt (Nat.le_of_ble_eq_true rfl) h9
theorem gX6_tailComes_110 {d : Nat} {Q : Option Value → Mem → Prop} {M : Mem} {a0 : Nat} {x1 : Int32} {x2 : Int32} {x3 : Int32} {x4 : Int32} {x5 : Int32} {sx0 : Int32} (k0 : mK M a0 = 8) (pf0 : ClD d mdX6_lineOf [.ref a0, .int x5] M (fun r1 M1 => Wp d mdX6_tailComes 116 [(0, .ref a0), (1, .int x1), (2, .int x2), (3, .int x3), (4, .int x4), (5, .int x5)] (r1.toList ++ [.int sx0]) M1 Q)) : Wp d mdX6_tailComes 110 [(0, .ref a0), (1, .int x1), (2, .int x2), (3, .int x3), (4, .int x4), (5, .int x5)] [.int sx0] M Q := by
  refine r_aload_n dX6_tailComes_110 rfl 0 rfl ?_
  refine r_iload dX6_tailComes_111 5 rfl ?_
  obtain ⟨e9, hlt, h9⟩ := pf0
  exact r_callV (As := [.int x5]) (rest := [.int sx0]) (ci := 4) moX6_lineOf dX6_tailComes_113 mlX6_167 imX6_lineOf seX6_lineOf k0 rfl hlt (Nat.le_of_ble_eq_true rfl) h9
theorem gX6_tailComes_116 {d : Nat} {Q : Option Value → Mem → Prop} {M : Mem} {a0 : Nat} {x1 : Int32} {x2 : Int32} {x3 : Int32} {x4 : Int32} {x5 : Int32} {sx0 : Int32} {sx1 : Int32} (k0 : mK M a0 = 8) (pf0 : ¬ sx1 = sx0 → ClD d mdX1_then [.long (lN 1), .int x3] M (fun r1 M1 => Wp d mdX6_tailComes 131 [(0, .ref a0), (4, .int x4), (5, .int x5)] (r1.toList ++ [.ref (mR M a0 2)]) M1 Q)) (pw1 : sx1 = sx0 → Wp d mdX6_tailComes 54 [(0, .ref a0), (1, .int x1), (2, .int x2), (3, .int (x3 + (nI 1)))] [] M Q) : Wp d mdX6_tailComes 116 [(0, .ref a0), (1, .int x1), (2, .int x2), (3, .int x3), (4, .int x4), (5, .int x5)] [.int sx0, .int sx1] M Q := by
  refine r_icmp_ne (tgt := 122) dX6_tailComes_116 (by decide) (fun c0 => ?_) (fun c0 => ?_)
  · skip
    refine r_aload_n dX6_tailComes_122 rfl 0 rfl ?_
    refine r_getR ck4 dX6_tailComes_123 flX6_66 rfl k0 ?_
    refine r_lconst (v := (lN 1)) dX6_tailComes_126 rfl ?_
    refine r_iload_n dX6_tailComes_127 rfl 3 rfl ?_
    refine r_sub [0, 4, 5] (ls' := [(0, .ref a0), (4, .int x4), (5, .int x5)]) rfl ?_
    obtain ⟨e9, hlt, h9⟩ := (pf0 c0)
    exact r_callS (As := [.long (lN 1), .int x3]) (rest := [.ref (mR M a0 2)]) moX1_then dX6_tailComes_128 mlX6_151 saX1_then rfl hlt (Nat.le_of_ble_eq_true rfl) h9
  · skip
    refine r_goto (tgt := 147) dX6_tailComes_119 (by decide) ?_
    refine r_iinc dX6_tailComes_147 3 rfl (v := x3 + (nI 1)) rfl (by decide) (ls' := [(3, .int (x3 + (nI 1))), (0, .ref a0), (1, .int x1), (2, .int x2), (4, .int x4), (5, .int x5)]) rfl ?_
    refine r_goto (tgt := 54) dX6_tailComes_150 (by decide) ?_
    refine r_sub [1, 2, 3, 0] (ls' := [(0, .ref a0), (1, .int x1), (2, .int x2), (3, .int (x3 + (nI 1)))]) rfl ?_
    exact (pw1 c0)
theorem gX6_tailComes_131 {d : Nat} {Q : Option Value → Mem → Prop} {M : Mem} {a0 : Nat} {x4 : Int32} {x5 : Int32} {sw0 : Int64} {sa1 : Nat} (k0 : mK M a0 = 8) (pf0 : ClD d mdX6_firstParting [.ref a0, .int x4, .int x5] M (fun r1 M1 => Wp d mdX6_tailComes 139 [] (r1.toList ++ [.long sw0, .ref sa1]) M1 Q)) : Wp d mdX6_tailComes 131 [(0, .ref a0), (4, .int x4), (5, .int x5)] [.long sw0, .ref sa1] M Q := by
  refine r_aload_n dX6_tailComes_131 rfl 0 rfl ?_
  refine r_iload dX6_tailComes_132 1 rfl ?_
  refine r_iload dX6_tailComes_134 2 rfl ?_
  refine r_sub [] (ls' := []) rfl ?_
  obtain ⟨e9, hlt, h9⟩ := pf0
  exact r_callV (As := [.int x4, .int x5]) (rest := [.long sw0, .ref sa1]) (ci := 4) moX6_firstParting dX6_tailComes_136 mlX6_208 imX6_firstParting seX6_firstParting k0 rfl hlt (Nat.le_of_ble_eq_true rfl) h9
theorem gX6_tailComes_139 {d : Nat} {Q : Option Value → Mem → Prop} {M : Mem} {sw0 : Int64} {sw1 : Int64} {sa2 : Nat}  (pf0 : ClD d mdX1_join [.long sw1, .long sw0] M (fun r1 M1 => Wp d mdX6_tailComes 142 [] (r1.toList ++ [.ref sa2]) M1 Q)) : Wp d mdX6_tailComes 139 [] [.long sw0, .long sw1, .ref sa2] M Q := by
  obtain ⟨e9, hlt, h9⟩ := pf0
  exact r_callS (As := [.long sw1, .long sw0]) (rest := [.ref sa2]) moX1_join dX6_tailComes_139 mlX6_136 saX1_join rfl hlt (Nat.le_of_ble_eq_true rfl) h9
theorem gX6_tailComes_142 {d : Nat} {Q : Option Value → Mem → Prop} {M : Mem} {sw0 : Int64} {sa1 : Nat} (k0 : mK M sa1 = 11) (pf0 : ClD d mdX9_add [.ref sa1, .long sw0] M (fun r1 M1 => Wp d mdX6_tailComes 145 [] (r1.toList ++ []) M1 Q)) : Wp d mdX6_tailComes 142 [] [.long sw0, .ref sa1] M Q := by
  obtain ⟨e9, hlt, h9⟩ := pf0
  exact r_callV (As := [.long sw0]) (rest := []) (ci := 7) moX9_add dX6_tailComes_142 mlX6_99 imX9_add seX9_add k0 rfl hlt (Nat.le_of_ble_eq_true rfl) h9
theorem gX6_tailComes_145 {d : Nat} {Q : Option Value → Mem → Prop} {M : Mem}  (pq0 : Q (some (.int (nI 1))) M) : Wp d mdX6_tailComes 145 [] [] M Q := by
  refine r_iconst (v := (nI 1)) dX6_tailComes_145 rfl ?_
  exact r_ret (some (.int (nI 1))) dX6_tailComes_146 rfl pq0
-- X6_firstParting
theorem gX6_firstParting_0 {d : Nat} {Q : Option Value → Mem → Prop} {M : Mem} {a0 : Nat} {x1 : Int32} {x2 : Int32} (k0 : mK M a0 = 8) (k1 : mK M (mR M a0 0) = 4) (pw0 : Wp d mdX6_firstParting 11 [(0, .ref a0), (1, .int x1), (2, .int x2), (3, .ref (mR M (mR M a0 0) 0)), (4, .int (nI 0))] [] M Q) : Wp d mdX6_firstParting 0 [(0, .ref a0), (1, .int x1), (2, .int x2)] [] M Q := by
  refine r_aload_n dX6_firstParting_0 rfl 0 rfl ?_
  refine r_getR ck4 dX6_firstParting_1 flX6_69 rfl k0 ?_
  refine r_getR ck0 dX6_firstParting_4 flX6_115 rfl k1 ?_
  refine r_astore_n dX6_firstParting_7 rfl (by decide) (ls' := [(3, .ref (mR M (mR M a0 0) 0)), (0, .ref a0), (1, .int x1), (2, .int x2)]) rfl ?_
  refine r_iconst (v := (nI 0)) dX6_firstParting_8 rfl ?_
  refine r_istore dX6_firstParting_9 (by decide) (ls' := [(4, .int (nI 0)), (3, .ref (mR M (mR M a0 0) 0)), (0, .ref a0), (1, .int x1), (2, .int x2)]) rfl ?_
  refine r_sub [2, 3, 4, 1, 0] (ls' := [(0, .ref a0), (1, .int x1), (2, .int x2), (3, .ref (mR M (mR M a0 0) 0)), (4, .int (nI 0))]) rfl ?_
  exact pw0
theorem gX6_firstParting_11 {d : Nat} {Q : Option Value → Mem → Prop} {M : Mem} {a0 : Nat} {x1 : Int32} {x2 : Int32} {a3 : Nat} {x4 : Int32} (k0 : mK M a0 = 8) (k1 : mK M (mR M a0 2) = 11) (pq0 : (mI M (mR M a0 2) 0) ≤ x4 → Q (some (.long (lN 1))) M) (pf1 : ¬ (mI M (mR M a0 2) 0) ≤ x4 → ClD d mdX9_get [.ref (mR M a0 2), .int x4] M (fun r1 M1 => Wp d mdX6_firstParting 32 [(0, .ref a0), (1, .int x1), (2, .int x2), (3, .ref a3), (4, .int x4)] (r1.toList ++ []) M1 Q)) : Wp d mdX6_firstParting 11 [(0, .ref a0), (1, .int x1), (2, .int x2), (3, .ref a3), (4, .int x4)] [] M Q := by
  refine r_iload dX6_firstParting_11 4 rfl ?_
  refine r_aload_n dX6_firstParting_13 rfl 0 rfl ?_
  refine r_getR ck4 dX6_firstParting_14 flX6_66 rfl k0 ?_
  refine r_getI ck7 dX6_firstParting_17 flX6_61 rfl k1 ?_
  refine r_icmp_ge (tgt := 68) dX6_firstParting_20 (by decide) (fun c0 => ?_) (fun c0 => ?_)
  · skip
    refine r_lconst (v := (lN 1)) dX6_firstParting_68 rfl ?_
    exact r_ret (some (.long (lN 1))) dX6_firstParting_69 rfl (pq0 c0)
  · skip
    refine r_aload_n dX6_firstParting_23 rfl 0 rfl ?_
    refine r_getR ck4 dX6_firstParting_24 flX6_66 rfl k0 ?_
    refine r_iload dX6_firstParting_27 4 rfl ?_
    obtain ⟨e9, hlt, h9⟩ := (pf1 c0)
    exact r_callV (As := [.int x4]) (rest := []) (ci := 7) moX9_get dX6_firstParting_29 mlX6_132 imX9_get seX9_get k1 rfl hlt (Nat.le_of_ble_eq_true rfl) h9
theorem gX6_firstParting_32 {d : Nat} {Q : Option Value → Mem → Prop} {M : Mem} {a0 : Nat} {x1 : Int32} {x2 : Int32} {a3 : Nat} {x4 : Int32} {sw0 : Int64} (k0 : mK M a3 = 5) (pf0 : ClD d mdX2_endFrom [.ref a3, .int x1, .long sw0] M (fun r1 M1 => Wp d mdX6_firstParting 42 [(0, .ref a0), (1, .int x1), (2, .int x2), (3, .ref a3), (4, .int x4), (5, .long sw0)] (r1.toList ++ [.ref a3]) M1 Q)) : Wp d mdX6_firstParting 32 [(0, .ref a0), (1, .int x1), (2, .int x2), (3, .ref a3), (4, .int x4)] [.long sw0] M Q := by
  refine r_lstore dX6_firstParting_32 (by decide) (ls' := [(5, .long sw0), (0, .ref a0), (1, .int x1), (2, .int x2), (3, .ref a3), (4, .int x4)]) rfl ?_
  refine r_aload_n dX6_firstParting_34 rfl 4 rfl ?_
  refine r_aload_n dX6_firstParting_35 rfl 4 rfl ?_
  refine r_iload_n dX6_firstParting_36 rfl 2 rfl ?_
  refine r_lload dX6_firstParting_37 0 rfl ?_
  refine r_sub [1, 2, 3, 4, 5, 0] (ls' := [(0, .ref a0), (1, .int x1), (2, .int x2), (3, .ref a3), (4, .int x4), (5, .long sw0)]) rfl ?_
  obtain ⟨e9, hlt, h9⟩ := pf0
  exact r_callV (As := [.int x1, .long sw0]) (rest := [.ref a3]) (ci := 1) moX2_endFrom dX6_firstParting_39 mlX6_163 imX2_endFrom seX2_endFrom k0 rfl hlt (Nat.le_of_ble_eq_true rfl) h9
theorem gX6_firstParting_42 {d : Nat} {Q : Option Value → Mem → Prop} {M : Mem} {a0 : Nat} {x1 : Int32} {x2 : Int32} {a3 : Nat} {x4 : Int32} {w5 : Int64} {sx0 : Int32} {sa1 : Nat} (k0 : mK M sa1 = 5) (pf0 : ClD d mdX2_outputOf [.ref sa1, .int sx0] M (fun r1 M1 => Wp d mdX6_firstParting 45 [(0, .ref a0), (1, .int x1), (2, .int x2), (3, .ref a3), (4, .int x4), (5, .long w5)] (r1.toList ++ []) M1 Q)) : Wp d mdX6_firstParting 42 [(0, .ref a0), (1, .int x1), (2, .int x2), (3, .ref a3), (4, .int x4), (5, .long w5)] [.int sx0, .ref sa1] M Q := by
  obtain ⟨e9, hlt, h9⟩ := pf0
  exact r_callV (As := [.int sx0]) (rest := []) (ci := 1) moX2_outputOf dX6_firstParting_42 mlX6_186 imX2_outputOf seX2_outputOf k0 rfl hlt (Nat.le_of_ble_eq_true rfl) h9
theorem gX6_firstParting_45 {d : Nat} {Q : Option Value → Mem → Prop} {M : Mem} {a0 : Nat} {x1 : Int32} {x2 : Int32} {a3 : Nat} {x4 : Int32} {w5 : Int64} {sx0 : Int32} (k0 : mK M a3 = 5) (pf0 : ClD d mdX2_endFrom [.ref a3, .int x2, .long w5] M (fun r1 M1 => Wp d mdX6_firstParting 53 [(0, .ref a0), (1, .int x1), (2, .int x2), (3, .ref a3), (4, .int x4), (5, .long w5)] (r1.toList ++ [.ref a3, .int sx0]) M1 Q)) : Wp d mdX6_firstParting 45 [(0, .ref a0), (1, .int x1), (2, .int x2), (3, .ref a3), (4, .int x4), (5, .long w5)] [.int sx0] M Q := by
  refine r_aload_n dX6_firstParting_45 rfl 3 rfl ?_
  refine r_aload_n dX6_firstParting_46 rfl 3 rfl ?_
  refine r_iload_n dX6_firstParting_47 rfl 2 rfl ?_
  refine r_lload dX6_firstParting_48 5 rfl ?_
  obtain ⟨e9, hlt, h9⟩ := pf0
  exact r_callV (As := [.int x2, .long w5]) (rest := [.ref a3, .int sx0]) (ci := 1) moX2_endFrom dX6_firstParting_50 mlX6_163 imX2_endFrom seX2_endFrom k0 rfl hlt (Nat.le_of_ble_eq_true rfl) h9
theorem gX6_firstParting_53 {d : Nat} {Q : Option Value → Mem → Prop} {M : Mem} {a0 : Nat} {x1 : Int32} {x2 : Int32} {a3 : Nat} {x4 : Int32} {w5 : Int64} {sx0 : Int32} {sa1 : Nat} {sx2 : Int32} (k0 : mK M sa1 = 5) (pf0 : ClD d mdX2_outputOf [.ref sa1, .int sx0] M (fun r1 M1 => Wp d mdX6_firstParting 56 [(0, .ref a0), (1, .int x1), (2, .int x2), (3, .ref a3), (4, .int x4), (5, .long w5)] (r1.toList ++ [.int sx2]) M1 Q)) : Wp d mdX6_firstParting 53 [(0, .ref a0), (1, .int x1), (2, .int x2), (3, .ref a3), (4, .int x4), (5, .long w5)] [.int sx0, .ref sa1, .int sx2] M Q := by
  obtain ⟨e9, hlt, h9⟩ := pf0
  exact r_callV (As := [.int sx0]) (rest := [.int sx2]) (ci := 1) moX2_outputOf dX6_firstParting_53 mlX6_186 imX2_outputOf seX2_outputOf k0 rfl hlt (Nat.le_of_ble_eq_true rfl) h9
theorem gX6_firstParting_56 {d : Nat} {Q : Option Value → Mem → Prop} {M : Mem} {a0 : Nat} {x1 : Int32} {x2 : Int32} {a3 : Nat} {x4 : Int32} {w5 : Int64} {sx0 : Int32} {sx1 : Int32}  (pw0 : sx1 = sx0 → Wp d mdX6_firstParting 11 [(0, .ref a0), (1, .int x1), (2, .int x2), (3, .ref a3), (4, .int (x4 + (nI 1)))] [] M Q) (pq1 : ¬ sx1 = sx0 → Q (some (.long w5)) M) : Wp d mdX6_firstParting 56 [(0, .ref a0), (1, .int x1), (2, .int x2), (3, .ref a3), (4, .int x4), (5, .long w5)] [.int sx0, .int sx1] M Q := by
  refine r_icmp_eq (tgt := 62) dX6_firstParting_56 (by decide) (fun c0 => ?_) (fun c0 => ?_)
  · skip
    refine r_iinc dX6_firstParting_62 4 rfl (v := x4 + (nI 1)) rfl (by decide) (ls' := [(4, .int (x4 + (nI 1))), (0, .ref a0), (1, .int x1), (2, .int x2), (3, .ref a3), (5, .long w5)]) rfl ?_
    refine r_goto (tgt := 11) dX6_firstParting_65 (by decide) ?_
    refine r_sub [1, 2, 3, 4, 0] (ls' := [(0, .ref a0), (1, .int x1), (2, .int x2), (3, .ref a3), (4, .int (x4 + (nI 1)))]) rfl ?_
    exact (pw0 c0)
  · skip
    refine r_lload dX6_firstParting_59 5 rfl ?_
    exact r_ret (some (.long w5)) dX6_firstParting_61 rfl (pq1 c0)
-- X6_joinStates
theorem gX6_joinStates_0 {d : Nat} {Q : Option Value → Mem → Prop} {M : Mem} {a0 : Nat}  (pw0 : Wp d mdX6_joinStates 2 [(0, .ref a0), (1, .int (nI 0))] [] M Q) : Wp d mdX6_joinStates 0 [(0, .ref a0)] [] M Q := by
  refine r_iconst (v := (nI 0)) dX6_joinStates_0 rfl ?_
  refine r_istore_n dX6_joinStates_1 rfl (by decide) (ls' := [(1, .int (nI 0)), (0, .ref a0)]) rfl ?_
  refine r_sub [1, 0] (ls' := [(0, .ref a0), (1, .int (nI 0))]) rfl ?_
  exact pw0
theorem gX6_joinStates_2 {d : Nat} {Q : Option Value → Mem → Prop} {M : Mem} {a0 : Nat} {x1 : Int32} (k0 : mK M a0 = 8) (k1 : mK M (mR M a0 1) = 11) (pw0 : (mI M (mR M a0 1) 0) ≤ x1 → Wp d mdX6_joinStates 44 [(0, .ref a0), (1, .int (nI 0))] [] M Q) (pf1 : ¬ (mI M (mR M a0 1) 0) ≤ x1 → ClD d mdX6_isFirstOfLine [.ref a0, .int x1] M (fun r1 M1 => Wp d mdX6_joinStates 18 [(0, .ref a0), (1, .int x1)] (r1.toList ++ []) M1 Q)) : Wp d mdX6_joinStates 2 [(0, .ref a0), (1, .int x1)] [] M Q := by
  refine r_iload_n dX6_joinStates_2 rfl 1 rfl ?_
  refine r_aload_n dX6_joinStates_3 rfl 0 rfl ?_
  refine r_getR ck4 dX6_joinStates_4 flX6_57 rfl k0 ?_
  refine r_getI ck7 dX6_joinStates_7 flX6_61 rfl k1 ?_
  refine r_icmp_ge (tgt := 42) dX6_joinStates_10 (by decide) (fun c0 => ?_) (fun c0 => ?_)
  · skip
    refine r_iconst (v := (nI 0)) dX6_joinStates_42 rfl ?_
    refine r_istore_n dX6_joinStates_43 rfl (by decide) (ls' := [(1, .int (nI 0)), (0, .ref a0)]) rfl ?_
    refine r_sub [1, 0] (ls' := [(0, .ref a0), (1, .int (nI 0))]) rfl ?_
    exact (pw0 c0)
  · skip
    refine r_aload_n dX6_joinStates_13 rfl 0 rfl ?_
    refine r_iload_n dX6_joinStates_14 rfl 1 rfl ?_
    obtain ⟨e9, hlt, h9⟩ := (pf1 c0)
    exact r_callV (As := [.int x1]) (rest := []) (ci := 4) moX6_isFirstOfLine dX6_joinStates_15 mlX6_201 imX6_isFirstOfLine seX6_isFirstOfLine k0 rfl hlt (Nat.le_of_ble_eq_true rfl) h9
theorem gX6_joinStates_18 {d : Nat} {Q : Option Value → Mem → Prop} {M : Mem} {a0 : Nat} {x1 : Int32} {sx0 : Int32} (k0 : mK M a0 = 8) (k1 : mK M (mR M a0 1) = 11) (pw0 : sx0 = 0 → Wp d mdX6_joinStates 36 [(0, .ref a0), (1, .int x1)] [] M Q) (pf1 : ¬ sx0 = 0 → ClD d mdX9_get [.ref (mR M a0 1), .int x1] M (fun r1 M1 => Wp d mdX6_joinStates 33 [(0, .ref a0), (1, .int x1)] (r1.toList ++ [.ref (mR M a0 3)]) M1 Q)) : Wp d mdX6_joinStates 18 [(0, .ref a0), (1, .int x1)] [.int sx0] M Q := by
  refine r_if_eq (tgt := 36) dX6_joinStates_18 (by decide) (fun c0 => ?_) (fun c0 => ?_)
  · skip
    exact (pw0 c0)
  · skip
    refine r_aload_n dX6_joinStates_21 rfl 0 rfl ?_
    refine r_getR ck4 dX6_joinStates_22 flX6_211 rfl k0 ?_
    refine r_aload_n dX6_joinStates_25 rfl 0 rfl ?_
    refine r_getR ck4 dX6_joinStates_26 flX6_57 rfl k0 ?_
    refine r_iload_n dX6_joinStates_29 rfl 1 rfl ?_
    obtain ⟨e9, hlt, h9⟩ := (pf1 c0)
    exact r_callV (As := [.int x1]) (rest := [.ref (mR M a0 3)]) (ci := 7) moX9_get dX6_joinStates_30 mlX6_132 imX9_get seX9_get k1 rfl hlt (Nat.le_of_ble_eq_true rfl) h9
theorem gX6_joinStates_33 {d : Nat} {Q : Option Value → Mem → Prop} {M : Mem} {a0 : Nat} {x1 : Int32} {sw0 : Int64} {sa1 : Nat} (k0 : mK M sa1 = 11) (pf0 : ClD d mdX9_add [.ref sa1, .long sw0] M (fun r1 M1 => Wp d mdX6_joinStates 36 [(0, .ref a0), (1, .int x1)] (r1.toList ++ []) M1 Q)) : Wp d mdX6_joinStates 33 [(0, .ref a0), (1, .int x1)] [.long sw0, .ref sa1] M Q := by
  obtain ⟨e9, hlt, h9⟩ := pf0
  exact r_callV (As := [.long sw0]) (rest := []) (ci := 7) moX9_add dX6_joinStates_33 mlX6_99 imX9_add seX9_add k0 rfl hlt (Nat.le_of_ble_eq_true rfl) h9
theorem gX6_joinStates_36 {d : Nat} {Q : Option Value → Mem → Prop} {M : Mem} {a0 : Nat} {x1 : Int32}  (pw0 : Wp d mdX6_joinStates 2 [(0, .ref a0), (1, .int (x1 + (nI 1)))] [] M Q) : Wp d mdX6_joinStates 36 [(0, .ref a0), (1, .int x1)] [] M Q := by
  refine r_iinc dX6_joinStates_36 1 rfl (v := x1 + (nI 1)) rfl (by decide) (ls' := [(1, .int (x1 + (nI 1))), (0, .ref a0)]) rfl ?_
  refine r_goto (tgt := 2) dX6_joinStates_39 (by decide) ?_
  refine r_sub [1, 0] (ls' := [(0, .ref a0), (1, .int (x1 + (nI 1)))]) rfl ?_
  exact pw0
theorem gX6_joinStates_44 {d : Nat} {Q : Option Value → Mem → Prop} {M : Mem} {a0 : Nat} {x1 : Int32} (k0 : mK M a0 = 8) (k1 : mK M (mR M a0 1) = 11) (pq0 : (mI M (mR M a0 1) 0) ≤ x1 → Q none M) (pf1 : ¬ (mI M (mR M a0 1) 0) ≤ x1 → ClD d mdX9_get [.ref (mR M a0 1), .int x1] M (fun r1 M1 => Wp d mdX6_joinStates 67 [(0, .ref a0), (1, .int x1)] (r1.toList ++ [.ref (mR M a0 3)]) M1 Q)) : Wp d mdX6_joinStates 44 [(0, .ref a0), (1, .int x1)] [] M Q := by
  refine r_iload_n dX6_joinStates_44 rfl 1 rfl ?_
  refine r_aload_n dX6_joinStates_45 rfl 0 rfl ?_
  refine r_getR ck4 dX6_joinStates_46 flX6_57 rfl k0 ?_
  refine r_getI ck7 dX6_joinStates_49 flX6_61 rfl k1 ?_
  refine r_icmp_ge (tgt := 133) dX6_joinStates_52 (by decide) (fun c0 => ?_) (fun c0 => ?_)
  · skip
    exact r_ret none dX6_joinStates_133 rfl (pq0 c0)
  · skip
    refine r_aload_n dX6_joinStates_55 rfl 0 rfl ?_
    refine r_getR ck4 dX6_joinStates_56 flX6_211 rfl k0 ?_
    refine r_aload_n dX6_joinStates_59 rfl 0 rfl ?_
    refine r_getR ck4 dX6_joinStates_60 flX6_57 rfl k0 ?_
    refine r_iload_n dX6_joinStates_63 rfl 1 rfl ?_
    obtain ⟨e9, hlt, h9⟩ := (pf1 c0)
    exact r_callV (As := [.int x1]) (rest := [.ref (mR M a0 3)]) (ci := 7) moX9_get dX6_joinStates_64 mlX6_132 imX9_get seX9_get k1 rfl hlt (Nat.le_of_ble_eq_true rfl) h9
theorem gX6_joinStates_67 {d : Nat} {Q : Option Value → Mem → Prop} {M : Mem} {a0 : Nat} {x1 : Int32} {sw0 : Int64} {sa1 : Nat} (k0 : mK M sa1 = 11) (pf0 : ClD d mdX9_indexOf [.ref sa1, .long sw0] M (fun r1 M1 => Wp d mdX6_joinStates 70 [(0, .ref a0), (1, .int x1)] (r1.toList ++ []) M1 Q)) : Wp d mdX6_joinStates 67 [(0, .ref a0), (1, .int x1)] [.long sw0, .ref sa1] M Q := by
  obtain ⟨e9, hlt, h9⟩ := pf0
  exact r_callV (As := [.long sw0]) (rest := []) (ci := 7) moX9_indexOf dX6_joinStates_67 mlX6_214 imX9_indexOf seX9_indexOf k0 rfl hlt (Nat.le_of_ble_eq_true rfl) h9
theorem gX6_joinStates_70 {d : Nat} {Q : Option Value → Mem → Prop} {M : Mem} {a0 : Nat} {x1 : Int32} {sx0 : Int32}  (pw0 : Wp d mdX6_joinStates 73 [(0, .ref a0), (1, .int x1), (2, .int sx0), (3, .int (nI 0))] [] M Q) : Wp d mdX6_joinStates 70 [(0, .ref a0), (1, .int x1)] [.int sx0] M Q := by
  refine r_istore_n dX6_joinStates_70 rfl (by decide) (ls' := [(2, .int sx0), (0, .ref a0), (1, .int x1)]) rfl ?_
  refine r_iconst (v := (nI 0)) dX6_joinStates_71 rfl ?_
  refine r_istore_n dX6_joinStates_72 rfl (by decide) (ls' := [(3, .int (nI 0)), (2, .int sx0), (0, .ref a0), (1, .int x1)]) rfl ?_
  refine r_sub [2, 3, 1, 0] (ls' := [(0, .ref a0), (1, .int x1), (2, .int sx0), (3, .int (nI 0))]) rfl ?_
  exact pw0
theorem gX6_joinStates_73 {d : Nat} {Q : Option Value → Mem → Prop} {M : Mem} {a0 : Nat} {x1 : Int32} {x2 : Int32} {x3 : Int32} (k0 : mK M a0 = 8) (k1 : mK M (mR M a0 0) = 4) (k2 : mK M (mR M (mR M a0 0) 0) = 5) (pw0 : (mI M (mR M (mR M a0 0) 0) 1) ≤ x3 → Wp d mdX6_joinStates 44 [(0, .ref a0), (1, .int (x1 + (nI 1)))] [] M Q) (pw1 : ¬ (mI M (mR M (mR M a0 0) 0) 1) ≤ x3 → x2 = (-1 : Int32) → Wp d mdX6_joinStates 44 [(0, .ref a0), (1, .int (x1 + (nI 1)))] [] M Q) (pf2 : ¬ (mI M (mR M (mR M a0 0) 0) 1) ≤ x3 → ¬ x2 = (-1 : Int32) → ClD d mdX6_headBehind [.ref a0, .int x1, .int x3] M (fun r1 M1 => Wp d mdX6_joinStates 112 [(0, .ref a0), (1, .int x1), (2, .int x2), (3, .int x3)] (r1.toList ++ [.ref (mR M a0 1), .ref (mR M a0 3), .int x3, .int x2, .ref (mR M a0 4)]) M1 Q)) : Wp d mdX6_joinStates 73 [(0, .ref a0), (1, .int x1), (2, .int x2), (3, .int x3)] [] M Q := by
  refine r_iload_n dX6_joinStates_73 rfl 3 rfl ?_
  refine r_aload_n dX6_joinStates_74 rfl 0 rfl ?_
  refine r_getR ck4 dX6_joinStates_75 flX6_69 rfl k0 ?_
  refine r_getR ck0 dX6_joinStates_78 flX6_115 rfl k1 ?_
  refine r_getI ck1 dX6_joinStates_81 flX6_119 rfl k2 ?_
  refine r_icmp_ge (tgt := 127) dX6_joinStates_84 (by decide) (fun c0 => ?_) (fun c0 => ?_)
  · skip
    refine r_iinc dX6_joinStates_127 1 rfl (v := x1 + (nI 1)) rfl (by decide) (ls' := [(1, .int (x1 + (nI 1))), (0, .ref a0), (2, .int x2), (3, .int x3)]) rfl ?_
    refine r_goto (tgt := 44) dX6_joinStates_130 (by decide) ?_
    refine r_sub [1, 0] (ls' := [(0, .ref a0), (1, .int (x1 + (nI 1)))]) rfl ?_
    exact (pw0 c0)
  · skip
    refine r_iload_n dX6_joinStates_87 rfl 2 rfl ?_
    refine r_iconst (v := (-1)) dX6_joinStates_88 rfl ?_
    refine r_icmp_eq (tgt := 127) dX6_joinStates_89 (by decide) (fun c1 => ?_) (fun c1 => ?_)
    · skip
      refine r_iinc dX6_joinStates_127 1 rfl (v := x1 + (nI 1)) rfl (by decide) (ls' := [(1, .int (x1 + (nI 1))), (0, .ref a0), (2, .int x2), (3, .int x3)]) rfl ?_
      refine r_goto (tgt := 44) dX6_joinStates_130 (by decide) ?_
      refine r_sub [1, 0] (ls' := [(0, .ref a0), (1, .int (x1 + (nI 1)))]) rfl ?_
      exact (pw1 c0 c1)
    · skip
      refine r_aload_n dX6_joinStates_92 rfl 0 rfl ?_
      refine r_getR ck4 dX6_joinStates_93 flX6_217 rfl k0 ?_
      refine r_iload_n dX6_joinStates_96 rfl 2 rfl ?_
      refine r_iload_n dX6_joinStates_97 rfl 3 rfl ?_
      refine r_aload_n dX6_joinStates_98 rfl 0 rfl ?_
      refine r_getR ck4 dX6_joinStates_99 flX6_211 rfl k0 ?_
      refine r_aload_n dX6_joinStates_102 rfl 0 rfl ?_
      refine r_getR ck4 dX6_joinStates_103 flX6_57 rfl k0 ?_
      refine r_aload_n dX6_joinStates_106 rfl 0 rfl ?_
      refine r_iload_n dX6_joinStates_107 rfl 1 rfl ?_
      refine r_iload_n dX6_joinStates_108 rfl 3 rfl ?_
      obtain ⟨e9, hlt, h9⟩ := (pf2 c0 c1)
      exact r_callV (As := [.int x1, .int x3]) (rest := [.ref (mR M a0 1), .ref (mR M a0 3), .int x3, .int x2, .ref (mR M a0 4)]) (ci := 4) moX6_headBehind dX6_joinStates_109 mlX6_205 imX6_headBehind seX6_headBehind k0 rfl hlt (Nat.le_of_ble_eq_true rfl) h9
theorem gX6_joinStates_112 {d : Nat} {Q : Option Value → Mem → Prop} {M : Mem} {a0 : Nat} {x1 : Int32} {x2 : Int32} {x3 : Int32} {sx0 : Int32} {sa1 : Nat} {sa2 : Nat} {sx3 : Int32} {sx4 : Int32} {sa5 : Nat} (k0 : mK M sa1 = 11) (pf0 : ClD d mdX9_get [.ref sa1, .int sx0] M (fun r1 M1 => Wp d mdX6_joinStates 115 [(0, .ref a0), (1, .int x1), (2, .int x2), (3, .int x3)] (r1.toList ++ [.ref sa2, .int sx3, .int sx4, .ref sa5]) M1 Q)) : Wp d mdX6_joinStates 112 [(0, .ref a0), (1, .int x1), (2, .int x2), (3, .int x3)] [.int sx0, .ref sa1, .ref sa2, .int sx3, .int sx4, .ref sa5] M Q := by
  obtain ⟨e9, hlt, h9⟩ := pf0
  exact r_callV (As := [.int sx0]) (rest := [.ref sa2, .int sx3, .int sx4, .ref sa5]) (ci := 7) moX9_get dX6_joinStates_112 mlX6_132 imX9_get seX9_get k0 rfl hlt (Nat.le_of_ble_eq_true rfl) h9
theorem gX6_joinStates_115 {d : Nat} {Q : Option Value → Mem → Prop} {M : Mem} {a0 : Nat} {x1 : Int32} {x2 : Int32} {x3 : Int32} {sw0 : Int64} {sa1 : Nat} {sx2 : Int32} {sx3 : Int32} {sa4 : Nat} (k0 : mK M sa1 = 11) (pf0 : ClD d mdX9_indexOf [.ref sa1, .long sw0] M (fun r1 M1 => Wp d mdX6_joinStates 118 [(0, .ref a0), (1, .int x1), (2, .int x2), (3, .int x3)] (r1.toList ++ [.int sx2, .int sx3, .ref sa4]) M1 Q)) : Wp d mdX6_joinStates 115 [(0, .ref a0), (1, .int x1), (2, .int x2), (3, .int x3)] [.long sw0, .ref sa1, .int sx2, .int sx3, .ref sa4] M Q := by
  obtain ⟨e9, hlt, h9⟩ := pf0
  exact r_callV (As := [.long sw0]) (rest := [.int sx2, .int sx3, .ref sa4]) (ci := 7) moX9_indexOf dX6_joinStates_115 mlX6_214 imX9_indexOf seX9_indexOf k0 rfl hlt (Nat.le_of_ble_eq_true rfl) h9
theorem gX6_joinStates_118 {d : Nat} {Q : Option Value → Mem → Prop} {M : Mem} {a0 : Nat} {x1 : Int32} {x2 : Int32} {x3 : Int32} {sx0 : Int32} {sx1 : Int32} {sx2 : Int32} {sa3 : Nat} (k0 : mK M sa3 = 5) (pf0 : ClD d mdX2_setNext [.ref sa3, .int sx2, .int sx1, .int sx0] M (fun r1 M1 => Wp d mdX6_joinStates 121 [(0, .ref a0), (1, .int x1), (2, .int x2), (3, .int x3)] (r1.toList ++ []) M1 Q)) : Wp d mdX6_joinStates 118 [(0, .ref a0), (1, .int x1), (2, .int x2), (3, .int x3)] [.int sx0, .int sx1, .int sx2, .ref sa3] M Q := by
  obtain ⟨e9, hlt, h9⟩ := pf0
  exact r_callV (As := [.int sx2, .int sx1, .int sx0]) (rest := []) (ci := 1) moX2_setNext dX6_joinStates_118 mlX6_220 imX2_setNext seX2_setNext k0 rfl hlt (Nat.le_of_ble_eq_true rfl) h9
theorem gX6_joinStates_121 {d : Nat} {Q : Option Value → Mem → Prop} {M : Mem} {a0 : Nat} {x1 : Int32} {x2 : Int32} {x3 : Int32}  (pw0 : Wp d mdX6_joinStates 73 [(0, .ref a0), (1, .int x1), (2, .int x2), (3, .int (x3 + (nI 1)))] [] M Q) : Wp d mdX6_joinStates 121 [(0, .ref a0), (1, .int x1), (2, .int x2), (3, .int x3)] [] M Q := by
  refine r_iinc dX6_joinStates_121 3 rfl (v := x3 + (nI 1)) rfl (by decide) (ls' := [(3, .int (x3 + (nI 1))), (0, .ref a0), (1, .int x1), (2, .int x2)]) rfl ?_
  refine r_goto (tgt := 73) dX6_joinStates_124 (by decide) ?_
  refine r_sub [1, 2, 3, 0] (ls' := [(0, .ref a0), (1, .int x1), (2, .int x2), (3, .int (x3 + (nI 1)))]) rfl ?_
  exact pw0
-- X7_init
theorem gX7_init_0 {d : Nat} {Q : Option Value → Mem → Prop} {M : Mem} {a0 : Nat} (hd1 : 1 ≤ d) (k0 : mK M a0 = 9) (pw0 : Wp d mdX7_init 9 [] [.ref (mC M + 2), .ref a0] (nwC M 1 64) Q) : Wp d mdX7_init 0 [(0, .ref a0)] [] M Q := by
  refine r_aload_n dX7_init_0 rfl 0 rfl ?_
  refine r_objI (ci := 5) dX7_init_1 mlX7_3 obI_i obI_c k0 hd1 (Nat.le_of_ble_eq_true rfl) ?_
  refine r_aload_n dX7_init_4 rfl 0 rfl ?_
  refine r_bipush (v := (nI 64)) dX7_init_5 rfl ?_
  refine r_newa dX7_init_7 (Or.inl rfl) ac_int (by decide) (N := 64) (by decide) (by decide) ?_
  refine r_sub [] (ls' := []) rfl ?_
  exact pw0
theorem gX7_init_9 {d : Nat} {Q : Option Value → Mem → Prop} {M : Mem} {sa0 : Nat} {sa1 : Nat} (k0 : mK M sa1 = 9) (pq0 : Q none (sR M sa1 1 sa0)) : Wp d mdX7_init 9 [] [.ref sa0, .ref sa1] M Q := by
  refine r_putR ck5 dX7_init_9 flX7_9 rfl rfl (Or.inr ⟨rfl, rfl, rfl⟩) k0 ?_
  exact r_ret none dX7_init_12 rfl pq0
-- X7_append
theorem gX7_append_0 {d : Nat} {Q : Option Value → Mem → Prop} {M : Mem} {a0 : Nat} {x1 : Int32} (k0 : mK M a0 = 9) (k1 : mK M (mR M a0 1) = 1) (pw0 : ((mI M a0 0) + (nI 4)) ≤ (nI (mN M (mR M a0 1))) → Wp d mdX7_append 19 [(0, .ref a0), (1, .int x1), (2, .int (nI 24))] [] M Q) (pq1 : ¬ ((mI M a0 0) + (nI 4)) ≤ (nI (mN M (mR M a0 1))) → Q (some (.int (-1 : Int32))) M) : Wp d mdX7_append 0 [(0, .ref a0), (1, .int x1)] [] M Q := by
  refine r_aload_n dX7_append_0 rfl 0 rfl ?_
  refine r_getI ck5 dX7_append_1 flX7_15 rfl k0 ?_
  refine r_iconst (v := (nI 4)) dX7_append_4 rfl ?_
  refine r_iadd dX7_append_5 ?_
  refine r_aload_n dX7_append_6 rfl 0 rfl ?_
  refine r_getR ck5 dX7_append_7 flX7_9 rfl k0 ?_
  refine r_alen dX7_append_10 (Or.inl k1) ?_
  refine r_icmp_le (tgt := 16) dX7_append_11 (by decide) (fun c0 => ?_) (fun c0 => ?_)
  · skip
    refine r_bipush (v := (nI 24)) dX7_append_16 rfl ?_
    refine r_istore_n dX7_append_18 rfl (by decide) (ls' := [(2, .int (nI 24)), (0, .ref a0), (1, .int x1)]) rfl ?_
    refine r_sub [1, 2, 0] (ls' := [(0, .ref a0), (1, .int x1), (2, .int (nI 24))]) rfl ?_
    exact (pw0 c0)
  · skip
    refine r_iconst (v := (-1)) dX7_append_14 rfl ?_
    exact r_ret (some (.int (-1 : Int32))) dX7_append_15 rfl (pq1 c0)
theorem gX7_append_19 {d : Nat} {Q : Option Value → Mem → Prop} {M : Mem} {a0 : Nat} {x1 : Int32} {x2 : Int32} (k0 : mK M a0 = 9) (k1 : mK M (mR M a0 1) = 1) (pq0 : x2 < 0 → Q (some (.int (mI M a0 0))) M) (pb1 : ¬ x2 < 0 → vp_in (mI M a0 0) (mN (sI M a0 0 ((mI M a0 0) + (nI 1))) (mR M a0 1))) (pw2 : ¬ x2 < 0 → Wp d mdX7_append 19 [(0, .ref a0), (1, .int x1), (2, .int (x2 + (-8 : Int32)))] [] (sI (sI M a0 0 ((mI M a0 0) + (nI 1))) (mR M a0 1) (mI M a0 0).toNatClampNeg (((x1.toUInt32 >>> (x2.toUInt32 &&& Int32.toUInt32 31)).toInt32) &&& (nI 255))) Q) : Wp d mdX7_append 19 [(0, .ref a0), (1, .int x1), (2, .int x2)] [] M Q := by
  refine r_iload_n dX7_append_19 rfl 2 rfl ?_
  refine r_if_lt (tgt := 52) dX7_append_20 (by decide) (fun c0 => ?_) (fun c0 => ?_)
  · skip
    refine r_aload_n dX7_append_52 rfl 0 rfl ?_
    refine r_getI ck5 dX7_append_53 flX7_15 rfl k0 ?_
    exact r_ret (some (.int (mI M a0 0))) dX7_append_56 rfl (pq0 c0)
  · skip
    refine r_aload_n dX7_append_23 rfl 0 rfl ?_
    refine r_getR ck5 dX7_append_24 flX7_9 rfl k0 ?_
    refine r_aload_n dX7_append_27 rfl 0 rfl ?_
    refine r_dup dX7_append_28 rfl ?_
    refine r_getI ck5 dX7_append_29 flX7_15 rfl k0 ?_
    refine r_dup_x1 dX7_append_32 rfl rfl ?_
    refine r_iconst (v := (nI 1)) dX7_append_33 rfl ?_
    refine r_iadd dX7_append_34 ?_
    refine r_putI ck5 dX7_append_35 flX7_15 rfl (Or.inl rfl) k0 ?_
    refine r_iload_n dX7_append_38 rfl 1 rfl ?_
    refine r_iload_n dX7_append_39 rfl 2 rfl ?_
    refine r_iushr dX7_append_40 ?_
    refine r_sipush (v := (nI 255)) dX7_append_41 rfl ?_
    refine r_iand dX7_append_44 ?_
    refine r_iast dX7_append_45 k1 (pb1 c0) ?_
    refine r_iinc dX7_append_46 2 rfl (v := x2 + (-8 : Int32)) rfl (by decide) (ls' := [(2, .int (x2 + (-8 : Int32))), (0, .ref a0), (1, .int x1)]) rfl ?_
    refine r_goto (tgt := 19) dX7_append_49 (by decide) ?_
    refine r_sub [1, 2, 0] (ls' := [(0, .ref a0), (1, .int x1), (2, .int (x2 + (-8 : Int32)))]) rfl ?_
    exact (pw2 c0)
-- X7_shorten
theorem gX7_shorten_0 {d : Nat} {Q : Option Value → Mem → Prop} {M : Mem} {a0 : Nat} {x1 : Int32} (k0 : mK M a0 = 9) (pq0 : x1 < 0 → Q (some (.int (nI 0))) M) (pq1 : ¬ x1 < 0 → x1 ≤ (mI M a0 0) → Q (some (.int (nI 1))) (sI M a0 0 x1)) (pq2 : ¬ x1 < 0 → ¬ x1 ≤ (mI M a0 0) → Q (some (.int (nI 0))) M) : Wp d mdX7_shorten 0 [(0, .ref a0), (1, .int x1)] [] M Q := by
  refine r_iload_n dX7_shorten_0 rfl 1 rfl ?_
  refine r_if_lt (tgt := 12) dX7_shorten_1 (by decide) (fun c0 => ?_) (fun c0 => ?_)
  · skip
    refine r_iconst (v := (nI 0)) dX7_shorten_12 rfl ?_
    exact r_ret (some (.int (nI 0))) dX7_shorten_13 rfl (pq0 c0)
  · skip
    refine r_iload_n dX7_shorten_4 rfl 1 rfl ?_
    refine r_aload_n dX7_shorten_5 rfl 0 rfl ?_
    refine r_getI ck5 dX7_shorten_6 flX7_15 rfl k0 ?_
    refine r_icmp_le (tgt := 14) dX7_shorten_9 (by decide) (fun c1 => ?_) (fun c1 => ?_)
    · skip
      refine r_aload_n dX7_shorten_14 rfl 0 rfl ?_
      refine r_iload_n dX7_shorten_15 rfl 1 rfl ?_
      refine r_putI ck5 dX7_shorten_16 flX7_15 rfl (Or.inl rfl) k0 ?_
      refine r_iconst (v := (nI 1)) dX7_shorten_19 rfl ?_
      exact r_ret (some (.int (nI 1))) dX7_shorten_20 rfl (pq1 c0 c1)
    · skip
      refine r_iconst (v := (nI 0)) dX7_shorten_12 rfl ?_
      exact r_ret (some (.int (nI 0))) dX7_shorten_13 rfl (pq2 c0 c1)
-- X7_read
theorem gX7_read_0 {d : Nat} {Q : Option Value → Mem → Prop} {M : Mem} {a0 : Nat} {a1 : Nat} (k0 : mK M a0 = 9) (pw0 : Wp d mdX7_read 7 [(0, .ref a0), (1, .ref a1), (2, .int (nI 0))] [] (sI M a0 2 (nI 0)) Q) : Wp d mdX7_read 0 [(0, .ref a0), (1, .ref a1)] [] M Q := by
  refine r_aload_n dX7_read_0 rfl 0 rfl ?_
  refine r_iconst (v := (nI 0)) dX7_read_1 rfl ?_
  refine r_putI ck5 dX7_read_2 flX7_19 rfl (Or.inl rfl) k0 ?_
  refine r_iconst (v := (nI 0)) dX7_read_5 rfl ?_
  refine r_istore_n dX7_read_6 rfl (by decide) (ls' := [(2, .int (nI 0)), (0, .ref a0), (1, .ref a1)]) rfl ?_
  refine r_sub [1, 2, 0] (ls' := [(0, .ref a0), (1, .ref a1), (2, .int (nI 0))]) rfl ?_
  exact pw0
theorem gX7_read_7 {d : Nat} {Q : Option Value → Mem → Prop} {M : Mem} {a0 : Nat} {a1 : Nat} {x2 : Int32} (k0 : mK M a0 = 9) (pq0 : (nI 8) ≤ x2 → Q (some (.int ((-21 : Int32) - (mI M a0 2)))) M) (pf1 : ¬ (nI 8) ≤ x2 → ClD d mdX7_readState [.ref a0, .ref a1, .int x2] M (fun r1 M1 => Wp d mdX7_read 19 [(0, .ref a0), (1, .ref a1), (2, .int x2)] (r1.toList ++ []) M1 Q)) : Wp d mdX7_read 7 [(0, .ref a0), (1, .ref a1), (2, .int x2)] [] M Q := by
  refine r_iload_n dX7_read_7 rfl 2 rfl ?_
  refine r_bipush (v := (nI 8)) dX7_read_8 rfl ?_
  refine r_icmp_ge (tgt := 88) dX7_read_10 (by decide) (fun c0 => ?_) (fun c0 => ?_)
  · skip
    refine r_bipush (v := (-21)) dX7_read_88 rfl ?_
    refine r_aload_n dX7_read_90 rfl 0 rfl ?_
    refine r_getI ck5 dX7_read_91 flX7_19 rfl k0 ?_
    refine r_isub dX7_read_94 ?_
    exact r_ret (some (.int ((-21 : Int32) - (mI M a0 2)))) dX7_read_95 rfl (pq0 c0)
  · skip
    refine r_aload_n dX7_read_13 rfl 0 rfl ?_
    refine r_aload_n dX7_read_14 rfl 1 rfl ?_
    refine r_iload_n dX7_read_15 rfl 2 rfl ?_
    obtain ⟨e9, hlt, h9⟩ := (pf1 c0)
    exact r_callV (As := [.ref a1, .int x2]) (rest := []) (ci := 5) moX7_readState dX7_read_16 mlX7_22 imX7_readState seX7_readState k0 rfl hlt (Nat.le_of_ble_eq_true rfl) h9
theorem gX7_read_19 {d : Nat} {Q : Option Value → Mem → Prop} {M : Mem} {a0 : Nat} {a1 : Nat} {x2 : Int32} {sx0 : Int32} (k0 : mK M a1 = 5) (k1 : mK M a0 = 9) (pf0 : ¬ sx0 = 0 → ClD d mdX2_shape [.ref a1, .int (x2 + (nI 1)), .int (mI M a1 1)] M (fun r1 M1 => Wp d mdX7_read 41 [(0, .ref a0), (1, .ref a1), (2, .int x2)] (r1.toList ++ []) M1 Q)) (pq1 : sx0 = 0 → Q (some (.int ((-21 : Int32) - (mI M a0 2)))) M) : Wp d mdX7_read 19 [(0, .ref a0), (1, .ref a1), (2, .int x2)] [.int sx0] M Q := by
  refine r_if_ne (tgt := 30) dX7_read_19 (by decide) (fun c0 => ?_) (fun c0 => ?_)
  · skip
    refine r_aload_n dX7_read_30 rfl 1 rfl ?_
    refine r_iload_n dX7_read_31 rfl 2 rfl ?_
    refine r_iconst (v := (nI 1)) dX7_read_32 rfl ?_
    refine r_iadd dX7_read_33 ?_
    refine r_aload_n dX7_read_34 rfl 1 rfl ?_
    refine r_getI ck1 dX7_read_35 flX7_26 rfl k0 ?_
    obtain ⟨e9, hlt, h9⟩ := (pf0 c0)
    exact r_callV (As := [.int (x2 + (nI 1)), .int (mI M a1 1)]) (rest := []) (ci := 1) moX2_shape dX7_read_38 mlX7_31 imX2_shape seX2_shape k0 rfl hlt (Nat.le_of_ble_eq_true rfl) h9
  · skip
    refine r_bipush (v := (-21)) dX7_read_22 rfl ?_
    refine r_aload_n dX7_read_24 rfl 0 rfl ?_
    refine r_getI ck5 dX7_read_25 flX7_19 rfl k1 ?_
    refine r_isub dX7_read_28 ?_
    exact r_ret (some (.int ((-21 : Int32) - (mI M a0 2)))) dX7_read_29 rfl (pq1 c0)
theorem gX7_read_41 {d : Nat} {Q : Option Value → Mem → Prop} {M : Mem} {a0 : Nat} {a1 : Nat} {x2 : Int32} (k0 : mK M a0 = 9) (k1 : mK M a1 = 5) (pq0 : ¬ (mI M a0 2) = (mI M a0 0) → (x2 + (nI 1)) = (nI 8) → Q (some (.int ((-21 : Int32) - (mI M a0 2)))) M) (pf1 : ¬ (mI M a0 2) = (mI M a0 0) → ¬ (x2 + (nI 1)) = (nI 8) → ClD d mdX7_takes [.ref a0, .int (nI 59)] M (fun r1 M1 => Wp d mdX7_read 71 [(0, .ref a0), (1, .ref a1), (2, .int x2)] (r1.toList ++ []) M1 Q)) (pq2 : (mI M a0 2) = (mI M a0 0) → Q (some (.int (mI M a1 0))) M) : Wp d mdX7_read 41 [(0, .ref a0), (1, .ref a1), (2, .int x2)] [] M Q := by
  refine r_aload_n dX7_read_41 rfl 0 rfl ?_
  refine r_getI ck5 dX7_read_42 flX7_19 rfl k0 ?_
  refine r_aload_n dX7_read_45 rfl 0 rfl ?_
  refine r_getI ck5 dX7_read_46 flX7_15 rfl k0 ?_
  refine r_icmp_ne (tgt := 57) dX7_read_49 (by decide) (fun c0 => ?_) (fun c0 => ?_)
  · skip
    refine r_iload_n dX7_read_57 rfl 2 rfl ?_
    refine r_iconst (v := (nI 1)) dX7_read_58 rfl ?_
    refine r_iadd dX7_read_59 ?_
    refine r_bipush (v := (nI 8)) dX7_read_60 rfl ?_
    refine r_icmp_eq (tgt := 74) dX7_read_62 (by decide) (fun c1 => ?_) (fun c1 => ?_)
    · skip
      refine r_bipush (v := (-21)) dX7_read_74 rfl ?_
      refine r_aload_n dX7_read_76 rfl 0 rfl ?_
      refine r_getI ck5 dX7_read_77 flX7_19 rfl k0 ?_
      refine r_isub dX7_read_80 ?_
      exact r_ret (some (.int ((-21 : Int32) - (mI M a0 2)))) dX7_read_81 rfl (pq0 c0 c1)
    · skip
      refine r_aload_n dX7_read_65 rfl 0 rfl ?_
      refine r_bipush (v := (nI 59)) dX7_read_66 rfl ?_
      obtain ⟨e9, hlt, h9⟩ := (pf1 c0 c1)
      exact r_callV (As := [.int (nI 59)]) (rest := []) (ci := 5) moX7_takes dX7_read_68 mlX7_38 imX7_takes seX7_takes k0 rfl hlt (Nat.le_of_ble_eq_true rfl) h9
  · skip
    refine r_aload_n dX7_read_52 rfl 1 rfl ?_
    refine r_getI ck1 dX7_read_53 flX7_35 rfl k1 ?_
    exact r_ret (some (.int (mI M a1 0))) dX7_read_56 rfl (pq2 c0)
theorem gX7_read_71 {d : Nat} {Q : Option Value → Mem → Prop} {M : Mem} {a0 : Nat} {a1 : Nat} {x2 : Int32} {sx0 : Int32} (k0 : mK M a0 = 9) (pw0 : ¬ sx0 = 0 → Wp d mdX7_read 7 [(0, .ref a0), (1, .ref a1), (2, .int (x2 + (nI 1)))] [] M Q) (pq1 : sx0 = 0 → Q (some (.int ((-21 : Int32) - (mI M a0 2)))) M) : Wp d mdX7_read 71 [(0, .ref a0), (1, .ref a1), (2, .int x2)] [.int sx0] M Q := by
  refine r_if_ne (tgt := 82) dX7_read_71 (by decide) (fun c0 => ?_) (fun c0 => ?_)
  · skip
    refine r_iinc dX7_read_82 2 rfl (v := x2 + (nI 1)) rfl (by decide) (ls' := [(2, .int (x2 + (nI 1))), (0, .ref a0), (1, .ref a1)]) rfl ?_
    refine r_goto (tgt := 7) dX7_read_85 (by decide) ?_
    refine r_sub [1, 2, 0] (ls' := [(0, .ref a0), (1, .ref a1), (2, .int (x2 + (nI 1)))]) rfl ?_
    exact (pw0 c0)
  · skip
    refine r_bipush (v := (-21)) dX7_read_74 rfl ?_
    refine r_aload_n dX7_read_76 rfl 0 rfl ?_
    refine r_getI ck5 dX7_read_77 flX7_19 rfl k0 ?_
    refine r_isub dX7_read_80 ?_
    exact r_ret (some (.int ((-21 : Int32) - (mI M a0 2)))) dX7_read_81 rfl (pq1 c0)
-- X7_readState
theorem gX7_readState_0 {d : Nat} {Q : Option Value → Mem → Prop} {M : Mem} {a0 : Nat} {a1 : Nat} {x2 : Int32} (k0 : mK M a0 = 9) (pf0 : ClD d mdX7_digitBelow [.ref a0, .int (nI 4)] M (fun r1 M1 => Wp d mdX7_readState 5 [(0, .ref a0), (1, .ref a1), (2, .int x2)] (r1.toList ++ []) M1 Q)) : Wp d mdX7_readState 0 [(0, .ref a0), (1, .ref a1), (2, .int x2)] [] M Q := by
  refine r_aload_n dX7_readState_0 rfl 0 rfl ?_
  refine r_iconst (v := (nI 4)) dX7_readState_1 rfl ?_
  obtain ⟨e9, hlt, h9⟩ := pf0
  exact r_callV (As := [.int (nI 4)]) (rest := []) (ci := 5) moX7_digitBelow dX7_readState_2 mlX7_42 imX7_digitBelow seX7_digitBelow k0 rfl hlt (Nat.le_of_ble_eq_true rfl) h9
theorem gX7_readState_5 {d : Nat} {Q : Option Value → Mem → Prop} {M : Mem} {a0 : Nat} {a1 : Nat} {x2 : Int32} {sx0 : Int32} (k0 : mK M a1 = 5) (pf0 : 0 ≤ sx0 → ClD d mdX2_setOutput [.ref a1, .int x2, .int sx0] M (fun r1 M1 => Wp d mdX7_readState 18 [(0, .ref a0), (1, .ref a1), (2, .int x2)] (r1.toList ++ []) M1 Q)) (pq1 : ¬ 0 ≤ sx0 → Q (some (.int (nI 0))) M) : Wp d mdX7_readState 5 [(0, .ref a0), (1, .ref a1), (2, .int x2)] [.int sx0] M Q := by
  refine r_istore_n dX7_readState_5 rfl (by decide) (ls' := [(3, .int sx0), (0, .ref a0), (1, .ref a1), (2, .int x2)]) rfl ?_
  refine r_iload_n dX7_readState_6 rfl 0 rfl ?_
  refine r_if_ge (tgt := 12) dX7_readState_7 (by decide) (fun c0 => ?_) (fun c0 => ?_)
  · skip
    refine r_aload_n dX7_readState_12 rfl 2 rfl ?_
    refine r_iload_n dX7_readState_13 rfl 3 rfl ?_
    refine r_iload_n dX7_readState_14 rfl 0 rfl ?_
    refine r_sub [1, 2, 3] (ls' := [(0, .ref a0), (1, .ref a1), (2, .int x2)]) rfl ?_
    obtain ⟨e9, hlt, h9⟩ := (pf0 c0)
    exact r_callV (As := [.int x2, .int sx0]) (rest := []) (ci := 1) moX2_setOutput dX7_readState_15 mlX7_46 imX2_setOutput seX2_setOutput k0 rfl hlt (Nat.le_of_ble_eq_true rfl) h9
  · skip
    refine r_iconst (v := (nI 0)) dX7_readState_10 rfl ?_
    exact r_ret (some (.int (nI 0))) dX7_readState_11 rfl (pq1 c0)
theorem gX7_readState_18 {d : Nat} {Q : Option Value → Mem → Prop} {M : Mem} {a0 : Nat} {a1 : Nat} {x2 : Int32} (k0 : mK M a0 = 9) (pf0 : ClD d mdX7_takes [.ref a0, .int (nI 58)] M (fun r1 M1 => Wp d mdX7_readState 24 [(0, .ref a0), (1, .ref a1), (2, .int x2)] (r1.toList ++ []) M1 Q)) : Wp d mdX7_readState 18 [(0, .ref a0), (1, .ref a1), (2, .int x2)] [] M Q := by
  refine r_aload_n dX7_readState_18 rfl 0 rfl ?_
  refine r_bipush (v := (nI 58)) dX7_readState_19 rfl ?_
  obtain ⟨e9, hlt, h9⟩ := pf0
  exact r_callV (As := [.int (nI 58)]) (rest := []) (ci := 5) moX7_takes dX7_readState_21 mlX7_38 imX7_takes seX7_takes k0 rfl hlt (Nat.le_of_ble_eq_true rfl) h9
theorem gX7_readState_24 {d : Nat} {Q : Option Value → Mem → Prop} {M : Mem} {a0 : Nat} {a1 : Nat} {x2 : Int32} {sx0 : Int32}  (pw0 : ¬ sx0 = 0 → Wp d mdX7_readState 32 [(0, .ref a0), (1, .ref a1), (2, .int x2), (4, .int (nI 0))] [] M Q) (pq1 : sx0 = 0 → Q (some (.int (nI 0))) M) : Wp d mdX7_readState 24 [(0, .ref a0), (1, .ref a1), (2, .int x2)] [.int sx0] M Q := by
  refine r_if_ne (tgt := 29) dX7_readState_24 (by decide) (fun c0 => ?_) (fun c0 => ?_)
  · skip
    refine r_iconst (v := (nI 0)) dX7_readState_29 rfl ?_
    refine r_istore dX7_readState_30 (by decide) (ls' := [(4, .int (nI 0)), (0, .ref a0), (1, .ref a1), (2, .int x2)]) rfl ?_
    refine r_sub [1, 2, 3, 0] (ls' := [(0, .ref a0), (1, .ref a1), (2, .int x2), (4, .int (nI 0))]) rfl ?_
    exact (pw0 c0)
  · skip
    refine r_iconst (v := (nI 0)) dX7_readState_27 rfl ?_
    exact r_ret (some (.int (nI 0))) dX7_readState_28 rfl (pq1 c0)
theorem gX7_readState_32 {d : Nat} {Q : Option Value → Mem → Prop} {M : Mem} {a0 : Nat} {a1 : Nat} {x2 : Int32} {x4 : Int32} (k0 : mK M a0 = 9) (pq0 : (nI 3) ≤ x4 → Q (some (.int (nI 0))) M) (pf1 : ¬ (nI 3) ≤ x4 → ClD d mdX7_digitBelow [.ref a0, .int (nI 8)] M (fun r1 M1 => Wp d mdX7_readState 44 [(0, .ref a0), (1, .ref a1), (2, .int x2), (4, .int x4)] (r1.toList ++ []) M1 Q)) : Wp d mdX7_readState 32 [(0, .ref a0), (1, .ref a1), (2, .int x2), (4, .int x4)] [] M Q := by
  refine r_iload dX7_readState_32 3 rfl ?_
  refine r_iconst (v := (nI 3)) dX7_readState_34 rfl ?_
  refine r_icmp_ge (tgt := 146) dX7_readState_35 (by decide) (fun c0 => ?_) (fun c0 => ?_)
  · skip
    refine r_iconst (v := (nI 0)) dX7_readState_146 rfl ?_
    exact r_ret (some (.int (nI 0))) dX7_readState_147 rfl (pq0 c0)
  · skip
    refine r_aload_n dX7_readState_38 rfl 0 rfl ?_
    refine r_bipush (v := (nI 8)) dX7_readState_39 rfl ?_
    obtain ⟨e9, hlt, h9⟩ := (pf1 c0)
    exact r_callV (As := [.int (nI 8)]) (rest := []) (ci := 5) moX7_digitBelow dX7_readState_41 mlX7_42 imX7_digitBelow seX7_digitBelow k0 rfl hlt (Nat.le_of_ble_eq_true rfl) h9
theorem gX7_readState_44 {d : Nat} {Q : Option Value → Mem → Prop} {M : Mem} {a0 : Nat} {a1 : Nat} {x2 : Int32} {x4 : Int32} {sx0 : Int32} (k0 : mK M a1 = 5) (pf0 : 0 ≤ sx0 → ClD d mdX2_setNext [.ref a1, .int x2, .int x4, .int sx0] M (fun r1 M1 => Wp d mdX7_readState 62 [(0, .ref a0), (1, .ref a1), (2, .int x2), (4, .int x4)] (r1.toList ++ []) M1 Q)) (pq1 : ¬ 0 ≤ sx0 → Q (some (.int (nI 0))) M) : Wp d mdX7_readState 44 [(0, .ref a0), (1, .ref a1), (2, .int x2), (4, .int x4)] [.int sx0] M Q := by
  refine r_istore dX7_readState_44 (by decide) (ls' := [(5, .int sx0), (0, .ref a0), (1, .ref a1), (2, .int x2), (4, .int x4)]) rfl ?_
  refine r_iload dX7_readState_46 0 rfl ?_
  refine r_if_ge (tgt := 53) dX7_readState_48 (by decide) (fun c0 => ?_) (fun c0 => ?_)
  · skip
    refine r_aload_n dX7_readState_53 rfl 2 rfl ?_
    refine r_iload_n dX7_readState_54 rfl 3 rfl ?_
    refine r_iload dX7_readState_55 4 rfl ?_
    refine r_iload dX7_readState_57 0 rfl ?_
    refine r_sub [1, 2, 3, 4] (ls' := [(0, .ref a0), (1, .ref a1), (2, .int x2), (4, .int x4)]) rfl ?_
    obtain ⟨e9, hlt, h9⟩ := (pf0 c0)
    exact r_callV (As := [.int x2, .int x4, .int sx0]) (rest := []) (ci := 1) moX2_setNext dX7_readState_59 mlX7_49 imX2_setNext seX2_setNext k0 rfl hlt (Nat.le_of_ble_eq_true rfl) h9
  · skip
    refine r_iconst (v := (nI 0)) dX7_readState_51 rfl ?_
    exact r_ret (some (.int (nI 0))) dX7_readState_52 rfl (pq1 c0)
theorem gX7_readState_62 {d : Nat} {Q : Option Value → Mem → Prop} {M : Mem} {a0 : Nat} {a1 : Nat} {x2 : Int32} {x4 : Int32} (k0 : mK M a1 = 5) (pw0 : ¬ x2 = 0 → Wp d mdX7_readState 75 [(0, .ref a0), (1, .ref a1), (2, .int x2), (4, .int x4)] [] M Q) (pf1 : x2 = 0 → ClD d mdX2_shape [.ref a1, .int (nI 0), .int (x4 + (nI 1))] M (fun r1 M1 => Wp d mdX7_readState 75 [(0, .ref a0), (1, .ref a1), (2, .int x2), (4, .int x4)] (r1.toList ++ []) M1 Q)) : Wp d mdX7_readState 62 [(0, .ref a0), (1, .ref a1), (2, .int x2), (4, .int x4)] [] M Q := by
  refine r_iload_n dX7_readState_62 rfl 2 rfl ?_
  refine r_if_ne (tgt := 75) dX7_readState_63 (by decide) (fun c0 => ?_) (fun c0 => ?_)
  · skip
    exact (pw0 c0)
  · skip
    refine r_aload_n dX7_readState_66 rfl 1 rfl ?_
    refine r_iconst (v := (nI 0)) dX7_readState_67 rfl ?_
    refine r_iload dX7_readState_68 3 rfl ?_
    refine r_iconst (v := (nI 1)) dX7_readState_70 rfl ?_
    refine r_iadd dX7_readState_71 ?_
    obtain ⟨e9, hlt, h9⟩ := (pf1 c0)
    exact r_callV (As := [.int (nI 0), .int (x4 + (nI 1))]) (rest := []) (ci := 1) moX2_shape dX7_readState_72 mlX7_31 imX2_shape seX2_shape k0 rfl hlt (Nat.le_of_ble_eq_true rfl) h9
theorem gX7_readState_75 {d : Nat} {Q : Option Value → Mem → Prop} {M : Mem} {a0 : Nat} {a1 : Nat} {x2 : Int32} {x4 : Int32} (k0 : mK M a1 = 5) (k1 : mK M a0 = 9) (pw0 : ¬ x2 = 0 → ¬ (x4 + (nI 1)) = (mI M a1 1) → Wp d mdX7_readState 120 [(0, .ref a0), (1, .ref a1), (2, .int x2), (4, .int x4)] [.int (nI 0)] M Q) (pw1 : ¬ x2 = 0 → (x4 + (nI 1)) = (mI M a1 1) → Wp d mdX7_readState 120 [(0, .ref a0), (1, .ref a1), (2, .int x2), (4, .int x4)] [.int (nI 1)] M Q) (pw2 : x2 = 0 → (x4 + (nI 1)) = (nI 3) → Wp d mdX7_readState 120 [(0, .ref a0), (1, .ref a1), (2, .int x2), (4, .int x4)] [.int (nI 1)] M Q) (pf3 : x2 = 0 → ¬ (x4 + (nI 1)) = (nI 3) → ClD d mdX7_signHere [.ref a0] M (fun r1 M1 => Wp d mdX7_readState 91 [(0, .ref a0), (1, .ref a1), (2, .int x2), (4, .int x4)] (r1.toList ++ []) M1 Q)) : Wp d mdX7_readState 75 [(0, .ref a0), (1, .ref a1), (2, .int x2), (4, .int x4)] [] M Q := by
  refine r_iload_n dX7_readState_75 rfl 2 rfl ?_
  refine r_if_ne (tgt := 104) dX7_readState_76 (by decide) (fun c0 => ?_) (fun c0 => ?_)
  · skip
    refine r_iload dX7_readState_104 3 rfl ?_
    refine r_iconst (v := (nI 1)) dX7_readState_106 rfl ?_
    refine r_iadd dX7_readState_107 ?_
    refine r_aload_n dX7_readState_108 rfl 1 rfl ?_
    refine r_getI ck1 dX7_readState_109 flX7_26 rfl k0 ?_
    refine r_icmp_ne (tgt := 119) dX7_readState_112 (by decide) (fun c1 => ?_) (fun c1 => ?_)
    · skip
      refine r_iconst (v := (nI 0)) dX7_readState_119 rfl ?_
      exact (pw0 c0 c1)
    · skip
      refine r_iconst (v := (nI 1)) dX7_readState_115 rfl ?_
      refine r_goto (tgt := 120) dX7_readState_116 (by decide) ?_
      exact (pw1 c0 c1)
  · skip
    refine r_iload dX7_readState_79 3 rfl ?_
    refine r_iconst (v := (nI 1)) dX7_readState_81 rfl ?_
    refine r_iadd dX7_readState_82 ?_
    refine r_iconst (v := (nI 3)) dX7_readState_83 rfl ?_
    refine r_icmp_eq (tgt := 96) dX7_readState_84 (by decide) (fun c1 => ?_) (fun c1 => ?_)
    · skip
      refine r_iconst (v := (nI 1)) dX7_readState_96 rfl ?_
      refine r_goto (tgt := 120) dX7_readState_97 (by decide) ?_
      exact (pw2 c0 c1)
    · skip
      refine r_aload_n dX7_readState_87 rfl 0 rfl ?_
      obtain ⟨e9, hlt, h9⟩ := (pf3 c0 c1)
      exact r_callV (As := []) (rest := []) (ci := 5) moX7_signHere dX7_readState_88 mlX7_53 imX7_signHere seX7_signHere k1 rfl hlt (Nat.le_of_ble_eq_true rfl) h9
theorem gX7_readState_91 {d : Nat} {Q : Option Value → Mem → Prop} {M : Mem} {a0 : Nat} {a1 : Nat} {x2 : Int32} {x4 : Int32} {sx0 : Int32}  (pw0 : sx0 = (nI 44) → Wp d mdX7_readState 120 [(0, .ref a0), (1, .ref a1), (2, .int x2), (4, .int x4)] [.int (nI 0)] M Q) (pw1 : ¬ sx0 = (nI 44) → Wp d mdX7_readState 120 [(0, .ref a0), (1, .ref a1), (2, .int x2), (4, .int x4)] [.int (nI 1)] M Q) : Wp d mdX7_readState 91 [(0, .ref a0), (1, .ref a1), (2, .int x2), (4, .int x4)] [.int sx0] M Q := by
  refine r_bipush (v := (nI 44)) dX7_readState_91 rfl ?_
  refine r_icmp_eq (tgt := 100) dX7_readState_93 (by decide) (fun c0 => ?_) (fun c0 => ?_)
  · skip
    refine r_iconst (v := (nI 0)) dX7_readState_100 rfl ?_
    refine r_goto (tgt := 120) dX7_readState_101 (by decide) ?_
    exact (pw0 c0)
  · skip
    refine r_iconst (v := (nI 1)) dX7_readState_96 rfl ?_
    refine r_goto (tgt := 120) dX7_readState_97 (by decide) ?_
    exact (pw1 c0)
theorem gX7_readState_120 {d : Nat} {Q : Option Value → Mem → Prop} {M : Mem} {a0 : Nat} {a1 : Nat} {x2 : Int32} {x4 : Int32} {sx0 : Int32} (k0 : mK M a0 = 9) (pf0 : sx0 = 0 → ClD d mdX7_takes [.ref a0, .int (nI 44)] M (fun r1 M1 => Wp d mdX7_readState 135 [(0, .ref a0), (1, .ref a1), (2, .int x2), (4, .int x4)] (r1.toList ++ []) M1 Q)) (pq1 : ¬ sx0 = 0 → Q (some (.int (nI 1))) M) : Wp d mdX7_readState 120 [(0, .ref a0), (1, .ref a1), (2, .int x2), (4, .int x4)] [.int sx0] M Q := by
  refine r_istore dX7_readState_120 (by decide) (ls' := [(6, .int sx0), (0, .ref a0), (1, .ref a1), (2, .int x2), (4, .int x4)]) rfl ?_
  refine r_iload dX7_readState_122 0 rfl ?_
  refine r_if_eq (tgt := 129) dX7_readState_124 (by decide) (fun c0 => ?_) (fun c0 => ?_)
  · skip
    refine r_aload_n dX7_readState_129 rfl 1 rfl ?_
    refine r_bipush (v := (nI 44)) dX7_readState_130 rfl ?_
    refine r_sub [1, 2, 3, 4] (ls' := [(0, .ref a0), (1, .ref a1), (2, .int x2), (4, .int x4)]) rfl ?_
    obtain ⟨e9, hlt, h9⟩ := (pf0 c0)
    exact r_callV (As := [.int (nI 44)]) (rest := []) (ci := 5) moX7_takes dX7_readState_132 mlX7_38 imX7_takes seX7_takes k0 rfl hlt (Nat.le_of_ble_eq_true rfl) h9
  · skip
    refine r_iconst (v := (nI 1)) dX7_readState_127 rfl ?_
    exact r_ret (some (.int (nI 1))) dX7_readState_128 rfl (pq1 c0)
theorem gX7_readState_135 {d : Nat} {Q : Option Value → Mem → Prop} {M : Mem} {a0 : Nat} {a1 : Nat} {x2 : Int32} {x4 : Int32} {sx0 : Int32}  (pw0 : ¬ sx0 = 0 → Wp d mdX7_readState 32 [(0, .ref a0), (1, .ref a1), (2, .int x2), (4, .int (x4 + (nI 1)))] [] M Q) (pq1 : sx0 = 0 → Q (some (.int (nI 0))) M) : Wp d mdX7_readState 135 [(0, .ref a0), (1, .ref a1), (2, .int x2), (4, .int x4)] [.int sx0] M Q := by
  refine r_if_ne (tgt := 140) dX7_readState_135 (by decide) (fun c0 => ?_) (fun c0 => ?_)
  · skip
    refine r_iinc dX7_readState_140 3 rfl (v := x4 + (nI 1)) rfl (by decide) (ls' := [(4, .int (x4 + (nI 1))), (0, .ref a0), (1, .ref a1), (2, .int x2)]) rfl ?_
    refine r_goto (tgt := 32) dX7_readState_143 (by decide) ?_
    refine r_sub [1, 2, 3, 0] (ls' := [(0, .ref a0), (1, .ref a1), (2, .int x2), (4, .int (x4 + (nI 1)))]) rfl ?_
    exact (pw0 c0)
  · skip
    refine r_iconst (v := (nI 0)) dX7_readState_138 rfl ?_
    exact r_ret (some (.int (nI 0))) dX7_readState_139 rfl (pq1 c0)
-- X7_signHere
theorem gX7_signHere_0 {d : Nat} {Q : Option Value → Mem → Prop} {M : Mem} {a0 : Nat} (k0 : mK M a0 = 9) (k1 : mK M (mR M a0 1) = 1) (pq0 : (mI M a0 0) ≤ (mI M a0 2) → Q (some (.int (-1 : Int32))) M) (pq1 : ¬ (mI M a0 0) ≤ (mI M a0 2) → (nI (mN M (mR M a0 1))) ≤ (mI M a0 2) → Q (some (.int (-1 : Int32))) M) (pb2 : ¬ (mI M a0 0) ≤ (mI M a0 2) → ¬ (nI (mN M (mR M a0 1))) ≤ (mI M a0 2) → vp_in (mI M a0 2) (mN M (mR M a0 1))) (pq3 : ¬ (mI M a0 0) ≤ (mI M a0 2) → ¬ (nI (mN M (mR M a0 1))) ≤ (mI M a0 2) → Q (some (.int (mI M (mR M a0 1) (mI M a0 2).toNatClampNeg))) M) : Wp d mdX7_signHere 0 [(0, .ref a0)] [] M Q := by
  refine r_aload_n dX7_signHere_0 rfl 0 rfl ?_
  refine r_getI ck5 dX7_signHere_1 flX7_19 rfl k0 ?_
  refine r_aload_n dX7_signHere_4 rfl 0 rfl ?_
  refine r_getI ck5 dX7_signHere_5 flX7_15 rfl k0 ?_
  refine r_icmp_ge (tgt := 35) dX7_signHere_8 (by decide) (fun c0 => ?_) (fun c0 => ?_)
  · skip
    refine r_iconst (v := (-1)) dX7_signHere_35 rfl ?_
    exact r_ret (some (.int (-1 : Int32))) dX7_signHere_36 rfl (pq0 c0)
  · skip
    refine r_aload_n dX7_signHere_11 rfl 0 rfl ?_
    refine r_getI ck5 dX7_signHere_12 flX7_19 rfl k0 ?_
    refine r_aload_n dX7_signHere_15 rfl 0 rfl ?_
    refine r_getR ck5 dX7_signHere_16 flX7_9 rfl k0 ?_
    refine r_alen dX7_signHere_19 (Or.inl k1) ?_
    refine r_icmp_ge (tgt := 35) dX7_signHere_20 (by decide) (fun c1 => ?_) (fun c1 => ?_)
    · skip
      refine r_iconst (v := (-1)) dX7_signHere_35 rfl ?_
      exact r_ret (some (.int (-1 : Int32))) dX7_signHere_36 rfl (pq1 c0 c1)
    · skip
      refine r_aload_n dX7_signHere_23 rfl 0 rfl ?_
      refine r_getR ck5 dX7_signHere_24 flX7_9 rfl k0 ?_
      refine r_aload_n dX7_signHere_27 rfl 0 rfl ?_
      refine r_getI ck5 dX7_signHere_28 flX7_19 rfl k0 ?_
      refine r_iald dX7_signHere_31 k1 (pb2 c0 c1) ?_
      refine r_goto (tgt := 36) dX7_signHere_32 (by decide) ?_
      exact r_ret (some (.int (mI M (mR M a0 1) (mI M a0 2).toNatClampNeg))) dX7_signHere_36 rfl (pq3 c0 c1)
-- X7_takes
theorem gX7_takes_0 {d : Nat} {Q : Option Value → Mem → Prop} {M : Mem} {a0 : Nat} {x1 : Int32} (k0 : mK M a0 = 9) (pf0 : ClD d mdX7_signHere [.ref a0] M (fun r1 M1 => Wp d mdX7_takes 4 [(0, .ref a0), (1, .int x1)] (r1.toList ++ []) M1 Q)) : Wp d mdX7_takes 0 [(0, .ref a0), (1, .int x1)] [] M Q := by
  refine r_aload_n dX7_takes_0 rfl 0 rfl ?_
  obtain ⟨e9, hlt, h9⟩ := pf0
  exact r_callV (As := []) (rest := []) (ci := 5) moX7_signHere dX7_takes_1 mlX7_53 imX7_signHere seX7_signHere k0 rfl hlt (Nat.le_of_ble_eq_true rfl) h9
theorem gX7_takes_4 {d : Nat} {Q : Option Value → Mem → Prop} {M : Mem} {a0 : Nat} {x1 : Int32} {sx0 : Int32} (k0 : mK M a0 = 9) (pq0 : sx0 = x1 → Q (some (.int (nI 1))) (sI M a0 2 ((mI M a0 2) + (nI 1)))) (pq1 : ¬ sx0 = x1 → Q (some (.int (nI 0))) M) : Wp d mdX7_takes 4 [(0, .ref a0), (1, .int x1)] [.int sx0] M Q := by
  refine r_iload_n dX7_takes_4 rfl 1 rfl ?_
  refine r_icmp_eq (tgt := 10) dX7_takes_5 (by decide) (fun c0 => ?_) (fun c0 => ?_)
  · skip
    refine r_aload_n dX7_takes_10 rfl 0 rfl ?_
    refine r_dup dX7_takes_11 rfl ?_
    refine r_getI ck5 dX7_takes_12 flX7_19 rfl k0 ?_
    refine r_iconst (v := (nI 1)) dX7_takes_15 rfl ?_
    refine r_iadd dX7_takes_16 ?_
    refine r_putI ck5 dX7_takes_17 flX7_19 rfl (Or.inl rfl) k0 ?_
    refine r_iconst (v := (nI 1)) dX7_takes_20 rfl ?_
    exact r_ret (some (.int (nI 1))) dX7_takes_21 rfl (pq0 c0)
  · skip
    refine r_iconst (v := (nI 0)) dX7_takes_8 rfl ?_
    exact r_ret (some (.int (nI 0))) dX7_takes_9 rfl (pq1 c0)
-- X7_digitBelow
theorem gX7_digitBelow_0 {d : Nat} {Q : Option Value → Mem → Prop} {M : Mem} {a0 : Nat} {x1 : Int32} (k0 : mK M a0 = 9) (pf0 : ClD d mdX7_signHere [.ref a0] M (fun r1 M1 => Wp d mdX7_digitBelow 4 [(0, .ref a0), (1, .int x1)] (r1.toList ++ []) M1 Q)) : Wp d mdX7_digitBelow 0 [(0, .ref a0), (1, .int x1)] [] M Q := by
  refine r_aload_n dX7_digitBelow_0 rfl 0 rfl ?_
  obtain ⟨e9, hlt, h9⟩ := pf0
  exact r_callV (As := []) (rest := []) (ci := 5) moX7_signHere dX7_digitBelow_1 mlX7_53 imX7_signHere seX7_signHere k0 rfl hlt (Nat.le_of_ble_eq_true rfl) h9
theorem gX7_digitBelow_4 {d : Nat} {Q : Option Value → Mem → Prop} {M : Mem} {a0 : Nat} {x1 : Int32} {sx0 : Int32} (k0 : mK M a0 = 9) (pq0 : (sx0 - (nI 48)) < 0 → Q (some (.int (-1 : Int32))) M) (pq1 : ¬ (sx0 - (nI 48)) < 0 → (sx0 - (nI 48)) < x1 → Q (some (.int (sx0 - (nI 48)))) (sI M a0 2 ((mI M a0 2) + (nI 1)))) (pq2 : ¬ (sx0 - (nI 48)) < 0 → ¬ (sx0 - (nI 48)) < x1 → Q (some (.int (-1 : Int32))) M) : Wp d mdX7_digitBelow 4 [(0, .ref a0), (1, .int x1)] [.int sx0] M Q := by
  refine r_bipush (v := (nI 48)) dX7_digitBelow_4 rfl ?_
  refine r_isub dX7_digitBelow_6 ?_
  refine r_istore_n dX7_digitBelow_7 rfl (by decide) (ls' := [(2, .int (sx0 - (nI 48))), (0, .ref a0), (1, .int x1)]) rfl ?_
  refine r_iload_n dX7_digitBelow_8 rfl 0 rfl ?_
  refine r_if_lt (tgt := 17) dX7_digitBelow_9 (by decide) (fun c0 => ?_) (fun c0 => ?_)
  · skip
    refine r_iconst (v := (-1)) dX7_digitBelow_17 rfl ?_
    exact r_ret (some (.int (-1 : Int32))) dX7_digitBelow_18 rfl (pq0 c0)
  · skip
    refine r_iload_n dX7_digitBelow_12 rfl 0 rfl ?_
    refine r_iload_n dX7_digitBelow_13 rfl 2 rfl ?_
    refine r_icmp_lt (tgt := 19) dX7_digitBelow_14 (by decide) (fun c1 => ?_) (fun c1 => ?_)
    · skip
      refine r_aload_n dX7_digitBelow_19 rfl 1 rfl ?_
      refine r_dup dX7_digitBelow_20 rfl ?_
      refine r_getI ck5 dX7_digitBelow_21 flX7_19 rfl k0 ?_
      refine r_iconst (v := (nI 1)) dX7_digitBelow_24 rfl ?_
      refine r_iadd dX7_digitBelow_25 ?_
      refine r_putI ck5 dX7_digitBelow_26 flX7_19 rfl (Or.inl rfl) k0 ?_
      refine r_iload_n dX7_digitBelow_29 rfl 0 rfl ?_
      exact r_ret (some (.int (sx0 - (nI 48)))) dX7_digitBelow_30 rfl (pq1 c0 c1)
    · skip
      refine r_iconst (v := (-1)) dX7_digitBelow_17 rfl ?_
      exact r_ret (some (.int (-1 : Int32))) dX7_digitBelow_18 rfl (pq2 c0 c1)
-- X8_init
theorem gX8_init_0 {d : Nat} {Q : Option Value → Mem → Prop} {M : Mem} {a0 : Nat} {a1 : Nat} (k0 : mK M a0 = 10) (pf0 : ClD d mdX3_init [.ref a0, .ref a1] M (fun r1 M1 => Wp d mdX8_init 5 [(0, .ref a0)] (r1.toList ++ []) M1 Q)) : Wp d mdX8_init 0 [(0, .ref a0), (1, .ref a1)] [] M Q := by
  refine r_aload_n dX8_init_0 rfl 0 rfl ?_
  refine r_aload_n dX8_init_1 rfl 1 rfl ?_
  refine r_sub [0] (ls' := [(0, .ref a0)]) rfl ?_
  obtain ⟨e9, hlt, h9⟩ := pf0
  exact r_callI (As := [.ref a1]) (rest := []) (ci := 6) moX3_init rfl rfl dX8_init_2 mlX8_3 imX3_init k0 rfl hlt (Nat.le_of_ble_eq_true rfl) h9
theorem gX8_init_5 {d : Nat} {Q : Option Value → Mem → Prop} {M : Mem} {a0 : Nat}  (pw0 : Wp d mdX8_init 10 [] [.ref (mC M + 2), .ref a0] (nwC M 1 32) Q) : Wp d mdX8_init 5 [(0, .ref a0)] [] M Q := by
  refine r_aload_n dX8_init_5 rfl 0 rfl ?_
  refine r_bipush (v := (nI 32)) dX8_init_6 rfl ?_
  refine r_newa dX8_init_8 (Or.inl rfl) ac_int (by decide) (N := 32) (by decide) (by decide) ?_
  refine r_sub [] (ls' := []) rfl ?_
  exact pw0
theorem gX8_init_10 {d : Nat} {Q : Option Value → Mem → Prop} {M : Mem} {sa0 : Nat} {sa1 : Nat} (k0 : mK M sa1 = 10) (pq0 : Q none (sR M sa1 8 sa0)) : Wp d mdX8_init 10 [] [.ref sa0, .ref sa1] M Q := by
  refine r_putR ck6 dX8_init_10 flX8_9 rfl rfl (Or.inr ⟨rfl, rfl, rfl⟩) k0 ?_
  exact r_ret none dX8_init_13 rfl pq0
-- X8_begin
theorem gX8_begin_0 {d : Nat} {Q : Option Value → Mem → Prop} {M : Mem} {a0 : Nat} (k0 : mK M a0 = 10) (pf0 : ClD d mdJ7_fill_53178 [.ref (mR M a0 8), .int (-1 : Int32)] M (fun r1 M1 => Wp d mdX8_begin 8 [(0, .ref a0)] (r1.toList ++ []) M1 Q)) : Wp d mdX8_begin 0 [(0, .ref a0)] [] M Q := by
  refine r_aload_n dX8_begin_0 rfl 0 rfl ?_
  refine r_getR ck6 dX8_begin_1 flX8_9 rfl k0 ?_
  refine r_iconst (v := (-1)) dX8_begin_4 rfl ?_
  obtain ⟨e9, hlt, h9⟩ := pf0
  exact r_callS (As := [.ref (mR M a0 8), .int (-1 : Int32)]) (rest := []) moJ7_fill_53178 dX8_begin_5 mlX8_15 saJ7_fill_53178 rfl hlt (Nat.le_of_ble_eq_true rfl) h9
theorem gX8_begin_8 {d : Nat} {Q : Option Value → Mem → Prop} {M : Mem} {a0 : Nat} (k0 : mK M a0 = 10) (k1 : mK M (mR M a0 0) = 4) (pf0 : ClD d mdX0_ask [.ref (mR M a0 0), .long (lN 1)] M (fun r1 M1 => Wp d mdX8_begin 17 [] (r1.toList ++ [.ref a0]) M1 Q)) : Wp d mdX8_begin 8 [(0, .ref a0)] [] M Q := by
  refine r_aload_n dX8_begin_8 rfl 0 rfl ?_
  refine r_aload_n dX8_begin_9 rfl 0 rfl ?_
  refine r_getR ck6 dX8_begin_10 flX8_21 rfl k0 ?_
  refine r_lconst (v := (lN 1)) dX8_begin_13 rfl ?_
  refine r_sub [] (ls' := []) rfl ?_
  obtain ⟨e9, hlt, h9⟩ := pf0
  exact r_callV (As := [.long (lN 1)]) (rest := [.ref a0]) (ci := 0) moX0_ask dX8_begin_14 mlX8_25 imX0_ask seX0_ask k1 rfl hlt (Nat.le_of_ble_eq_true rfl) h9
theorem gX8_begin_17 {d : Nat} {Q : Option Value → Mem → Prop} {M : Mem} {sx0 : Int32} {sa1 : Nat} (k0 : mK M sa1 = 10) (pf0 : ClD d mdX8_link [.ref sa1, .int sx0, .int (nI 0)] M (fun r1 M1 => Wp d mdX8_begin 21 [] (r1.toList ++ []) M1 Q)) : Wp d mdX8_begin 17 [] [.int sx0, .ref sa1] M Q := by
  refine r_iconst (v := (nI 0)) dX8_begin_17 rfl ?_
  obtain ⟨e9, hlt, h9⟩ := pf0
  exact r_callV (As := [.int sx0, .int (nI 0)]) (rest := []) (ci := 6) moX8_link dX8_begin_18 mlX8_31 imX8_link seX8_link k0 rfl hlt (Nat.le_of_ble_eq_true rfl) h9
theorem gX8_begin_21 {d : Nat} {Q : Option Value → Mem → Prop} {M : Mem}  (pq0 : Q none M) : Wp d mdX8_begin 21 [] [] M Q := by
  exact r_ret none dX8_begin_21 rfl pq0
-- X8_advance
theorem gX8_advance_0 {d : Nat} {Q : Option Value → Mem → Prop} {M : Mem} {a0 : Nat} (k0 : mK M a0 = 10) (k1 : mK M (mR M a0 1) = 11) (pw0 : Wp d mdX8_advance 10 [(0, .ref a0), (1, .int (mI M (mR M a0 1) 0)), (2, .int (nI 0))] [] M Q) : Wp d mdX8_advance 0 [(0, .ref a0)] [] M Q := by
  refine r_aload_n dX8_advance_0 rfl 0 rfl ?_
  refine r_getR ck6 dX8_advance_1 flX8_35 rfl k0 ?_
  refine r_getI ck7 dX8_advance_4 flX8_39 rfl k1 ?_
  refine r_istore_n dX8_advance_7 rfl (by decide) (ls' := [(1, .int (mI M (mR M a0 1) 0)), (0, .ref a0)]) rfl ?_
  refine r_iconst (v := (nI 0)) dX8_advance_8 rfl ?_
  refine r_istore_n dX8_advance_9 rfl (by decide) (ls' := [(2, .int (nI 0)), (1, .int (mI M (mR M a0 1) 0)), (0, .ref a0)]) rfl ?_
  refine r_sub [2, 1, 0] (ls' := [(0, .ref a0), (1, .int (mI M (mR M a0 1) 0)), (2, .int (nI 0))]) rfl ?_
  exact pw0
theorem gX8_advance_10 {d : Nat} {Q : Option Value → Mem → Prop} {M : Mem} {a0 : Nat} {x1 : Int32} {x2 : Int32}  (pw0 : x1 ≤ x2 → Wp d mdX8_advance 96 [(0, .ref a0), (1, .int x1), (2, .int (nI 0))] [] M Q) (pw1 : ¬ x1 ≤ x2 → Wp d mdX8_advance 17 [(0, .ref a0), (1, .int x1), (2, .int x2), (3, .int (nI 0))] [] M Q) : Wp d mdX8_advance 10 [(0, .ref a0), (1, .int x1), (2, .int x2)] [] M Q := by
  refine r_iload_n dX8_advance_10 rfl 2 rfl ?_
  refine r_iload_n dX8_advance_11 rfl 1 rfl ?_
  refine r_icmp_ge (tgt := 94) dX8_advance_12 (by decide) (fun c0 => ?_) (fun c0 => ?_)
  · skip
    refine r_iconst (v := (nI 0)) dX8_advance_94 rfl ?_
    refine r_istore_n dX8_advance_95 rfl (by decide) (ls' := [(2, .int (nI 0)), (0, .ref a0), (1, .int x1)]) rfl ?_
    refine r_sub [1, 2, 0] (ls' := [(0, .ref a0), (1, .int x1), (2, .int (nI 0))]) rfl ?_
    exact (pw0 c0)
  · skip
    refine r_iconst (v := (nI 0)) dX8_advance_15 rfl ?_
    refine r_istore_n dX8_advance_16 rfl (by decide) (ls' := [(3, .int (nI 0)), (0, .ref a0), (1, .int x1), (2, .int x2)]) rfl ?_
    refine r_sub [1, 2, 3, 0] (ls' := [(0, .ref a0), (1, .int x1), (2, .int x2), (3, .int (nI 0))]) rfl ?_
    exact (pw1 c0)
theorem gX8_advance_17 {d : Nat} {Q : Option Value → Mem → Prop} {M : Mem} {a0 : Nat} {x1 : Int32} {x2 : Int32} {x3 : Int32} (k0 : mK M a0 = 10) (k1 : mK M (mR M a0 0) = 4) (k2 : mK M (mR M (mR M a0 0) 0) = 5) (k3 : mK M (mR M a0 1) = 11) (pw0 : (mI M (mR M (mR M a0 0) 0) 1) ≤ x3 → Wp d mdX8_advance 10 [(0, .ref a0), (1, .int x1), (2, .int (x2 + (nI 1)))] [] M Q) (pf1 : ¬ (mI M (mR M (mR M a0 0) 0) 1) ≤ x3 → ClD d mdX9_get [.ref (mR M a0 1), .int x2] M (fun r1 M1 => Wp d mdX8_advance 39 [(0, .ref a0), (1, .int x1), (2, .int x2), (3, .int x3)] (r1.toList ++ []) M1 Q)) : Wp d mdX8_advance 17 [(0, .ref a0), (1, .int x1), (2, .int x2), (3, .int x3)] [] M Q := by
  refine r_iload_n dX8_advance_17 rfl 3 rfl ?_
  refine r_aload_n dX8_advance_18 rfl 0 rfl ?_
  refine r_getR ck6 dX8_advance_19 flX8_21 rfl k0 ?_
  refine r_getR ck0 dX8_advance_22 flX8_45 rfl k1 ?_
  refine r_getI ck1 dX8_advance_25 flX8_49 rfl k2 ?_
  refine r_icmp_ge (tgt := 88) dX8_advance_28 (by decide) (fun c0 => ?_) (fun c0 => ?_)
  · skip
    refine r_iinc dX8_advance_88 2 rfl (v := x2 + (nI 1)) rfl (by decide) (ls' := [(2, .int (x2 + (nI 1))), (0, .ref a0), (1, .int x1), (3, .int x3)]) rfl ?_
    refine r_goto (tgt := 10) dX8_advance_91 (by decide) ?_
    refine r_sub [1, 2, 0] (ls' := [(0, .ref a0), (1, .int x1), (2, .int (x2 + (nI 1)))]) rfl ?_
    exact (pw0 c0)
  · skip
    refine r_aload_n dX8_advance_31 rfl 0 rfl ?_
    refine r_getR ck6 dX8_advance_32 flX8_35 rfl k0 ?_
    refine r_iload_n dX8_advance_35 rfl 2 rfl ?_
    obtain ⟨e9, hlt, h9⟩ := (pf1 c0)
    exact r_callV (As := [.int x2]) (rest := []) (ci := 7) moX9_get dX8_advance_36 mlX8_54 imX9_get seX9_get k3 rfl hlt (Nat.le_of_ble_eq_true rfl) h9
theorem gX8_advance_39 {d : Nat} {Q : Option Value → Mem → Prop} {M : Mem} {a0 : Nat} {x1 : Int32} {x2 : Int32} {x3 : Int32} {sw0 : Int64}  (pf0 : ClD d mdX1_then [.long sw0, .int x3] M (fun r1 M1 => Wp d mdX8_advance 43 [(0, .ref a0), (1, .int x1), (2, .int x2), (3, .int x3)] (r1.toList ++ []) M1 Q)) : Wp d mdX8_advance 39 [(0, .ref a0), (1, .int x1), (2, .int x2), (3, .int x3)] [.long sw0] M Q := by
  refine r_iload_n dX8_advance_39 rfl 3 rfl ?_
  obtain ⟨e9, hlt, h9⟩ := pf0
  exact r_callS (As := [.long sw0, .int x3]) (rest := []) moX1_then dX8_advance_40 mlX8_58 saX1_then rfl hlt (Nat.le_of_ble_eq_true rfl) h9
theorem gX8_advance_43 {d : Nat} {Q : Option Value → Mem → Prop} {M : Mem} {a0 : Nat} {x1 : Int32} {x2 : Int32} {x3 : Int32} {sw0 : Int64} (k0 : mK M a0 = 10) (pf0 : ClD d mdX8_descend [.ref a0, .long sw0] M (fun r1 M1 => Wp d mdX8_advance 51 [(0, .ref a0), (1, .int x1), (2, .int x2), (3, .int x3), (4, .long sw0)] (r1.toList ++ []) M1 Q)) : Wp d mdX8_advance 43 [(0, .ref a0), (1, .int x1), (2, .int x2), (3, .int x3)] [.long sw0] M Q := by
  refine r_lstore dX8_advance_43 (by decide) (ls' := [(4, .long sw0), (0, .ref a0), (1, .int x1), (2, .int x2), (3, .int x3)]) rfl ?_
  refine r_aload_n dX8_advance_45 rfl 1 rfl ?_
  refine r_lload dX8_advance_46 0 rfl ?_
  refine r_sub [1, 2, 3, 4, 0] (ls' := [(0, .ref a0), (1, .int x1), (2, .int x2), (3, .int x3), (4, .long sw0)]) rfl ?_
  obtain ⟨e9, hlt, h9⟩ := pf0
  exact r_callV (As := [.long sw0]) (rest := []) (ci := 6) moX8_descend dX8_advance_48 mlX8_64 imX8_descend seX8_descend k0 rfl hlt (Nat.le_of_ble_eq_true rfl) h9
theorem gX8_advance_51 {d : Nat} {Q : Option Value → Mem → Prop} {M : Mem} {a0 : Nat} {x1 : Int32} {x2 : Int32} {x3 : Int32} {w4 : Int64} {sx0 : Int32} (k0 : mK M a0 = 10) (k1 : mK M (mR M a0 4) = 5) (pf0 : ¬ sx0 = (-1 : Int32) → ClD d mdX2_setNext [.ref (mR M a0 4), .int x2, .int x3, .int sx0] M (fun r1 M1 => Wp d mdX8_advance 82 [(0, .ref a0), (1, .int x1), (2, .int x2), (3, .int x3)] (r1.toList ++ []) M1 Q)) (pf1 : sx0 = (-1 : Int32) → ClD d mdX8_addLeaf [.ref a0, .int (mI M a0 9), .long w4] M (fun r1 M1 => Wp d mdX8_advance 69 [] (r1.toList ++ []) M1 Q)) : Wp d mdX8_advance 51 [(0, .ref a0), (1, .int x1), (2, .int x2), (3, .int x3), (4, .long w4)] [.int sx0] M Q := by
  refine r_istore dX8_advance_51 (by decide) (ls' := [(6, .int sx0), (0, .ref a0), (1, .int x1), (2, .int x2), (3, .int x3), (4, .long w4)]) rfl ?_
  refine r_iload dX8_advance_53 0 rfl ?_
  refine r_iconst (v := (-1)) dX8_advance_55 rfl ?_
  refine r_icmp_ne (tgt := 71) dX8_advance_56 (by decide) (fun c0 => ?_) (fun c0 => ?_)
  · skip
    refine r_aload_n dX8_advance_71 rfl 1 rfl ?_
    refine r_getR ck6 dX8_advance_72 flX8_74 rfl k0 ?_
    refine r_iload_n dX8_advance_75 rfl 3 rfl ?_
    refine r_iload_n dX8_advance_76 rfl 4 rfl ?_
    refine r_iload dX8_advance_77 0 rfl ?_
    refine r_sub [1, 2, 3, 4] (ls' := [(0, .ref a0), (1, .int x1), (2, .int x2), (3, .int x3)]) rfl ?_
    obtain ⟨e9, hlt, h9⟩ := (pf0 c0)
    exact r_callV (As := [.int x2, .int x3, .int sx0]) (rest := []) (ci := 1) moX2_setNext dX8_advance_79 mlX8_77 imX2_setNext seX2_setNext k1 rfl hlt (Nat.le_of_ble_eq_true rfl) h9
  · skip
    refine r_aload_n dX8_advance_59 rfl 1 rfl ?_
    refine r_aload_n dX8_advance_60 rfl 1 rfl ?_
    refine r_getI ck6 dX8_advance_61 flX8_67 rfl k0 ?_
    refine r_lload dX8_advance_64 5 rfl ?_
    refine r_sub [] (ls' := []) rfl ?_
    obtain ⟨e9, hlt, h9⟩ := (pf1 c0)
    exact r_callV (As := [.int (mI M a0 9), .long w4]) (rest := []) (ci := 6) moX8_addLeaf dX8_advance_66 mlX8_70 imX8_addLeaf seX8_addLeaf k0 rfl hlt (Nat.le_of_ble_eq_true rfl) h9
theorem gX8_advance_69 {d : Nat} {Q : Option Value → Mem → Prop} {M : Mem}  (pq0 : Q (some (.int (nI 1))) M) : Wp d mdX8_advance 69 [] [] M Q := by
  refine r_iconst (v := (nI 1)) dX8_advance_69 rfl ?_
  exact r_ret (some (.int (nI 1))) dX8_advance_70 rfl pq0
theorem gX8_advance_82 {d : Nat} {Q : Option Value → Mem → Prop} {M : Mem} {a0 : Nat} {x1 : Int32} {x2 : Int32} {x3 : Int32}  (pw0 : Wp d mdX8_advance 17 [(0, .ref a0), (1, .int x1), (2, .int x2), (3, .int (x3 + (nI 1)))] [] M Q) : Wp d mdX8_advance 82 [(0, .ref a0), (1, .int x1), (2, .int x2), (3, .int x3)] [] M Q := by
  refine r_iinc dX8_advance_82 3 rfl (v := x3 + (nI 1)) rfl (by decide) (ls' := [(3, .int (x3 + (nI 1))), (0, .ref a0), (1, .int x1), (2, .int x2)]) rfl ?_
  refine r_goto (tgt := 17) dX8_advance_85 (by decide) ?_
  refine r_sub [1, 2, 3, 0] (ls' := [(0, .ref a0), (1, .int x1), (2, .int x2), (3, .int (x3 + (nI 1)))]) rfl ?_
  exact pw0
theorem gX8_advance_96 {d : Nat} {Q : Option Value → Mem → Prop} {M : Mem} {a0 : Nat} {x1 : Int32} {x2 : Int32} (k0 : mK M a0 = 10) (k1 : mK M (mR M a0 1) = 11) (pf0 : x1 ≤ x2 → ClD d mdX3_settle [.ref a0] M (fun r1 M1 => Wp d mdX8_advance 126 [] (r1.toList ++ []) M1 Q)) (pf1 : ¬ x1 ≤ x2 → ClD d mdX9_get [.ref (mR M a0 1), .int x2] M (fun r1 M1 => Wp d mdX8_advance 113 [(0, .ref a0), (1, .int x1), (2, .int x2)] (r1.toList ++ [.ref (mR M a0 3)]) M1 Q)) : Wp d mdX8_advance 96 [(0, .ref a0), (1, .int x1), (2, .int x2)] [] M Q := by
  refine r_iload_n dX8_advance_96 rfl 2 rfl ?_
  refine r_iload_n dX8_advance_97 rfl 1 rfl ?_
  refine r_icmp_ge (tgt := 122) dX8_advance_98 (by decide) (fun c0 => ?_) (fun c0 => ?_)
  · skip
    refine r_aload_n dX8_advance_122 rfl 0 rfl ?_
    refine r_sub [] (ls' := []) rfl ?_
    obtain ⟨e9, hlt, h9⟩ := (pf0 c0)
    exact r_callU (As := []) (rest := []) (ci := 6) (x := ⟨"AskingPupil$Tree", "settle", "()V"⟩) (owner := "AskingPupil$Notes") moX3_settle dX8_advance_123 mlX8_88 smX8_settle imX3_settle suX8_X8_settle ⟨by decide +kernel, by decide +kernel⟩ (Or.inl rfl) k0 rfl hlt (Nat.le_of_ble_eq_true rfl) h9
  · skip
    refine r_aload_n dX8_advance_101 rfl 0 rfl ?_
    refine r_getR ck6 dX8_advance_102 flX8_81 rfl k0 ?_
    refine r_aload_n dX8_advance_105 rfl 0 rfl ?_
    refine r_getR ck6 dX8_advance_106 flX8_35 rfl k0 ?_
    refine r_iload_n dX8_advance_109 rfl 2 rfl ?_
    obtain ⟨e9, hlt, h9⟩ := (pf1 c0)
    exact r_callV (As := [.int x2]) (rest := [.ref (mR M a0 3)]) (ci := 7) moX9_get dX8_advance_110 mlX8_54 imX9_get seX9_get k1 rfl hlt (Nat.le_of_ble_eq_true rfl) h9
theorem gX8_advance_113 {d : Nat} {Q : Option Value → Mem → Prop} {M : Mem} {a0 : Nat} {x1 : Int32} {x2 : Int32} {sw0 : Int64} {sa1 : Nat} (k0 : mK M sa1 = 11) (pf0 : ClD d mdX9_add [.ref sa1, .long sw0] M (fun r1 M1 => Wp d mdX8_advance 116 [(0, .ref a0), (1, .int x1), (2, .int x2)] (r1.toList ++ []) M1 Q)) : Wp d mdX8_advance 113 [(0, .ref a0), (1, .int x1), (2, .int x2)] [.long sw0, .ref sa1] M Q := by
  obtain ⟨e9, hlt, h9⟩ := pf0
  exact r_callV (As := [.long sw0]) (rest := []) (ci := 7) moX9_add dX8_advance_113 mlX8_84 imX9_add seX9_add k0 rfl hlt (Nat.le_of_ble_eq_true rfl) h9
theorem gX8_advance_116 {d : Nat} {Q : Option Value → Mem → Prop} {M : Mem} {a0 : Nat} {x1 : Int32} {x2 : Int32}  (pw0 : Wp d mdX8_advance 96 [(0, .ref a0), (1, .int x1), (2, .int (x2 + (nI 1)))] [] M Q) : Wp d mdX8_advance 116 [(0, .ref a0), (1, .int x1), (2, .int x2)] [] M Q := by
  refine r_iinc dX8_advance_116 2 rfl (v := x2 + (nI 1)) rfl (by decide) (ls' := [(2, .int (x2 + (nI 1))), (0, .ref a0), (1, .int x1)]) rfl ?_
  refine r_goto (tgt := 96) dX8_advance_119 (by decide) ?_
  refine r_sub [1, 2, 0] (ls' := [(0, .ref a0), (1, .int x1), (2, .int (x2 + (nI 1)))]) rfl ?_
  exact pw0
theorem gX8_advance_126 {d : Nat} {Q : Option Value → Mem → Prop} {M : Mem}  (pq0 : Q (some (.int (nI 0))) M) : Wp d mdX8_advance 126 [] [] M Q := by
  refine r_iconst (v := (nI 0)) dX8_advance_126 rfl ?_
  exact r_ret (some (.int (nI 0))) dX8_advance_127 rfl pq0
-- X8_lesson
theorem gX8_lesson_0 {d : Nat} {Q : Option Value → Mem → Prop} {M : Mem} {a0 : Nat} {w1 : Int64} (k0 : mK M a0 = 10) (k1 : mK M (mR M a0 0) = 4) (pf0 : ClD d mdX0_ask [.ref (mR M a0 0), .long w1] M (fun r1 M1 => Wp d mdX8_lesson 10 [(0, .ref a0), (1, .long w1)] (r1.toList ++ [.long w1, .ref a0]) M1 Q)) : Wp d mdX8_lesson 0 [(0, .ref a0), (1, .long w1)] [] M Q := by
  refine r_aload_n dX8_lesson_0 rfl 0 rfl ?_
  refine r_lload_n dX8_lesson_1 rfl 1 rfl ?_
  refine r_aload_n dX8_lesson_2 rfl 0 rfl ?_
  refine r_getR ck6 dX8_lesson_3 flX8_21 rfl k0 ?_
  refine r_lload_n dX8_lesson_6 rfl 1 rfl ?_
  obtain ⟨e9, hlt, h9⟩ := pf0
  exact r_callV (As := [.long w1]) (rest := [.long w1, .ref a0]) (ci := 0) moX0_ask dX8_lesson_7 mlX8_25 imX0_ask seX0_ask k1 rfl hlt (Nat.le_of_ble_eq_true rfl) h9
theorem gX8_lesson_10 {d : Nat} {Q : Option Value → Mem → Prop} {M : Mem} {a0 : Nat} {w1 : Int64} {sx0 : Int32} {sw1 : Int64} {sa2 : Nat} (k0 : mK M sa2 = 10) (pf0 : ClD d mdX3_partingAt [.ref sa2, .long sw1, .int sx0] M (fun r1 M1 => Wp d mdX8_lesson 13 [(0, .ref a0), (1, .long w1)] (r1.toList ++ []) M1 Q)) : Wp d mdX8_lesson 10 [(0, .ref a0), (1, .long w1)] [.int sx0, .long sw1, .ref sa2] M Q := by
  obtain ⟨e9, hlt, h9⟩ := pf0
  exact r_callU (As := [.long sw1, .int sx0]) (rest := []) (ci := 6) (x := ⟨"AskingPupil$Tree", "partingAt", "(JI)I"⟩) (owner := "AskingPupil$Notes") moX3_partingAt dX8_lesson_10 mlX8_92 smX8_partingAt imX3_partingAt suX8_X8_partingAt ⟨by decide +kernel, by decide +kernel⟩ (Or.inl rfl) k0 rfl hlt (Nat.le_of_ble_eq_true rfl) h9
theorem gX8_lesson_13 {d : Nat} {Q : Option Value → Mem → Prop} {M : Mem} {a0 : Nat} {w1 : Int64} {sx0 : Int32}  (pf0 : ClD d mdX1_behind [.long w1, .int sx0] M (fun r1 M1 => Wp d mdX8_lesson 19 [(0, .ref a0), (1, .long w1), (3, .int sx0)] (r1.toList ++ []) M1 Q)) : Wp d mdX8_lesson 13 [(0, .ref a0), (1, .long w1)] [.int sx0] M Q := by
  refine r_istore_n dX8_lesson_13 rfl (by decide) (ls' := [(3, .int sx0), (0, .ref a0), (1, .long w1)]) rfl ?_
  refine r_lload_n dX8_lesson_14 rfl 2 rfl ?_
  refine r_iload_n dX8_lesson_15 rfl 0 rfl ?_
  refine r_sub [1, 2, 0] (ls' := [(0, .ref a0), (1, .long w1), (3, .int sx0)]) rfl ?_
  obtain ⟨e9, hlt, h9⟩ := pf0
  exact r_callS (As := [.long w1, .int sx0]) (rest := []) moX1_behind dX8_lesson_16 mlX8_96 saX1_behind rfl hlt (Nat.le_of_ble_eq_true rfl) h9
theorem gX8_lesson_19 {d : Nat} {Q : Option Value → Mem → Prop} {M : Mem} {a0 : Nat} {w1 : Int64} {x3 : Int32} {sw0 : Int64} (k0 : mK M a0 = 10) (pf0 : ClD d mdX1_first [.long w1, .int x3] M (fun r1 M1 => Wp d mdX8_lesson 31 [(0, .ref a0), (1, .long w1), (3, .int x3), (4, .long sw0)] (r1.toList ++ [.int (nI 0), .ref (mR M a0 4)]) M1 Q)) : Wp d mdX8_lesson 19 [(0, .ref a0), (1, .long w1), (3, .int x3)] [.long sw0] M Q := by
  refine r_lstore dX8_lesson_19 (by decide) (ls' := [(4, .long sw0), (0, .ref a0), (1, .long w1), (3, .int x3)]) rfl ?_
  refine r_aload_n dX8_lesson_21 rfl 1 rfl ?_
  refine r_getR ck6 dX8_lesson_22 flX8_74 rfl k0 ?_
  refine r_iconst (v := (nI 0)) dX8_lesson_25 rfl ?_
  refine r_lload_n dX8_lesson_26 rfl 2 rfl ?_
  refine r_iload_n dX8_lesson_27 rfl 3 rfl ?_
  refine r_sub [1, 2, 3, 0] (ls' := [(0, .ref a0), (1, .long w1), (3, .int x3), (4, .long sw0)]) rfl ?_
  obtain ⟨e9, hlt, h9⟩ := pf0
  exact r_callS (As := [.long w1, .int x3]) (rest := [.int (nI 0), .ref (mR M a0 4)]) moX1_first dX8_lesson_28 mlX8_99 saX1_first rfl hlt (Nat.le_of_ble_eq_true rfl) h9
theorem gX8_lesson_31 {d : Nat} {Q : Option Value → Mem → Prop} {M : Mem} {a0 : Nat} {w1 : Int64} {x3 : Int32} {w4 : Int64} {sw0 : Int64} {sx1 : Int32} {sa2 : Nat} (k0 : mK M sa2 = 5) (pf0 : ClD d mdX2_endFrom [.ref sa2, .int sx1, .long sw0] M (fun r1 M1 => Wp d mdX8_lesson 34 [(0, .ref a0), (1, .long w1), (3, .int x3), (4, .long w4)] (r1.toList ++ []) M1 Q)) : Wp d mdX8_lesson 31 [(0, .ref a0), (1, .long w1), (3, .int x3), (4, .long w4)] [.long sw0, .int sx1, .ref sa2] M Q := by
  obtain ⟨e9, hlt, h9⟩ := pf0
  exact r_callV (As := [.int sx1, .long sw0]) (rest := []) (ci := 1) moX2_endFrom dX8_lesson_31 mlX8_102 imX2_endFrom seX2_endFrom k0 rfl hlt (Nat.le_of_ble_eq_true rfl) h9
theorem gX8_lesson_34 {d : Nat} {Q : Option Value → Mem → Prop} {M : Mem} {a0 : Nat} {w1 : Int64} {x3 : Int32} {w4 : Int64} {sx0 : Int32}  (pf0 : ClD d mdX1_first [.long w1, .int (x3 - (nI 1))] M (fun r1 M1 => Wp d mdX8_lesson 44 [(0, .ref a0), (1, .long w1), (3, .int x3), (4, .long w4), (6, .int sx0)] (r1.toList ++ [.ref a0]) M1 Q)) : Wp d mdX8_lesson 34 [(0, .ref a0), (1, .long w1), (3, .int x3), (4, .long w4)] [.int sx0] M Q := by
  refine r_istore dX8_lesson_34 (by decide) (ls' := [(6, .int sx0), (0, .ref a0), (1, .long w1), (3, .int x3), (4, .long w4)]) rfl ?_
  refine r_aload_n dX8_lesson_36 rfl 1 rfl ?_
  refine r_lload_n dX8_lesson_37 rfl 2 rfl ?_
  refine r_iload_n dX8_lesson_38 rfl 3 rfl ?_
  refine r_iconst (v := (nI 1)) dX8_lesson_39 rfl ?_
  refine r_isub dX8_lesson_40 ?_
  refine r_sub [1, 2, 3, 4, 0] (ls' := [(0, .ref a0), (1, .long w1), (3, .int x3), (4, .long w4), (6, .int sx0)]) rfl ?_
  obtain ⟨e9, hlt, h9⟩ := pf0
  exact r_callS (As := [.long w1, .int (x3 - (nI 1))]) (rest := [.ref a0]) moX1_first dX8_lesson_41 mlX8_99 saX1_first rfl hlt (Nat.le_of_ble_eq_true rfl) h9
theorem gX8_lesson_44 {d : Nat} {Q : Option Value → Mem → Prop} {M : Mem} {a0 : Nat} {w1 : Int64} {x3 : Int32} {w4 : Int64} {x6 : Int32} {sw0 : Int64} {sa1 : Nat} (k0 : mK M sa1 = 10) (pf0 : ClD d mdX3_accessBy [.ref sa1, .long sw0] M (fun r1 M1 => Wp d mdX8_lesson 47 [(0, .ref a0), (1, .long w1), (3, .int x3), (4, .long w4), (6, .int x6)] (r1.toList ++ []) M1 Q)) : Wp d mdX8_lesson 44 [(0, .ref a0), (1, .long w1), (3, .int x3), (4, .long w4), (6, .int x6)] [.long sw0, .ref sa1] M Q := by
  obtain ⟨e9, hlt, h9⟩ := pf0
  exact r_callU (As := [.long sw0]) (rest := []) (ci := 6) (x := ⟨"AskingPupil$Tree", "accessBy", "(J)J"⟩) (owner := "AskingPupil$Notes") moX3_accessBy dX8_lesson_44 mlX8_106 smX8_accessBy imX3_accessBy suX8_X8_accessBy ⟨by decide +kernel, by decide +kernel⟩ (Or.inl rfl) k0 rfl hlt (Nat.le_of_ble_eq_true rfl) h9
theorem gX8_lesson_47 {d : Nat} {Q : Option Value → Mem → Prop} {M : Mem} {a0 : Nat} {w1 : Int64} {x3 : Int32} {w4 : Int64} {x6 : Int32} {sw0 : Int64}  (pf0 : ClD d mdX1_at [.long w1, .int (x3 - (nI 1))] M (fun r1 M1 => Wp d mdX8_lesson 54 [(0, .ref a0), (4, .long w4), (6, .int x6)] (r1.toList ++ [.long sw0]) M1 Q)) : Wp d mdX8_lesson 47 [(0, .ref a0), (1, .long w1), (3, .int x3), (4, .long w4), (6, .int x6)] [.long sw0] M Q := by
  refine r_lload_n dX8_lesson_47 rfl 1 rfl ?_
  refine r_iload_n dX8_lesson_48 rfl 2 rfl ?_
  refine r_iconst (v := (nI 1)) dX8_lesson_49 rfl ?_
  refine r_isub dX8_lesson_50 ?_
  refine r_sub [0, 3, 4] (ls' := [(0, .ref a0), (4, .long w4), (6, .int x6)]) rfl ?_
  obtain ⟨e9, hlt, h9⟩ := pf0
  exact r_callS (As := [.long w1, .int (x3 - (nI 1))]) (rest := [.long sw0]) moX1_at dX8_lesson_51 mlX8_110 saX1_at rfl hlt (Nat.le_of_ble_eq_true rfl) h9
theorem gX8_lesson_54 {d : Nat} {Q : Option Value → Mem → Prop} {M : Mem} {a0 : Nat} {w4 : Int64} {x6 : Int32} {sx0 : Int32} {sw1 : Int64}  (pf0 : ClD d mdX1_then [.long sw1, .int sx0] M (fun r1 M1 => Wp d mdX8_lesson 57 [(0, .ref a0), (4, .long w4), (6, .int x6)] (r1.toList ++ []) M1 Q)) : Wp d mdX8_lesson 54 [(0, .ref a0), (4, .long w4), (6, .int x6)] [.int sx0, .long sw1] M Q := by
  obtain ⟨e9, hlt, h9⟩ := pf0
  exact r_callS (As := [.long sw1, .int sx0]) (rest := []) moX1_then dX8_lesson_54 mlX8_58 saX1_then rfl hlt (Nat.le_of_ble_eq_true rfl) h9
theorem gX8_lesson_57 {d : Nat} {Q : Option Value → Mem → Prop} {M : Mem} {a0 : Nat} {w4 : Int64} {x6 : Int32} {sw0 : Int64} (k0 : mK M a0 = 10) (pf0 : ClD d mdX3_dropGuess [.ref a0] (sI M a0 6 ((mI M a0 6) + (nI 1))) (fun r1 M1 => Wp d mdX8_lesson 73 [(0, .ref a0), (4, .long w4), (6, .int x6), (7, .long sw0)] (r1.toList ++ []) M1 Q)) : Wp d mdX8_lesson 57 [(0, .ref a0), (4, .long w4), (6, .int x6)] [.long sw0] M Q := by
  refine r_lstore dX8_lesson_57 (by decide) (ls' := [(7, .long sw0), (0, .ref a0), (4, .long w4), (6, .int x6)]) rfl ?_
  refine r_aload_n dX8_lesson_59 rfl 1 rfl ?_
  refine r_dup dX8_lesson_60 rfl ?_
  refine r_getI ck6 dX8_lesson_61 flX8_113 rfl k0 ?_
  refine r_iconst (v := (nI 1)) dX8_lesson_64 rfl ?_
  refine r_iadd dX8_lesson_65 ?_
  refine r_putI ck6 dX8_lesson_66 flX8_113 rfl (Or.inl rfl) k0 ?_
  refine r_aload_n dX8_lesson_69 rfl 1 rfl ?_
  refine r_sub [1, 2, 3, 0] (ls' := [(0, .ref a0), (4, .long w4), (6, .int x6), (7, .long sw0)]) rfl ?_
  obtain ⟨e9, hlt, h9⟩ := pf0
  exact r_callU (As := []) (rest := []) (ci := 6) (x := ⟨"AskingPupil$Tree", "dropGuess", "()V"⟩) (owner := "AskingPupil$Notes") moX3_dropGuess dX8_lesson_70 mlX8_116 smX8_dropGuess imX3_dropGuess suX8_X8_dropGuess ⟨by decide +kernel, by decide +kernel⟩ (Or.inl rfl) k0 rfl hlt (Nat.le_of_ble_eq_true rfl) h9
theorem gX8_lesson_73 {d : Nat} {Q : Option Value → Mem → Prop} {M : Mem} {a0 : Nat} {w4 : Int64} {x6 : Int32} {w7 : Int64} (k0 : mK M a0 = 10) (pf0 : ClD d mdX8_putKnot [.ref a0, .int x6, .long w4, .long w7] M (fun r1 M1 => Wp d mdX8_lesson 83 [] (r1.toList ++ []) M1 Q)) : Wp d mdX8_lesson 73 [(0, .ref a0), (4, .long w4), (6, .int x6), (7, .long w7)] [] M Q := by
  refine r_aload_n dX8_lesson_73 rfl 0 rfl ?_
  refine r_iload dX8_lesson_74 2 rfl ?_
  refine r_lload dX8_lesson_76 1 rfl ?_
  refine r_lload dX8_lesson_78 3 rfl ?_
  refine r_sub [] (ls' := []) rfl ?_
  obtain ⟨e9, hlt, h9⟩ := pf0
  exact r_callV (As := [.int x6, .long w4, .long w7]) (rest := []) (ci := 6) moX8_putKnot dX8_lesson_80 mlX8_119 imX8_putKnot seX8_putKnot k0 rfl hlt (Nat.le_of_ble_eq_true rfl) h9
theorem gX8_lesson_83 {d : Nat} {Q : Option Value → Mem → Prop} {M : Mem}  (pq0 : Q (some (.int (nI 2))) M) : Wp d mdX8_lesson 83 [] [] M Q := by
  refine r_iconst (v := (nI 2)) dX8_lesson_83 rfl ?_
  exact r_ret (some (.int (nI 2))) dX8_lesson_84 rfl pq0
-- X8_putKnot
theorem gX8_putKnot_0 {d : Nat} {Q : Option Value → Mem → Prop} {M : Mem} {a0 : Nat} {x1 : Int32} {w2 : Int64} {w4 : Int64} (k0 : mK M a0 = 10) (k1 : mK M (mR M a0 2) = 11) (pf0 : ClD d mdX9_add [.ref (mR M a0 2), .long w2] M (fun r1 M1 => Wp d mdX8_putKnot 17 [(0, .ref a0), (1, .int x1), (2, .long w2), (4, .long w4), (6, .int (mI M (mR M a0 2) 0))] (r1.toList ++ []) M1 Q)) : Wp d mdX8_putKnot 0 [(0, .ref a0), (1, .int x1), (2, .long w2), (4, .long w4)] [] M Q := by
  refine r_aload_n dX8_putKnot_0 rfl 0 rfl ?_
  refine r_getR ck6 dX8_putKnot_1 flX8_123 rfl k0 ?_
  refine r_getI ck7 dX8_putKnot_4 flX8_39 rfl k1 ?_
  refine r_istore dX8_putKnot_7 (by decide) (ls' := [(6, .int (mI M (mR M a0 2) 0)), (0, .ref a0), (1, .int x1), (2, .long w2), (4, .long w4)]) rfl ?_
  refine r_aload_n dX8_putKnot_9 rfl 1 rfl ?_
  refine r_getR ck6 dX8_putKnot_10 flX8_123 rfl k0 ?_
  refine r_lload_n dX8_putKnot_13 rfl 3 rfl ?_
  refine r_sub [1, 2, 3, 4, 0] (ls' := [(0, .ref a0), (1, .int x1), (2, .long w2), (4, .long w4), (6, .int (mI M (mR M a0 2) 0))]) rfl ?_
  obtain ⟨e9, hlt, h9⟩ := pf0
  exact r_callV (As := [.long w2]) (rest := []) (ci := 7) moX9_add dX8_putKnot_14 mlX8_84 imX9_add seX9_add k1 rfl hlt (Nat.le_of_ble_eq_true rfl) h9
theorem gX8_putKnot_17 {d : Nat} {Q : Option Value → Mem → Prop} {M : Mem} {a0 : Nat} {x1 : Int32} {w2 : Int64} {w4 : Int64} {x6 : Int32}  (pw0 : Wp d mdX8_putKnot 20 [(0, .ref a0), (1, .int x1), (2, .long w2), (4, .long w4), (6, .int x6), (7, .int (nI 0))] [] M Q) : Wp d mdX8_putKnot 17 [(0, .ref a0), (1, .int x1), (2, .long w2), (4, .long w4), (6, .int x6)] [] M Q := by
  refine r_iconst (v := (nI 0)) dX8_putKnot_17 rfl ?_
  refine r_istore dX8_putKnot_18 (by decide) (ls' := [(7, .int (nI 0)), (0, .ref a0), (1, .int x1), (2, .long w2), (4, .long w4), (6, .int x6)]) rfl ?_
  refine r_sub [1, 2, 3, 4, 5, 0] (ls' := [(0, .ref a0), (1, .int x1), (2, .long w2), (4, .long w4), (6, .int x6), (7, .int (nI 0))]) rfl ?_
  exact pw0
theorem gX8_putKnot_20 {d : Nat} {Q : Option Value → Mem → Prop} {M : Mem} {a0 : Nat} {x1 : Int32} {w2 : Int64} {w4 : Int64} {x6 : Int32} {x7 : Int32} (k0 : mK M a0 = 10) (k1 : mK M (mR M a0 8) = 1) (k2 : mK M (mR M a0 1) = 11) (pf0 : (nI (mN M (mR M a0 8))) ≤ x7 → ClD d mdX9_get [.ref (mR M a0 1), .int x1] M (fun r1 M1 => Wp d mdX8_putKnot 80 [(0, .ref a0), (1, .int x1), (2, .long w2), (4, .long w4), (7, .int (x6 * (nI 4)))] (r1.toList ++ [.ref (mR M a0 0), .int (x6 * (nI 4)), .ref a0]) M1 Q)) (pb1 : ¬ (nI (mN M (mR M a0 8))) ≤ x7 → vp_in x7 (mN M (mR M a0 8))) (pw2 : ¬ (nI (mN M (mR M a0 8))) ≤ x7 → ¬ (mI M (mR M a0 8) x7.toNatClampNeg) = x1 → Wp d mdX8_putKnot 20 [(0, .ref a0), (1, .int x1), (2, .long w2), (4, .long w4), (6, .int x6), (7, .int (x7 + (nI 1)))] [] M Q) (pb3 : ¬ (nI (mN M (mR M a0 8))) ≤ x7 → (mI M (mR M a0 8) x7.toNatClampNeg) = x1 → vp_in x7 (mN M (mR M a0 8))) (pw4 : ¬ (nI (mN M (mR M a0 8))) ≤ x7 → (mI M (mR M a0 8) x7.toNatClampNeg) = x1 → Wp d mdX8_putKnot 20 [(0, .ref a0), (1, .int x1), (2, .long w2), (4, .long w4), (6, .int x6), (7, .int (x7 + (nI 1)))] [] (sI M (mR M a0 8) x7.toNatClampNeg ((nI 100) + x6)) Q) : Wp d mdX8_putKnot 20 [(0, .ref a0), (1, .int x1), (2, .long w2), (4, .long w4), (6, .int x6), (7, .int x7)] [] M Q := by
  refine r_iload dX8_putKnot_20 5 rfl ?_
  refine r_aload_n dX8_putKnot_22 rfl 0 rfl ?_
  refine r_getR ck6 dX8_putKnot_23 flX8_9 rfl k0 ?_
  refine r_alen dX8_putKnot_26 (Or.inl k1) ?_
  refine r_icmp_ge (tgt := 59) dX8_putKnot_27 (by decide) (fun c0 => ?_) (fun c0 => ?_)
  · skip
    refine r_iload dX8_putKnot_59 4 rfl ?_
    refine r_iconst (v := (nI 4)) dX8_putKnot_61 rfl ?_
    refine r_imul dX8_putKnot_62 ?_
    refine r_istore dX8_putKnot_63 (by decide) (ls' := [(7, .int (x6 * (nI 4))), (0, .ref a0), (1, .int x1), (2, .long w2), (4, .long w4), (6, .int x6)]) rfl ?_
    refine r_aload_n dX8_putKnot_65 rfl 1 rfl ?_
    refine r_iload dX8_putKnot_66 0 rfl ?_
    refine r_aload_n dX8_putKnot_68 rfl 1 rfl ?_
    refine r_getR ck6 dX8_putKnot_69 flX8_21 rfl k0 ?_
    refine r_aload_n dX8_putKnot_72 rfl 1 rfl ?_
    refine r_getR ck6 dX8_putKnot_73 flX8_35 rfl k0 ?_
    refine r_iload_n dX8_putKnot_76 rfl 2 rfl ?_
    refine r_sub [1, 2, 3, 4, 0] (ls' := [(0, .ref a0), (1, .int x1), (2, .long w2), (4, .long w4), (7, .int (x6 * (nI 4)))]) rfl ?_
    obtain ⟨e9, hlt, h9⟩ := (pf0 c0)
    exact r_callV (As := [.int x1]) (rest := [.ref (mR M a0 0), .int (x6 * (nI 4)), .ref a0]) (ci := 7) moX9_get dX8_putKnot_77 mlX8_54 imX9_get seX9_get k2 rfl hlt (Nat.le_of_ble_eq_true rfl) h9
  · skip
    refine r_aload_n dX8_putKnot_30 rfl 0 rfl ?_
    refine r_getR ck6 dX8_putKnot_31 flX8_9 rfl k0 ?_
    refine r_iload dX8_putKnot_34 5 rfl ?_
    refine r_iald dX8_putKnot_36 k1 (pb1 c0) ?_
    refine r_iload_n dX8_putKnot_37 rfl 1 rfl ?_
    refine r_icmp_ne (tgt := 53) dX8_putKnot_38 (by decide) (fun c1 => ?_) (fun c1 => ?_)
    · skip
      refine r_iinc dX8_putKnot_53 5 rfl (v := x7 + (nI 1)) rfl (by decide) (ls' := [(7, .int (x7 + (nI 1))), (0, .ref a0), (1, .int x1), (2, .long w2), (4, .long w4), (6, .int x6)]) rfl ?_
      refine r_goto (tgt := 20) dX8_putKnot_56 (by decide) ?_
      refine r_sub [1, 2, 3, 4, 5, 0] (ls' := [(0, .ref a0), (1, .int x1), (2, .long w2), (4, .long w4), (6, .int x6), (7, .int (x7 + (nI 1)))]) rfl ?_
      exact (pw2 c0 c1)
    · skip
      refine r_aload_n dX8_putKnot_41 rfl 0 rfl ?_
      refine r_getR ck6 dX8_putKnot_42 flX8_9 rfl k0 ?_
      refine r_iload dX8_putKnot_45 5 rfl ?_
      refine r_bipush (v := (nI 100)) dX8_putKnot_47 rfl ?_
      refine r_iload dX8_putKnot_49 4 rfl ?_
      refine r_iadd dX8_putKnot_51 ?_
      refine r_iast dX8_putKnot_52 k1 (pb3 c0 c1) ?_
      refine r_iinc dX8_putKnot_53 5 rfl (v := x7 + (nI 1)) rfl (by decide) (ls' := [(7, .int (x7 + (nI 1))), (0, .ref a0), (1, .int x1), (2, .long w2), (4, .long w4), (6, .int x6)]) rfl ?_
      refine r_goto (tgt := 20) dX8_putKnot_56 (by decide) ?_
      refine r_sub [1, 2, 3, 4, 5, 0] (ls' := [(0, .ref a0), (1, .int x1), (2, .long w2), (4, .long w4), (6, .int x6), (7, .int (x7 + (nI 1)))]) rfl ?_
      exact (pw4 c0 c1)
theorem gX8_putKnot_80 {d : Nat} {Q : Option Value → Mem → Prop} {M : Mem} {a0 : Nat} {x1 : Int32} {w2 : Int64} {w4 : Int64} {x7 : Int32} {sw0 : Int64} {sa1 : Nat} {sx2 : Int32} {sa3 : Nat}  (pf0 : ClD d mdX1_join [.long sw0, .long w2] M (fun r1 M1 => Wp d mdX8_putKnot 84 [(0, .ref a0), (1, .int x1), (2, .long w2), (4, .long w4), (7, .int x7)] (r1.toList ++ [.ref sa1, .int sx2, .ref sa3]) M1 Q)) : Wp d mdX8_putKnot 80 [(0, .ref a0), (1, .int x1), (2, .long w2), (4, .long w4), (7, .int x7)] [.long sw0, .ref sa1, .int sx2, .ref sa3] M Q := by
  refine r_lload_n dX8_putKnot_80 rfl 2 rfl ?_
  obtain ⟨e9, hlt, h9⟩ := pf0
  exact r_callS (As := [.long sw0, .long w2]) (rest := [.ref sa1, .int sx2, .ref sa3]) moX1_join dX8_putKnot_81 mlX8_126 saX1_join rfl hlt (Nat.le_of_ble_eq_true rfl) h9
theorem gX8_putKnot_84 {d : Nat} {Q : Option Value → Mem → Prop} {M : Mem} {a0 : Nat} {x1 : Int32} {w2 : Int64} {w4 : Int64} {x7 : Int32} {sw0 : Int64} {sa1 : Nat} {sx2 : Int32} {sa3 : Nat} (k0 : mK M sa1 = 4) (pf0 : ClD d mdX0_ask [.ref sa1, .long sw0] M (fun r1 M1 => Wp d mdX8_putKnot 87 [(0, .ref a0), (1, .int x1), (2, .long w2), (4, .long w4), (7, .int x7)] (r1.toList ++ [.int sx2, .ref sa3]) M1 Q)) : Wp d mdX8_putKnot 84 [(0, .ref a0), (1, .int x1), (2, .long w2), (4, .long w4), (7, .int x7)] [.long sw0, .ref sa1, .int sx2, .ref sa3] M Q := by
  obtain ⟨e9, hlt, h9⟩ := pf0
  exact r_callV (As := [.long sw0]) (rest := [.int sx2, .ref sa3]) (ci := 0) moX0_ask dX8_putKnot_84 mlX8_25 imX0_ask seX0_ask k0 rfl hlt (Nat.le_of_ble_eq_true rfl) h9
theorem gX8_putKnot_87 {d : Nat} {Q : Option Value → Mem → Prop} {M : Mem} {a0 : Nat} {x1 : Int32} {w2 : Int64} {w4 : Int64} {x7 : Int32} {sx0 : Int32} {sx1 : Int32} {sa2 : Nat} (k0 : mK M sa2 = 10) (pf0 : ClD d mdX8_link [.ref sa2, .int (sx1 + sx0), .int x1] M (fun r1 M1 => Wp d mdX8_putKnot 92 [(0, .ref a0), (2, .long w2), (4, .long w4), (7, .int x7)] (r1.toList ++ []) M1 Q)) : Wp d mdX8_putKnot 87 [(0, .ref a0), (1, .int x1), (2, .long w2), (4, .long w4), (7, .int x7)] [.int sx0, .int sx1, .ref sa2] M Q := by
  refine r_iadd dX8_putKnot_87 ?_
  refine r_iload_n dX8_putKnot_88 rfl 1 rfl ?_
  refine r_sub [0, 2, 3, 4] (ls' := [(0, .ref a0), (2, .long w2), (4, .long w4), (7, .int x7)]) rfl ?_
  obtain ⟨e9, hlt, h9⟩ := pf0
  exact r_callV (As := [.int (sx1 + sx0), .int x1]) (rest := []) (ci := 6) moX8_link dX8_putKnot_89 mlX8_31 imX8_link seX8_link k0 rfl hlt (Nat.le_of_ble_eq_true rfl) h9
theorem gX8_putKnot_92 {d : Nat} {Q : Option Value → Mem → Prop} {M : Mem} {a0 : Nat} {w2 : Int64} {w4 : Int64} {x7 : Int32} (k0 : mK M a0 = 10) (pf0 : ClD d mdX1_join [.long w4, .long w2] M (fun r1 M1 => Wp d mdX8_putKnot 105 [(4, .long w4)] (r1.toList ++ [.ref (mR M a0 0), .int x7, .ref a0]) M1 Q)) : Wp d mdX8_putKnot 92 [(0, .ref a0), (2, .long w2), (4, .long w4), (7, .int x7)] [] M Q := by
  refine r_aload_n dX8_putKnot_92 rfl 0 rfl ?_
  refine r_iload dX8_putKnot_93 3 rfl ?_
  refine r_aload_n dX8_putKnot_95 rfl 0 rfl ?_
  refine r_getR ck6 dX8_putKnot_96 flX8_21 rfl k0 ?_
  refine r_lload dX8_putKnot_99 2 rfl ?_
  refine r_lload_n dX8_putKnot_101 rfl 1 rfl ?_
  refine r_sub [2] (ls' := [(4, .long w4)]) rfl ?_
  obtain ⟨e9, hlt, h9⟩ := pf0
  exact r_callS (As := [.long w4, .long w2]) (rest := [.ref (mR M a0 0), .int x7, .ref a0]) moX1_join dX8_putKnot_102 mlX8_126 saX1_join rfl hlt (Nat.le_of_ble_eq_true rfl) h9
theorem gX8_putKnot_105 {d : Nat} {Q : Option Value → Mem → Prop} {M : Mem} {w4 : Int64} {sw0 : Int64} {sa1 : Nat} {sx2 : Int32} {sa3 : Nat} (k0 : mK M sa1 = 4) (pf0 : ClD d mdX0_ask [.ref sa1, .long sw0] M (fun r1 M1 => Wp d mdX8_putKnot 108 [(4, .long w4)] (r1.toList ++ [.int sx2, .ref sa3]) M1 Q)) : Wp d mdX8_putKnot 105 [(4, .long w4)] [.long sw0, .ref sa1, .int sx2, .ref sa3] M Q := by
  obtain ⟨e9, hlt, h9⟩ := pf0
  exact r_callV (As := [.long sw0]) (rest := [.int sx2, .ref sa3]) (ci := 0) moX0_ask dX8_putKnot_105 mlX8_25 imX0_ask seX0_ask k0 rfl hlt (Nat.le_of_ble_eq_true rfl) h9
theorem gX8_putKnot_108 {d : Nat} {Q : Option Value → Mem → Prop} {M : Mem} {w4 : Int64} {sx0 : Int32} {sx1 : Int32} {sa2 : Nat} (k0 : mK M sa2 = 10) (pf0 : ClD d mdX8_addLeaf [.ref sa2, .int (sx1 + sx0), .long w4] M (fun r1 M1 => Wp d mdX8_putKnot 114 [] (r1.toList ++ []) M1 Q)) : Wp d mdX8_putKnot 108 [(4, .long w4)] [.int sx0, .int sx1, .ref sa2] M Q := by
  refine r_iadd dX8_putKnot_108 ?_
  refine r_lload dX8_putKnot_109 0 rfl ?_
  refine r_sub [] (ls' := []) rfl ?_
  obtain ⟨e9, hlt, h9⟩ := pf0
  exact r_callV (As := [.int (sx1 + sx0), .long w4]) (rest := []) (ci := 6) moX8_addLeaf dX8_putKnot_111 mlX8_70 imX8_addLeaf seX8_addLeaf k0 rfl hlt (Nat.le_of_ble_eq_true rfl) h9
theorem gX8_putKnot_114 {d : Nat} {Q : Option Value → Mem → Prop} {M : Mem}  (pq0 : Q none M) : Wp d mdX8_putKnot 114 [] [] M Q := by
  exact r_ret none dX8_putKnot_114 rfl pq0
-- X8_addLeaf
theorem gX8_addLeaf_0 {d : Nat} {Q : Option Value → Mem → Prop} {M : Mem} {a0 : Nat} {x1 : Int32} {w2 : Int64} (k0 : mK M a0 = 10) (k1 : mK M (mR M a0 1) = 11) (pf0 : ClD d mdX8_link [.ref a0, .int x1, .int (mI M (mR M a0 1) 0)] M (fun r1 M1 => Wp d mdX8_addLeaf 12 [(0, .ref a0), (2, .long w2)] (r1.toList ++ []) M1 Q)) : Wp d mdX8_addLeaf 0 [(0, .ref a0), (1, .int x1), (2, .long w2)] [] M Q := by
  refine r_aload_n dX8_addLeaf_0 rfl 0 rfl ?_
  refine r_iload_n dX8_addLeaf_1 rfl 1 rfl ?_
  refine r_aload_n dX8_addLeaf_2 rfl 0 rfl ?_
  refine r_getR ck6 dX8_addLeaf_3 flX8_35 rfl k0 ?_
  refine r_getI ck7 dX8_addLeaf_6 flX8_39 rfl k1 ?_
  refine r_sub [0, 2] (ls' := [(0, .ref a0), (2, .long w2)]) rfl ?_
  obtain ⟨e9, hlt, h9⟩ := pf0
  exact r_callV (As := [.int x1, .int (mI M (mR M a0 1) 0)]) (rest := []) (ci := 6) moX8_link dX8_addLeaf_9 mlX8_31 imX8_link seX8_link k0 rfl hlt (Nat.le_of_ble_eq_true rfl) h9
theorem gX8_addLeaf_12 {d : Nat} {Q : Option Value → Mem → Prop} {M : Mem} {a0 : Nat} {w2 : Int64} (k0 : mK M a0 = 10) (k1 : mK M (mR M a0 1) = 11) (pf0 : ClD d mdX9_add [.ref (mR M a0 1), .long w2] M (fun r1 M1 => Wp d mdX8_addLeaf 20 [] (r1.toList ++ []) M1 Q)) : Wp d mdX8_addLeaf 12 [(0, .ref a0), (2, .long w2)] [] M Q := by
  refine r_aload_n dX8_addLeaf_12 rfl 0 rfl ?_
  refine r_getR ck6 dX8_addLeaf_13 flX8_35 rfl k0 ?_
  refine r_lload_n dX8_addLeaf_16 rfl 1 rfl ?_
  refine r_sub [] (ls' := []) rfl ?_
  obtain ⟨e9, hlt, h9⟩ := pf0
  exact r_callV (As := [.long w2]) (rest := []) (ci := 7) moX9_add dX8_addLeaf_17 mlX8_84 imX9_add seX9_add k1 rfl hlt (Nat.le_of_ble_eq_true rfl) h9
theorem gX8_addLeaf_20 {d : Nat} {Q : Option Value → Mem → Prop} {M : Mem}  (pq0 : Q none M) : Wp d mdX8_addLeaf 20 [] [] M Q := by
  exact r_ret none dX8_addLeaf_20 rfl pq0
-- X8_link
theorem gX8_link_0 {d : Nat} {Q : Option Value → Mem → Prop} {M : Mem} {a0 : Nat} {x1 : Int32} {x2 : Int32} (k0 : mK M a0 = 10) (k1 : mK M (mR M a0 8) = 1) (pq0 : x1 < 0 → Q none M) (pq1 : ¬ x1 < 0 → (nI (mN M (mR M a0 8))) ≤ x1 → Q none M) (pb2 : ¬ x1 < 0 → ¬ (nI (mN M (mR M a0 8))) ≤ x1 → vp_in x1 (mN M (mR M a0 8))) (pq3 : ¬ x1 < 0 → ¬ (nI (mN M (mR M a0 8))) ≤ x1 → Q none (sI M (mR M a0 8) x1.toNatClampNeg x2)) : Wp d mdX8_link 0 [(0, .ref a0), (1, .int x1), (2, .int x2)] [] M Q := by
  refine r_iload_n dX8_link_0 rfl 1 rfl ?_
  refine r_if_lt (tgt := 20) dX8_link_1 (by decide) (fun c0 => ?_) (fun c0 => ?_)
  · skip
    exact r_ret none dX8_link_20 rfl (pq0 c0)
  · skip
    refine r_iload_n dX8_link_4 rfl 1 rfl ?_
    refine r_aload_n dX8_link_5 rfl 0 rfl ?_
    refine r_getR ck6 dX8_link_6 flX8_9 rfl k0 ?_
    refine r_alen dX8_link_9 (Or.inl k1) ?_
    refine r_icmp_ge (tgt := 20) dX8_link_10 (by decide) (fun c1 => ?_) (fun c1 => ?_)
    · skip
      exact r_ret none dX8_link_20 rfl (pq1 c0 c1)
    · skip
      refine r_aload_n dX8_link_13 rfl 0 rfl ?_
      refine r_getR ck6 dX8_link_14 flX8_9 rfl k0 ?_
      refine r_iload_n dX8_link_17 rfl 1 rfl ?_
      refine r_iload_n dX8_link_18 rfl 2 rfl ?_
      refine r_iast dX8_link_19 k1 (pb2 c0 c1) ?_
      exact r_ret none dX8_link_20 rfl (pq3 c0 c1)
-- X8_linkAt
theorem gX8_linkAt_0 {d : Nat} {Q : Option Value → Mem → Prop} {M : Mem} {a0 : Nat} {x1 : Int32} (k0 : mK M a0 = 10) (k1 : mK M (mR M a0 8) = 1) (pq0 : x1 < 0 → Q (some (.int (-1 : Int32))) M) (pb1 : ¬ x1 < 0 → x1 < (nI (mN M (mR M a0 8))) → vp_in x1 (mN M (mR M a0 8))) (pq2 : ¬ x1 < 0 → x1 < (nI (mN M (mR M a0 8))) → Q (some (.int (mI M (mR M a0 8) x1.toNatClampNeg))) M) (pq3 : ¬ x1 < 0 → ¬ x1 < (nI (mN M (mR M a0 8))) → Q (some (.int (-1 : Int32))) M) : Wp d mdX8_linkAt 0 [(0, .ref a0), (1, .int x1)] [] M Q := by
  refine r_iload_n dX8_linkAt_0 rfl 1 rfl ?_
  refine r_if_lt (tgt := 13) dX8_linkAt_1 (by decide) (fun c0 => ?_) (fun c0 => ?_)
  · skip
    refine r_iconst (v := (-1)) dX8_linkAt_13 rfl ?_
    refine r_goto (tgt := 23) dX8_linkAt_14 (by decide) ?_
    exact r_ret (some (.int (-1 : Int32))) dX8_linkAt_23 rfl (pq0 c0)
  · skip
    refine r_iload_n dX8_linkAt_4 rfl 1 rfl ?_
    refine r_aload_n dX8_linkAt_5 rfl 0 rfl ?_
    refine r_getR ck6 dX8_linkAt_6 flX8_9 rfl k0 ?_
    refine r_alen dX8_linkAt_9 (Or.inl k1) ?_
    refine r_icmp_lt (tgt := 17) dX8_linkAt_10 (by decide) (fun c1 => ?_) (fun c1 => ?_)
    · skip
      refine r_aload_n dX8_linkAt_17 rfl 0 rfl ?_
      refine r_getR ck6 dX8_linkAt_18 flX8_9 rfl k0 ?_
      refine r_iload_n dX8_linkAt_21 rfl 1 rfl ?_
      refine r_iald dX8_linkAt_22 k1 (pb1 c0 c1) ?_
      exact r_ret (some (.int (mI M (mR M a0 8) x1.toNatClampNeg))) dX8_linkAt_23 rfl (pq2 c0 c1)
    · skip
      refine r_iconst (v := (-1)) dX8_linkAt_13 rfl ?_
      refine r_goto (tgt := 23) dX8_linkAt_14 (by decide) ?_
      exact r_ret (some (.int (-1 : Int32))) dX8_linkAt_23 rfl (pq3 c0 c1)
-- X8_descend
theorem gX8_descend_0 {d : Nat} {Q : Option Value → Mem → Prop} {M : Mem} {a0 : Nat} {w1 : Int64} (k0 : mK M a0 = 10) (pw0 : Wp d mdX8_descend 8 [(0, .ref a0), (1, .long w1), (3, .int (nI 100))] [] (sI M a0 7 (nI 0)) Q) : Wp d mdX8_descend 0 [(0, .ref a0), (1, .long w1)] [] M Q := by
  refine r_bipush (v := (nI 100)) dX8_descend_0 rfl ?_
  refine r_istore_n dX8_descend_2 rfl (by decide) (ls' := [(3, .int (nI 100)), (0, .ref a0), (1, .long w1)]) rfl ?_
  refine r_aload_n dX8_descend_3 rfl 1 rfl ?_
  refine r_iconst (v := (nI 0)) dX8_descend_4 rfl ?_
  refine r_putI ck6 dX8_descend_5 flX8_130 rfl (Or.inl rfl) k0 ?_
  refine r_sub [1, 2, 0] (ls' := [(0, .ref a0), (1, .long w1), (3, .int (nI 100))]) rfl ?_
  exact pw0
theorem gX8_descend_8 {d : Nat} {Q : Option Value → Mem → Prop} {M : Mem} {a0 : Nat} {w1 : Int64} {x3 : Int32} (k0 : mK M a0 = 10) (k1 : mK M (mR M a0 8) = 1) (k2 : mK M (mR M a0 2) = 11) (pq0 : x3 < (nI 100) → Q (some (.int x3)) M) (pq1 : ¬ x3 < (nI 100) → (nI (mN M (mR M a0 8))) ≤ (mI M a0 7) → Q (some (.int x3)) M) (pf2 : ¬ x3 < (nI 100) → ¬ (nI (mN M (mR M a0 8))) ≤ (mI M a0 7) → ClD d mdX9_get [.ref (mR M a0 2), .int (x3 - (nI 100))] M (fun r1 M1 => Wp d mdX8_descend 51 [(0, .ref a0), (1, .long w1)] (r1.toList ++ [.long w1, .ref (mR M a0 0), .int ((x3 - (nI 100)) * (nI 4)), .ref a0]) M1 Q)) : Wp d mdX8_descend 8 [(0, .ref a0), (1, .long w1), (3, .int x3)] [] M Q := by
  refine r_iload_n dX8_descend_8 rfl 2 rfl ?_
  refine r_bipush (v := (nI 100)) dX8_descend_9 rfl ?_
  refine r_icmp_lt (tgt := 83) dX8_descend_11 (by decide) (fun c0 => ?_) (fun c0 => ?_)
  · skip
    refine r_iload_n dX8_descend_83 rfl 2 rfl ?_
    exact r_ret (some (.int x3)) dX8_descend_84 rfl (pq0 c0)
  · skip
    refine r_aload_n dX8_descend_14 rfl 0 rfl ?_
    refine r_getI ck6 dX8_descend_15 flX8_130 rfl k0 ?_
    refine r_aload_n dX8_descend_18 rfl 0 rfl ?_
    refine r_getR ck6 dX8_descend_19 flX8_9 rfl k0 ?_
    refine r_alen dX8_descend_22 (Or.inl k1) ?_
    refine r_icmp_ge (tgt := 83) dX8_descend_23 (by decide) (fun c1 => ?_) (fun c1 => ?_)
    · skip
      refine r_iload_n dX8_descend_83 rfl 2 rfl ?_
      exact r_ret (some (.int x3)) dX8_descend_84 rfl (pq1 c0 c1)
    · skip
      refine r_iload_n dX8_descend_26 rfl 2 rfl ?_
      refine r_bipush (v := (nI 100)) dX8_descend_27 rfl ?_
      refine r_isub dX8_descend_29 ?_
      refine r_istore dX8_descend_30 (by decide) (ls' := [(4, .int (x3 - (nI 100))), (0, .ref a0), (1, .long w1), (3, .int x3)]) rfl ?_
      refine r_aload_n dX8_descend_32 rfl 1 rfl ?_
      refine r_iload dX8_descend_33 0 rfl ?_
      refine r_iconst (v := (nI 4)) dX8_descend_35 rfl ?_
      refine r_imul dX8_descend_36 ?_
      refine r_aload_n dX8_descend_37 rfl 1 rfl ?_
      refine r_getR ck6 dX8_descend_38 flX8_21 rfl k0 ?_
      refine r_lload_n dX8_descend_41 rfl 2 rfl ?_
      refine r_aload_n dX8_descend_42 rfl 1 rfl ?_
      refine r_getR ck6 dX8_descend_43 flX8_123 rfl k0 ?_
      refine r_iload dX8_descend_46 0 rfl ?_
      refine r_sub [1, 2] (ls' := [(0, .ref a0), (1, .long w1)]) rfl ?_
      obtain ⟨e9, hlt, h9⟩ := (pf2 c0 c1)
      exact r_callV (As := [.int (x3 - (nI 100))]) (rest := [.long w1, .ref (mR M a0 0), .int ((x3 - (nI 100)) * (nI 4)), .ref a0]) (ci := 7) moX9_get dX8_descend_48 mlX8_54 imX9_get seX9_get k2 rfl hlt (Nat.le_of_ble_eq_true rfl) h9
theorem gX8_descend_51 {d : Nat} {Q : Option Value → Mem → Prop} {M : Mem} {a0 : Nat} {w1 : Int64} {sw0 : Int64} {sw1 : Int64} {sa2 : Nat} {sx3 : Int32} {sa4 : Nat}  (pf0 : ClD d mdX1_join [.long sw1, .long sw0] M (fun r1 M1 => Wp d mdX8_descend 54 [(0, .ref a0), (1, .long w1)] (r1.toList ++ [.ref sa2, .int sx3, .ref sa4]) M1 Q)) : Wp d mdX8_descend 51 [(0, .ref a0), (1, .long w1)] [.long sw0, .long sw1, .ref sa2, .int sx3, .ref sa4] M Q := by
  obtain ⟨e9, hlt, h9⟩ := pf0
  exact r_callS (As := [.long sw1, .long sw0]) (rest := [.ref sa2, .int sx3, .ref sa4]) moX1_join dX8_descend_51 mlX8_126 saX1_join rfl hlt (Nat.le_of_ble_eq_true rfl) h9
theorem gX8_descend_54 {d : Nat} {Q : Option Value → Mem → Prop} {M : Mem} {a0 : Nat} {w1 : Int64} {sw0 : Int64} {sa1 : Nat} {sx2 : Int32} {sa3 : Nat} (k0 : mK M sa1 = 4) (pf0 : ClD d mdX0_ask [.ref sa1, .long sw0] M (fun r1 M1 => Wp d mdX8_descend 57 [(0, .ref a0), (1, .long w1)] (r1.toList ++ [.int sx2, .ref sa3]) M1 Q)) : Wp d mdX8_descend 54 [(0, .ref a0), (1, .long w1)] [.long sw0, .ref sa1, .int sx2, .ref sa3] M Q := by
  obtain ⟨e9, hlt, h9⟩ := pf0
  exact r_callV (As := [.long sw0]) (rest := [.int sx2, .ref sa3]) (ci := 0) moX0_ask dX8_descend_54 mlX8_25 imX0_ask seX0_ask k0 rfl hlt (Nat.le_of_ble_eq_true rfl) h9
theorem gX8_descend_57 {d : Nat} {Q : Option Value → Mem → Prop} {M : Mem} {a0 : Nat} {w1 : Int64} {sx0 : Int32} {sx1 : Int32} {sa2 : Nat} (k0 : mK M sa2 = 10) (k1 : mK M a0 = 10) (pf0 : ClD d mdX8_linkAt [.ref a0, .int (mI (sI M sa2 9 (sx1 + sx0)) a0 9)] (sI M sa2 9 (sx1 + sx0)) (fun r1 M1 => Wp d mdX8_descend 69 [(0, .ref a0), (1, .long w1)] (r1.toList ++ []) M1 Q)) : Wp d mdX8_descend 57 [(0, .ref a0), (1, .long w1)] [.int sx0, .int sx1, .ref sa2] M Q := by
  refine r_iadd dX8_descend_57 ?_
  refine r_putI ck6 dX8_descend_58 flX8_67 rfl (Or.inl rfl) k0 ?_
  refine r_aload_n dX8_descend_61 rfl 0 rfl ?_
  refine r_aload_n dX8_descend_62 rfl 0 rfl ?_
  refine r_getI ck6 dX8_descend_63 flX8_67 rfl k1 ?_
  obtain ⟨e9, hlt, h9⟩ := pf0
  exact r_callV (As := [.int (mI (sI M sa2 9 (sx1 + sx0)) a0 9)]) (rest := []) (ci := 6) moX8_linkAt dX8_descend_66 mlX8_133 imX8_linkAt seX8_linkAt k1 rfl hlt (Nat.le_of_ble_eq_true rfl) h9
theorem gX8_descend_69 {d : Nat} {Q : Option Value → Mem → Prop} {M : Mem} {a0 : Nat} {w1 : Int64} {sx0 : Int32} (k0 : mK M a0 = 10) (pw0 : Wp d mdX8_descend 8 [(0, .ref a0), (1, .long w1), (3, .int sx0)] [] (sI M a0 7 ((mI M a0 7) + (nI 1))) Q) : Wp d mdX8_descend 69 [(0, .ref a0), (1, .long w1)] [.int sx0] M Q := by
  refine r_istore_n dX8_descend_69 rfl (by decide) (ls' := [(3, .int sx0), (0, .ref a0), (1, .long w1)]) rfl ?_
  refine r_aload_n dX8_descend_70 rfl 1 rfl ?_
  refine r_dup dX8_descend_71 rfl ?_
  refine r_getI ck6 dX8_descend_72 flX8_130 rfl k0 ?_
  refine r_iconst (v := (nI 1)) dX8_descend_75 rfl ?_
  refine r_iadd dX8_descend_76 ?_
  refine r_putI ck6 dX8_descend_77 flX8_130 rfl (Or.inl rfl) k0 ?_
  refine r_goto (tgt := 8) dX8_descend_80 (by decide) ?_
  refine r_sub [1, 2, 0] (ls' := [(0, .ref a0), (1, .long w1), (3, .int sx0)]) rfl ?_
  exact pw0
-- X9_init
theorem gX9_init_0 {d : Nat} {Q : Option Value → Mem → Prop} {M : Mem} {a0 : Nat} {x1 : Int32} (hd1 : 1 ≤ d) (k0 : mK M a0 = 11) (pw0 : 0 ≤ x1 → Wp d mdX9_init 14 [] [.int x1, .ref a0] M Q) (pw1 : ¬ 0 ≤ x1 → Wp d mdX9_init 14 [] [.int (nI 0), .ref a0] M Q) : Wp d mdX9_init 0 [(0, .ref a0), (1, .int x1)] [] M Q := by
  refine r_aload_n dX9_init_0 rfl 0 rfl ?_
  refine r_objI (ci := 7) dX9_init_1 mlX9_3 obI_i obI_c k0 hd1 (Nat.le_of_ble_eq_true rfl) ?_
  refine r_aload_n dX9_init_4 rfl 0 rfl ?_
  refine r_iload_n dX9_init_5 rfl 1 rfl ?_
  refine r_if_ge (tgt := 13) dX9_init_6 (by decide) (fun c0 => ?_) (fun c0 => ?_)
  · skip
    refine r_iload_n dX9_init_13 rfl 1 rfl ?_
    refine r_sub [] (ls' := []) rfl ?_
    exact (pw0 c0)
  · skip
    refine r_iconst (v := (nI 0)) dX9_init_9 rfl ?_
    refine r_goto (tgt := 14) dX9_init_10 (by decide) ?_
    refine r_sub [] (ls' := []) rfl ?_
    exact (pw1 c0)
theorem gX9_init_14 {d : Nat} {Q : Option Value → Mem → Prop} {M : Mem} {sx0 : Int32} {sa1 : Nat}  (pg0 : ¬ sx0 < 0) (pg1 : sx0.toNatClampNeg ≤ 100000) (pw2 : Wp d mdX9_init 16 [] [.ref (mC M + 2), .ref sa1] (nwC M 2 sx0.toNatClampNeg) Q) : Wp d mdX9_init 14 [] [.int sx0, .ref sa1] M Q := by
  refine r_newa dX9_init_14 (Or.inr (Or.inl rfl)) ac_long pg0 (N := sx0.toNatClampNeg) rfl pg1 ?_
  exact pw2
theorem gX9_init_16 {d : Nat} {Q : Option Value → Mem → Prop} {M : Mem} {sa0 : Nat} {sa1 : Nat} (k0 : mK M sa1 = 11) (pq0 : Q none (sR M sa1 1 sa0)) : Wp d mdX9_init 16 [] [.ref sa0, .ref sa1] M Q := by
  refine r_putR ck7 dX9_init_16 flX9_9 rfl rfl (Or.inr ⟨rfl, rfl, rfl⟩) k0 ?_
  exact r_ret none dX9_init_19 rfl pq0
-- X9_clear
theorem gX9_clear_0 {d : Nat} {Q : Option Value → Mem → Prop} {M : Mem} {a0 : Nat} (k0 : mK M a0 = 11) (pq0 : Q none (sI M a0 0 (nI 0))) : Wp d mdX9_clear 0 [(0, .ref a0)] [] M Q := by
  refine r_aload_n dX9_clear_0 rfl 0 rfl ?_
  refine r_iconst (v := (nI 0)) dX9_clear_1 rfl ?_
  refine r_putI ck7 dX9_clear_2 flX9_15 rfl (Or.inl rfl) k0 ?_
  exact r_ret none dX9_clear_5 rfl pq0
-- X9_add
theorem gX9_add_0 {d : Nat} {Q : Option Value → Mem → Prop} {M : Mem} {a0 : Nat} {w1 : Int64} (k0 : mK M a0 = 11) (k1 : mK M (mR M a0 1) = 2) (pq0 : (nI (mN M (mR M a0 1))) ≤ (mI M a0 0) → Q none M) (pb1 : ¬ (nI (mN M (mR M a0 1))) ≤ (mI M a0 0) → vp_in (mI M a0 0) (mN (sI M a0 0 ((mI M a0 0) + (nI 1))) (mR M a0 1))) (pq2 : ¬ (nI (mN M (mR M a0 1))) ≤ (mI M a0 0) → Q none (sJ (sI M a0 0 ((mI M a0 0) + (nI 1))) (mR M a0 1) (mI M a0 0).toNatClampNeg w1)) : Wp d mdX9_add 0 [(0, .ref a0), (1, .long w1)] [] M Q := by
  refine r_aload_n dX9_add_0 rfl 0 rfl ?_
  refine r_getI ck7 dX9_add_1 flX9_15 rfl k0 ?_
  refine r_aload_n dX9_add_4 rfl 0 rfl ?_
  refine r_getR ck7 dX9_add_5 flX9_9 rfl k0 ?_
  refine r_alen dX9_add_8 (Or.inr (Or.inl k1)) ?_
  refine r_icmp_ge (tgt := 29) dX9_add_9 (by decide) (fun c0 => ?_) (fun c0 => ?_)
  · skip
    exact r_ret none dX9_add_29 rfl (pq0 c0)
  · skip
    refine r_aload_n dX9_add_12 rfl 0 rfl ?_
    refine r_getR ck7 dX9_add_13 flX9_9 rfl k0 ?_
    refine r_aload_n dX9_add_16 rfl 0 rfl ?_
    refine r_dup dX9_add_17 rfl ?_
    refine r_getI ck7 dX9_add_18 flX9_15 rfl k0 ?_
    refine r_dup_x1 dX9_add_21 rfl rfl ?_
    refine r_iconst (v := (nI 1)) dX9_add_22 rfl ?_
    refine r_iadd dX9_add_23 ?_
    refine r_putI ck7 dX9_add_24 flX9_15 rfl (Or.inl rfl) k0 ?_
    refine r_lload_n dX9_add_27 rfl 1 rfl ?_
    refine r_last dX9_add_28 k1 (pb1 c0) ?_
    exact r_ret none dX9_add_29 rfl (pq2 c0)
-- X9_get
theorem gX9_get_0 {d : Nat} {Q : Option Value → Mem → Prop} {M : Mem} {a0 : Nat} {x1 : Int32} (k0 : mK M a0 = 11) (k1 : mK M (mR M a0 1) = 2) (pq0 : x1 < 0 → Q (some (.long (-1 : Int64))) M) (pq1 : ¬ x1 < 0 → (mI M a0 0) ≤ x1 → Q (some (.long (-1 : Int64))) M) (pb2 : ¬ x1 < 0 → ¬ (mI M a0 0) ≤ x1 → x1 < (nI (mN M (mR M a0 1))) → vp_in x1 (mN M (mR M a0 1))) (pq3 : ¬ x1 < 0 → ¬ (mI M a0 0) ≤ x1 → x1 < (nI (mN M (mR M a0 1))) → Q (some (.long (mJ M (mR M a0 1) x1.toNatClampNeg))) M) (pq4 : ¬ x1 < 0 → ¬ (mI M a0 0) ≤ x1 → ¬ x1 < (nI (mN M (mR M a0 1))) → Q (some (.long (-1 : Int64))) M) : Wp d mdX9_get 0 [(0, .ref a0), (1, .int x1)] [] M Q := by
  refine r_iload_n dX9_get_0 rfl 1 rfl ?_
  refine r_if_lt (tgt := 21) dX9_get_1 (by decide) (fun c0 => ?_) (fun c0 => ?_)
  · skip
    refine r_ldc2 dX9_get_21 kwX9_19 ?_
    refine r_goto (tgt := 33) dX9_get_24 (by decide) ?_
    exact r_ret (some (.long (-1 : Int64))) dX9_get_33 rfl (pq0 c0)
  · skip
    refine r_iload_n dX9_get_4 rfl 1 rfl ?_
    refine r_aload_n dX9_get_5 rfl 0 rfl ?_
    refine r_getI ck7 dX9_get_6 flX9_15 rfl k0 ?_
    refine r_icmp_ge (tgt := 21) dX9_get_9 (by decide) (fun c1 => ?_) (fun c1 => ?_)
    · skip
      refine r_ldc2 dX9_get_21 kwX9_19 ?_
      refine r_goto (tgt := 33) dX9_get_24 (by decide) ?_
      exact r_ret (some (.long (-1 : Int64))) dX9_get_33 rfl (pq1 c0 c1)
    · skip
      refine r_iload_n dX9_get_12 rfl 1 rfl ?_
      refine r_aload_n dX9_get_13 rfl 0 rfl ?_
      refine r_getR ck7 dX9_get_14 flX9_9 rfl k0 ?_
      refine r_alen dX9_get_17 (Or.inr (Or.inl k1)) ?_
      refine r_icmp_lt (tgt := 27) dX9_get_18 (by decide) (fun c2 => ?_) (fun c2 => ?_)
      · skip
        refine r_aload_n dX9_get_27 rfl 0 rfl ?_
        refine r_getR ck7 dX9_get_28 flX9_9 rfl k0 ?_
        refine r_iload_n dX9_get_31 rfl 1 rfl ?_
        refine r_lald dX9_get_32 k1 (pb2 c0 c1 c2) ?_
        exact r_ret (some (.long (mJ M (mR M a0 1) x1.toNatClampNeg))) dX9_get_33 rfl (pq3 c0 c1 c2)
      · skip
        refine r_ldc2 dX9_get_21 kwX9_19 ?_
        refine r_goto (tgt := 33) dX9_get_24 (by decide) ?_
        exact r_ret (some (.long (-1 : Int64))) dX9_get_33 rfl (pq4 c0 c1 c2)
-- X9_last
theorem gX9_last_0 {d : Nat} {Q : Option Value → Mem → Prop} {M : Mem} {a0 : Nat} (k0 : mK M a0 = 11) (pf0 : ClD d mdX9_get [.ref a0, .int ((mI M a0 0) - (nI 1))] M (fun r1 M1 => Wp d mdX9_last 10 [] (r1.toList ++ []) M1 Q)) : Wp d mdX9_last 0 [(0, .ref a0)] [] M Q := by
  refine r_aload_n dX9_last_0 rfl 0 rfl ?_
  refine r_aload_n dX9_last_1 rfl 0 rfl ?_
  refine r_getI ck7 dX9_last_2 flX9_15 rfl k0 ?_
  refine r_iconst (v := (nI 1)) dX9_last_5 rfl ?_
  refine r_isub dX9_last_6 ?_
  refine r_sub [] (ls' := []) rfl ?_
  obtain ⟨e9, hlt, h9⟩ := pf0
  exact r_callV (As := [.int ((mI M a0 0) - (nI 1))]) (rest := []) (ci := 7) moX9_get dX9_last_7 mlX9_21 imX9_get seX9_get k0 rfl hlt (Nat.le_of_ble_eq_true rfl) h9
theorem gX9_last_10 {d : Nat} {Q : Option Value → Mem → Prop} {M : Mem} {sw0 : Int64}  (pq0 : Q (some (.long sw0)) M) : Wp d mdX9_last 10 [] [.long sw0] M Q := by
  exact r_ret (some (.long sw0)) dX9_last_10 rfl pq0
-- X9_indexOf
theorem gX9_indexOf_0 {d : Nat} {Q : Option Value → Mem → Prop} {M : Mem} {a0 : Nat} {w1 : Int64}  (pw0 : Wp d mdX9_indexOf 2 [(0, .ref a0), (1, .long w1), (3, .int (nI 0))] [] M Q) : Wp d mdX9_indexOf 0 [(0, .ref a0), (1, .long w1)] [] M Q := by
  refine r_iconst (v := (nI 0)) dX9_indexOf_0 rfl ?_
  refine r_istore_n dX9_indexOf_1 rfl (by decide) (ls' := [(3, .int (nI 0)), (0, .ref a0), (1, .long w1)]) rfl ?_
  refine r_sub [1, 2, 0] (ls' := [(0, .ref a0), (1, .long w1), (3, .int (nI 0))]) rfl ?_
  exact pw0
theorem gX9_indexOf_2 {d : Nat} {Q : Option Value → Mem → Prop} {M : Mem} {a0 : Nat} {w1 : Int64} {x3 : Int32} (k0 : mK M a0 = 11) (k1 : mK M (mR M a0 1) = 2) (pq0 : (mI M a0 0) ≤ x3 → Q (some (.int (-1 : Int32))) M) (pq1 : ¬ (mI M a0 0) ≤ x3 → (nI (mN M (mR M a0 1))) ≤ x3 → Q (some (.int (-1 : Int32))) M) (pb2 : ¬ (mI M a0 0) ≤ x3 → ¬ (nI (mN M (mR M a0 1))) ≤ x3 → vp_in x3 (mN M (mR M a0 1))) (pw3 : ¬ (mI M a0 0) ≤ x3 → ¬ (nI (mN M (mR M a0 1))) ≤ x3 → ¬ (mJ M (mR M a0 1) x3.toNatClampNeg) = w1 → Wp d mdX9_indexOf 2 [(0, .ref a0), (1, .long w1), (3, .int (x3 + (nI 1)))] [] M Q) (pq4 : ¬ (mI M a0 0) ≤ x3 → ¬ (nI (mN M (mR M a0 1))) ≤ x3 → (mJ M (mR M a0 1) x3.toNatClampNeg) = w1 → Q (some (.int x3)) M) : Wp d mdX9_indexOf 2 [(0, .ref a0), (1, .long w1), (3, .int x3)] [] M Q := by
  refine r_iload_n dX9_indexOf_2 rfl 2 rfl ?_
  refine r_aload_n dX9_indexOf_3 rfl 0 rfl ?_
  refine r_getI ck7 dX9_indexOf_4 flX9_15 rfl k0 ?_
  refine r_icmp_ge (tgt := 38) dX9_indexOf_7 (by decide) (fun c0 => ?_) (fun c0 => ?_)
  · skip
    refine r_iconst (v := (-1)) dX9_indexOf_38 rfl ?_
    exact r_ret (some (.int (-1 : Int32))) dX9_indexOf_39 rfl (pq0 c0)
  · skip
    refine r_iload_n dX9_indexOf_10 rfl 2 rfl ?_
    refine r_aload_n dX9_indexOf_11 rfl 0 rfl ?_
    refine r_getR ck7 dX9_indexOf_12 flX9_9 rfl k0 ?_
    refine r_alen dX9_indexOf_15 (Or.inr (Or.inl k1)) ?_
    refine r_icmp_ge (tgt := 38) dX9_indexOf_16 (by decide) (fun c1 => ?_) (fun c1 => ?_)
    · skip
      refine r_iconst (v := (-1)) dX9_indexOf_38 rfl ?_
      exact r_ret (some (.int (-1 : Int32))) dX9_indexOf_39 rfl (pq1 c0 c1)
    · skip
      refine r_aload_n dX9_indexOf_19 rfl 0 rfl ?_
      refine r_getR ck7 dX9_indexOf_20 flX9_9 rfl k0 ?_
      refine r_iload_n dX9_indexOf_23 rfl 2 rfl ?_
      refine r_lald dX9_indexOf_24 k1 (pb2 c0 c1) ?_
      refine r_lload_n dX9_indexOf_25 rfl 1 rfl ?_
      refine r_lif_ne (tgt := 32) dX9_indexOf_26 dX9_indexOf_27 (by decide) (fun c2 => ?_) (fun c2 => ?_)
      · skip
        refine r_iinc dX9_indexOf_32 2 rfl (v := x3 + (nI 1)) rfl (by decide) (ls' := [(3, .int (x3 + (nI 1))), (0, .ref a0), (1, .long w1)]) rfl ?_
        refine r_goto (tgt := 2) dX9_indexOf_35 (by decide) ?_
        refine r_sub [1, 2, 0] (ls' := [(0, .ref a0), (1, .long w1), (3, .int (x3 + (nI 1)))]) rfl ?_
        exact (pw3 c0 c1 c2)
      · skip
        refine r_iload_n dX9_indexOf_30 rfl 2 rfl ?_
        exact r_ret (some (.int x3)) dX9_indexOf_31 rfl (pq4 c0 c1 c2)
-- X9_has
theorem gX9_has_0 {d : Nat} {Q : Option Value → Mem → Prop} {M : Mem} {a0 : Nat} {w1 : Int64} (k0 : mK M a0 = 11) (pf0 : ClD d mdX9_indexOf [.ref a0, .long w1] M (fun r1 M1 => Wp d mdX9_has 5 [] (r1.toList ++ []) M1 Q)) : Wp d mdX9_has 0 [(0, .ref a0), (1, .long w1)] [] M Q := by
  refine r_aload_n dX9_has_0 rfl 0 rfl ?_
  refine r_lload_n dX9_has_1 rfl 1 rfl ?_
  refine r_sub [] (ls' := []) rfl ?_
  obtain ⟨e9, hlt, h9⟩ := pf0
  exact r_callV (As := [.long w1]) (rest := []) (ci := 7) moX9_indexOf dX9_has_2 mlX9_25 imX9_indexOf seX9_indexOf k0 rfl hlt (Nat.le_of_ble_eq_true rfl) h9
theorem gX9_has_5 {d : Nat} {Q : Option Value → Mem → Prop} {M : Mem} {sx0 : Int32}  (pq0 : sx0 = (-1 : Int32) → Q (some (.int (nI 0))) M) (pq1 : ¬ sx0 = (-1 : Int32) → Q (some (.int (nI 1))) M) : Wp d mdX9_has 5 [] [.int sx0] M Q := by
  refine r_iconst (v := (-1)) dX9_has_5 rfl ?_
  refine r_icmp_eq (tgt := 13) dX9_has_6 (by decide) (fun c0 => ?_) (fun c0 => ?_)
  · skip
    refine r_iconst (v := (nI 0)) dX9_has_13 rfl ?_
    exact r_ret (some (.int (nI 0))) dX9_has_14 rfl (pq0 c0)
  · skip
    refine r_iconst (v := (nI 1)) dX9_has_9 rfl ?_
    refine r_goto (tgt := 14) dX9_has_10 (by decide) ?_
    exact r_ret (some (.int (nI 1))) dX9_has_14 rfl (pq1 c0)
-- X10_init
theorem gX10_init_0 {d : Nat} {Q : Option Value → Mem → Prop} {M : Mem} {a0 : Nat} (hd1 : 1 ≤ d) (k0 : mK M a0 = 12) (pw0 : Wp d mdX10_init 10 [] [.ref (mC M + 2), .ref a0] (nwC M 2 256) Q) : Wp d mdX10_init 0 [(0, .ref a0)] [] M Q := by
  refine r_aload_n dX10_init_0 rfl 0 rfl ?_
  refine r_objI (ci := 8) dX10_init_1 mlX10_3 obI_i obI_c k0 hd1 (Nat.le_of_ble_eq_true rfl) ?_
  refine r_aload_n dX10_init_4 rfl 0 rfl ?_
  refine r_sipush (v := (nI 256)) dX10_init_5 rfl ?_
  refine r_newa dX10_init_8 (Or.inr (Or.inl rfl)) ac_long (by decide) (N := 256) (by decide) (by decide) ?_
  refine r_sub [] (ls' := []) rfl ?_
  exact pw0
theorem gX10_init_10 {d : Nat} {Q : Option Value → Mem → Prop} {M : Mem} {sa0 : Nat} {sa1 : Nat} (k0 : mK M sa1 = 12) (pq0 : Q none (sR M sa1 1 sa0)) : Wp d mdX10_init 10 [] [.ref sa0, .ref sa1] M Q := by
  refine r_putR ck8 dX10_init_10 flX10_11 rfl rfl (Or.inl rfl) k0 ?_
  exact r_ret none dX10_init_13 rfl pq0
-- X10_clear
theorem gX10_clear_0 {d : Nat} {Q : Option Value → Mem → Prop} {M : Mem} {a0 : Nat} (k0 : mK M a0 = 12) (pw0 : (mI M a0 0) ≤ 0 → Wp d mdX10_clear 15 [(0, .ref a0)] [] M Q) (pf1 : ¬ (mI M a0 0) ≤ 0 → ClD d mdJ7_fill_d0a16 [.ref (mR M a0 1), .long (lN 0)] M (fun r1 M1 => Wp d mdX10_clear 15 [(0, .ref a0)] (r1.toList ++ []) M1 Q)) : Wp d mdX10_clear 0 [(0, .ref a0)] [] M Q := by
  refine r_aload_n dX10_clear_0 rfl 0 rfl ?_
  refine r_getI ck8 dX10_clear_1 flX10_15 rfl k0 ?_
  refine r_if_le (tgt := 15) dX10_clear_4 (by decide) (fun c0 => ?_) (fun c0 => ?_)
  · skip
    exact (pw0 c0)
  · skip
    refine r_aload_n dX10_clear_7 rfl 0 rfl ?_
    refine r_getR ck8 dX10_clear_8 flX10_11 rfl k0 ?_
    refine r_lconst (v := (lN 0)) dX10_clear_11 rfl ?_
    obtain ⟨e9, hlt, h9⟩ := (pf1 c0)
    exact r_callS (As := [.ref (mR M a0 1), .long (lN 0)]) (rest := []) moJ7_fill_d0a16 dX10_clear_12 mlX10_19 saJ7_fill_d0a16 rfl hlt (Nat.le_of_ble_eq_true rfl) h9
theorem gX10_clear_15 {d : Nat} {Q : Option Value → Mem → Prop} {M : Mem} {a0 : Nat} (k0 : mK M a0 = 12) (pq0 : Q none (sI M a0 0 (nI 0))) : Wp d mdX10_clear 15 [(0, .ref a0)] [] M Q := by
  refine r_aload_n dX10_clear_15 rfl 0 rfl ?_
  refine r_iconst (v := (nI 0)) dX10_clear_16 rfl ?_
  refine r_putI ck8 dX10_clear_17 flX10_15 rfl (Or.inl rfl) k0 ?_
  exact r_ret none dX10_clear_20 rfl pq0
-- X10_places
theorem gX10_places_0 {d : Nat} {Q : Option Value → Mem → Prop} {M : Mem} {a0 : Nat} (k0 : mK M a0 = 12) (k1 : mK M (mR M a0 1) = 2) (pq0 : Q (some (.int (nI (mN M (mR M a0 1))))) M) : Wp d mdX10_places 0 [(0, .ref a0)] [] M Q := by
  refine r_aload_n dX10_places_0 rfl 0 rfl ?_
  refine r_getR ck8 dX10_places_1 flX10_11 rfl k0 ?_
  refine r_alen dX10_places_4 (Or.inr (Or.inl k1)) ?_
  exact r_ret (some (.int (nI (mN M (mR M a0 1))))) dX10_places_5 rfl pq0
-- X10_at
theorem gX10_at_0 {d : Nat} {Q : Option Value → Mem → Prop} {M : Mem} {a0 : Nat} {x1 : Int32} (k0 : mK M a0 = 12) (k1 : mK M (mR M a0 1) = 2) (pq0 : x1 < 0 → Q (some (.long (lN 0))) M) (pb1 : ¬ x1 < 0 → x1 < (nI (mN M (mR M a0 1))) → vp_in x1 (mN M (mR M a0 1))) (pq2 : ¬ x1 < 0 → x1 < (nI (mN M (mR M a0 1))) → Q (some (.long (mJ M (mR M a0 1) x1.toNatClampNeg))) M) (pq3 : ¬ x1 < 0 → ¬ x1 < (nI (mN M (mR M a0 1))) → Q (some (.long (lN 0))) M) : Wp d mdX10_at 0 [(0, .ref a0), (1, .int x1)] [] M Q := by
  refine r_iload_n dX10_at_0 rfl 1 rfl ?_
  refine r_if_lt (tgt := 13) dX10_at_1 (by decide) (fun c0 => ?_) (fun c0 => ?_)
  · skip
    refine r_lconst (v := (lN 0)) dX10_at_13 rfl ?_
    refine r_goto (tgt := 23) dX10_at_14 (by decide) ?_
    exact r_ret (some (.long (lN 0))) dX10_at_23 rfl (pq0 c0)
  · skip
    refine r_iload_n dX10_at_4 rfl 1 rfl ?_
    refine r_aload_n dX10_at_5 rfl 0 rfl ?_
    refine r_getR ck8 dX10_at_6 flX10_11 rfl k0 ?_
    refine r_alen dX10_at_9 (Or.inr (Or.inl k1)) ?_
    refine r_icmp_lt (tgt := 17) dX10_at_10 (by decide) (fun c1 => ?_) (fun c1 => ?_)
    · skip
      refine r_aload_n dX10_at_17 rfl 0 rfl ?_
      refine r_getR ck8 dX10_at_18 flX10_11 rfl k0 ?_
      refine r_iload_n dX10_at_21 rfl 1 rfl ?_
      refine r_lald dX10_at_22 k1 (pb1 c0 c1) ?_
      exact r_ret (some (.long (mJ M (mR M a0 1) x1.toNatClampNeg))) dX10_at_23 rfl (pq2 c0 c1)
    · skip
      refine r_lconst (v := (lN 0)) dX10_at_13 rfl ?_
      refine r_goto (tgt := 23) dX10_at_14 (by decide) ?_
      exact r_ret (some (.long (lN 0))) dX10_at_23 rfl (pq3 c0 c1)
-- X10_has
theorem gX10_has_0 {d : Nat} {Q : Option Value → Mem → Prop} {M : Mem} {a0 : Nat} {w1 : Int64} (k0 : mK M a0 = 12) (pq0 : w1 ≤ (lN 0) → Q (some (.int (nI 0))) M) (pf1 : ¬ w1 ≤ (lN 0) → ClD d mdX10_placeOf [.ref a0, .long w1] M (fun r1 M1 => Wp d mdX10_has 12 [(1, .long w1)] (r1.toList ++ [.ref a0]) M1 Q)) : Wp d mdX10_has 0 [(0, .ref a0), (1, .long w1)] [] M Q := by
  refine r_lload_n dX10_has_0 rfl 1 rfl ?_
  refine r_lconst (v := (lN 0)) dX10_has_1 rfl ?_
  refine r_lif_le (tgt := 24) dX10_has_2 dX10_has_3 (by decide) (fun c0 => ?_) (fun c0 => ?_)
  · skip
    refine r_iconst (v := (nI 0)) dX10_has_24 rfl ?_
    exact r_ret (some (.int (nI 0))) dX10_has_25 rfl (pq0 c0)
  · skip
    refine r_aload_n dX10_has_6 rfl 0 rfl ?_
    refine r_aload_n dX10_has_7 rfl 0 rfl ?_
    refine r_lload_n dX10_has_8 rfl 1 rfl ?_
    refine r_sub [1] (ls' := [(1, .long w1)]) rfl ?_
    obtain ⟨e9, hlt, h9⟩ := (pf1 c0)
    exact r_callV (As := [.long w1]) (rest := [.ref a0]) (ci := 8) moX10_placeOf dX10_has_9 mlX10_25 imX10_placeOf seX10_placeOf k0 rfl hlt (Nat.le_of_ble_eq_true rfl) h9
theorem gX10_has_12 {d : Nat} {Q : Option Value → Mem → Prop} {M : Mem} {w1 : Int64} {sx0 : Int32} {sa1 : Nat} (k0 : mK M sa1 = 12) (pf0 : ClD d mdX10_at [.ref sa1, .int sx0] M (fun r1 M1 => Wp d mdX10_has 15 [(1, .long w1)] (r1.toList ++ []) M1 Q)) : Wp d mdX10_has 12 [(1, .long w1)] [.int sx0, .ref sa1] M Q := by
  obtain ⟨e9, hlt, h9⟩ := pf0
  exact r_callV (As := [.int sx0]) (rest := []) (ci := 8) moX10_at dX10_has_12 mlX10_29 imX10_at seX10_at k0 rfl hlt (Nat.le_of_ble_eq_true rfl) h9
theorem gX10_has_15 {d : Nat} {Q : Option Value → Mem → Prop} {M : Mem} {w1 : Int64} {sw0 : Int64}  (pq0 : ¬ sw0 = w1 → Q (some (.int (nI 0))) M) (pq1 : sw0 = w1 → Q (some (.int (nI 1))) M) : Wp d mdX10_has 15 [(1, .long w1)] [.long sw0] M Q := by
  refine r_lload_n dX10_has_15 rfl 0 rfl ?_
  refine r_lif_ne (tgt := 24) dX10_has_16 dX10_has_17 (by decide) (fun c0 => ?_) (fun c0 => ?_)
  · skip
    refine r_iconst (v := (nI 0)) dX10_has_24 rfl ?_
    exact r_ret (some (.int (nI 0))) dX10_has_25 rfl (pq0 c0)
  · skip
    refine r_iconst (v := (nI 1)) dX10_has_20 rfl ?_
    refine r_goto (tgt := 25) dX10_has_21 (by decide) ?_
    exact r_ret (some (.int (nI 1))) dX10_has_25 rfl (pq1 c0)
-- X10_add
theorem gX10_add_0 {d : Nat} {Q : Option Value → Mem → Prop} {M : Mem} {a0 : Nat} {w1 : Int64} (k0 : mK M a0 = 12) (pf0 : ClD d mdX10_placeOf [.ref a0, .long w1] M (fun r1 M1 => Wp d mdX10_add 5 [(0, .ref a0), (1, .long w1)] (r1.toList ++ []) M1 Q)) : Wp d mdX10_add 0 [(0, .ref a0), (1, .long w1)] [] M Q := by
  refine r_aload_n dX10_add_0 rfl 0 rfl ?_
  refine r_lload_n dX10_add_1 rfl 1 rfl ?_
  obtain ⟨e9, hlt, h9⟩ := pf0
  exact r_callV (As := [.long w1]) (rest := []) (ci := 8) moX10_placeOf dX10_add_2 mlX10_25 imX10_placeOf seX10_placeOf k0 rfl hlt (Nat.le_of_ble_eq_true rfl) h9
theorem gX10_add_5 {d : Nat} {Q : Option Value → Mem → Prop} {M : Mem} {a0 : Nat} {w1 : Int64} {sx0 : Int32} (k0 : mK M a0 = 12) (k1 : mK M (mR M a0 1) = 2) (pq0 : w1 < (lN 1) → Q (some (.int (nI 0))) M) (pq1 : ¬ w1 < (lN 1) → sx0 < 0 → Q (some (.int (nI 0))) M) (pq2 : ¬ w1 < (lN 1) → ¬ sx0 < 0 → (nI (mN M (mR M a0 1))) ≤ sx0 → Q (some (.int (nI 0))) M) (pb3 : ¬ w1 < (lN 1) → ¬ sx0 < 0 → ¬ (nI (mN M (mR M a0 1))) ≤ sx0 → vp_in sx0 (mN M (mR M a0 1))) (pb4 : ¬ w1 < (lN 1) → ¬ sx0 < 0 → ¬ (nI (mN M (mR M a0 1))) ≤ sx0 → ¬ (mJ M (mR M a0 1) sx0.toNatClampNeg) = w1 → vp_in sx0 (mN M (mR M a0 1))) (pq5 : ¬ w1 < (lN 1) → ¬ sx0 < 0 → ¬ (nI (mN M (mR M a0 1))) ≤ sx0 → ¬ (mJ M (mR M a0 1) sx0.toNatClampNeg) = w1 → Q (some (.int (nI 1))) (sI (sJ M (mR M a0 1) sx0.toNatClampNeg w1) a0 0 ((mI (sJ M (mR M a0 1) sx0.toNatClampNeg w1) a0 0) + (nI 1)))) (pq6 : ¬ w1 < (lN 1) → ¬ sx0 < 0 → ¬ (nI (mN M (mR M a0 1))) ≤ sx0 → (mJ M (mR M a0 1) sx0.toNatClampNeg) = w1 → Q (some (.int (nI 0))) M) : Wp d mdX10_add 5 [(0, .ref a0), (1, .long w1)] [.int sx0] M Q := by
  refine r_istore_n dX10_add_5 rfl (by decide) (ls' := [(3, .int sx0), (0, .ref a0), (1, .long w1)]) rfl ?_
  refine r_lload_n dX10_add_6 rfl 2 rfl ?_
  refine r_lconst (v := (lN 1)) dX10_add_7 rfl ?_
  refine r_lif_lt (tgt := 36) dX10_add_8 dX10_add_9 (by decide) (fun c0 => ?_) (fun c0 => ?_)
  · skip
    refine r_iconst (v := (nI 0)) dX10_add_36 rfl ?_
    exact r_ret (some (.int (nI 0))) dX10_add_37 rfl (pq0 c0)
  · skip
    refine r_iload_n dX10_add_12 rfl 0 rfl ?_
    refine r_if_lt (tgt := 36) dX10_add_13 (by decide) (fun c1 => ?_) (fun c1 => ?_)
    · skip
      refine r_iconst (v := (nI 0)) dX10_add_36 rfl ?_
      exact r_ret (some (.int (nI 0))) dX10_add_37 rfl (pq1 c0 c1)
    · skip
      refine r_iload_n dX10_add_16 rfl 0 rfl ?_
      refine r_aload_n dX10_add_17 rfl 1 rfl ?_
      refine r_getR ck8 dX10_add_18 flX10_11 rfl k0 ?_
      refine r_alen dX10_add_21 (Or.inr (Or.inl k1)) ?_
      refine r_icmp_ge (tgt := 36) dX10_add_22 (by decide) (fun c2 => ?_) (fun c2 => ?_)
      · skip
        refine r_iconst (v := (nI 0)) dX10_add_36 rfl ?_
        exact r_ret (some (.int (nI 0))) dX10_add_37 rfl (pq2 c0 c1 c2)
      · skip
        refine r_aload_n dX10_add_25 rfl 1 rfl ?_
        refine r_getR ck8 dX10_add_26 flX10_11 rfl k0 ?_
        refine r_iload_n dX10_add_29 rfl 0 rfl ?_
        refine r_lald dX10_add_30 k1 (pb3 c0 c1 c2) ?_
        refine r_lload_n dX10_add_31 rfl 2 rfl ?_
        refine r_lif_ne (tgt := 38) dX10_add_32 dX10_add_33 (by decide) (fun c3 => ?_) (fun c3 => ?_)
        · skip
          refine r_aload_n dX10_add_38 rfl 1 rfl ?_
          refine r_getR ck8 dX10_add_39 flX10_11 rfl k0 ?_
          refine r_iload_n dX10_add_42 rfl 0 rfl ?_
          refine r_lload_n dX10_add_43 rfl 2 rfl ?_
          refine r_last dX10_add_44 k1 (pb4 c0 c1 c2 c3) ?_
          refine r_aload_n dX10_add_45 rfl 1 rfl ?_
          refine r_dup dX10_add_46 rfl ?_
          refine r_getI ck8 dX10_add_47 flX10_15 rfl k0 ?_
          refine r_iconst (v := (nI 1)) dX10_add_50 rfl ?_
          refine r_iadd dX10_add_51 ?_
          refine r_putI ck8 dX10_add_52 flX10_15 rfl (Or.inl rfl) k0 ?_
          refine r_iconst (v := (nI 1)) dX10_add_55 rfl ?_
          exact r_ret (some (.int (nI 1))) dX10_add_56 rfl (pq5 c0 c1 c2 c3)
        · skip
          refine r_iconst (v := (nI 0)) dX10_add_36 rfl ?_
          exact r_ret (some (.int (nI 0))) dX10_add_37 rfl (pq6 c0 c1 c2 c3)
-- X10_makeRoom
theorem gX10_makeRoom_0 {d : Nat} {Q : Option Value → Mem → Prop} {M : Mem} {a0 : Nat} (k0 : mK M a0 = 12) (k1 : mK M (mR M a0 1) = 2) (pq0 : ((nI 2) * (mI M a0 0)) < (nI (mN M (mR M a0 1))) → Q none M) (pg1 : ¬ ((nI 2) * (mI M a0 0)) < (nI (mN M (mR M a0 1))) → (nI (mN M (mR M a0 1))) < (nI 16384) → ¬ ((nI 2) * (nI (mN M (mR M a0 1)))) < 0) (pg2 : ¬ ((nI 2) * (mI M a0 0)) < (nI (mN M (mR M a0 1))) → (nI (mN M (mR M a0 1))) < (nI 16384) → ((nI 2) * (nI (mN M (mR M a0 1)))).toNatClampNeg ≤ 100000) (pw3 : ¬ ((nI 2) * (mI M a0 0)) < (nI (mN M (mR M a0 1))) → (nI (mN M (mR M a0 1))) < (nI 16384) → Wp d mdX10_makeRoom 38 [(0, .ref a0), (1, .ref (mR M a0 1))] [.ref (mC M + 2), .ref a0] (nwC M 2 (((nI 2) * (nI (mN M (mR M a0 1)))).toNatClampNeg)) Q) (pq4 : ¬ ((nI 2) * (mI M a0 0)) < (nI (mN M (mR M a0 1))) → ¬ (nI (mN M (mR M a0 1))) < (nI 16384) → Q none M) : Wp d mdX10_makeRoom 0 [(0, .ref a0)] [] M Q := by
  refine r_iconst (v := (nI 2)) dX10_makeRoom_0 rfl ?_
  refine r_aload_n dX10_makeRoom_1 rfl 0 rfl ?_
  refine r_getI ck8 dX10_makeRoom_2 flX10_15 rfl k0 ?_
  refine r_imul dX10_makeRoom_5 ?_
  refine r_aload_n dX10_makeRoom_6 rfl 0 rfl ?_
  refine r_getR ck8 dX10_makeRoom_7 flX10_11 rfl k0 ?_
  refine r_alen dX10_makeRoom_10 (Or.inr (Or.inl k1)) ?_
  refine r_icmp_lt (tgt := 25) dX10_makeRoom_11 (by decide) (fun c0 => ?_) (fun c0 => ?_)
  · skip
    exact r_ret none dX10_makeRoom_25 rfl (pq0 c0)
  · skip
    refine r_aload_n dX10_makeRoom_14 rfl 0 rfl ?_
    refine r_getR ck8 dX10_makeRoom_15 flX10_11 rfl k0 ?_
    refine r_alen dX10_makeRoom_18 (Or.inr (Or.inl k1)) ?_
    refine r_sipush (v := (nI 16384)) dX10_makeRoom_19 rfl ?_
    refine r_icmp_lt (tgt := 26) dX10_makeRoom_22 (by decide) (fun c1 => ?_) (fun c1 => ?_)
    · skip
      refine r_aload_n dX10_makeRoom_26 rfl 0 rfl ?_
      refine r_getR ck8 dX10_makeRoom_27 flX10_11 rfl k0 ?_
      refine r_astore_n dX10_makeRoom_30 rfl (by decide) (ls' := [(1, .ref (mR M a0 1)), (0, .ref a0)]) rfl ?_
      refine r_aload_n dX10_makeRoom_31 rfl 1 rfl ?_
      refine r_iconst (v := (nI 2)) dX10_makeRoom_32 rfl ?_
      refine r_aload_n dX10_makeRoom_33 rfl 0 rfl ?_
      refine r_alen dX10_makeRoom_34 (Or.inr (Or.inl k1)) ?_
      refine r_imul dX10_makeRoom_35 ?_
      refine r_newa dX10_makeRoom_36 (Or.inr (Or.inl rfl)) ac_long (pg1 c0 c1) (N := ((nI 2) * (nI (mN M (mR M a0 1)))).toNatClampNeg) rfl (pg2 c0 c1) ?_
      refine r_sub [1, 0] (ls' := [(0, .ref a0), (1, .ref (mR M a0 1))]) rfl ?_
      exact (pw3 c0 c1)
    · skip
      exact r_ret none dX10_makeRoom_25 rfl (pq4 c0 c1)
theorem gX10_makeRoom_38 {d : Nat} {Q : Option Value → Mem → Prop} {M : Mem} {a0 : Nat} {a1 : Nat} {sa0 : Nat} {sa1 : Nat} (k0 : mK M sa1 = 12) (pw0 : Wp d mdX10_makeRoom 43 [(0, .ref a0), (1, .ref a1), (2, .int (nI 0))] [] (sR M sa1 1 sa0) Q) : Wp d mdX10_makeRoom 38 [(0, .ref a0), (1, .ref a1)] [.ref sa0, .ref sa1] M Q := by
  refine r_putR ck8 dX10_makeRoom_38 flX10_11 rfl rfl (Or.inl rfl) k0 ?_
  refine r_iconst (v := (nI 0)) dX10_makeRoom_41 rfl ?_
  refine r_istore_n dX10_makeRoom_42 rfl (by decide) (ls' := [(2, .int (nI 0)), (0, .ref a0), (1, .ref a1)]) rfl ?_
  refine r_sub [1, 2, 0] (ls' := [(0, .ref a0), (1, .ref a1), (2, .int (nI 0))]) rfl ?_
  exact pw0
theorem gX10_makeRoom_43 {d : Nat} {Q : Option Value → Mem → Prop} {M : Mem} {a0 : Nat} {a1 : Nat} {x2 : Int32} (k0 : mK M a1 = 2) (k1 : mK M a0 = 12) (pq0 : (nI (mN M a1)) ≤ x2 → Q none M) (pb1 : ¬ (nI (mN M a1)) ≤ x2 → vp_in x2 (mN M a1)) (pf2 : ¬ (nI (mN M a1)) ≤ x2 → ClD d mdX10_placeOf [.ref a0, .long (mJ M a1 x2.toNatClampNeg)] M (fun r1 M1 => Wp d mdX10_makeRoom 56 [(0, .ref a0), (1, .ref a1), (2, .int x2)] (r1.toList ++ []) M1 Q)) : Wp d mdX10_makeRoom 43 [(0, .ref a0), (1, .ref a1), (2, .int x2)] [] M Q := by
  refine r_iload_n dX10_makeRoom_43 rfl 2 rfl ?_
  refine r_aload_n dX10_makeRoom_44 rfl 1 rfl ?_
  refine r_alen dX10_makeRoom_45 (Or.inr (Or.inl k0)) ?_
  refine r_icmp_ge (tgt := 93) dX10_makeRoom_46 (by decide) (fun c0 => ?_) (fun c0 => ?_)
  · skip
    exact r_ret none dX10_makeRoom_93 rfl (pq0 c0)
  · skip
    refine r_aload_n dX10_makeRoom_49 rfl 0 rfl ?_
    refine r_aload_n dX10_makeRoom_50 rfl 1 rfl ?_
    refine r_iload_n dX10_makeRoom_51 rfl 2 rfl ?_
    refine r_lald dX10_makeRoom_52 k0 (pb1 c0) ?_
    obtain ⟨e9, hlt, h9⟩ := (pf2 c0)
    exact r_callV (As := [.long (mJ M a1 x2.toNatClampNeg)]) (rest := []) (ci := 8) moX10_placeOf dX10_makeRoom_53 mlX10_25 imX10_placeOf seX10_placeOf k1 rfl hlt (Nat.le_of_ble_eq_true rfl) h9
theorem gX10_makeRoom_56 {d : Nat} {Q : Option Value → Mem → Prop} {M : Mem} {a0 : Nat} {a1 : Nat} {x2 : Int32} {sx0 : Int32} (k0 : mK M a1 = 2) (k1 : mK M a0 = 12) (k2 : mK M (mR M a0 1) = 2) (pb0 : vp_in x2 (mN M a1)) (pw1 : (mJ M a1 x2.toNatClampNeg) = (lN 0) → Wp d mdX10_makeRoom 43 [(0, .ref a0), (1, .ref a1), (2, .int (x2 + (nI 1)))] [] M Q) (pw2 : ¬ (mJ M a1 x2.toNatClampNeg) = (lN 0) → sx0 < 0 → Wp d mdX10_makeRoom 43 [(0, .ref a0), (1, .ref a1), (2, .int (x2 + (nI 1)))] [] M Q) (pw3 : ¬ (mJ M a1 x2.toNatClampNeg) = (lN 0) → ¬ sx0 < 0 → (nI (mN M (mR M a0 1))) ≤ sx0 → Wp d mdX10_makeRoom 43 [(0, .ref a0), (1, .ref a1), (2, .int (x2 + (nI 1)))] [] M Q) (pb4 : ¬ (mJ M a1 x2.toNatClampNeg) = (lN 0) → ¬ sx0 < 0 → ¬ (nI (mN M (mR M a0 1))) ≤ sx0 → vp_in x2 (mN M a1)) (pb5 : ¬ (mJ M a1 x2.toNatClampNeg) = (lN 0) → ¬ sx0 < 0 → ¬ (nI (mN M (mR M a0 1))) ≤ sx0 → vp_in sx0 (mN M (mR M a0 1))) (pw6 : ¬ (mJ M a1 x2.toNatClampNeg) = (lN 0) → ¬ sx0 < 0 → ¬ (nI (mN M (mR M a0 1))) ≤ sx0 → Wp d mdX10_makeRoom 43 [(0, .ref a0), (1, .ref a1), (2, .int (x2 + (nI 1)))] [] (sJ M (mR M a0 1) sx0.toNatClampNeg (mJ M a1 x2.toNatClampNeg)) Q) : Wp d mdX10_makeRoom 56 [(0, .ref a0), (1, .ref a1), (2, .int x2)] [.int sx0] M Q := by
  refine r_istore_n dX10_makeRoom_56 rfl (by decide) (ls' := [(3, .int sx0), (0, .ref a0), (1, .ref a1), (2, .int x2)]) rfl ?_
  refine r_aload_n dX10_makeRoom_57 rfl 2 rfl ?_
  refine r_iload_n dX10_makeRoom_58 rfl 3 rfl ?_
  refine r_lald dX10_makeRoom_59 k0 pb0 ?_
  refine r_lconst (v := (lN 0)) dX10_makeRoom_60 rfl ?_
  refine r_lif_eq (tgt := 87) dX10_makeRoom_61 dX10_makeRoom_62 (by decide) (fun c0 => ?_) (fun c0 => ?_)
  · skip
    refine r_iinc dX10_makeRoom_87 3 rfl (v := x2 + (nI 1)) rfl (by decide) (ls' := [(2, .int (x2 + (nI 1))), (3, .int sx0), (0, .ref a0), (1, .ref a1)]) rfl ?_
    refine r_goto (tgt := 43) dX10_makeRoom_90 (by decide) ?_
    refine r_sub [2, 3, 0] (ls' := [(0, .ref a0), (1, .ref a1), (2, .int (x2 + (nI 1)))]) rfl ?_
    exact (pw1 c0)
  · skip
    refine r_iload_n dX10_makeRoom_65 rfl 0 rfl ?_
    refine r_if_lt (tgt := 87) dX10_makeRoom_66 (by decide) (fun c1 => ?_) (fun c1 => ?_)
    · skip
      refine r_iinc dX10_makeRoom_87 3 rfl (v := x2 + (nI 1)) rfl (by decide) (ls' := [(2, .int (x2 + (nI 1))), (3, .int sx0), (0, .ref a0), (1, .ref a1)]) rfl ?_
      refine r_goto (tgt := 43) dX10_makeRoom_90 (by decide) ?_
      refine r_sub [2, 3, 0] (ls' := [(0, .ref a0), (1, .ref a1), (2, .int (x2 + (nI 1)))]) rfl ?_
      exact (pw2 c0 c1)
    · skip
      refine r_iload_n dX10_makeRoom_69 rfl 0 rfl ?_
      refine r_aload_n dX10_makeRoom_70 rfl 1 rfl ?_
      refine r_getR ck8 dX10_makeRoom_71 flX10_11 rfl k1 ?_
      refine r_alen dX10_makeRoom_74 (Or.inr (Or.inl k2)) ?_
      refine r_icmp_ge (tgt := 87) dX10_makeRoom_75 (by decide) (fun c2 => ?_) (fun c2 => ?_)
      · skip
        refine r_iinc dX10_makeRoom_87 3 rfl (v := x2 + (nI 1)) rfl (by decide) (ls' := [(2, .int (x2 + (nI 1))), (3, .int sx0), (0, .ref a0), (1, .ref a1)]) rfl ?_
        refine r_goto (tgt := 43) dX10_makeRoom_90 (by decide) ?_
        refine r_sub [2, 3, 0] (ls' := [(0, .ref a0), (1, .ref a1), (2, .int (x2 + (nI 1)))]) rfl ?_
        exact (pw3 c0 c1 c2)
      · skip
        refine r_aload_n dX10_makeRoom_78 rfl 1 rfl ?_
        refine r_getR ck8 dX10_makeRoom_79 flX10_11 rfl k1 ?_
        refine r_iload_n dX10_makeRoom_82 rfl 0 rfl ?_
        refine r_aload_n dX10_makeRoom_83 rfl 2 rfl ?_
        refine r_iload_n dX10_makeRoom_84 rfl 3 rfl ?_
        refine r_lald dX10_makeRoom_85 k0 (pb4 c0 c1 c2) ?_
        refine r_last dX10_makeRoom_86 k2 (pb5 c0 c1 c2) ?_
        refine r_iinc dX10_makeRoom_87 3 rfl (v := x2 + (nI 1)) rfl (by decide) (ls' := [(2, .int (x2 + (nI 1))), (3, .int sx0), (0, .ref a0), (1, .ref a1)]) rfl ?_
        refine r_goto (tgt := 43) dX10_makeRoom_90 (by decide) ?_
        refine r_sub [2, 3, 0] (ls' := [(0, .ref a0), (1, .ref a1), (2, .int (x2 + (nI 1)))]) rfl ?_
        exact (pw6 c0 c1 c2)
-- X10_placeOf
theorem gX10_placeOf_0 {d : Nat} {Q : Option Value → Mem → Prop} {M : Mem} {a0 : Nat} {w1 : Int64}  (pw0 : Wp d mdX10_placeOf 13 [(0, .ref a0), (1, .long w1), (3, .int ((((w1 * (lN 6364136223846793005)).toUInt64 >>> ((nI 40).toInt64.toUInt64 &&& Int64.toUInt64 63)).toInt64).toInt32)), (4, .int (nI 0))] [] M Q) : Wp d mdX10_placeOf 0 [(0, .ref a0), (1, .long w1)] [] M Q := by
  refine r_lload_n dX10_placeOf_0 rfl 1 rfl ?_
  refine r_ldc2 dX10_placeOf_1 kwX10_33 ?_
  refine r_lmul dX10_placeOf_4 ?_
  refine r_bipush (v := (nI 40)) dX10_placeOf_5 rfl ?_
  refine r_lushr dX10_placeOf_7 ?_
  refine r_l2i dX10_placeOf_8 ?_
  refine r_istore_n dX10_placeOf_9 rfl (by decide) (ls' := [(3, .int ((((w1 * (lN 6364136223846793005)).toUInt64 >>> ((nI 40).toInt64.toUInt64 &&& Int64.toUInt64 63)).toInt64).toInt32)), (0, .ref a0), (1, .long w1)]) rfl ?_
  refine r_iconst (v := (nI 0)) dX10_placeOf_10 rfl ?_
  refine r_istore dX10_placeOf_11 (by decide) (ls' := [(4, .int (nI 0)), (3, .int ((((w1 * (lN 6364136223846793005)).toUInt64 >>> ((nI 40).toInt64.toUInt64 &&& Int64.toUInt64 63)).toInt64).toInt32)), (0, .ref a0), (1, .long w1)]) rfl ?_
  refine r_sub [2, 3, 1, 0] (ls' := [(0, .ref a0), (1, .long w1), (3, .int ((((w1 * (lN 6364136223846793005)).toUInt64 >>> ((nI 40).toInt64.toUInt64 &&& Int64.toUInt64 63)).toInt64).toInt32)), (4, .int (nI 0))]) rfl ?_
  exact pw0
theorem gX10_placeOf_13 {d : Nat} {Q : Option Value → Mem → Prop} {M : Mem} {a0 : Nat} {w1 : Int64} {x3 : Int32} {x4 : Int32} (k0 : mK M a0 = 12) (k1 : mK M (mR M a0 1) = 2) (pq0 : (nI (mN M (mR M a0 1))) ≤ x4 → Q (some (.int (-1 : Int32))) M) (pq1 : ¬ (nI (mN M (mR M a0 1))) ≤ x4 → ((x3 + x4) &&& ((nI (mN M (mR M a0 1))) - (nI 1))) < 0 → Q (some (.int (-1 : Int32))) M) (pb2 : ¬ (nI (mN M (mR M a0 1))) ≤ x4 → ¬ ((x3 + x4) &&& ((nI (mN M (mR M a0 1))) - (nI 1))) < 0 → ((x3 + x4) &&& ((nI (mN M (mR M a0 1))) - (nI 1))) < (nI (mN M (mR M a0 1))) → vp_in ((x3 + x4) &&& ((nI (mN M (mR M a0 1))) - (nI 1))) (mN M (mR M a0 1))) (pq3 : ¬ (nI (mN M (mR M a0 1))) ≤ x4 → ¬ ((x3 + x4) &&& ((nI (mN M (mR M a0 1))) - (nI 1))) < 0 → ((x3 + x4) &&& ((nI (mN M (mR M a0 1))) - (nI 1))) < (nI (mN M (mR M a0 1))) → (mJ M (mR M a0 1) ((x3 + x4) &&& ((nI (mN M (mR M a0 1))) - (nI 1))).toNatClampNeg) = w1 → Q (some (.int ((x3 + x4) &&& ((nI (mN M (mR M a0 1))) - (nI 1))))) M) (pb4 : ¬ (nI (mN M (mR M a0 1))) ≤ x4 → ¬ ((x3 + x4) &&& ((nI (mN M (mR M a0 1))) - (nI 1))) < 0 → ((x3 + x4) &&& ((nI (mN M (mR M a0 1))) - (nI 1))) < (nI (mN M (mR M a0 1))) → ¬ (mJ M (mR M a0 1) ((x3 + x4) &&& ((nI (mN M (mR M a0 1))) - (nI 1))).toNatClampNeg) = w1 → vp_in ((x3 + x4) &&& ((nI (mN M (mR M a0 1))) - (nI 1))) (mN M (mR M a0 1))) (pw5 : ¬ (nI (mN M (mR M a0 1))) ≤ x4 → ¬ ((x3 + x4) &&& ((nI (mN M (mR M a0 1))) - (nI 1))) < 0 → ((x3 + x4) &&& ((nI (mN M (mR M a0 1))) - (nI 1))) < (nI (mN M (mR M a0 1))) → ¬ (mJ M (mR M a0 1) ((x3 + x4) &&& ((nI (mN M (mR M a0 1))) - (nI 1))).toNatClampNeg) = w1 → ¬ (mJ M (mR M a0 1) ((x3 + x4) &&& ((nI (mN M (mR M a0 1))) - (nI 1))).toNatClampNeg) = (lN 0) → Wp d mdX10_placeOf 13 [(0, .ref a0), (1, .long w1), (3, .int x3), (4, .int (x4 + (nI 1)))] [] M Q) (pq6 : ¬ (nI (mN M (mR M a0 1))) ≤ x4 → ¬ ((x3 + x4) &&& ((nI (mN M (mR M a0 1))) - (nI 1))) < 0 → ((x3 + x4) &&& ((nI (mN M (mR M a0 1))) - (nI 1))) < (nI (mN M (mR M a0 1))) → ¬ (mJ M (mR M a0 1) ((x3 + x4) &&& ((nI (mN M (mR M a0 1))) - (nI 1))).toNatClampNeg) = w1 → (mJ M (mR M a0 1) ((x3 + x4) &&& ((nI (mN M (mR M a0 1))) - (nI 1))).toNatClampNeg) = (lN 0) → Q (some (.int ((x3 + x4) &&& ((nI (mN M (mR M a0 1))) - (nI 1))))) M) (pq7 : ¬ (nI (mN M (mR M a0 1))) ≤ x4 → ¬ ((x3 + x4) &&& ((nI (mN M (mR M a0 1))) - (nI 1))) < 0 → ¬ ((x3 + x4) &&& ((nI (mN M (mR M a0 1))) - (nI 1))) < (nI (mN M (mR M a0 1))) → Q (some (.int (-1 : Int32))) M) : Wp d mdX10_placeOf 13 [(0, .ref a0), (1, .long w1), (3, .int x3), (4, .int x4)] [] M Q := by
  refine r_iload dX10_placeOf_13 3 rfl ?_
  refine r_aload_n dX10_placeOf_15 rfl 0 rfl ?_
  refine r_getR ck8 dX10_placeOf_16 flX10_11 rfl k0 ?_
  refine r_alen dX10_placeOf_19 (Or.inr (Or.inl k1)) ?_
  refine r_icmp_ge (tgt := 87) dX10_placeOf_20 (by decide) (fun c0 => ?_) (fun c0 => ?_)
  · skip
    refine r_iconst (v := (-1)) dX10_placeOf_87 rfl ?_
    exact r_ret (some (.int (-1 : Int32))) dX10_placeOf_88 rfl (pq0 c0)
  · skip
    refine r_iload_n dX10_placeOf_23 rfl 2 rfl ?_
    refine r_iload dX10_placeOf_24 3 rfl ?_
    refine r_iadd dX10_placeOf_26 ?_
    refine r_aload_n dX10_placeOf_27 rfl 0 rfl ?_
    refine r_getR ck8 dX10_placeOf_28 flX10_11 rfl k0 ?_
    refine r_alen dX10_placeOf_31 (Or.inr (Or.inl k1)) ?_
    refine r_iconst (v := (nI 1)) dX10_placeOf_32 rfl ?_
    refine r_isub dX10_placeOf_33 ?_
    refine r_iand dX10_placeOf_34 ?_
    refine r_istore dX10_placeOf_35 (by decide) (ls' := [(5, .int ((x3 + x4) &&& ((nI (mN M (mR M a0 1))) - (nI 1)))), (0, .ref a0), (1, .long w1), (3, .int x3), (4, .int x4)]) rfl ?_
    refine r_iload dX10_placeOf_37 0 rfl ?_
    refine r_if_lt (tgt := 52) dX10_placeOf_39 (by decide) (fun c1 => ?_) (fun c1 => ?_)
    · skip
      refine r_iconst (v := (-1)) dX10_placeOf_52 rfl ?_
      exact r_ret (some (.int (-1 : Int32))) dX10_placeOf_53 rfl (pq1 c0 c1)
    · skip
      refine r_iload dX10_placeOf_42 0 rfl ?_
      refine r_aload_n dX10_placeOf_44 rfl 1 rfl ?_
      refine r_getR ck8 dX10_placeOf_45 flX10_11 rfl k0 ?_
      refine r_alen dX10_placeOf_48 (Or.inr (Or.inl k1)) ?_
      refine r_icmp_lt (tgt := 54) dX10_placeOf_49 (by decide) (fun c2 => ?_) (fun c2 => ?_)
      · skip
        refine r_aload_n dX10_placeOf_54 rfl 1 rfl ?_
        refine r_getR ck8 dX10_placeOf_55 flX10_11 rfl k0 ?_
        refine r_iload dX10_placeOf_58 0 rfl ?_
        refine r_lald dX10_placeOf_60 k1 (pb2 c0 c1 c2) ?_
        refine r_lload_n dX10_placeOf_61 rfl 2 rfl ?_
        refine r_lif_eq (tgt := 78) dX10_placeOf_62 dX10_placeOf_63 (by decide) (fun c3 => ?_) (fun c3 => ?_)
        · skip
          refine r_iload dX10_placeOf_78 0 rfl ?_
          exact r_ret (some (.int ((x3 + x4) &&& ((nI (mN M (mR M a0 1))) - (nI 1))))) dX10_placeOf_80 rfl (pq3 c0 c1 c2 c3)
        · skip
          refine r_aload_n dX10_placeOf_66 rfl 1 rfl ?_
          refine r_getR ck8 dX10_placeOf_67 flX10_11 rfl k0 ?_
          refine r_iload dX10_placeOf_70 0 rfl ?_
          refine r_lald dX10_placeOf_72 k1 (pb4 c0 c1 c2 c3) ?_
          refine r_lconst (v := (lN 0)) dX10_placeOf_73 rfl ?_
          refine r_lif_ne (tgt := 81) dX10_placeOf_74 dX10_placeOf_75 (by decide) (fun c4 => ?_) (fun c4 => ?_)
          · skip
            refine r_iinc dX10_placeOf_81 4 rfl (v := x4 + (nI 1)) rfl (by decide) (ls' := [(4, .int (x4 + (nI 1))), (5, .int ((x3 + x4) &&& ((nI (mN M (mR M a0 1))) - (nI 1)))), (0, .ref a0), (1, .long w1), (3, .int x3)]) rfl ?_
            refine r_goto (tgt := 13) dX10_placeOf_84 (by decide) ?_
            refine r_sub [2, 3, 4, 0] (ls' := [(0, .ref a0), (1, .long w1), (3, .int x3), (4, .int (x4 + (nI 1)))]) rfl ?_
            exact (pw5 c0 c1 c2 c3 c4)
          · skip
            refine r_iload dX10_placeOf_78 0 rfl ?_
            exact r_ret (some (.int ((x3 + x4) &&& ((nI (mN M (mR M a0 1))) - (nI 1))))) dX10_placeOf_80 rfl (pq6 c0 c1 c2 c3 c4)
      · skip
        refine r_iconst (v := (-1)) dX10_placeOf_52 rfl ?_
        exact r_ret (some (.int (-1 : Int32))) dX10_placeOf_53 rfl (pq7 c0 c1 c2)
-- X11_init
theorem gX11_init_0 {d : Nat} {Q : Option Value → Mem → Prop} {M : Mem} {a0 : Nat} (hd1 : 1 ≤ d) (k0 : mK M a0 = 13) (pw0 : Wp d mdX11_init 8 [(0, .ref a0)] [.ref (mC M + 2), .ref a0] (nwC M 5 5) Q) : Wp d mdX11_init 0 [(0, .ref a0)] [] M Q := by
  refine r_aload_n dX11_init_0 rfl 0 rfl ?_
  refine r_objI (ci := 9) dX11_init_1 mlX11_1 obI_i obI_c k0 hd1 (Nat.le_of_ble_eq_true rfl) ?_
  refine r_aload_n dX11_init_4 rfl 0 rfl ?_
  refine r_new (ci := 1) ck1 (by decide) rk1 dX11_init_5 cwX11_7 ?_
  exact pw0
theorem gX11_init_8 {d : Nat} {Q : Option Value → Mem → Prop} {M : Mem} {a0 : Nat} {sa0 : Nat} {sa1 : Nat} (k0 : mK M sa0 = 5) (pf0 : ClD d mdX2_init [.ref sa0] M (fun r1 M1 => Wp d mdX11_init 12 [(0, .ref a0)] (r1.toList ++ [.ref sa0, .ref sa1]) M1 Q)) : Wp d mdX11_init 8 [(0, .ref a0)] [.ref sa0, .ref sa1] M Q := by
  refine r_dup dX11_init_8 rfl ?_
  obtain ⟨e9, hlt, h9⟩ := pf0
  exact r_callIN (As := []) (rest := [.ref sa0, .ref sa1]) (ci := 1) moX2_init rfl rfl dX11_init_9 (by decide) imX2_init k0 rfl hlt (Nat.le_of_ble_eq_true rfl) h9
theorem gX11_init_12 {d : Nat} {Q : Option Value → Mem → Prop} {M : Mem} {a0 : Nat} {sa0 : Nat} {sa1 : Nat} (k0 : mK M sa1 = 13) (pw0 : Wp d mdX11_init 19 [(0, .ref a0)] [.ref (mC (sR M sa1 0 sa0) + 2), .ref a0] (nwC (sR M sa1 0 sa0) 5 5) Q) : Wp d mdX11_init 12 [(0, .ref a0)] [.ref sa0, .ref sa1] M Q := by
  refine r_putR ck9 dX11_init_12 flX11_10 rfl rfl (Or.inr ⟨rfl, rfl, rfl⟩) k0 ?_
  refine r_aload_n dX11_init_15 rfl 0 rfl ?_
  refine r_new (ci := 1) ck1 (by decide) rk1 dX11_init_16 cwX11_7 ?_
  exact pw0
theorem gX11_init_19 {d : Nat} {Q : Option Value → Mem → Prop} {M : Mem} {a0 : Nat} {sa0 : Nat} {sa1 : Nat} (k0 : mK M sa0 = 5) (pf0 : ClD d mdX2_init [.ref sa0] M (fun r1 M1 => Wp d mdX11_init 23 [(0, .ref a0)] (r1.toList ++ [.ref sa0, .ref sa1]) M1 Q)) : Wp d mdX11_init 19 [(0, .ref a0)] [.ref sa0, .ref sa1] M Q := by
  refine r_dup dX11_init_19 rfl ?_
  obtain ⟨e9, hlt, h9⟩ := pf0
  exact r_callIN (As := []) (rest := [.ref sa0, .ref sa1]) (ci := 1) moX2_init rfl rfl dX11_init_20 (by decide) imX2_init k0 rfl hlt (Nat.le_of_ble_eq_true rfl) h9
theorem gX11_init_23 {d : Nat} {Q : Option Value → Mem → Prop} {M : Mem} {a0 : Nat} {sa0 : Nat} {sa1 : Nat} (k0 : mK M sa1 = 13) (pw0 : Wp d mdX11_init 30 [(0, .ref a0)] [.ref (mC (sR M sa1 1 sa0) + 2), .ref a0] (nwC (sR M sa1 1 sa0) 9 3) Q) : Wp d mdX11_init 23 [(0, .ref a0)] [.ref sa0, .ref sa1] M Q := by
  refine r_putR ck9 dX11_init_23 flX11_16 rfl rfl (Or.inr ⟨rfl, rfl, rfl⟩) k0 ?_
  refine r_aload_n dX11_init_26 rfl 0 rfl ?_
  refine r_new (ci := 5) ck5 (by decide) rk5 dX11_init_27 cwX11_19 ?_
  exact pw0
theorem gX11_init_30 {d : Nat} {Q : Option Value → Mem → Prop} {M : Mem} {a0 : Nat} {sa0 : Nat} {sa1 : Nat} (k0 : mK M sa0 = 9) (pf0 : ClD d mdX7_init [.ref sa0] M (fun r1 M1 => Wp d mdX11_init 34 [(0, .ref a0)] (r1.toList ++ [.ref sa0, .ref sa1]) M1 Q)) : Wp d mdX11_init 30 [(0, .ref a0)] [.ref sa0, .ref sa1] M Q := by
  refine r_dup dX11_init_30 rfl ?_
  obtain ⟨e9, hlt, h9⟩ := pf0
  exact r_callIN (As := []) (rest := [.ref sa0, .ref sa1]) (ci := 5) moX7_init rfl rfl dX11_init_31 (by decide) imX7_init k0 rfl hlt (Nat.le_of_ble_eq_true rfl) h9
theorem gX11_init_34 {d : Nat} {Q : Option Value → Mem → Prop} {M : Mem} {a0 : Nat} {sa0 : Nat} {sa1 : Nat} (k0 : mK M sa1 = 13) (pw0 : Wp d mdX11_init 41 [(0, .ref a0)] [.ref (mC (sR M sa1 2 sa0) + 2), .ref a0] (nwC (sR M sa1 2 sa0) 7 5) Q) : Wp d mdX11_init 34 [(0, .ref a0)] [.ref sa0, .ref sa1] M Q := by
  refine r_putR ck9 dX11_init_34 flX11_22 rfl rfl (Or.inr ⟨rfl, rfl, rfl⟩) k0 ?_
  refine r_aload_n dX11_init_37 rfl 0 rfl ?_
  refine r_new (ci := 3) ck3 (by decide) rk3 dX11_init_38 cwX11_26 ?_
  exact pw0
theorem gX11_init_41 {d : Nat} {Q : Option Value → Mem → Prop} {M : Mem} {a0 : Nat} {sa0 : Nat} {sa1 : Nat} (k0 : mK M sa0 = 7) (pf0 : ClD d mdX5_init [.ref sa0] M (fun r1 M1 => Wp d mdX11_init 45 [(0, .ref a0)] (r1.toList ++ [.ref sa0, .ref sa1]) M1 Q)) : Wp d mdX11_init 41 [(0, .ref a0)] [.ref sa0, .ref sa1] M Q := by
  refine r_dup dX11_init_41 rfl ?_
  obtain ⟨e9, hlt, h9⟩ := pf0
  exact r_callIN (As := []) (rest := [.ref sa0, .ref sa1]) (ci := 3) moX5_init rfl rfl dX11_init_42 (by decide) imX5_init k0 rfl hlt (Nat.le_of_ble_eq_true rfl) h9
theorem gX11_init_45 {d : Nat} {Q : Option Value → Mem → Prop} {M : Mem} {a0 : Nat} {sa0 : Nat} {sa1 : Nat} (k0 : mK M sa1 = 13) (pw0 : Wp d mdX11_init 52 [(0, .ref a0)] [.ref (mC (sR M sa1 3 sa0) + 2), .ref a0] (nwC (sR M sa1 3 sa0) 6 7) Q) : Wp d mdX11_init 45 [(0, .ref a0)] [.ref sa0, .ref sa1] M Q := by
  refine r_putR ck9 dX11_init_45 flX11_29 rfl rfl (Or.inr ⟨rfl, rfl, rfl⟩) k0 ?_
  refine r_aload_n dX11_init_48 rfl 0 rfl ?_
  refine r_new (ci := 2) ck2 (by decide) rk2 dX11_init_49 cwX11_33 ?_
  exact pw0
theorem gX11_init_52 {d : Nat} {Q : Option Value → Mem → Prop} {M : Mem} {a0 : Nat} {sa0 : Nat} {sa1 : Nat} (k0 : mK M a0 = 13) (k1 : mK M sa0 = 6) (pf0 : ClD d mdX4_init [.ref sa0, .ref (mR M a0 0), .ref (mR M a0 3)] M (fun r1 M1 => Wp d mdX11_init 64 [(0, .ref a0)] (r1.toList ++ [.ref sa0, .ref sa1]) M1 Q)) : Wp d mdX11_init 52 [(0, .ref a0)] [.ref sa0, .ref sa1] M Q := by
  refine r_dup dX11_init_52 rfl ?_
  refine r_aload_n dX11_init_53 rfl 0 rfl ?_
  refine r_getR ck9 dX11_init_54 flX11_10 rfl k0 ?_
  refine r_aload_n dX11_init_57 rfl 0 rfl ?_
  refine r_getR ck9 dX11_init_58 flX11_29 rfl k0 ?_
  obtain ⟨e9, hlt, h9⟩ := pf0
  exact r_callI (As := [.ref (mR M a0 0), .ref (mR M a0 3)]) (rest := [.ref sa0, .ref sa1]) (ci := 2) moX4_init rfl rfl dX11_init_61 mlX11_35 imX4_init k1 rfl hlt (Nat.le_of_ble_eq_true rfl) h9
theorem gX11_init_64 {d : Nat} {Q : Option Value → Mem → Prop} {M : Mem} {a0 : Nat} {sa0 : Nat} {sa1 : Nat} (k0 : mK M sa1 = 13) (pw0 : Wp d mdX11_init 71 [(0, .ref a0)] [.ref (mC (sR M sa1 4 sa0) + 2), .ref a0] (nwC (sR M sa1 4 sa0) 6 7) Q) : Wp d mdX11_init 64 [(0, .ref a0)] [.ref sa0, .ref sa1] M Q := by
  refine r_putR ck9 dX11_init_64 flX11_38 rfl rfl (Or.inr ⟨rfl, rfl, rfl⟩) k0 ?_
  refine r_aload_n dX11_init_67 rfl 0 rfl ?_
  refine r_new (ci := 2) ck2 (by decide) rk2 dX11_init_68 cwX11_33 ?_
  exact pw0
theorem gX11_init_71 {d : Nat} {Q : Option Value → Mem → Prop} {M : Mem} {a0 : Nat} {sa0 : Nat} {sa1 : Nat} (k0 : mK M a0 = 13) (k1 : mK M sa0 = 6) (pf0 : ClD d mdX4_init [.ref sa0, .ref (mR M a0 0), .ref (mR M a0 3)] M (fun r1 M1 => Wp d mdX11_init 83 [(0, .ref a0)] (r1.toList ++ [.ref sa0, .ref sa1]) M1 Q)) : Wp d mdX11_init 71 [(0, .ref a0)] [.ref sa0, .ref sa1] M Q := by
  refine r_dup dX11_init_71 rfl ?_
  refine r_aload_n dX11_init_72 rfl 0 rfl ?_
  refine r_getR ck9 dX11_init_73 flX11_10 rfl k0 ?_
  refine r_aload_n dX11_init_76 rfl 0 rfl ?_
  refine r_getR ck9 dX11_init_77 flX11_29 rfl k0 ?_
  obtain ⟨e9, hlt, h9⟩ := pf0
  exact r_callI (As := [.ref (mR M a0 0), .ref (mR M a0 3)]) (rest := [.ref sa0, .ref sa1]) (ci := 2) moX4_init rfl rfl dX11_init_80 mlX11_35 imX4_init k1 rfl hlt (Nat.le_of_ble_eq_true rfl) h9
theorem gX11_init_83 {d : Nat} {Q : Option Value → Mem → Prop} {M : Mem} {a0 : Nat} {sa0 : Nat} {sa1 : Nat} (k0 : mK M sa1 = 13) (pw0 : Wp d mdX11_init 90 [(0, .ref a0)] [.ref (mC (sR M sa1 5 sa0) + 2), .ref a0] (nwC (sR M sa1 5 sa0) 12 2) Q) : Wp d mdX11_init 83 [(0, .ref a0)] [.ref sa0, .ref sa1] M Q := by
  refine r_putR ck9 dX11_init_83 flX11_42 rfl rfl (Or.inr ⟨rfl, rfl, rfl⟩) k0 ?_
  refine r_aload_n dX11_init_86 rfl 0 rfl ?_
  refine r_new (ci := 8) ck8 (by decide) rk8 dX11_init_87 cwX11_45 ?_
  exact pw0
theorem gX11_init_90 {d : Nat} {Q : Option Value → Mem → Prop} {M : Mem} {a0 : Nat} {sa0 : Nat} {sa1 : Nat} (k0 : mK M sa0 = 12) (pf0 : ClD d mdX10_init [.ref sa0] M (fun r1 M1 => Wp d mdX11_init 94 [(0, .ref a0)] (r1.toList ++ [.ref sa0, .ref sa1]) M1 Q)) : Wp d mdX11_init 90 [(0, .ref a0)] [.ref sa0, .ref sa1] M Q := by
  refine r_dup dX11_init_90 rfl ?_
  obtain ⟨e9, hlt, h9⟩ := pf0
  exact r_callIN (As := []) (rest := [.ref sa0, .ref sa1]) (ci := 8) moX10_init rfl rfl dX11_init_91 (by decide) imX10_init k0 rfl hlt (Nat.le_of_ble_eq_true rfl) h9
theorem gX11_init_94 {d : Nat} {Q : Option Value → Mem → Prop} {M : Mem} {a0 : Nat} {sa0 : Nat} {sa1 : Nat} (k0 : mK M sa1 = 13) (pw0 : Wp d mdX11_init 101 [(0, .ref a0)] [.ref (mC (sR M sa1 6 sa0) + 2), .ref a0] (nwC (sR M sa1 6 sa0) 11 2) Q) : Wp d mdX11_init 94 [(0, .ref a0)] [.ref sa0, .ref sa1] M Q := by
  refine r_putR ck9 dX11_init_94 flX11_48 rfl rfl (Or.inr ⟨rfl, rfl, rfl⟩) k0 ?_
  refine r_aload_n dX11_init_97 rfl 0 rfl ?_
  refine r_new (ci := 7) ck7 (by decide) rk7 dX11_init_98 cwX11_52 ?_
  exact pw0
theorem gX11_init_101 {d : Nat} {Q : Option Value → Mem → Prop} {M : Mem} {a0 : Nat} {sa0 : Nat} {sa1 : Nat} (k0 : mK M sa0 = 11) (pf0 : ClD d mdX9_init [.ref sa0, .int (nI 8)] M (fun r1 M1 => Wp d mdX11_init 107 [(0, .ref a0)] (r1.toList ++ [.ref sa0, .ref sa1]) M1 Q)) : Wp d mdX11_init 101 [(0, .ref a0)] [.ref sa0, .ref sa1] M Q := by
  refine r_dup dX11_init_101 rfl ?_
  refine r_bipush (v := (nI 8)) dX11_init_102 rfl ?_
  obtain ⟨e9, hlt, h9⟩ := pf0
  exact r_callI (As := [.int (nI 8)]) (rest := [.ref sa0, .ref sa1]) (ci := 7) moX9_init rfl rfl dX11_init_104 mlX11_54 imX9_init k0 rfl hlt (Nat.le_of_ble_eq_true rfl) h9
theorem gX11_init_107 {d : Nat} {Q : Option Value → Mem → Prop} {M : Mem} {a0 : Nat} {sa0 : Nat} {sa1 : Nat} (k0 : mK M sa1 = 13) (pw0 : Wp d mdX11_init 115 [(0, .ref a0)] [.ref (mC (sR M sa1 7 sa0) + 2), .ref a0] (nwC (sR M sa1 7 sa0) 1 8) Q) : Wp d mdX11_init 107 [(0, .ref a0)] [.ref sa0, .ref sa1] M Q := by
  refine r_putR ck9 dX11_init_107 flX11_57 rfl rfl (Or.inr ⟨rfl, rfl, rfl⟩) k0 ?_
  refine r_aload_n dX11_init_110 rfl 0 rfl ?_
  refine r_bipush (v := (nI 8)) dX11_init_111 rfl ?_
  refine r_newa dX11_init_113 (Or.inl rfl) ac_int (by decide) (N := 8) (by decide) (by decide) ?_
  exact pw0
theorem gX11_init_115 {d : Nat} {Q : Option Value → Mem → Prop} {M : Mem} {a0 : Nat} {sa0 : Nat} {sa1 : Nat} (k0 : mK M sa1 = 13) (pw0 : Wp d mdX11_init 123 [(0, .ref a0)] [.ref (mC (sR M sa1 8 sa0) + 2), .ref a0] (nwC (sR M sa1 8 sa0) 2 8) Q) : Wp d mdX11_init 115 [(0, .ref a0)] [.ref sa0, .ref sa1] M Q := by
  refine r_putR ck9 dX11_init_115 flX11_61 rfl rfl (Or.inr ⟨rfl, rfl, rfl⟩) k0 ?_
  refine r_aload_n dX11_init_118 rfl 0 rfl ?_
  refine r_bipush (v := (nI 8)) dX11_init_119 rfl ?_
  refine r_newa dX11_init_121 (Or.inr (Or.inl rfl)) ac_long (by decide) (N := 8) (by decide) (by decide) ?_
  exact pw0
theorem gX11_init_123 {d : Nat} {Q : Option Value → Mem → Prop} {M : Mem} {a0 : Nat} {sa0 : Nat} {sa1 : Nat} (k0 : mK M sa1 = 13) (k1 : mK M a0 = 13) (k2 : mK M (mR (sR M sa1 9 sa0) a0 4) = 6) (pf0 : ClD d mdX4_renew [.ref (mR (sR M sa1 9 sa0) a0 4), .int (nI 0)] (sR M sa1 9 sa0) (fun r1 M1 => Wp d mdX11_init 134 [] (r1.toList ++ []) M1 Q)) : Wp d mdX11_init 123 [(0, .ref a0)] [.ref sa0, .ref sa1] M Q := by
  refine r_putR ck9 dX11_init_123 flX11_65 rfl rfl (Or.inr ⟨rfl, rfl, rfl⟩) k0 ?_
  refine r_aload_n dX11_init_126 rfl 0 rfl ?_
  refine r_getR ck9 dX11_init_127 flX11_38 rfl k1 ?_
  refine r_iconst (v := (nI 0)) dX11_init_130 rfl ?_
  refine r_sub [] (ls' := []) rfl ?_
  obtain ⟨e9, hlt, h9⟩ := pf0
  exact r_callV (As := [.int (nI 0)]) (rest := []) (ci := 2) moX4_renew dX11_init_131 mlX11_69 imX4_renew seX4_renew k2 rfl hlt (Nat.le_of_ble_eq_true rfl) h9
theorem gX11_init_134 {d : Nat} {Q : Option Value → Mem → Prop} {M : Mem}  (pq0 : Q none M) : Wp d mdX11_init 134 [] [] M Q := by
  exact r_ret none dX11_init_134 rfl pq0
-- X11_sign
theorem gX11_sign_0 {d : Nat} {Q : Option Value → Mem → Prop} {M : Mem} {a0 : Nat} {x1 : Int32} (k0 : mK M a0 = 13) (k1 : mK M (mR M a0 2) = 9) (pf0 : ClD d mdX7_append [.ref (mR M a0 2), .int x1] M (fun r1 M1 => Wp d mdX11_sign 8 [] (r1.toList ++ []) M1 Q)) : Wp d mdX11_sign 0 [(0, .ref a0), (1, .int x1)] [] M Q := by
  refine r_aload_n dX11_sign_0 rfl 0 rfl ?_
  refine r_getR ck9 dX11_sign_1 flX11_22 rfl k0 ?_
  refine r_iload_n dX11_sign_4 rfl 1 rfl ?_
  refine r_sub [] (ls' := []) rfl ?_
  obtain ⟨e9, hlt, h9⟩ := pf0
  exact r_callV (As := [.int x1]) (rest := []) (ci := 5) moX7_append dX11_sign_5 mlX11_72 imX7_append seX7_append k1 rfl hlt (Nat.le_of_ble_eq_true rfl) h9
theorem gX11_sign_8 {d : Nat} {Q : Option Value → Mem → Prop} {M : Mem} {sx0 : Int32}  (pq0 : Q (some (.int sx0)) M) : Wp d mdX11_sign 8 [] [.int sx0] M Q := by
  exact r_ret (some (.int sx0)) dX11_sign_8 rfl pq0
-- X11_end
theorem gX11_end_0 {d : Nat} {Q : Option Value → Mem → Prop} {M : Mem} {a0 : Nat} {x1 : Int32} (k0 : mK M a0 = 13) (k1 : mK M (mR M a0 2) = 9) (pf0 : ClD d mdX7_shorten [.ref (mR M a0 2), .int x1] M (fun r1 M1 => Wp d mdX11_end 8 [] (r1.toList ++ []) M1 Q)) : Wp d mdX11_end 0 [(0, .ref a0), (1, .int x1)] [] M Q := by
  refine r_aload_n dX11_end_0 rfl 0 rfl ?_
  refine r_getR ck9 dX11_end_1 flX11_22 rfl k0 ?_
  refine r_iload_n dX11_end_4 rfl 1 rfl ?_
  refine r_sub [] (ls' := []) rfl ?_
  obtain ⟨e9, hlt, h9⟩ := pf0
  exact r_callV (As := [.int x1]) (rest := []) (ci := 5) moX7_shorten dX11_end_5 mlX11_76 imX7_shorten seX7_shorten k1 rfl hlt (Nat.le_of_ble_eq_true rfl) h9
theorem gX11_end_8 {d : Nat} {Q : Option Value → Mem → Prop} {M : Mem} {sx0 : Int32}  (pq0 : Q (some (.int sx0)) M) : Wp d mdX11_end 8 [] [.int sx0] M Q := by
  exact r_ret (some (.int sx0)) dX11_end_8 rfl pq0
-- X11_machine
theorem gX11_machine_0 {d : Nat} {Q : Option Value → Mem → Prop} {M : Mem} {a0 : Nat} (k0 : mK M a0 = 13) (k1 : mK M (mR M a0 2) = 9) (pf0 : ClD d mdX7_read [.ref (mR M a0 2), .ref (mR M a0 1)] M (fun r1 M1 => Wp d mdX11_machine 11 [(0, .ref a0)] (r1.toList ++ []) M1 Q)) : Wp d mdX11_machine 0 [(0, .ref a0)] [] M Q := by
  refine r_aload_n dX11_machine_0 rfl 0 rfl ?_
  refine r_getR ck9 dX11_machine_1 flX11_22 rfl k0 ?_
  refine r_aload_n dX11_machine_4 rfl 0 rfl ?_
  refine r_getR ck9 dX11_machine_5 flX11_16 rfl k0 ?_
  obtain ⟨e9, hlt, h9⟩ := pf0
  exact r_callV (As := [.ref (mR M a0 1)]) (rest := []) (ci := 5) moX7_read dX11_machine_8 mlX11_80 imX7_read seX7_read k1 rfl hlt (Nat.le_of_ble_eq_true rfl) h9
theorem gX11_machine_11 {d : Nat} {Q : Option Value → Mem → Prop} {M : Mem} {a0 : Nat} {sx0 : Int32} (k0 : mK M a0 = 13) (k1 : mK M (mR M a0 2) = 9) (pf0 : ClD d mdX7_shorten [.ref (mR M a0 2), .int (nI 0)] M (fun r1 M1 => Wp d mdX11_machine 20 [(0, .ref a0), (1, .int sx0)] (r1.toList ++ []) M1 Q)) : Wp d mdX11_machine 11 [(0, .ref a0)] [.int sx0] M Q := by
  refine r_istore_n dX11_machine_11 rfl (by decide) (ls' := [(1, .int sx0), (0, .ref a0)]) rfl ?_
  refine r_aload_n dX11_machine_12 rfl 1 rfl ?_
  refine r_getR ck9 dX11_machine_13 flX11_22 rfl k0 ?_
  refine r_iconst (v := (nI 0)) dX11_machine_16 rfl ?_
  refine r_sub [1, 0] (ls' := [(0, .ref a0), (1, .int sx0)]) rfl ?_
  obtain ⟨e9, hlt, h9⟩ := pf0
  exact r_callV (As := [.int (nI 0)]) (rest := []) (ci := 5) moX7_shorten dX11_machine_17 mlX11_76 imX7_shorten seX7_shorten k1 rfl hlt (Nat.le_of_ble_eq_true rfl) h9
theorem gX11_machine_20 {d : Nat} {Q : Option Value → Mem → Prop} {M : Mem} {a0 : Nat} {x1 : Int32} {sx0 : Int32} (k0 : mK M a0 = 13) (k1 : mK M (mR M a0 1) = 5) (pf0 : 0 ≤ x1 → ClD d mdX2_isClosed [.ref (mR M a0 1)] M (fun r1 M1 => Wp d mdX11_machine 34 [(0, .ref a0), (1, .int x1)] (r1.toList ++ []) M1 Q)) (pq1 : ¬ 0 ≤ x1 → Q (some (.int x1)) M) : Wp d mdX11_machine 20 [(0, .ref a0), (1, .int x1)] [.int sx0] M Q := by
  refine r_pop dX11_machine_20 rfl ?_
  refine r_iload_n dX11_machine_21 rfl 1 rfl ?_
  refine r_if_ge (tgt := 27) dX11_machine_22 (by decide) (fun c0 => ?_) (fun c0 => ?_)
  · skip
    refine r_aload_n dX11_machine_27 rfl 0 rfl ?_
    refine r_getR ck9 dX11_machine_28 flX11_16 rfl k0 ?_
    obtain ⟨e9, hlt, h9⟩ := (pf0 c0)
    exact r_callV (As := []) (rest := []) (ci := 1) moX2_isClosed dX11_machine_31 mlX11_84 imX2_isClosed seX2_isClosed k1 rfl hlt (Nat.le_of_ble_eq_true rfl) h9
  · skip
    refine r_iload_n dX11_machine_25 rfl 1 rfl ?_
    exact r_ret (some (.int x1)) dX11_machine_26 rfl (pq1 c0)
theorem gX11_machine_34 {d : Nat} {Q : Option Value → Mem → Prop} {M : Mem} {a0 : Nat} {x1 : Int32} {sx0 : Int32} (k0 : mK M a0 = 13) (k1 : mK M (mR M a0 0) = 5) (pf0 : ¬ sx0 = 0 → ClD d mdX2_become [.ref (mR M a0 0), .ref (mR M a0 1)] M (fun r1 M1 => Wp d mdX11_machine 51 [(0, .ref a0), (1, .int x1)] (r1.toList ++ []) M1 Q)) (pq1 : sx0 = 0 → Q (some (.int (-100 : Int32))) M) : Wp d mdX11_machine 34 [(0, .ref a0), (1, .int x1)] [.int sx0] M Q := by
  refine r_if_ne (tgt := 40) dX11_machine_34 (by decide) (fun c0 => ?_) (fun c0 => ?_)
  · skip
    refine r_aload_n dX11_machine_40 rfl 0 rfl ?_
    refine r_getR ck9 dX11_machine_41 flX11_10 rfl k0 ?_
    refine r_aload_n dX11_machine_44 rfl 0 rfl ?_
    refine r_getR ck9 dX11_machine_45 flX11_16 rfl k0 ?_
    obtain ⟨e9, hlt, h9⟩ := (pf0 c0)
    exact r_callV (As := [.ref (mR M a0 1)]) (rest := []) (ci := 1) moX2_become dX11_machine_48 mlX11_88 imX2_become seX2_become k1 rfl hlt (Nat.le_of_ble_eq_true rfl) h9
  · skip
    refine r_bipush (v := (-100)) dX11_machine_37 rfl ?_
    exact r_ret (some (.int (-100 : Int32))) dX11_machine_39 rfl (pq1 c0)
theorem gX11_machine_51 {d : Nat} {Q : Option Value → Mem → Prop} {M : Mem} {a0 : Nat} {x1 : Int32} (k0 : mK M a0 = 13) (k1 : mK M (mR M a0 4) = 6) (pf0 : ClD d mdX4_renew [.ref (mR M a0 4), .int (mI M (mR M a0 4) 4)] M (fun r1 M1 => Wp d mdX11_machine 65 [(1, .int x1)] (r1.toList ++ []) M1 Q)) : Wp d mdX11_machine 51 [(0, .ref a0), (1, .int x1)] [] M Q := by
  refine r_aload_n dX11_machine_51 rfl 0 rfl ?_
  refine r_getR ck9 dX11_machine_52 flX11_38 rfl k0 ?_
  refine r_aload_n dX11_machine_55 rfl 0 rfl ?_
  refine r_getR ck9 dX11_machine_56 flX11_38 rfl k0 ?_
  refine r_getI ck2 dX11_machine_59 flX11_92 rfl k1 ?_
  refine r_sub [1] (ls' := [(1, .int x1)]) rfl ?_
  obtain ⟨e9, hlt, h9⟩ := pf0
  exact r_callV (As := [.int (mI M (mR M a0 4) 4)]) (rest := []) (ci := 2) moX4_renew dX11_machine_62 mlX11_69 imX4_renew seX4_renew k1 rfl hlt (Nat.le_of_ble_eq_true rfl) h9
theorem gX11_machine_65 {d : Nat} {Q : Option Value → Mem → Prop} {M : Mem} {x1 : Int32}  (pq0 : Q (some (.int x1)) M) : Wp d mdX11_machine 65 [(1, .int x1)] [] M Q := by
  refine r_iload_n dX11_machine_65 rfl 0 rfl ?_
  exact r_ret (some (.int x1)) dX11_machine_66 rfl pq0
-- X11_draws
theorem gX11_draws_0 {d : Nat} {Q : Option Value → Mem → Prop} {M : Mem} {a0 : Nat} {x1 : Int32} {x2 : Int32} {x3 : Int32} {x4 : Int32} (k0 : mK M a0 = 13) (k1 : mK M (mR M a0 0) = 5) (pq0 : x2 < (nI 1) → Q (some (.int (-1 : Int32))) M) (pq1 : ¬ x2 < (nI 1) → (nI 8) < x2 → Q (some (.int (-1 : Int32))) M) (pq2 : ¬ x2 < (nI 1) → ¬ (nI 8) < x2 → x3 < (nI 1) → Q (some (.int (-1 : Int32))) M) (pq3 : ¬ x2 < (nI 1) → ¬ (nI 8) < x2 → ¬ x3 < (nI 1) → x3 ≤ (nI 3) → x4 < (nI 1) → Q (some (.int (-1 : Int32))) M) (pf4 : ¬ x2 < (nI 1) → ¬ (nI 8) < x2 → ¬ x3 < (nI 1) → x3 ≤ (nI 3) → ¬ x4 < (nI 1) → x4 ≤ (nI 4) → ClD d mdX2_draw [.ref (mR M a0 0), .int x1, .int x2, .int x3, .int x4] M (fun r1 M1 => Wp d mdX11_draws 49 [(0, .ref a0)] (r1.toList ++ []) M1 Q)) (pq5 : ¬ x2 < (nI 1) → ¬ (nI 8) < x2 → ¬ x3 < (nI 1) → x3 ≤ (nI 3) → ¬ x4 < (nI 1) → ¬ x4 ≤ (nI 4) → Q (some (.int (-1 : Int32))) M) (pq6 : ¬ x2 < (nI 1) → ¬ (nI 8) < x2 → ¬ x3 < (nI 1) → ¬ x3 ≤ (nI 3) → Q (some (.int (-1 : Int32))) M) : Wp d mdX11_draws 0 [(0, .ref a0), (1, .int x1), (2, .int x2), (3, .int x3), (4, .int x4)] [] M Q := by
  refine r_iload_n dX11_draws_0 rfl 2 rfl ?_
  refine r_iconst (v := (nI 1)) dX11_draws_1 rfl ?_
  refine r_icmp_lt (tgt := 21) dX11_draws_2 (by decide) (fun c0 => ?_) (fun c0 => ?_)
  · skip
    refine r_iconst (v := (-1)) dX11_draws_21 rfl ?_
    exact r_ret (some (.int (-1 : Int32))) dX11_draws_22 rfl (pq0 c0)
  · skip
    refine r_iload_n dX11_draws_5 rfl 2 rfl ?_
    refine r_bipush (v := (nI 8)) dX11_draws_6 rfl ?_
    refine r_icmp_gt (tgt := 21) dX11_draws_8 (by decide) (fun c1 => ?_) (fun c1 => ?_)
    · skip
      refine r_iconst (v := (-1)) dX11_draws_21 rfl ?_
      exact r_ret (some (.int (-1 : Int32))) dX11_draws_22 rfl (pq1 c0 c1)
    · skip
      refine r_iload_n dX11_draws_11 rfl 3 rfl ?_
      refine r_iconst (v := (nI 1)) dX11_draws_12 rfl ?_
      refine r_icmp_lt (tgt := 21) dX11_draws_13 (by decide) (fun c2 => ?_) (fun c2 => ?_)
      · skip
        refine r_iconst (v := (-1)) dX11_draws_21 rfl ?_
        exact r_ret (some (.int (-1 : Int32))) dX11_draws_22 rfl (pq2 c0 c1 c2)
      · skip
        refine r_iload_n dX11_draws_16 rfl 3 rfl ?_
        refine r_iconst (v := (nI 3)) dX11_draws_17 rfl ?_
        refine r_icmp_le (tgt := 23) dX11_draws_18 (by decide) (fun c3 => ?_) (fun c3 => ?_)
        · skip
          refine r_iload dX11_draws_23 4 rfl ?_
          refine r_iconst (v := (nI 1)) dX11_draws_25 rfl ?_
          refine r_icmp_lt (tgt := 35) dX11_draws_26 (by decide) (fun c4 => ?_) (fun c4 => ?_)
          · skip
            refine r_iconst (v := (-1)) dX11_draws_35 rfl ?_
            exact r_ret (some (.int (-1 : Int32))) dX11_draws_36 rfl (pq3 c0 c1 c2 c3 c4)
          · skip
            refine r_iload dX11_draws_29 4 rfl ?_
            refine r_iconst (v := (nI 4)) dX11_draws_31 rfl ?_
            refine r_icmp_le (tgt := 37) dX11_draws_32 (by decide) (fun c5 => ?_) (fun c5 => ?_)
            · skip
              refine r_aload_n dX11_draws_37 rfl 0 rfl ?_
              refine r_getR ck9 dX11_draws_38 flX11_10 rfl k0 ?_
              refine r_iload_n dX11_draws_41 rfl 1 rfl ?_
              refine r_iload_n dX11_draws_42 rfl 2 rfl ?_
              refine r_iload_n dX11_draws_43 rfl 3 rfl ?_
              refine r_iload dX11_draws_44 4 rfl ?_
              refine r_sub [0] (ls' := [(0, .ref a0)]) rfl ?_
              obtain ⟨e9, hlt, h9⟩ := (pf4 c0 c1 c2 c3 c4 c5)
              exact r_callV (As := [.int x1, .int x2, .int x3, .int x4]) (rest := []) (ci := 1) moX2_draw dX11_draws_46 mlX11_96 imX2_draw seX2_draw k1 rfl hlt (Nat.le_of_ble_eq_true rfl) h9
            · skip
              refine r_iconst (v := (-1)) dX11_draws_35 rfl ?_
              exact r_ret (some (.int (-1 : Int32))) dX11_draws_36 rfl (pq5 c0 c1 c2 c3 c4 c5)
        · skip
          refine r_iconst (v := (-1)) dX11_draws_21 rfl ?_
          exact r_ret (some (.int (-1 : Int32))) dX11_draws_22 rfl (pq6 c0 c1 c2 c3)
theorem gX11_draws_49 {d : Nat} {Q : Option Value → Mem → Prop} {M : Mem} {a0 : Nat} (k0 : mK M a0 = 13) (k1 : mK M (mR M a0 4) = 6) (pf0 : ClD d mdX4_renew [.ref (mR M a0 4), .int (mI M (mR M a0 4) 4)] M (fun r1 M1 => Wp d mdX11_draws 63 [(0, .ref a0)] (r1.toList ++ []) M1 Q)) : Wp d mdX11_draws 49 [(0, .ref a0)] [] M Q := by
  refine r_aload_n dX11_draws_49 rfl 0 rfl ?_
  refine r_getR ck9 dX11_draws_50 flX11_38 rfl k0 ?_
  refine r_aload_n dX11_draws_53 rfl 0 rfl ?_
  refine r_getR ck9 dX11_draws_54 flX11_38 rfl k0 ?_
  refine r_getI ck2 dX11_draws_57 flX11_92 rfl k1 ?_
  obtain ⟨e9, hlt, h9⟩ := pf0
  exact r_callV (As := [.int (mI M (mR M a0 4) 4)]) (rest := []) (ci := 2) moX4_renew dX11_draws_60 mlX11_69 imX4_renew seX4_renew k1 rfl hlt (Nat.le_of_ble_eq_true rfl) h9
theorem gX11_draws_63 {d : Nat} {Q : Option Value → Mem → Prop} {M : Mem} {a0 : Nat} (k0 : mK M a0 = 13) (pf0 : ClD d mdX11_unlikeReached [.ref a0] M (fun r1 M1 => Wp d mdX11_draws 67 [] (r1.toList ++ []) M1 Q)) : Wp d mdX11_draws 63 [(0, .ref a0)] [] M Q := by
  refine r_aload_n dX11_draws_63 rfl 0 rfl ?_
  refine r_sub [] (ls' := []) rfl ?_
  obtain ⟨e9, hlt, h9⟩ := pf0
  exact r_callV (As := []) (rest := []) (ci := 9) moX11_unlikeReached dX11_draws_64 mlX11_100 imX11_unlikeReached seX11_unlikeReached k0 rfl hlt (Nat.le_of_ble_eq_true rfl) h9
theorem gX11_draws_67 {d : Nat} {Q : Option Value → Mem → Prop} {M : Mem} {sx0 : Int32}  (pq0 : Q (some (.int sx0)) M) : Wp d mdX11_draws 67 [] [.int sx0] M Q := by
  exact r_ret (some (.int sx0)) dX11_draws_67 rfl pq0
-- X11_state
theorem gX11_state_0 {d : Nat} {Q : Option Value → Mem → Prop} {M : Mem} {a0 : Nat} {x1 : Int32} {x2 : Int32} (k0 : mK M a0 = 13) (k1 : mK M (mR M a0 0) = 5) (pf0 : ClD d mdX2_look [.ref (mR M a0 0), .int x1, .int x2] M (fun r1 M1 => Wp d mdX11_state 9 [] (r1.toList ++ []) M1 Q)) : Wp d mdX11_state 0 [(0, .ref a0), (1, .int x1), (2, .int x2)] [] M Q := by
  refine r_aload_n dX11_state_0 rfl 0 rfl ?_
  refine r_getR ck9 dX11_state_1 flX11_10 rfl k0 ?_
  refine r_iload_n dX11_state_4 rfl 1 rfl ?_
  refine r_iload_n dX11_state_5 rfl 2 rfl ?_
  refine r_sub [] (ls' := []) rfl ?_
  obtain ⟨e9, hlt, h9⟩ := pf0
  exact r_callV (As := [.int x1, .int x2]) (rest := []) (ci := 1) moX2_look dX11_state_6 mlX11_104 imX2_look seX2_look k1 rfl hlt (Nat.le_of_ble_eq_true rfl) h9
theorem gX11_state_9 {d : Nat} {Q : Option Value → Mem → Prop} {M : Mem} {sx0 : Int32}  (pq0 : Q (some (.int sx0)) M) : Wp d mdX11_state 9 [] [.int sx0] M Q := by
  exact r_ret (some (.int sx0)) dX11_state_9 rfl pq0
-- X11_run
theorem gX11_run_0 {d : Nat} {Q : Option Value → Mem → Prop} {M : Mem} {a0 : Nat} {w1 : Int64} (k0 : mK M a0 = 13) (pf0 : ClD d mdX11_isNoWord [.ref a0, .long w1] M (fun r1 M1 => Wp d mdX11_run 5 [(0, .ref a0), (1, .long w1)] (r1.toList ++ []) M1 Q)) : Wp d mdX11_run 0 [(0, .ref a0), (1, .long w1)] [] M Q := by
  refine r_aload_n dX11_run_0 rfl 0 rfl ?_
  refine r_lload_n dX11_run_1 rfl 1 rfl ?_
  obtain ⟨e9, hlt, h9⟩ := pf0
  exact r_callV (As := [.long w1]) (rest := []) (ci := 9) moX11_isNoWord dX11_run_2 mlX11_108 imX11_isNoWord seX11_isNoWord k0 rfl hlt (Nat.le_of_ble_eq_true rfl) h9
theorem gX11_run_5 {d : Nat} {Q : Option Value → Mem → Prop} {M : Mem} {a0 : Nat} {w1 : Int64} {sx0 : Int32} (k0 : mK M a0 = 13) (k1 : mK M (mR M a0 0) = 5) (pf0 : sx0 = 0 → ClD d mdX2_endFrom [.ref (mR M a0 0), .int (nI 0), .long w1] M (fun r1 M1 => Wp d mdX11_run 21 [] (r1.toList ++ []) M1 Q)) (pw1 : ¬ sx0 = 0 → Wp d mdX11_run 21 [] [.int (-1 : Int32)] M Q) : Wp d mdX11_run 5 [(0, .ref a0), (1, .long w1)] [.int sx0] M Q := by
  refine r_if_eq (tgt := 12) dX11_run_5 (by decide) (fun c0 => ?_) (fun c0 => ?_)
  · skip
    refine r_aload_n dX11_run_12 rfl 0 rfl ?_
    refine r_getR ck9 dX11_run_13 flX11_10 rfl k0 ?_
    refine r_iconst (v := (nI 0)) dX11_run_16 rfl ?_
    refine r_lload_n dX11_run_17 rfl 1 rfl ?_
    refine r_sub [] (ls' := []) rfl ?_
    obtain ⟨e9, hlt, h9⟩ := (pf0 c0)
    exact r_callV (As := [.int (nI 0), .long w1]) (rest := []) (ci := 1) moX2_endFrom dX11_run_18 mlX11_112 imX2_endFrom seX2_endFrom k1 rfl hlt (Nat.le_of_ble_eq_true rfl) h9
  · skip
    refine r_iconst (v := (-1)) dX11_run_8 rfl ?_
    refine r_goto (tgt := 21) dX11_run_9 (by decide) ?_
    refine r_sub [] (ls' := []) rfl ?_
    exact (pw1 c0)
theorem gX11_run_21 {d : Nat} {Q : Option Value → Mem → Prop} {M : Mem} {sx0 : Int32}  (pq0 : Q (some (.int sx0)) M) : Wp d mdX11_run 21 [] [.int sx0] M Q := by
  exact r_ret (some (.int sx0)) dX11_run_21 rfl pq0
-- X11_joins
theorem gX11_joins_0 {d : Nat} {Q : Option Value → Mem → Prop} {M : Mem} {a0 : Nat} {w1 : Int64} {w3 : Int64} (k0 : mK M a0 = 13) (pf0 : ClD d mdX11_isNoWord [.ref a0, .long w1] M (fun r1 M1 => Wp d mdX11_joins 5 [(0, .ref a0), (1, .long w1), (3, .long w3)] (r1.toList ++ []) M1 Q)) : Wp d mdX11_joins 0 [(0, .ref a0), (1, .long w1), (3, .long w3)] [] M Q := by
  refine r_aload_n dX11_joins_0 rfl 0 rfl ?_
  refine r_lload_n dX11_joins_1 rfl 1 rfl ?_
  obtain ⟨e9, hlt, h9⟩ := pf0
  exact r_callV (As := [.long w1]) (rest := []) (ci := 9) moX11_isNoWord dX11_joins_2 mlX11_108 imX11_isNoWord seX11_isNoWord k0 rfl hlt (Nat.le_of_ble_eq_true rfl) h9
theorem gX11_joins_5 {d : Nat} {Q : Option Value → Mem → Prop} {M : Mem} {a0 : Nat} {w1 : Int64} {w3 : Int64} {sx0 : Int32} (k0 : mK M a0 = 13) (pq0 : ¬ sx0 = 0 → Q (some (.long (-1 : Int64))) M) (pf1 : sx0 = 0 → ClD d mdX11_isNoWord [.ref a0, .long w3] M (fun r1 M1 => Wp d mdX11_joins 13 [(1, .long w1), (3, .long w3)] (r1.toList ++ []) M1 Q)) : Wp d mdX11_joins 5 [(0, .ref a0), (1, .long w1), (3, .long w3)] [.int sx0] M Q := by
  refine r_if_ne (tgt := 16) dX11_joins_5 (by decide) (fun c0 => ?_) (fun c0 => ?_)
  · skip
    refine r_ldc2 dX11_joins_16 kwX11_116 ?_
    exact r_ret (some (.long (-1 : Int64))) dX11_joins_19 rfl (pq0 c0)
  · skip
    refine r_aload_n dX11_joins_8 rfl 0 rfl ?_
    refine r_lload_n dX11_joins_9 rfl 2 rfl ?_
    refine r_sub [1, 2] (ls' := [(1, .long w1), (3, .long w3)]) rfl ?_
    obtain ⟨e9, hlt, h9⟩ := (pf1 c0)
    exact r_callV (As := [.long w3]) (rest := []) (ci := 9) moX11_isNoWord dX11_joins_10 mlX11_108 imX11_isNoWord seX11_isNoWord k0 rfl hlt (Nat.le_of_ble_eq_true rfl) h9
theorem gX11_joins_13 {d : Nat} {Q : Option Value → Mem → Prop} {M : Mem} {w1 : Int64} {w3 : Int64} {sx0 : Int32}  (pf0 : sx0 = 0 → ClD d mdX1_join [.long w1, .long w3] M (fun r1 M1 => Wp d mdX11_joins 25 [] (r1.toList ++ []) M1 Q)) (pq1 : ¬ sx0 = 0 → Q (some (.long (-1 : Int64))) M) : Wp d mdX11_joins 13 [(1, .long w1), (3, .long w3)] [.int sx0] M Q := by
  refine r_if_eq (tgt := 20) dX11_joins_13 (by decide) (fun c0 => ?_) (fun c0 => ?_)
  · skip
    refine r_lload_n dX11_joins_20 rfl 0 rfl ?_
    refine r_lload_n dX11_joins_21 rfl 1 rfl ?_
    refine r_sub [] (ls' := []) rfl ?_
    obtain ⟨e9, hlt, h9⟩ := (pf0 c0)
    exact r_callS (As := [.long w1, .long w3]) (rest := []) moX1_join dX11_joins_22 mlX11_118 saX1_join rfl hlt (Nat.le_of_ble_eq_true rfl) h9
  · skip
    refine r_ldc2 dX11_joins_16 kwX11_116 ?_
    exact r_ret (some (.long (-1 : Int64))) dX11_joins_19 rfl (pq1 c0)
theorem gX11_joins_25 {d : Nat} {Q : Option Value → Mem → Prop} {M : Mem} {sw0 : Int64}  (pq0 : Q (some (.long sw0)) M) : Wp d mdX11_joins 25 [] [.long sw0] M Q := by
  exact r_ret (some (.long sw0)) dX11_joins_25 rfl pq0
-- X11_letter
theorem gX11_letter_0 {d : Nat} {Q : Option Value → Mem → Prop} {M : Mem} {a0 : Nat} {w1 : Int64} {x3 : Int32} (k0 : mK M a0 = 13) (k1 : mK M (mR M a0 0) = 5) (pf0 : ClD d mdX1_measure [.long w1, .int (mI M (mR M a0 0) 1)] M (fun r1 M1 => Wp d mdX11_letter 11 [(1, .long w1), (3, .int x3)] (r1.toList ++ []) M1 Q)) : Wp d mdX11_letter 0 [(0, .ref a0), (1, .long w1), (3, .int x3)] [] M Q := by
  refine r_lload_n dX11_letter_0 rfl 1 rfl ?_
  refine r_aload_n dX11_letter_1 rfl 0 rfl ?_
  refine r_getR ck9 dX11_letter_2 flX11_10 rfl k0 ?_
  refine r_getI ck1 dX11_letter_5 flX11_124 rfl k1 ?_
  refine r_sub [1, 2] (ls' := [(1, .long w1), (3, .int x3)]) rfl ?_
  obtain ⟨e9, hlt, h9⟩ := pf0
  exact r_callS (As := [.long w1, .int (mI M (mR M a0 0) 1)]) (rest := []) moX1_measure dX11_letter_8 mlX11_127 saX1_measure rfl hlt (Nat.le_of_ble_eq_true rfl) h9
theorem gX11_letter_11 {d : Nat} {Q : Option Value → Mem → Prop} {M : Mem} {w1 : Int64} {x3 : Int32} {sx0 : Int32}  (pq0 : sx0 < 0 → Q (some (.int sx0)) M) (pw1 : ¬ sx0 < 0 → ¬ x3 = (-1 : Int32) → x3 < 0 → Wp d mdX11_letter 45 [] [.int (-1 : Int32)] M Q) (pf2 : ¬ sx0 < 0 → ¬ x3 = (-1 : Int32) → ¬ x3 < 0 → x3 < sx0 → ClD d mdX1_at [.long w1, .int x3] M (fun r1 M1 => Wp d mdX11_letter 45 [] (r1.toList ++ []) M1 Q)) (pw3 : ¬ sx0 < 0 → ¬ x3 = (-1 : Int32) → ¬ x3 < 0 → ¬ x3 < sx0 → Wp d mdX11_letter 45 [] [.int (-1 : Int32)] M Q) (pq4 : ¬ sx0 < 0 → x3 = (-1 : Int32) → Q (some (.int sx0)) M) : Wp d mdX11_letter 11 [(1, .long w1), (3, .int x3)] [.int sx0] M Q := by
  refine r_istore dX11_letter_11 (by decide) (ls' := [(4, .int sx0), (1, .long w1), (3, .int x3)]) rfl ?_
  refine r_iload dX11_letter_13 0 rfl ?_
  refine r_if_lt (tgt := 23) dX11_letter_15 (by decide) (fun c0 => ?_) (fun c0 => ?_)
  · skip
    refine r_iload dX11_letter_23 0 rfl ?_
    exact r_ret (some (.int sx0)) dX11_letter_25 rfl (pq0 c0)
  · skip
    refine r_iload_n dX11_letter_18 rfl 2 rfl ?_
    refine r_iconst (v := (-1)) dX11_letter_19 rfl ?_
    refine r_icmp_ne (tgt := 26) dX11_letter_20 (by decide) (fun c1 => ?_) (fun c1 => ?_)
    · skip
      refine r_iload_n dX11_letter_26 rfl 2 rfl ?_
      refine r_if_lt (tgt := 36) dX11_letter_27 (by decide) (fun c2 => ?_) (fun c2 => ?_)
      · skip
        refine r_iconst (v := (-1)) dX11_letter_36 rfl ?_
        refine r_goto (tgt := 45) dX11_letter_37 (by decide) ?_
        refine r_sub [] (ls' := []) rfl ?_
        exact (pw1 c0 c1 c2)
      · skip
        refine r_iload_n dX11_letter_30 rfl 2 rfl ?_
        refine r_iload dX11_letter_31 0 rfl ?_
        refine r_icmp_lt (tgt := 40) dX11_letter_33 (by decide) (fun c3 => ?_) (fun c3 => ?_)
        · skip
          refine r_lload_n dX11_letter_40 rfl 1 rfl ?_
          refine r_iload_n dX11_letter_41 rfl 2 rfl ?_
          refine r_sub [] (ls' := []) rfl ?_
          obtain ⟨e9, hlt, h9⟩ := (pf2 c0 c1 c2 c3)
          exact r_callS (As := [.long w1, .int x3]) (rest := []) moX1_at dX11_letter_42 mlX11_131 saX1_at rfl hlt (Nat.le_of_ble_eq_true rfl) h9
        · skip
          refine r_iconst (v := (-1)) dX11_letter_36 rfl ?_
          refine r_goto (tgt := 45) dX11_letter_37 (by decide) ?_
          refine r_sub [] (ls' := []) rfl ?_
          exact (pw3 c0 c1 c2 c3)
    · skip
      refine r_iload dX11_letter_23 0 rfl ?_
      exact r_ret (some (.int sx0)) dX11_letter_25 rfl (pq4 c0 c1)
theorem gX11_letter_45 {d : Nat} {Q : Option Value → Mem → Prop} {M : Mem} {sx0 : Int32}  (pq0 : Q (some (.int sx0)) M) : Wp d mdX11_letter 45 [] [.int sx0] M Q := by
  exact r_ret (some (.int sx0)) dX11_letter_45 rfl pq0
-- X11_cut
theorem gX11_cut_0 {d : Nat} {Q : Option Value → Mem → Prop} {M : Mem} {a0 : Nat} {w1 : Int64} {x3 : Int32} (k0 : mK M a0 = 13) (k1 : mK M (mR M a0 0) = 5) (pf0 : ClD d mdX1_measure [.long w1, .int (mI M (mR M a0 0) 1)] M (fun r1 M1 => Wp d mdX11_cut 11 [(1, .long w1), (3, .int x3)] (r1.toList ++ []) M1 Q)) : Wp d mdX11_cut 0 [(0, .ref a0), (1, .long w1), (3, .int x3)] [] M Q := by
  refine r_lload_n dX11_cut_0 rfl 1 rfl ?_
  refine r_aload_n dX11_cut_1 rfl 0 rfl ?_
  refine r_getR ck9 dX11_cut_2 flX11_10 rfl k0 ?_
  refine r_getI ck1 dX11_cut_5 flX11_124 rfl k1 ?_
  refine r_sub [1, 2] (ls' := [(1, .long w1), (3, .int x3)]) rfl ?_
  obtain ⟨e9, hlt, h9⟩ := pf0
  exact r_callS (As := [.long w1, .int (mI M (mR M a0 0) 1)]) (rest := []) moX1_measure dX11_cut_8 mlX11_127 saX1_measure rfl hlt (Nat.le_of_ble_eq_true rfl) h9
theorem gX11_cut_11 {d : Nat} {Q : Option Value → Mem → Prop} {M : Mem} {w1 : Int64} {x3 : Int32} {sx0 : Int32}  (pq0 : sx0 < 0 → Q (some (.long (-1 : Int64))) M) (pq1 : ¬ sx0 < 0 → sx0 < x3 → Q (some (.long (-1 : Int64))) M) (pf2 : ¬ sx0 < 0 → ¬ sx0 < x3 → (-sx0) ≤ x3 → 0 ≤ x3 → ClD d mdX1_first [.long w1, .int x3] M (fun r1 M1 => Wp d mdX11_cut 53 [] (r1.toList ++ []) M1 Q)) (pf3 : ¬ sx0 < 0 → ¬ sx0 < x3 → (-sx0) ≤ x3 → ¬ 0 ≤ x3 → ClD d mdX1_behind [.long w1, .int (-x3)] M (fun r1 M1 => Wp d mdX11_cut 45 [] (r1.toList ++ []) M1 Q)) (pq4 : ¬ sx0 < 0 → ¬ sx0 < x3 → ¬ (-sx0) ≤ x3 → Q (some (.long (-1 : Int64))) M) : Wp d mdX11_cut 11 [(1, .long w1), (3, .int x3)] [.int sx0] M Q := by
  refine r_istore dX11_cut_11 (by decide) (ls' := [(4, .int sx0), (1, .long w1), (3, .int x3)]) rfl ?_
  refine r_iload dX11_cut_13 0 rfl ?_
  refine r_if_lt (tgt := 31) dX11_cut_15 (by decide) (fun c0 => ?_) (fun c0 => ?_)
  · skip
    refine r_ldc2 dX11_cut_31 kwX11_116 ?_
    exact r_ret (some (.long (-1 : Int64))) dX11_cut_34 rfl (pq0 c0)
  · skip
    refine r_iload_n dX11_cut_18 rfl 2 rfl ?_
    refine r_iload dX11_cut_19 0 rfl ?_
    refine r_icmp_gt (tgt := 31) dX11_cut_21 (by decide) (fun c1 => ?_) (fun c1 => ?_)
    · skip
      refine r_ldc2 dX11_cut_31 kwX11_116 ?_
      exact r_ret (some (.long (-1 : Int64))) dX11_cut_34 rfl (pq1 c0 c1)
    · skip
      refine r_iload_n dX11_cut_24 rfl 2 rfl ?_
      refine r_iload dX11_cut_25 0 rfl ?_
      refine r_ineg dX11_cut_27 ?_
      refine r_icmp_ge (tgt := 35) dX11_cut_28 (by decide) (fun c2 => ?_) (fun c2 => ?_)
      · skip
        refine r_iload_n dX11_cut_35 rfl 2 rfl ?_
        refine r_if_ge (tgt := 48) dX11_cut_36 (by decide) (fun c3 => ?_) (fun c3 => ?_)
        · skip
          refine r_lload_n dX11_cut_48 rfl 1 rfl ?_
          refine r_iload_n dX11_cut_49 rfl 2 rfl ?_
          refine r_sub [] (ls' := []) rfl ?_
          obtain ⟨e9, hlt, h9⟩ := (pf2 c0 c1 c2 c3)
          exact r_callS (As := [.long w1, .int x3]) (rest := []) moX1_first dX11_cut_50 mlX11_138 saX1_first rfl hlt (Nat.le_of_ble_eq_true rfl) h9
        · skip
          refine r_lload_n dX11_cut_39 rfl 1 rfl ?_
          refine r_iload_n dX11_cut_40 rfl 2 rfl ?_
          refine r_ineg dX11_cut_41 ?_
          refine r_sub [] (ls' := []) rfl ?_
          obtain ⟨e9, hlt, h9⟩ := (pf3 c0 c1 c2 c3)
          exact r_callS (As := [.long w1, .int (-x3)]) (rest := []) moX1_behind dX11_cut_42 mlX11_134 saX1_behind rfl hlt (Nat.le_of_ble_eq_true rfl) h9
      · skip
        refine r_ldc2 dX11_cut_31 kwX11_116 ?_
        exact r_ret (some (.long (-1 : Int64))) dX11_cut_34 rfl (pq4 c0 c1 c2)
theorem gX11_cut_45 {d : Nat} {Q : Option Value → Mem → Prop} {M : Mem} {sw0 : Int64}  (pw0 : Wp d mdX11_cut 53 [] [.long sw0] M Q) : Wp d mdX11_cut 45 [] [.long sw0] M Q := by
  refine r_goto (tgt := 53) dX11_cut_45 (by decide) ?_
  exact pw0
theorem gX11_cut_53 {d : Nat} {Q : Option Value → Mem → Prop} {M : Mem} {sw0 : Int64}  (pq0 : Q (some (.long sw0)) M) : Wp d mdX11_cut 53 [] [.long sw0] M Q := by
  exact r_ret (some (.long sw0)) dX11_cut_53 rfl pq0
-- X11_word
theorem gX11_word_0 {d : Nat} {Q : Option Value → Mem → Prop} {M : Mem} {a0 : Nat} {x1 : Int32} (k0 : mK M a0 = 13) (k1 : mK M (mR M a0 0) = 5) (pw0 : x1 < 0 → Wp d mdX11_word 27 [] [.long (-1 : Int64)] M Q) (pf1 : ¬ x1 < 0 → x1 ≤ (nI 1000000) → ClD d mdX1_kth [.int x1, .int (mI M (mR M a0 0) 1)] M (fun r1 M1 => Wp d mdX11_word 27 [] (r1.toList ++ []) M1 Q)) (pw2 : ¬ x1 < 0 → ¬ x1 ≤ (nI 1000000) → Wp d mdX11_word 27 [] [.long (-1 : Int64)] M Q) : Wp d mdX11_word 0 [(0, .ref a0), (1, .int x1)] [] M Q := by
  refine r_iload_n dX11_word_0 rfl 1 rfl ?_
  refine r_if_lt (tgt := 10) dX11_word_1 (by decide) (fun c0 => ?_) (fun c0 => ?_)
  · skip
    refine r_ldc2 dX11_word_10 kwX11_116 ?_
    refine r_goto (tgt := 27) dX11_word_13 (by decide) ?_
    refine r_sub [] (ls' := []) rfl ?_
    exact (pw0 c0)
  · skip
    refine r_iload_n dX11_word_4 rfl 1 rfl ?_
    refine r_ldc dX11_word_5 kwX11_141 ?_
    refine r_icmp_le (tgt := 16) dX11_word_7 (by decide) (fun c1 => ?_) (fun c1 => ?_)
    · skip
      refine r_iload_n dX11_word_16 rfl 1 rfl ?_
      refine r_aload_n dX11_word_17 rfl 0 rfl ?_
      refine r_getR ck9 dX11_word_18 flX11_10 rfl k0 ?_
      refine r_getI ck1 dX11_word_21 flX11_124 rfl k1 ?_
      refine r_sub [] (ls' := []) rfl ?_
      obtain ⟨e9, hlt, h9⟩ := (pf1 c0 c1)
      exact r_callS (As := [.int x1, .int (mI M (mR M a0 0) 1)]) (rest := []) moX1_kth dX11_word_24 mlX11_142 saX1_kth rfl hlt (Nat.le_of_ble_eq_true rfl) h9
    · skip
      refine r_ldc2 dX11_word_10 kwX11_116 ?_
      refine r_goto (tgt := 27) dX11_word_13 (by decide) ?_
      refine r_sub [] (ls' := []) rfl ?_
      exact (pw2 c0 c1)
theorem gX11_word_27 {d : Nat} {Q : Option Value → Mem → Prop} {M : Mem} {sw0 : Int64}  (pq0 : Q (some (.long sw0)) M) : Wp d mdX11_word 27 [] [.long sw0] M Q := by
  exact r_ret (some (.long sw0)) dX11_word_27 rfl pq0
-- X11_prices
theorem gX11_prices_0 {d : Nat} {Q : Option Value → Mem → Prop} {M : Mem} {a0 : Nat} {x1 : Int32} {x2 : Int32} (k0 : mK M a0 = 13) (k1 : mK M (mR M a0 4) = 6) (k2 : mK M (mR M (mR M a0 4) 0) = 4) (pq0 : x1 < 0 → Q (some (.int (nI 0))) M) (pq1 : ¬ x1 < 0 → (nI 99) < x1 → Q (some (.int (nI 0))) M) (pq2 : ¬ x1 < 0 → ¬ (nI 99) < x1 → x2 < 0 → Q (some (.int (nI 0))) M) (pf3 : ¬ x1 < 0 → ¬ (nI 99) < x1 → ¬ x2 < 0 → x2 ≤ (nI 99) → ClD d mdX0_charge [.ref (mR M (mR M a0 4) 0), .int x1, .int x2] M (fun r1 M1 => Wp d mdX11_prices 34 [(0, .ref a0), (1, .int x1), (2, .int x2)] (r1.toList ++ []) M1 Q)) (pq4 : ¬ x1 < 0 → ¬ (nI 99) < x1 → ¬ x2 < 0 → ¬ x2 ≤ (nI 99) → Q (some (.int (nI 0))) M) : Wp d mdX11_prices 0 [(0, .ref a0), (1, .int x1), (2, .int x2)] [] M Q := by
  refine r_iload_n dX11_prices_0 rfl 1 rfl ?_
  refine r_if_lt (tgt := 20) dX11_prices_1 (by decide) (fun c0 => ?_) (fun c0 => ?_)
  · skip
    refine r_iconst (v := (nI 0)) dX11_prices_20 rfl ?_
    exact r_ret (some (.int (nI 0))) dX11_prices_21 rfl (pq0 c0)
  · skip
    refine r_iload_n dX11_prices_4 rfl 1 rfl ?_
    refine r_bipush (v := (nI 99)) dX11_prices_5 rfl ?_
    refine r_icmp_gt (tgt := 20) dX11_prices_7 (by decide) (fun c1 => ?_) (fun c1 => ?_)
    · skip
      refine r_iconst (v := (nI 0)) dX11_prices_20 rfl ?_
      exact r_ret (some (.int (nI 0))) dX11_prices_21 rfl (pq1 c0 c1)
    · skip
      refine r_iload_n dX11_prices_10 rfl 2 rfl ?_
      refine r_if_lt (tgt := 20) dX11_prices_11 (by decide) (fun c2 => ?_) (fun c2 => ?_)
      · skip
        refine r_iconst (v := (nI 0)) dX11_prices_20 rfl ?_
        exact r_ret (some (.int (nI 0))) dX11_prices_21 rfl (pq2 c0 c1 c2)
      · skip
        refine r_iload_n dX11_prices_14 rfl 2 rfl ?_
        refine r_bipush (v := (nI 99)) dX11_prices_15 rfl ?_
        refine r_icmp_le (tgt := 22) dX11_prices_17 (by decide) (fun c3 => ?_) (fun c3 => ?_)
        · skip
          refine r_aload_n dX11_prices_22 rfl 0 rfl ?_
          refine r_getR ck9 dX11_prices_23 flX11_38 rfl k0 ?_
          refine r_getR ck2 dX11_prices_26 flX11_146 rfl k1 ?_
          refine r_iload_n dX11_prices_29 rfl 1 rfl ?_
          refine r_iload_n dX11_prices_30 rfl 2 rfl ?_
          obtain ⟨e9, hlt, h9⟩ := (pf3 c0 c1 c2 c3)
          exact r_callV (As := [.int x1, .int x2]) (rest := []) (ci := 0) moX0_charge dX11_prices_31 mlX11_150 imX0_charge seX0_charge k2 rfl hlt (Nat.le_of_ble_eq_true rfl) h9
        · skip
          refine r_iconst (v := (nI 0)) dX11_prices_20 rfl ?_
          exact r_ret (some (.int (nI 0))) dX11_prices_21 rfl (pq4 c0 c1 c2 c3)
theorem gX11_prices_34 {d : Nat} {Q : Option Value → Mem → Prop} {M : Mem} {a0 : Nat} {x1 : Int32} {x2 : Int32} (k0 : mK M a0 = 13) (k1 : mK M (mR M a0 5) = 6) (k2 : mK M (mR M (mR M a0 5) 0) = 4) (pf0 : ClD d mdX0_charge [.ref (mR M (mR M a0 5) 0), .int x1, .int x2] M (fun r1 M1 => Wp d mdX11_prices 46 [] (r1.toList ++ []) M1 Q)) : Wp d mdX11_prices 34 [(0, .ref a0), (1, .int x1), (2, .int x2)] [] M Q := by
  refine r_aload_n dX11_prices_34 rfl 0 rfl ?_
  refine r_getR ck9 dX11_prices_35 flX11_42 rfl k0 ?_
  refine r_getR ck2 dX11_prices_38 flX11_146 rfl k1 ?_
  refine r_iload_n dX11_prices_41 rfl 1 rfl ?_
  refine r_iload_n dX11_prices_42 rfl 2 rfl ?_
  refine r_sub [] (ls' := []) rfl ?_
  obtain ⟨e9, hlt, h9⟩ := pf0
  exact r_callV (As := [.int x1, .int x2]) (rest := []) (ci := 0) moX0_charge dX11_prices_43 mlX11_150 imX0_charge seX0_charge k2 rfl hlt (Nat.le_of_ble_eq_true rfl) h9
theorem gX11_prices_46 {d : Nat} {Q : Option Value → Mem → Prop} {M : Mem}  (pq0 : Q (some (.int (nI 1))) M) : Wp d mdX11_prices 46 [] [] M Q := by
  refine r_iconst (v := (nI 1)) dX11_prices_46 rfl ?_
  exact r_ret (some (.int (nI 1))) dX11_prices_47 rfl pq0
-- X11_method
theorem gX11_method_0 {d : Nat} {Q : Option Value → Mem → Prop} {M : Mem} {a0 : Nat} {x1 : Int32} (k0 : mK M a0 = 13) (k1 : mK M (mR M a0 4) = 6) (pq0 : x1 < 0 → Q (some (.int (-1 : Int32))) M) (pf1 : ¬ x1 < 0 → x1 < (nI 4) → ClD d mdX4_renew [.ref (mR M a0 4), .int x1] M (fun r1 M1 => Wp d mdX11_method 27 [(2, .int (mI M (mR M a0 4) 4))] (r1.toList ++ []) M1 Q)) (pq2 : ¬ x1 < 0 → ¬ x1 < (nI 4) → Q (some (.int (-1 : Int32))) M) : Wp d mdX11_method 0 [(0, .ref a0), (1, .int x1)] [] M Q := by
  refine r_iload_n dX11_method_0 rfl 1 rfl ?_
  refine r_if_lt (tgt := 9) dX11_method_1 (by decide) (fun c0 => ?_) (fun c0 => ?_)
  · skip
    refine r_iconst (v := (-1)) dX11_method_9 rfl ?_
    exact r_ret (some (.int (-1 : Int32))) dX11_method_10 rfl (pq0 c0)
  · skip
    refine r_iload_n dX11_method_4 rfl 1 rfl ?_
    refine r_iconst (v := (nI 4)) dX11_method_5 rfl ?_
    refine r_icmp_lt (tgt := 11) dX11_method_6 (by decide) (fun c1 => ?_) (fun c1 => ?_)
    · skip
      refine r_aload_n dX11_method_11 rfl 0 rfl ?_
      refine r_getR ck9 dX11_method_12 flX11_38 rfl k0 ?_
      refine r_getI ck2 dX11_method_15 flX11_92 rfl k1 ?_
      refine r_istore_n dX11_method_18 rfl (by decide) (ls' := [(2, .int (mI M (mR M a0 4) 4)), (0, .ref a0), (1, .int x1)]) rfl ?_
      refine r_aload_n dX11_method_19 rfl 1 rfl ?_
      refine r_getR ck9 dX11_method_20 flX11_38 rfl k0 ?_
      refine r_iload_n dX11_method_23 rfl 2 rfl ?_
      refine r_sub [0] (ls' := [(2, .int (mI M (mR M a0 4) 4))]) rfl ?_
      obtain ⟨e9, hlt, h9⟩ := (pf1 c0 c1)
      exact r_callV (As := [.int x1]) (rest := []) (ci := 2) moX4_renew dX11_method_24 mlX11_69 imX4_renew seX4_renew k1 rfl hlt (Nat.le_of_ble_eq_true rfl) h9
    · skip
      refine r_iconst (v := (-1)) dX11_method_9 rfl ?_
      exact r_ret (some (.int (-1 : Int32))) dX11_method_10 rfl (pq2 c0 c1)
theorem gX11_method_27 {d : Nat} {Q : Option Value → Mem → Prop} {M : Mem} {x2 : Int32}  (pq0 : Q (some (.int x2)) M) : Wp d mdX11_method 27 [(2, .int x2)] [] M Q := by
  refine r_iload_n dX11_method_27 rfl 0 rfl ?_
  exact r_ret (some (.int x2)) dX11_method_28 rfl pq0
-- X11_asks
theorem gX11_asks_0 {d : Nat} {Q : Option Value → Mem → Prop} {M : Mem} {a0 : Nat} {w1 : Int64} (k0 : mK M a0 = 13) (pf0 : ClD d mdX11_isNoWord [.ref a0, .long w1] M (fun r1 M1 => Wp d mdX11_asks 5 [(0, .ref a0), (1, .long w1)] (r1.toList ++ []) M1 Q)) : Wp d mdX11_asks 0 [(0, .ref a0), (1, .long w1)] [] M Q := by
  refine r_aload_n dX11_asks_0 rfl 0 rfl ?_
  refine r_lload_n dX11_asks_1 rfl 1 rfl ?_
  obtain ⟨e9, hlt, h9⟩ := pf0
  exact r_callV (As := [.long w1]) (rest := []) (ci := 9) moX11_isNoWord dX11_asks_2 mlX11_108 imX11_isNoWord seX11_isNoWord k0 rfl hlt (Nat.le_of_ble_eq_true rfl) h9
theorem gX11_asks_5 {d : Nat} {Q : Option Value → Mem → Prop} {M : Mem} {a0 : Nat} {w1 : Int64} {sx0 : Int32} (k0 : mK M a0 = 13) (k1 : mK M (mR M a0 4) = 6) (k2 : mK M (mR M (mR M a0 4) 0) = 4) (pf0 : sx0 = 0 → ClD d mdX0_ask [.ref (mR M (mR M a0 4) 0), .long w1] M (fun r1 M1 => Wp d mdX11_asks 23 [] (r1.toList ++ []) M1 Q)) (pw1 : ¬ sx0 = 0 → Wp d mdX11_asks 23 [] [.int (-1 : Int32)] M Q) : Wp d mdX11_asks 5 [(0, .ref a0), (1, .long w1)] [.int sx0] M Q := by
  refine r_if_eq (tgt := 12) dX11_asks_5 (by decide) (fun c0 => ?_) (fun c0 => ?_)
  · skip
    refine r_aload_n dX11_asks_12 rfl 0 rfl ?_
    refine r_getR ck9 dX11_asks_13 flX11_38 rfl k0 ?_
    refine r_getR ck2 dX11_asks_16 flX11_146 rfl k1 ?_
    refine r_lload_n dX11_asks_19 rfl 1 rfl ?_
    refine r_sub [] (ls' := []) rfl ?_
    obtain ⟨e9, hlt, h9⟩ := (pf0 c0)
    exact r_callV (As := [.long w1]) (rest := []) (ci := 0) moX0_ask dX11_asks_20 mlX11_156 imX0_ask seX0_ask k2 rfl hlt (Nat.le_of_ble_eq_true rfl) h9
  · skip
    refine r_iconst (v := (-1)) dX11_asks_8 rfl ?_
    refine r_goto (tgt := 23) dX11_asks_9 (by decide) ?_
    refine r_sub [] (ls' := []) rfl ?_
    exact (pw1 c0)
theorem gX11_asks_23 {d : Nat} {Q : Option Value → Mem → Prop} {M : Mem} {sx0 : Int32}  (pq0 : Q (some (.int sx0)) M) : Wp d mdX11_asks 23 [] [.int sx0] M Q := by
  exact r_ret (some (.int sx0)) dX11_asks_23 rfl pq0
-- X11_known
theorem gX11_known_0 {d : Nat} {Q : Option Value → Mem → Prop} {M : Mem} {a0 : Nat} {w1 : Int64} (k0 : mK M a0 = 13) (pf0 : ClD d mdX11_isNoWord [.ref a0, .long w1] M (fun r1 M1 => Wp d mdX11_known 5 [(0, .ref a0), (1, .long w1)] (r1.toList ++ []) M1 Q)) : Wp d mdX11_known 0 [(0, .ref a0), (1, .long w1)] [] M Q := by
  refine r_aload_n dX11_known_0 rfl 0 rfl ?_
  refine r_lload_n dX11_known_1 rfl 1 rfl ?_
  obtain ⟨e9, hlt, h9⟩ := pf0
  exact r_callV (As := [.long w1]) (rest := []) (ci := 9) moX11_isNoWord dX11_known_2 mlX11_108 imX11_isNoWord seX11_isNoWord k0 rfl hlt (Nat.le_of_ble_eq_true rfl) h9
theorem gX11_known_5 {d : Nat} {Q : Option Value → Mem → Prop} {M : Mem} {a0 : Nat} {w1 : Int64} {sx0 : Int32} (k0 : mK M a0 = 13) (k1 : mK M (mR M a0 4) = 6) (k2 : mK M (mR M (mR M a0 4) 0) = 4) (k3 : mK M (mR M (mR M (mR M a0 4) 0) 1) = 12) (pf0 : sx0 = 0 → ClD d mdX10_has [.ref (mR M (mR M (mR M a0 4) 0) 1), .long w1] M (fun r1 M1 => Wp d mdX11_known 24 [] (r1.toList ++ []) M1 Q)) (pq1 : ¬ sx0 = 0 → Q (some (.int (-1 : Int32))) M) : Wp d mdX11_known 5 [(0, .ref a0), (1, .long w1)] [.int sx0] M Q := by
  refine r_if_eq (tgt := 10) dX11_known_5 (by decide) (fun c0 => ?_) (fun c0 => ?_)
  · skip
    refine r_aload_n dX11_known_10 rfl 0 rfl ?_
    refine r_getR ck9 dX11_known_11 flX11_38 rfl k0 ?_
    refine r_getR ck2 dX11_known_14 flX11_146 rfl k1 ?_
    refine r_getR ck0 dX11_known_17 flX11_160 rfl k2 ?_
    refine r_lload_n dX11_known_20 rfl 1 rfl ?_
    refine r_sub [] (ls' := []) rfl ?_
    obtain ⟨e9, hlt, h9⟩ := (pf0 c0)
    exact r_callV (As := [.long w1]) (rest := []) (ci := 8) moX10_has dX11_known_21 mlX11_163 imX10_has seX10_has k3 rfl hlt (Nat.le_of_ble_eq_true rfl) h9
  · skip
    refine r_iconst (v := (-1)) dX11_known_8 rfl ?_
    exact r_ret (some (.int (-1 : Int32))) dX11_known_9 rfl (pq1 c0)
theorem gX11_known_24 {d : Nat} {Q : Option Value → Mem → Prop} {M : Mem} {sx0 : Int32}  (pq0 : sx0 = 0 → Q (some (.int (nI 0))) M) (pq1 : ¬ sx0 = 0 → Q (some (.int (nI 1))) M) : Wp d mdX11_known 24 [] [.int sx0] M Q := by
  refine r_if_eq (tgt := 31) dX11_known_24 (by decide) (fun c0 => ?_) (fun c0 => ?_)
  · skip
    refine r_iconst (v := (nI 0)) dX11_known_31 rfl ?_
    exact r_ret (some (.int (nI 0))) dX11_known_32 rfl (pq0 c0)
  · skip
    refine r_iconst (v := (nI 1)) dX11_known_27 rfl ?_
    refine r_goto (tgt := 32) dX11_known_28 (by decide) ?_
    exact r_ret (some (.int (nI 1))) dX11_known_32 rfl (pq1 c0)
-- X11_step
theorem gX11_step_0 {d : Nat} {Q : Option Value → Mem → Prop} {M : Mem} {a0 : Nat} (k0 : mK M a0 = 13) (k1 : mK M (mR M a0 4) = 6) {cnk2 : Nat} (hnk2 : NT cnk2) (k2 : mK M (mR M (mR M a0 4) 3) = cnk2 + 4) (pf0 : ClD d mdX3_hasGuess [.ref (mR M (mR M a0 4) 3)] M (fun r1 M1 => Wp d mdX11_step 12 [(0, .ref a0), (1, .ref (mR M (mR M a0 4) 3))] (r1.toList ++ []) M1 Q)) : Wp d mdX11_step 0 [(0, .ref a0)] [] M Q := by
  refine r_aload_n dX11_step_0 rfl 0 rfl ?_
  refine r_getR ck9 dX11_step_1 flX11_38 rfl k0 ?_
  refine r_getR ck2 dX11_step_4 flX11_166 rfl k1 ?_
  refine r_astore_n dX11_step_7 rfl (by decide) (ls' := [(1, .ref (mR M (mR M a0 4) 3)), (0, .ref a0)]) rfl ?_
  refine r_aload_n dX11_step_8 rfl 0 rfl ?_
  refine r_sub [1, 0] (ls' := [(0, .ref a0), (1, .ref (mR M (mR M a0 4) 3))]) rfl ?_
  obtain ⟨e9, hlt, h9⟩ := pf0
  rcases hnk2 with rfl | rfl
  · exact r_callU (As := []) (rest := []) (ci := 4) (x := yX3_hasGuess) (owner := "AskingPupil$Notes") moX3_hasGuess dX11_step_9 mlX11_170 smX3_hasGuess imX3_hasGuess suX6_X3_hasGuess ⟨by decide +kernel, by decide +kernel⟩ (Or.inl rfl) k2 rfl hlt (Nat.le_of_ble_eq_true rfl) h9
  · exact r_callU (As := []) (rest := []) (ci := 6) (x := yX3_hasGuess) (owner := "AskingPupil$Notes") moX3_hasGuess dX11_step_9 mlX11_170 smX3_hasGuess imX3_hasGuess suX8_X3_hasGuess ⟨by decide +kernel, by decide +kernel⟩ (Or.inl rfl) k2 rfl hlt (Nat.le_of_ble_eq_true rfl) h9
theorem gX11_step_12 {d : Nat} {Q : Option Value → Mem → Prop} {M : Mem} {a0 : Nat} {a1 : Nat} {sx0 : Int32} (k0 : mK M a0 = 13) (k1 : mK M (mR M a0 4) = 6) (k2 : mK M (mR M (mR M a0 4) 0) = 4) (k3 : mK M (mR M (mR M (mR M a0 4) 0) 1) = 12) {cnk4 : Nat} (hnk4 : NT cnk4) (k4 : mK M a1 = cnk4 + 4) (pf0 : sx0 = 0 → cnk4 = 4 → ClD d mdX6_advance [.ref a1] M (fun r1 M1 => Wp d mdX11_step 36 [(0, .ref a0), (1, .ref a1), (2, .int (mI M (mR M (mR M (mR M a0 4) 0) 1) 0))] (r1.toList ++ []) M1 Q)) (pf1 : sx0 = 0 → cnk4 = 6 → ClD d mdX8_advance [.ref a1] M (fun r1 M1 => Wp d mdX11_step 36 [(0, .ref a0), (1, .ref a1), (2, .int (mI M (mR M (mR M (mR M a0 4) 0) 1) 0))] (r1.toList ++ []) M1 Q)) (pq2 : ¬ sx0 = 0 → Q (some (.int (-2 : Int32))) M) : Wp d mdX11_step 12 [(0, .ref a0), (1, .ref a1)] [.int sx0] M Q := by
  refine r_if_eq (tgt := 18) dX11_step_12 (by decide) (fun c0 => ?_) (fun c0 => ?_)
  · skip
    refine r_aload_n dX11_step_18 rfl 0 rfl ?_
    refine r_getR ck9 dX11_step_19 flX11_38 rfl k0 ?_
    refine r_getR ck2 dX11_step_22 flX11_146 rfl k1 ?_
    refine r_getR ck0 dX11_step_25 flX11_160 rfl k2 ?_
    refine r_getI ck8 dX11_step_28 flX11_175 rfl k3 ?_
    refine r_istore_n dX11_step_31 rfl (by decide) (ls' := [(2, .int (mI M (mR M (mR M (mR M a0 4) 0) 1) 0)), (0, .ref a0), (1, .ref a1)]) rfl ?_
    refine r_aload_n dX11_step_32 rfl 2 rfl ?_
    refine r_sub [1, 2, 0] (ls' := [(0, .ref a0), (1, .ref a1), (2, .int (mI M (mR M (mR M (mR M a0 4) 0) 1) 0))]) rfl ?_
    rcases hnk4 with rfl | rfl
    · obtain ⟨e9, hlt, h9⟩ := (pf0 c0) rfl
      exact r_callU (As := []) (rest := []) (ci := 4) (x := ⟨"AskingPupil$Notes", "advance", "()I"⟩) (owner := "AskingPupil$Notes") moX6_advance dX11_step_33 mlX11_178 smX3_advance imX6_advance suX6_X3_advance ⟨by decide +kernel, by decide +kernel⟩ (Or.inr (by decide +kernel)) k4 rfl hlt (Nat.le_of_ble_eq_true rfl) h9
    · obtain ⟨e9, hlt, h9⟩ := (pf1 c0) rfl
      exact r_callU (As := []) (rest := []) (ci := 6) (x := ⟨"AskingPupil$Notes", "advance", "()I"⟩) (owner := "AskingPupil$Notes") moX8_advance dX11_step_33 mlX11_178 smX3_advance imX8_advance suX8_X3_advance ⟨by decide +kernel, by decide +kernel⟩ (Or.inr (by decide +kernel)) k4 rfl hlt (Nat.le_of_ble_eq_true rfl) h9
  · skip
    refine r_bipush (v := (-2)) dX11_step_15 rfl ?_
    exact r_ret (some (.int (-2 : Int32))) dX11_step_17 rfl (pq2 c0)
theorem gX11_step_36 {d : Nat} {Q : Option Value → Mem → Prop} {M : Mem} {a0 : Nat} {a1 : Nat} {x2 : Int32} {sx0 : Int32} (k0 : mK M a0 = 13) (pf0 : ClD d mdX11_clearNumbers [.ref a0] M (fun r1 M1 => Wp d mdX11_step 41 [(0, .ref a0), (1, .ref a1), (2, .int x2), (3, .int sx0)] (r1.toList ++ []) M1 Q)) : Wp d mdX11_step 36 [(0, .ref a0), (1, .ref a1), (2, .int x2)] [.int sx0] M Q := by
  refine r_istore_n dX11_step_36 rfl (by decide) (ls' := [(3, .int sx0), (0, .ref a0), (1, .ref a1), (2, .int x2)]) rfl ?_
  refine r_aload_n dX11_step_37 rfl 1 rfl ?_
  refine r_sub [1, 2, 3, 0] (ls' := [(0, .ref a0), (1, .ref a1), (2, .int x2), (3, .int sx0)]) rfl ?_
  obtain ⟨e9, hlt, h9⟩ := pf0
  exact r_callV (As := []) (rest := []) (ci := 9) moX11_clearNumbers dX11_step_38 mlX11_181 imX11_clearNumbers seX11_clearNumbers k0 rfl hlt (Nat.le_of_ble_eq_true rfl) h9
theorem gX11_step_41 {d : Nat} {Q : Option Value → Mem → Prop} {M : Mem} {a0 : Nat} {a1 : Nat} {x2 : Int32} {x3 : Int32} (k0 : mK M a0 = 13) (k1 : mK M (mR M a0 4) = 6) (k2 : mK M (mR M (mR M a0 4) 0) = 4) (k3 : mK M (mR M (mR M (mR M a0 4) 0) 1) = 12) (pf0 : ClD d mdX11_put [.ref a0, .long (((mI M (mR M (mR M (mR M a0 4) 0) 1) 0) - x2).toInt64)] M (fun r1 M1 => Wp d mdX11_step 61 [(0, .ref a0), (1, .ref a1), (3, .int x3)] (r1.toList ++ []) M1 Q)) : Wp d mdX11_step 41 [(0, .ref a0), (1, .ref a1), (2, .int x2), (3, .int x3)] [] M Q := by
  refine r_aload_n dX11_step_41 rfl 0 rfl ?_
  refine r_aload_n dX11_step_42 rfl 0 rfl ?_
  refine r_getR ck9 dX11_step_43 flX11_38 rfl k0 ?_
  refine r_getR ck2 dX11_step_46 flX11_146 rfl k1 ?_
  refine r_getR ck0 dX11_step_49 flX11_160 rfl k2 ?_
  refine r_getI ck8 dX11_step_52 flX11_175 rfl k3 ?_
  refine r_iload_n dX11_step_55 rfl 2 rfl ?_
  refine r_isub dX11_step_56 ?_
  refine r_i2l dX11_step_57 ?_
  refine r_sub [0, 1, 3] (ls' := [(0, .ref a0), (1, .ref a1), (3, .int x3)]) rfl ?_
  obtain ⟨e9, hlt, h9⟩ := pf0
  exact r_callV (As := [.long (((mI M (mR M (mR M (mR M a0 4) 0) 1) 0) - x2).toInt64)]) (rest := []) (ci := 9) moX11_put dX11_step_58 mlX11_184 imX11_put seX11_put k0 rfl hlt (Nat.le_of_ble_eq_true rfl) h9
theorem gX11_step_61 {d : Nat} {Q : Option Value → Mem → Prop} {M : Mem} {a0 : Nat} {a1 : Nat} {x3 : Int32} {cnk0 : Nat} (hnk0 : NT cnk0) (k0 : mK M a1 = cnk0 + 4) (k1 : mK M (mR M a1 1) = 11) (pw0 : ¬ x3 = (nI 1) → Wp d mdX11_step 77 [(0, .ref a0), (1, .ref a1), (3, .int x3)] [] M Q) (pf1 : x3 = (nI 1) → ClD d mdX9_last [.ref (mR M a1 1)] M (fun r1 M1 => Wp d mdX11_step 74 [(0, .ref a0), (1, .ref a1), (3, .int x3)] (r1.toList ++ [.ref a0]) M1 Q)) : Wp d mdX11_step 61 [(0, .ref a0), (1, .ref a1), (3, .int x3)] [] M Q := by
  refine r_iload_n dX11_step_61 rfl 2 rfl ?_
  refine r_iconst (v := (nI 1)) dX11_step_62 rfl ?_
  refine r_icmp_ne (tgt := 77) dX11_step_63 (by decide) (fun c0 => ?_) (fun c0 => ?_)
  · skip
    exact (pw0 c0)
  · skip
    refine r_aload_n dX11_step_66 rfl 0 rfl ?_
    refine r_aload_n dX11_step_67 rfl 1 rfl ?_
    refine r_getR (ckN hnk0) dX11_step_68 (flX11_188 hnk0) (by rcases hnk0 with rfl | rfl <;> rfl) k0 ?_
    obtain ⟨e9, hlt, h9⟩ := (pf1 c0)
    exact r_callV (As := []) (rest := [.ref a0]) (ci := 7) moX9_last dX11_step_71 mlX11_191 imX9_last seX9_last k1 rfl hlt (Nat.le_of_ble_eq_true rfl) h9
theorem gX11_step_74 {d : Nat} {Q : Option Value → Mem → Prop} {M : Mem} {a0 : Nat} {a1 : Nat} {x3 : Int32} {sw0 : Int64} {sa1 : Nat} (k0 : mK M sa1 = 13) (pf0 : ClD d mdX11_put [.ref sa1, .long sw0] M (fun r1 M1 => Wp d mdX11_step 77 [(0, .ref a0), (1, .ref a1), (3, .int x3)] (r1.toList ++ []) M1 Q)) : Wp d mdX11_step 74 [(0, .ref a0), (1, .ref a1), (3, .int x3)] [.long sw0, .ref sa1] M Q := by
  obtain ⟨e9, hlt, h9⟩ := pf0
  exact r_callV (As := [.long sw0]) (rest := []) (ci := 9) moX11_put dX11_step_74 mlX11_184 imX11_put seX11_put k0 rfl hlt (Nat.le_of_ble_eq_true rfl) h9
theorem gX11_step_77 {d : Nat} {Q : Option Value → Mem → Prop} {M : Mem} {a0 : Nat} {a1 : Nat} {x3 : Int32} {cnk0 : Nat} (hnk0 : NT cnk0) (k0 : mK M a1 = cnk0 + 4) (k1 : mK M (mR M a1 2) = 11) (pw0 : ¬ x3 = (nI 2) → Wp d mdX11_step 93 [(3, .int x3)] [] M Q) (pf1 : x3 = (nI 2) → ClD d mdX9_last [.ref (mR M a1 2)] M (fun r1 M1 => Wp d mdX11_step 90 [(3, .int x3)] (r1.toList ++ [.ref a0]) M1 Q)) : Wp d mdX11_step 77 [(0, .ref a0), (1, .ref a1), (3, .int x3)] [] M Q := by
  refine r_iload_n dX11_step_77 rfl 2 rfl ?_
  refine r_iconst (v := (nI 2)) dX11_step_78 rfl ?_
  refine r_icmp_ne (tgt := 93) dX11_step_79 (by decide) (fun c0 => ?_) (fun c0 => ?_)
  · skip
    refine r_sub [2] (ls' := [(3, .int x3)]) rfl ?_
    exact (pw0 c0)
  · skip
    refine r_aload_n dX11_step_82 rfl 0 rfl ?_
    refine r_aload_n dX11_step_83 rfl 1 rfl ?_
    refine r_getR (ckN hnk0) dX11_step_84 (flX11_195 hnk0) (by rcases hnk0 with rfl | rfl <;> rfl) k0 ?_
    refine r_sub [2] (ls' := [(3, .int x3)]) rfl ?_
    obtain ⟨e9, hlt, h9⟩ := (pf1 c0)
    exact r_callV (As := []) (rest := [.ref a0]) (ci := 7) moX9_last dX11_step_87 mlX11_191 imX9_last seX9_last k1 rfl hlt (Nat.le_of_ble_eq_true rfl) h9
theorem gX11_step_90 {d : Nat} {Q : Option Value → Mem → Prop} {M : Mem} {x3 : Int32} {sw0 : Int64} {sa1 : Nat} (k0 : mK M sa1 = 13) (pf0 : ClD d mdX11_put [.ref sa1, .long sw0] M (fun r1 M1 => Wp d mdX11_step 93 [(3, .int x3)] (r1.toList ++ []) M1 Q)) : Wp d mdX11_step 90 [(3, .int x3)] [.long sw0, .ref sa1] M Q := by
  obtain ⟨e9, hlt, h9⟩ := pf0
  exact r_callV (As := [.long sw0]) (rest := []) (ci := 9) moX11_put dX11_step_90 mlX11_184 imX11_put seX11_put k0 rfl hlt (Nat.le_of_ble_eq_true rfl) h9
theorem gX11_step_93 {d : Nat} {Q : Option Value → Mem → Prop} {M : Mem} {x3 : Int32}  (pq0 : Q (some (.int x3)) M) : Wp d mdX11_step 93 [(3, .int x3)] [] M Q := by
  refine r_iload_n dX11_step_93 rfl 0 rfl ?_
  exact r_ret (some (.int x3)) dX11_step_94 rfl pq0
-- X11_guess
theorem gX11_guess_0 {d : Nat} {Q : Option Value → Mem → Prop} {M : Mem} {a0 : Nat} (k0 : mK M a0 = 13) (k1 : mK M (mR M a0 4) = 6) (pw0 : Wp d mdX11_guess 10 [(0, .ref a0), (1, .ref (mR M (mR M a0 4) 3)), (2, .int (nI 0))] [] M Q) : Wp d mdX11_guess 0 [(0, .ref a0)] [] M Q := by
  refine r_aload_n dX11_guess_0 rfl 0 rfl ?_
  refine r_getR ck9 dX11_guess_1 flX11_38 rfl k0 ?_
  refine r_getR ck2 dX11_guess_4 flX11_166 rfl k1 ?_
  refine r_astore_n dX11_guess_7 rfl (by decide) (ls' := [(1, .ref (mR M (mR M a0 4) 3)), (0, .ref a0)]) rfl ?_
  refine r_iconst (v := (nI 0)) dX11_guess_8 rfl ?_
  refine r_istore_n dX11_guess_9 rfl (by decide) (ls' := [(2, .int (nI 0)), (1, .ref (mR M (mR M a0 4) 3)), (0, .ref a0)]) rfl ?_
  refine r_sub [2, 1, 0] (ls' := [(0, .ref a0), (1, .ref (mR M (mR M a0 4) 3)), (2, .int (nI 0))]) rfl ?_
  exact pw0
theorem gX11_guess_10 {d : Nat} {Q : Option Value → Mem → Prop} {M : Mem} {a0 : Nat} {a1 : Nat} {x2 : Int32} {cnk0 : Nat} (hnk0 : NT cnk0) (k0 : mK M a1 = cnk0 + 4) (pf0 : ClD d mdX3_hasGuess [.ref a1] M (fun r1 M1 => Wp d mdX11_guess 14 [(0, .ref a0), (1, .ref a1), (2, .int x2)] (r1.toList ++ []) M1 Q)) : Wp d mdX11_guess 10 [(0, .ref a0), (1, .ref a1), (2, .int x2)] [] M Q := by
  refine r_aload_n dX11_guess_10 rfl 1 rfl ?_
  obtain ⟨e9, hlt, h9⟩ := pf0
  rcases hnk0 with rfl | rfl
  · exact r_callU (As := []) (rest := []) (ci := 4) (x := yX3_hasGuess) (owner := "AskingPupil$Notes") moX3_hasGuess dX11_guess_11 mlX11_170 smX3_hasGuess imX3_hasGuess suX6_X3_hasGuess ⟨by decide +kernel, by decide +kernel⟩ (Or.inl rfl) k0 rfl hlt (Nat.le_of_ble_eq_true rfl) h9
  · exact r_callU (As := []) (rest := []) (ci := 6) (x := yX3_hasGuess) (owner := "AskingPupil$Notes") moX3_hasGuess dX11_guess_11 mlX11_170 smX3_hasGuess imX3_hasGuess suX8_X3_hasGuess ⟨by decide +kernel, by decide +kernel⟩ (Or.inl rfl) k0 rfl hlt (Nat.le_of_ble_eq_true rfl) h9
theorem gX11_guess_14 {d : Nat} {Q : Option Value → Mem → Prop} {M : Mem} {a0 : Nat} {a1 : Nat} {x2 : Int32} {sx0 : Int32} {cnk0 : Nat} (hnk0 : NT cnk0) (k0 : mK M a1 = cnk0 + 4) (pw0 : ¬ sx0 = 0 → Wp d mdX11_guess 35 [(0, .ref a0), (1, .ref a1), (2, .int x2)] [] M Q) (pw1 : sx0 = 0 → (nI 10000) ≤ x2 → Wp d mdX11_guess 35 [(0, .ref a0), (1, .ref a1), (2, .int x2)] [] M Q) (pf2 : sx0 = 0 → ¬ (nI 10000) ≤ x2 → cnk0 = 4 → ClD d mdX6_advance [.ref a1] M (fun r1 M1 => Wp d mdX11_guess 28 [(0, .ref a0), (1, .ref a1), (2, .int x2)] (r1.toList ++ []) M1 Q)) (pf3 : sx0 = 0 → ¬ (nI 10000) ≤ x2 → cnk0 = 6 → ClD d mdX8_advance [.ref a1] M (fun r1 M1 => Wp d mdX11_guess 28 [(0, .ref a0), (1, .ref a1), (2, .int x2)] (r1.toList ++ []) M1 Q)) : Wp d mdX11_guess 14 [(0, .ref a0), (1, .ref a1), (2, .int x2)] [.int sx0] M Q := by
  refine r_if_ne (tgt := 35) dX11_guess_14 (by decide) (fun c0 => ?_) (fun c0 => ?_)
  · skip
    exact (pw0 c0)
  · skip
    refine r_iload_n dX11_guess_17 rfl 2 rfl ?_
    refine r_sipush (v := (nI 10000)) dX11_guess_18 rfl ?_
    refine r_icmp_ge (tgt := 35) dX11_guess_21 (by decide) (fun c1 => ?_) (fun c1 => ?_)
    · skip
      exact (pw1 c0 c1)
    · skip
      refine r_aload_n dX11_guess_24 rfl 1 rfl ?_
      rcases hnk0 with rfl | rfl
      · obtain ⟨e9, hlt, h9⟩ := (pf2 c0 c1) rfl
        exact r_callU (As := []) (rest := []) (ci := 4) (x := ⟨"AskingPupil$Notes", "advance", "()I"⟩) (owner := "AskingPupil$Notes") moX6_advance dX11_guess_25 mlX11_178 smX3_advance imX6_advance suX6_X3_advance ⟨by decide +kernel, by decide +kernel⟩ (Or.inr (by decide +kernel)) k0 rfl hlt (Nat.le_of_ble_eq_true rfl) h9
      · obtain ⟨e9, hlt, h9⟩ := (pf3 c0 c1) rfl
        exact r_callU (As := []) (rest := []) (ci := 6) (x := ⟨"AskingPupil$Notes", "advance", "()I"⟩) (owner := "AskingPupil$Notes") moX8_advance dX11_guess_25 mlX11_178 smX3_advance imX8_advance suX8_X3_advance ⟨by decide +kernel, by decide +kernel⟩ (Or.inr (by decide +kernel)) k0 rfl hlt (Nat.le_of_ble_eq_true rfl) h9
theorem gX11_guess_28 {d : Nat} {Q : Option Value → Mem → Prop} {M : Mem} {a0 : Nat} {a1 : Nat} {x2 : Int32} {sx0 : Int32}  (pw0 : Wp d mdX11_guess 10 [(0, .ref a0), (1, .ref a1), (2, .int (x2 + (nI 1)))] [] M Q) : Wp d mdX11_guess 28 [(0, .ref a0), (1, .ref a1), (2, .int x2)] [.int sx0] M Q := by
  refine r_pop dX11_guess_28 rfl ?_
  refine r_iinc dX11_guess_29 2 rfl (v := x2 + (nI 1)) rfl (by decide) (ls' := [(2, .int (x2 + (nI 1))), (0, .ref a0), (1, .ref a1)]) rfl ?_
  refine r_goto (tgt := 10) dX11_guess_32 (by decide) ?_
  refine r_sub [1, 2, 0] (ls' := [(0, .ref a0), (1, .ref a1), (2, .int (x2 + (nI 1)))]) rfl ?_
  exact pw0
theorem gX11_guess_35 {d : Nat} {Q : Option Value → Mem → Prop} {M : Mem} {a0 : Nat} {a1 : Nat} {x2 : Int32} (k0 : mK M a0 = 13) (pf0 : ClD d mdX11_clearNumbers [.ref a0] M (fun r1 M1 => Wp d mdX11_guess 39 [(0, .ref a0), (1, .ref a1), (2, .int x2)] (r1.toList ++ []) M1 Q)) : Wp d mdX11_guess 35 [(0, .ref a0), (1, .ref a1), (2, .int x2)] [] M Q := by
  refine r_aload_n dX11_guess_35 rfl 0 rfl ?_
  obtain ⟨e9, hlt, h9⟩ := pf0
  exact r_callV (As := []) (rest := []) (ci := 9) moX11_clearNumbers dX11_guess_36 mlX11_181 imX11_clearNumbers seX11_clearNumbers k0 rfl hlt (Nat.le_of_ble_eq_true rfl) h9
theorem gX11_guess_39 {d : Nat} {Q : Option Value → Mem → Prop} {M : Mem} {a0 : Nat} {a1 : Nat} {x2 : Int32} (k0 : mK M a0 = 13) (pf0 : ClD d mdX11_put [.ref a0, .long x2.toInt64] M (fun r1 M1 => Wp d mdX11_guess 45 [(1, .ref a1)] (r1.toList ++ []) M1 Q)) : Wp d mdX11_guess 39 [(0, .ref a0), (1, .ref a1), (2, .int x2)] [] M Q := by
  refine r_aload_n dX11_guess_39 rfl 0 rfl ?_
  refine r_iload_n dX11_guess_40 rfl 2 rfl ?_
  refine r_i2l dX11_guess_41 ?_
  refine r_sub [1] (ls' := [(1, .ref a1)]) rfl ?_
  obtain ⟨e9, hlt, h9⟩ := pf0
  exact r_callV (As := [.long x2.toInt64]) (rest := []) (ci := 9) moX11_put dX11_guess_42 mlX11_184 imX11_put seX11_put k0 rfl hlt (Nat.le_of_ble_eq_true rfl) h9
theorem gX11_guess_45 {d : Nat} {Q : Option Value → Mem → Prop} {M : Mem} {a1 : Nat} {cnk0 : Nat} (hnk0 : NT cnk0) (k0 : mK M a1 = cnk0 + 4) (k1 : mK M (mR M a1 4) = 5) (pq0 : Q (some (.int (mI M (mR M a1 4) 0))) M) : Wp d mdX11_guess 45 [(1, .ref a1)] [] M Q := by
  refine r_aload_n dX11_guess_45 rfl 0 rfl ?_
  refine r_getR (ckN hnk0) dX11_guess_46 (flX11_198 hnk0) (by rcases hnk0 with rfl | rfl <;> rfl) k0 ?_
  refine r_getI ck1 dX11_guess_49 flX11_201 rfl k1 ?_
  exact r_ret (some (.int (mI M (mR M a1 4) 0))) dX11_guess_52 rfl pq0
-- X11_tells
theorem gX11_tells_0 {d : Nat} {Q : Option Value → Mem → Prop} {M : Mem} {a0 : Nat} {w1 : Int64} (k0 : mK M a0 = 13) (k1 : mK M (mR M a0 0) = 5) (pf0 : ClD d mdX1_measure [.long w1, .int (mI M (mR M a0 0) 1)] M (fun r1 M1 => Wp d mdX11_tells 11 [(0, .ref a0), (1, .long w1)] (r1.toList ++ []) M1 Q)) : Wp d mdX11_tells 0 [(0, .ref a0), (1, .long w1)] [] M Q := by
  refine r_lload_n dX11_tells_0 rfl 1 rfl ?_
  refine r_aload_n dX11_tells_1 rfl 0 rfl ?_
  refine r_getR ck9 dX11_tells_2 flX11_10 rfl k0 ?_
  refine r_getI ck1 dX11_tells_5 flX11_124 rfl k1 ?_
  obtain ⟨e9, hlt, h9⟩ := pf0
  exact r_callS (As := [.long w1, .int (mI M (mR M a0 0) 1)]) (rest := []) moX1_measure dX11_tells_8 mlX11_127 saX1_measure rfl hlt (Nat.le_of_ble_eq_true rfl) h9
theorem gX11_tells_11 {d : Nat} {Q : Option Value → Mem → Prop} {M : Mem} {a0 : Nat} {w1 : Int64} {sx0 : Int32} (k0 : mK M a0 = 13) (k1 : mK M (mR M a0 4) = 6) {cnk2 : Nat} (hnk2 : NT cnk2) (k2 : mK M (mR M (mR M a0 4) 3) = cnk2 + 4) (pq0 : sx0 < 0 → Q (some (.int (-1 : Int32))) M) (pf1 : ¬ sx0 < 0 → sx0 ≤ (nI 14) → ClD d mdX3_hasGuess [.ref (mR M (mR M a0 4) 3)] M (fun r1 M1 => Wp d mdX11_tells 38 [(0, .ref a0), (1, .long w1), (4, .ref (mR M (mR M a0 4) 3))] (r1.toList ++ []) M1 Q)) (pq2 : ¬ sx0 < 0 → ¬ sx0 ≤ (nI 14) → Q (some (.int (-1 : Int32))) M) : Wp d mdX11_tells 11 [(0, .ref a0), (1, .long w1)] [.int sx0] M Q := by
  refine r_istore_n dX11_tells_11 rfl (by decide) (ls' := [(3, .int sx0), (0, .ref a0), (1, .long w1)]) rfl ?_
  refine r_iload_n dX11_tells_12 rfl 0 rfl ?_
  refine r_if_lt (tgt := 22) dX11_tells_13 (by decide) (fun c0 => ?_) (fun c0 => ?_)
  · skip
    refine r_iconst (v := (-1)) dX11_tells_22 rfl ?_
    exact r_ret (some (.int (-1 : Int32))) dX11_tells_23 rfl (pq0 c0)
  · skip
    refine r_iload_n dX11_tells_16 rfl 0 rfl ?_
    refine r_bipush (v := (nI 14)) dX11_tells_17 rfl ?_
    refine r_icmp_le (tgt := 24) dX11_tells_19 (by decide) (fun c1 => ?_) (fun c1 => ?_)
    · skip
      refine r_aload_n dX11_tells_24 rfl 1 rfl ?_
      refine r_getR ck9 dX11_tells_25 flX11_38 rfl k0 ?_
      refine r_getR ck2 dX11_tells_28 flX11_166 rfl k1 ?_
      refine r_astore dX11_tells_31 (by decide) (ls' := [(4, .ref (mR M (mR M a0 4) 3)), (3, .int sx0), (0, .ref a0), (1, .long w1)]) rfl ?_
      refine r_aload dX11_tells_33 0 rfl ?_
      refine r_sub [2, 3, 0] (ls' := [(0, .ref a0), (1, .long w1), (4, .ref (mR M (mR M a0 4) 3))]) rfl ?_
      obtain ⟨e9, hlt, h9⟩ := (pf1 c0 c1)
      rcases hnk2 with rfl | rfl
      · exact r_callU (As := []) (rest := []) (ci := 4) (x := yX3_hasGuess) (owner := "AskingPupil$Notes") moX3_hasGuess dX11_tells_35 mlX11_170 smX3_hasGuess imX3_hasGuess suX6_X3_hasGuess ⟨by decide +kernel, by decide +kernel⟩ (Or.inl rfl) k2 rfl hlt (Nat.le_of_ble_eq_true rfl) h9
      · exact r_callU (As := []) (rest := []) (ci := 6) (x := yX3_hasGuess) (owner := "AskingPupil$Notes") moX3_hasGuess dX11_tells_35 mlX11_170 smX3_hasGuess imX3_hasGuess suX8_X3_hasGuess ⟨by decide +kernel, by decide +kernel⟩ (Or.inl rfl) k2 rfl hlt (Nat.le_of_ble_eq_true rfl) h9
    · skip
      refine r_iconst (v := (-1)) dX11_tells_22 rfl ?_
      exact r_ret (some (.int (-1 : Int32))) dX11_tells_23 rfl (pq2 c0 c1)
theorem gX11_tells_38 {d : Nat} {Q : Option Value → Mem → Prop} {M : Mem} {a0 : Nat} {w1 : Int64} {a4 : Nat} {sx0 : Int32} {cnk0 : Nat} (hnk0 : NT cnk0) (k0 : mK M a4 = cnk0 + 4) (k1 : mK M (mR M a4 4) = 5) (pf0 : ¬ sx0 = 0 → ClD d mdX2_answer [.ref (mR M a4 4), .long w1] M (fun r1 M1 => Wp d mdX11_tells 53 [(0, .ref a0), (1, .long w1), (4, .ref a4)] (r1.toList ++ []) M1 Q)) (pq1 : sx0 = 0 → Q (some (.int (-2 : Int32))) M) : Wp d mdX11_tells 38 [(0, .ref a0), (1, .long w1), (4, .ref a4)] [.int sx0] M Q := by
  refine r_if_ne (tgt := 44) dX11_tells_38 (by decide) (fun c0 => ?_) (fun c0 => ?_)
  · skip
    refine r_aload dX11_tells_44 2 rfl ?_
    refine r_getR (ckN hnk0) dX11_tells_46 (flX11_198 hnk0) (by rcases hnk0 with rfl | rfl <;> rfl) k0 ?_
    refine r_lload_n dX11_tells_49 rfl 1 rfl ?_
    obtain ⟨e9, hlt, h9⟩ := (pf0 c0)
    exact r_callV (As := [.long w1]) (rest := []) (ci := 1) moX2_answer dX11_tells_50 mlX11_204 imX2_answer seX2_answer k1 rfl hlt (Nat.le_of_ble_eq_true rfl) h9
  · skip
    refine r_bipush (v := (-2)) dX11_tells_41 rfl ?_
    exact r_ret (some (.int (-2 : Int32))) dX11_tells_43 rfl (pq1 c0)
theorem gX11_tells_53 {d : Nat} {Q : Option Value → Mem → Prop} {M : Mem} {a0 : Nat} {w1 : Int64} {a4 : Nat} {sx0 : Int32} (k0 : mK M a0 = 13) (k1 : mK M (mR M a0 0) = 5) (pf0 : ClD d mdX2_answer [.ref (mR M a0 0), .long w1] M (fun r1 M1 => Wp d mdX11_tells 61 [(1, .long w1), (4, .ref a4)] (r1.toList ++ [.int sx0]) M1 Q)) : Wp d mdX11_tells 53 [(0, .ref a0), (1, .long w1), (4, .ref a4)] [.int sx0] M Q := by
  refine r_aload_n dX11_tells_53 rfl 0 rfl ?_
  refine r_getR ck9 dX11_tells_54 flX11_10 rfl k0 ?_
  refine r_lload_n dX11_tells_57 rfl 1 rfl ?_
  refine r_sub [1, 2] (ls' := [(1, .long w1), (4, .ref a4)]) rfl ?_
  obtain ⟨e9, hlt, h9⟩ := pf0
  exact r_callV (As := [.long w1]) (rest := [.int sx0]) (ci := 1) moX2_answer dX11_tells_58 mlX11_204 imX2_answer seX2_answer k1 rfl hlt (Nat.le_of_ble_eq_true rfl) h9
theorem gX11_tells_61 {d : Nat} {Q : Option Value → Mem → Prop} {M : Mem} {w1 : Int64} {a4 : Nat} {sx0 : Int32} {sx1 : Int32} {cnk0 : Nat} (hnk0 : NT cnk0) (k0 : mK M a4 = cnk0 + 4) (pf0 : ¬ sx1 = sx0 → cnk0 = 4 → ClD d mdX6_lesson [.ref a4, .long w1] M (fun r1 M1 => Wp d mdX11_tells 73 [] (r1.toList ++ []) M1 Q)) (pf1 : ¬ sx1 = sx0 → cnk0 = 6 → ClD d mdX8_lesson [.ref a4, .long w1] M (fun r1 M1 => Wp d mdX11_tells 73 [] (r1.toList ++ []) M1 Q)) (pq2 : sx1 = sx0 → Q (some (.int (-3 : Int32))) M) : Wp d mdX11_tells 61 [(1, .long w1), (4, .ref a4)] [.int sx0, .int sx1] M Q := by
  refine r_icmp_ne (tgt := 67) dX11_tells_61 (by decide) (fun c0 => ?_) (fun c0 => ?_)
  · skip
    refine r_aload dX11_tells_67 1 rfl ?_
    refine r_lload_n dX11_tells_69 rfl 0 rfl ?_
    refine r_sub [] (ls' := []) rfl ?_
    rcases hnk0 with rfl | rfl
    · obtain ⟨e9, hlt, h9⟩ := (pf0 c0) rfl
      exact r_callU (As := [.long w1]) (rest := []) (ci := 4) (x := ⟨"AskingPupil$Notes", "lesson", "(J)I"⟩) (owner := "AskingPupil$Notes") moX6_lesson dX11_tells_70 mlX11_207 smX3_lesson imX6_lesson suX6_X3_lesson ⟨by decide +kernel, by decide +kernel⟩ (Or.inr (by decide +kernel)) k0 rfl hlt (Nat.le_of_ble_eq_true rfl) h9
    · obtain ⟨e9, hlt, h9⟩ := (pf1 c0) rfl
      exact r_callU (As := [.long w1]) (rest := []) (ci := 6) (x := ⟨"AskingPupil$Notes", "lesson", "(J)I"⟩) (owner := "AskingPupil$Notes") moX8_lesson dX11_tells_70 mlX11_207 smX3_lesson imX8_lesson suX8_X3_lesson ⟨by decide +kernel, by decide +kernel⟩ (Or.inr (by decide +kernel)) k0 rfl hlt (Nat.le_of_ble_eq_true rfl) h9
  · skip
    refine r_bipush (v := (-3)) dX11_tells_64 rfl ?_
    exact r_ret (some (.int (-3 : Int32))) dX11_tells_66 rfl (pq2 c0)
theorem gX11_tells_73 {d : Nat} {Q : Option Value → Mem → Prop} {M : Mem} {sx0 : Int32}  (pq0 : Q (some (.int sx0)) M) : Wp d mdX11_tells 73 [] [.int sx0] M Q := by
  exact r_ret (some (.int sx0)) dX11_tells_73 rfl pq0
-- X11_learns
theorem gX11_learns_0 {d : Nat} {Q : Option Value → Mem → Prop} {M : Mem} {a0 : Nat} (k0 : mK M a0 = 13) (k1 : mK M (mR M a0 4) = 6) (pf0 : ClD d mdX4_learn [.ref (mR M a0 4)] M (fun r1 M1 => Wp d mdX11_learns 7 [(0, .ref a0)] (r1.toList ++ []) M1 Q)) : Wp d mdX11_learns 0 [(0, .ref a0)] [] M Q := by
  refine r_aload_n dX11_learns_0 rfl 0 rfl ?_
  refine r_getR ck9 dX11_learns_1 flX11_38 rfl k0 ?_
  obtain ⟨e9, hlt, h9⟩ := pf0
  exact r_callV (As := []) (rest := []) (ci := 2) moX4_learn dX11_learns_4 mlX11_210 imX4_learn seX4_learn k1 rfl hlt (Nat.le_of_ble_eq_true rfl) h9
theorem gX11_learns_7 {d : Nat} {Q : Option Value → Mem → Prop} {M : Mem} {a0 : Nat} (k0 : mK M a0 = 13) (pf0 : ClD d mdX11_clearNumbers [.ref a0] M (fun r1 M1 => Wp d mdX11_learns 11 [(0, .ref a0)] (r1.toList ++ []) M1 Q)) : Wp d mdX11_learns 7 [(0, .ref a0)] [] M Q := by
  refine r_aload_n dX11_learns_7 rfl 0 rfl ?_
  obtain ⟨e9, hlt, h9⟩ := pf0
  exact r_callV (As := []) (rest := []) (ci := 9) moX11_clearNumbers dX11_learns_8 mlX11_181 imX11_clearNumbers seX11_clearNumbers k0 rfl hlt (Nat.le_of_ble_eq_true rfl) h9
theorem gX11_learns_11 {d : Nat} {Q : Option Value → Mem → Prop} {M : Mem} {a0 : Nat} (k0 : mK M a0 = 13) (k1 : mK M (mR M a0 4) = 6) (pf0 : ClD d mdX11_put [.ref a0, .long ((mI M (mR M a0 4) 5).toInt64)] M (fun r1 M1 => Wp d mdX11_learns 23 [(0, .ref a0)] (r1.toList ++ []) M1 Q)) : Wp d mdX11_learns 11 [(0, .ref a0)] [] M Q := by
  refine r_aload_n dX11_learns_11 rfl 0 rfl ?_
  refine r_aload_n dX11_learns_12 rfl 0 rfl ?_
  refine r_getR ck9 dX11_learns_13 flX11_38 rfl k0 ?_
  refine r_getI ck2 dX11_learns_16 flX11_213 rfl k1 ?_
  refine r_i2l dX11_learns_19 ?_
  obtain ⟨e9, hlt, h9⟩ := pf0
  exact r_callV (As := [.long ((mI M (mR M a0 4) 5).toInt64)]) (rest := []) (ci := 9) moX11_put dX11_learns_20 mlX11_184 imX11_put seX11_put k0 rfl hlt (Nat.le_of_ble_eq_true rfl) h9
theorem gX11_learns_23 {d : Nat} {Q : Option Value → Mem → Prop} {M : Mem} {a0 : Nat} (k0 : mK M a0 = 13) (k1 : mK M (mR M a0 4) = 6) {cnk2 : Nat} (hnk2 : NT cnk2) (k2 : mK M (mR M (mR M a0 4) 3) = cnk2 + 4) (pf0 : ClD d mdX11_put [.ref a0, .long ((mI M (mR M (mR M a0 4) 3) 6).toInt64)] M (fun r1 M1 => Wp d mdX11_learns 38 [(0, .ref a0)] (r1.toList ++ []) M1 Q)) : Wp d mdX11_learns 23 [(0, .ref a0)] [] M Q := by
  refine r_aload_n dX11_learns_23 rfl 0 rfl ?_
  refine r_aload_n dX11_learns_24 rfl 0 rfl ?_
  refine r_getR ck9 dX11_learns_25 flX11_38 rfl k0 ?_
  refine r_getR ck2 dX11_learns_28 flX11_166 rfl k1 ?_
  refine r_getI (ckN hnk2) dX11_learns_31 (flX11_216 hnk2) (by rcases hnk2 with rfl | rfl <;> rfl) k2 ?_
  refine r_i2l dX11_learns_34 ?_
  obtain ⟨e9, hlt, h9⟩ := pf0
  exact r_callV (As := [.long ((mI M (mR M (mR M a0 4) 3) 6).toInt64)]) (rest := []) (ci := 9) moX11_put dX11_learns_35 mlX11_184 imX11_put seX11_put k0 rfl hlt (Nat.le_of_ble_eq_true rfl) h9
theorem gX11_learns_38 {d : Nat} {Q : Option Value → Mem → Prop} {M : Mem} {a0 : Nat} (k0 : mK M a0 = 13) (k1 : mK M (mR M a0 4) = 6) {cnk2 : Nat} (hnk2 : NT cnk2) (k2 : mK M (mR M (mR M a0 4) 3) = cnk2 + 4) (k3 : mK M (mR M (mR M (mR M a0 4) 3) 4) = 5) (pq0 : Q (some (.int (mI M (mR M (mR M (mR M a0 4) 3) 4) 0))) M) : Wp d mdX11_learns 38 [(0, .ref a0)] [] M Q := by
  refine r_aload_n dX11_learns_38 rfl 0 rfl ?_
  refine r_getR ck9 dX11_learns_39 flX11_38 rfl k0 ?_
  refine r_getR ck2 dX11_learns_42 flX11_166 rfl k1 ?_
  refine r_getR (ckN hnk2) dX11_learns_45 (flX11_198 hnk2) (by rcases hnk2 with rfl | rfl <;> rfl) k2 ?_
  refine r_getI ck1 dX11_learns_48 flX11_201 rfl k3 ?_
  exact r_ret (some (.int (mI M (mR M (mR M (mR M a0 4) 3) 4) 0))) dX11_learns_51 rfl pq0
-- X11_head
theorem gX11_head_0 {d : Nat} {Q : Option Value → Mem → Prop} {M : Mem} {a0 : Nat} {x1 : Int32} (k0 : mK M a0 = 13) (k1 : mK M (mR M a0 4) = 6) {cnk2 : Nat} (hnk2 : NT cnk2) (k2 : mK M (mR M (mR M a0 4) 3) = cnk2 + 4) (k3 : mK M (mR M (mR M (mR M a0 4) 3) 1) = 11) (pf0 : ¬ x1 = (-1 : Int32) → ClD d mdX9_get [.ref (mR M (mR M (mR M a0 4) 3) 1), .int x1] M (fun r1 M1 => Wp d mdX11_head 36 [] (r1.toList ++ []) M1 Q)) (pw1 : x1 = (-1 : Int32) → Wp d mdX11_head 36 [] [.long ((mI M (mR M (mR M (mR M a0 4) 3) 1) 0).toInt64)] M Q) : Wp d mdX11_head 0 [(0, .ref a0), (1, .int x1)] [] M Q := by
  refine r_iload_n dX11_head_0 rfl 1 rfl ?_
  refine r_iconst (v := (-1)) dX11_head_1 rfl ?_
  refine r_icmp_ne (tgt := 22) dX11_head_2 (by decide) (fun c0 => ?_) (fun c0 => ?_)
  · skip
    refine r_aload_n dX11_head_22 rfl 0 rfl ?_
    refine r_getR ck9 dX11_head_23 flX11_38 rfl k0 ?_
    refine r_getR ck2 dX11_head_26 flX11_166 rfl k1 ?_
    refine r_getR (ckN hnk2) dX11_head_29 (flX11_188 hnk2) (by rcases hnk2 with rfl | rfl <;> rfl) k2 ?_
    refine r_iload_n dX11_head_32 rfl 1 rfl ?_
    refine r_sub [] (ls' := []) rfl ?_
    obtain ⟨e9, hlt, h9⟩ := (pf0 c0)
    exact r_callV (As := [.int x1]) (rest := []) (ci := 7) moX9_get dX11_head_33 mlX11_220 imX9_get seX9_get k3 rfl hlt (Nat.le_of_ble_eq_true rfl) h9
  · skip
    refine r_aload_n dX11_head_5 rfl 0 rfl ?_
    refine r_getR ck9 dX11_head_6 flX11_38 rfl k0 ?_
    refine r_getR ck2 dX11_head_9 flX11_166 rfl k1 ?_
    refine r_getR (ckN hnk2) dX11_head_12 (flX11_188 hnk2) (by rcases hnk2 with rfl | rfl <;> rfl) k2 ?_
    refine r_getI ck7 dX11_head_15 flX11_219 rfl k3 ?_
    refine r_i2l dX11_head_18 ?_
    refine r_goto (tgt := 36) dX11_head_19 (by decide) ?_
    refine r_sub [] (ls' := []) rfl ?_
    exact (pw1 c0)
theorem gX11_head_36 {d : Nat} {Q : Option Value → Mem → Prop} {M : Mem} {sw0 : Int64}  (pq0 : Q (some (.long sw0)) M) : Wp d mdX11_head 36 [] [.long sw0] M Q := by
  exact r_ret (some (.long sw0)) dX11_head_36 rfl pq0
-- X11_tail
theorem gX11_tail_0 {d : Nat} {Q : Option Value → Mem → Prop} {M : Mem} {a0 : Nat} {x1 : Int32} (k0 : mK M a0 = 13) (k1 : mK M (mR M a0 4) = 6) {cnk2 : Nat} (hnk2 : NT cnk2) (k2 : mK M (mR M (mR M a0 4) 3) = cnk2 + 4) (k3 : mK M (mR M (mR M (mR M a0 4) 3) 2) = 11) (pf0 : ¬ x1 = (-1 : Int32) → ClD d mdX9_get [.ref (mR M (mR M (mR M a0 4) 3) 2), .int x1] M (fun r1 M1 => Wp d mdX11_tail 36 [] (r1.toList ++ []) M1 Q)) (pw1 : x1 = (-1 : Int32) → Wp d mdX11_tail 36 [] [.long ((mI M (mR M (mR M (mR M a0 4) 3) 2) 0).toInt64)] M Q) : Wp d mdX11_tail 0 [(0, .ref a0), (1, .int x1)] [] M Q := by
  refine r_iload_n dX11_tail_0 rfl 1 rfl ?_
  refine r_iconst (v := (-1)) dX11_tail_1 rfl ?_
  refine r_icmp_ne (tgt := 22) dX11_tail_2 (by decide) (fun c0 => ?_) (fun c0 => ?_)
  · skip
    refine r_aload_n dX11_tail_22 rfl 0 rfl ?_
    refine r_getR ck9 dX11_tail_23 flX11_38 rfl k0 ?_
    refine r_getR ck2 dX11_tail_26 flX11_166 rfl k1 ?_
    refine r_getR (ckN hnk2) dX11_tail_29 (flX11_195 hnk2) (by rcases hnk2 with rfl | rfl <;> rfl) k2 ?_
    refine r_iload_n dX11_tail_32 rfl 1 rfl ?_
    refine r_sub [] (ls' := []) rfl ?_
    obtain ⟨e9, hlt, h9⟩ := (pf0 c0)
    exact r_callV (As := [.int x1]) (rest := []) (ci := 7) moX9_get dX11_tail_33 mlX11_220 imX9_get seX9_get k3 rfl hlt (Nat.le_of_ble_eq_true rfl) h9
  · skip
    refine r_aload_n dX11_tail_5 rfl 0 rfl ?_
    refine r_getR ck9 dX11_tail_6 flX11_38 rfl k0 ?_
    refine r_getR ck2 dX11_tail_9 flX11_166 rfl k1 ?_
    refine r_getR (ckN hnk2) dX11_tail_12 (flX11_195 hnk2) (by rcases hnk2 with rfl | rfl <;> rfl) k2 ?_
    refine r_getI ck7 dX11_tail_15 flX11_219 rfl k3 ?_
    refine r_i2l dX11_tail_18 ?_
    refine r_goto (tgt := 36) dX11_tail_19 (by decide) ?_
    refine r_sub [] (ls' := []) rfl ?_
    exact (pw1 c0)
theorem gX11_tail_36 {d : Nat} {Q : Option Value → Mem → Prop} {M : Mem} {sw0 : Int64}  (pq0 : Q (some (.long sw0)) M) : Wp d mdX11_tail 36 [] [.long sw0] M Q := by
  exact r_ret (some (.long sw0)) dX11_tail_36 rfl pq0
-- X11_cell
theorem gX11_cell_0 {d : Nat} {Q : Option Value → Mem → Prop} {M : Mem} {a0 : Nat} {x1 : Int32} {x2 : Int32} {x3 : Int32} (k0 : mK M a0 = 13) (k1 : mK M (mR M a0 4) = 6) {cnk2 : Nat} (hnk2 : NT cnk2) (k2 : mK M (mR M (mR M a0 4) 3) = cnk2 + 4) (k3 : mK M (mR M (mR M (mR M a0 4) 3) 1) = 11) (pf0 : ClD d mdX9_get [.ref (mR M (mR M (mR M a0 4) 3) 1), .int x1] M (fun r1 M1 => Wp d mdX11_cell 14 [(0, .ref a0), (2, .int x2), (3, .int x3)] (r1.toList ++ []) M1 Q)) : Wp d mdX11_cell 0 [(0, .ref a0), (1, .int x1), (2, .int x2), (3, .int x3)] [] M Q := by
  refine r_aload_n dX11_cell_0 rfl 0 rfl ?_
  refine r_getR ck9 dX11_cell_1 flX11_38 rfl k0 ?_
  refine r_getR ck2 dX11_cell_4 flX11_166 rfl k1 ?_
  refine r_getR (ckN hnk2) dX11_cell_7 (flX11_188 hnk2) (by rcases hnk2 with rfl | rfl <;> rfl) k2 ?_
  refine r_iload_n dX11_cell_10 rfl 1 rfl ?_
  refine r_sub [0, 2, 3] (ls' := [(0, .ref a0), (2, .int x2), (3, .int x3)]) rfl ?_
  obtain ⟨e9, hlt, h9⟩ := pf0
  exact r_callV (As := [.int x1]) (rest := []) (ci := 7) moX9_get dX11_cell_11 mlX11_220 imX9_get seX9_get k3 rfl hlt (Nat.le_of_ble_eq_true rfl) h9
theorem gX11_cell_14 {d : Nat} {Q : Option Value → Mem → Prop} {M : Mem} {a0 : Nat} {x2 : Int32} {x3 : Int32} {sw0 : Int64} (k0 : mK M a0 = 13) (k1 : mK M (mR M a0 4) = 6) {cnk2 : Nat} (hnk2 : NT cnk2) (k2 : mK M (mR M (mR M a0 4) 3) = cnk2 + 4) (k3 : mK M (mR M (mR M (mR M a0 4) 3) 2) = 11) (pf0 : ClD d mdX9_get [.ref (mR M (mR M (mR M a0 4) 3) 2), .int x3] M (fun r1 M1 => Wp d mdX11_cell 30 [(0, .ref a0), (2, .int x2), (4, .long sw0)] (r1.toList ++ []) M1 Q)) : Wp d mdX11_cell 14 [(0, .ref a0), (2, .int x2), (3, .int x3)] [.long sw0] M Q := by
  refine r_lstore dX11_cell_14 (by decide) (ls' := [(4, .long sw0), (0, .ref a0), (2, .int x2), (3, .int x3)]) rfl ?_
  refine r_aload_n dX11_cell_16 rfl 1 rfl ?_
  refine r_getR ck9 dX11_cell_17 flX11_38 rfl k0 ?_
  refine r_getR ck2 dX11_cell_20 flX11_166 rfl k1 ?_
  refine r_getR (ckN hnk2) dX11_cell_23 (flX11_195 hnk2) (by rcases hnk2 with rfl | rfl <;> rfl) k2 ?_
  refine r_iload_n dX11_cell_26 rfl 3 rfl ?_
  refine r_sub [1, 2, 0] (ls' := [(0, .ref a0), (2, .int x2), (4, .long sw0)]) rfl ?_
  obtain ⟨e9, hlt, h9⟩ := pf0
  exact r_callV (As := [.int x3]) (rest := []) (ci := 7) moX9_get dX11_cell_27 mlX11_220 imX9_get seX9_get k3 rfl hlt (Nat.le_of_ble_eq_true rfl) h9
theorem gX11_cell_30 {d : Nat} {Q : Option Value → Mem → Prop} {M : Mem} {a0 : Nat} {x2 : Int32} {w4 : Int64} {sw0 : Int64} (k0 : mK M a0 = 13) (k1 : mK M (mR M a0 0) = 5) (k2 : mK M (mR M a0 4) = 6) (pq0 : w4 = (-1 : Int64) → Q (some (.int (-1 : Int32))) M) (pq1 : ¬ w4 = (-1 : Int64) → sw0 = (-1 : Int64) → Q (some (.int (-1 : Int32))) M) (pq2 : ¬ w4 = (-1 : Int64) → ¬ sw0 = (-1 : Int64) → x2 < (-1 : Int32) → Q (some (.int (-1 : Int32))) M) (pf3 : ¬ w4 = (-1 : Int64) → ¬ sw0 = (-1 : Int64) → ¬ x2 < (-1 : Int32) → x2 < (mI M (mR M a0 0) 1) → ¬ (mI M (mR M a0 4) 4) = (nI 3) → ¬ x2 = (-1 : Int32) → ClD d mdX1_then [.long w4, .int x2] M (fun r1 M1 => Wp d mdX11_cell 98 [(0, .ref a0), (6, .long sw0)] (r1.toList ++ []) M1 Q)) (pw4 : ¬ w4 = (-1 : Int64) → ¬ sw0 = (-1 : Int64) → ¬ x2 < (-1 : Int32) → x2 < (mI M (mR M a0 0) 1) → ¬ (mI M (mR M a0 4) 4) = (nI 3) → x2 = (-1 : Int32) → Wp d mdX11_cell 98 [(0, .ref a0), (6, .long sw0)] [.long w4] M Q) (pq5 : ¬ w4 = (-1 : Int64) → ¬ sw0 = (-1 : Int64) → ¬ x2 < (-1 : Int32) → x2 < (mI M (mR M a0 0) 1) → (mI M (mR M a0 4) 4) = (nI 3) → Q (some (.int (-2 : Int32))) M) (pq6 : ¬ w4 = (-1 : Int64) → ¬ sw0 = (-1 : Int64) → ¬ x2 < (-1 : Int32) → ¬ x2 < (mI M (mR M a0 0) 1) → Q (some (.int (-1 : Int32))) M) : Wp d mdX11_cell 30 [(0, .ref a0), (2, .int x2), (4, .long w4)] [.long sw0] M Q := by
  refine r_lstore dX11_cell_30 (by decide) (ls' := [(6, .long sw0), (0, .ref a0), (2, .int x2), (4, .long w4)]) rfl ?_
  refine r_lload dX11_cell_32 3 rfl ?_
  refine r_ldc2 dX11_cell_34 kwX11_116 ?_
  refine r_lif_eq (tgt := 66) dX11_cell_37 dX11_cell_38 (by decide) (fun c0 => ?_) (fun c0 => ?_)
  · skip
    refine r_iconst (v := (-1)) dX11_cell_66 rfl ?_
    exact r_ret (some (.int (-1 : Int32))) dX11_cell_67 rfl (pq0 c0)
  · skip
    refine r_lload dX11_cell_41 0 rfl ?_
    refine r_ldc2 dX11_cell_43 kwX11_116 ?_
    refine r_lif_eq (tgt := 66) dX11_cell_46 dX11_cell_47 (by decide) (fun c1 => ?_) (fun c1 => ?_)
    · skip
      refine r_iconst (v := (-1)) dX11_cell_66 rfl ?_
      exact r_ret (some (.int (-1 : Int32))) dX11_cell_67 rfl (pq1 c0 c1)
    · skip
      refine r_iload_n dX11_cell_50 rfl 2 rfl ?_
      refine r_iconst (v := (-1)) dX11_cell_51 rfl ?_
      refine r_icmp_lt (tgt := 66) dX11_cell_52 (by decide) (fun c2 => ?_) (fun c2 => ?_)
      · skip
        refine r_iconst (v := (-1)) dX11_cell_66 rfl ?_
        exact r_ret (some (.int (-1 : Int32))) dX11_cell_67 rfl (pq2 c0 c1 c2)
      · skip
        refine r_iload_n dX11_cell_55 rfl 2 rfl ?_
        refine r_aload_n dX11_cell_56 rfl 1 rfl ?_
        refine r_getR ck9 dX11_cell_57 flX11_10 rfl k0 ?_
        refine r_getI ck1 dX11_cell_60 flX11_124 rfl k1 ?_
        refine r_icmp_lt (tgt := 68) dX11_cell_63 (by decide) (fun c3 => ?_) (fun c3 => ?_)
        · skip
          refine r_aload_n dX11_cell_68 rfl 1 rfl ?_
          refine r_getR ck9 dX11_cell_69 flX11_38 rfl k0 ?_
          refine r_getI ck2 dX11_cell_72 flX11_92 rfl k2 ?_
          refine r_iconst (v := (nI 3)) dX11_cell_75 rfl ?_
          refine r_icmp_ne (tgt := 82) dX11_cell_76 (by decide) (fun c4 => ?_) (fun c4 => ?_)
          · skip
            refine r_iload_n dX11_cell_82 rfl 2 rfl ?_
            refine r_iconst (v := (-1)) dX11_cell_83 rfl ?_
            refine r_icmp_ne (tgt := 92) dX11_cell_84 (by decide) (fun c5 => ?_) (fun c5 => ?_)
            · skip
              refine r_lload dX11_cell_92 3 rfl ?_
              refine r_iload_n dX11_cell_94 rfl 2 rfl ?_
              refine r_sub [1, 0] (ls' := [(0, .ref a0), (6, .long sw0)]) rfl ?_
              obtain ⟨e9, hlt, h9⟩ := (pf3 c0 c1 c2 c3 c4 c5)
              exact r_callS (As := [.long w4, .int x2]) (rest := []) moX1_then dX11_cell_95 mlX11_224 saX1_then rfl hlt (Nat.le_of_ble_eq_true rfl) h9
            · skip
              refine r_lload dX11_cell_87 3 rfl ?_
              refine r_goto (tgt := 98) dX11_cell_89 (by decide) ?_
              refine r_sub [1, 0] (ls' := [(0, .ref a0), (6, .long sw0)]) rfl ?_
              exact (pw4 c0 c1 c2 c3 c4 c5)
          · skip
            refine r_bipush (v := (-2)) dX11_cell_79 rfl ?_
            exact r_ret (some (.int (-2 : Int32))) dX11_cell_81 rfl (pq5 c0 c1 c2 c3 c4)
        · skip
          refine r_iconst (v := (-1)) dX11_cell_66 rfl ?_
          exact r_ret (some (.int (-1 : Int32))) dX11_cell_67 rfl (pq6 c0 c1 c2 c3)
theorem gX11_cell_98 {d : Nat} {Q : Option Value → Mem → Prop} {M : Mem} {a0 : Nat} {w6 : Int64} {sw0 : Int64}  (pf0 : ClD d mdX1_join [.long sw0, .long w6] M (fun r1 M1 => Wp d mdX11_cell 103 [(0, .ref a0)] (r1.toList ++ []) M1 Q)) : Wp d mdX11_cell 98 [(0, .ref a0), (6, .long w6)] [.long sw0] M Q := by
  refine r_lload dX11_cell_98 1 rfl ?_
  refine r_sub [0] (ls' := [(0, .ref a0)]) rfl ?_
  obtain ⟨e9, hlt, h9⟩ := pf0
  exact r_callS (As := [.long sw0, .long w6]) (rest := []) moX1_join dX11_cell_100 mlX11_118 saX1_join rfl hlt (Nat.le_of_ble_eq_true rfl) h9
theorem gX11_cell_103 {d : Nat} {Q : Option Value → Mem → Prop} {M : Mem} {a0 : Nat} {sw0 : Int64} (k0 : mK M a0 = 13) (k1 : mK M (mR M a0 4) = 6) (k2 : mK M (mR M (mR M a0 4) 0) = 4) (k3 : mK M (mR M (mR M (mR M a0 4) 0) 1) = 12) (pf0 : ClD d mdX10_has [.ref (mR M (mR M (mR M a0 4) 0) 1), .long sw0] M (fun r1 M1 => Wp d mdX11_cell 120 [(0, .ref a0), (8, .long sw0)] (r1.toList ++ []) M1 Q)) : Wp d mdX11_cell 103 [(0, .ref a0)] [.long sw0] M Q := by
  refine r_lstore dX11_cell_103 (by decide) (ls' := [(8, .long sw0), (0, .ref a0)]) rfl ?_
  refine r_aload_n dX11_cell_105 rfl 1 rfl ?_
  refine r_getR ck9 dX11_cell_106 flX11_38 rfl k0 ?_
  refine r_getR ck2 dX11_cell_109 flX11_146 rfl k1 ?_
  refine r_getR ck0 dX11_cell_112 flX11_160 rfl k2 ?_
  refine r_lload dX11_cell_115 0 rfl ?_
  refine r_sub [1, 0] (ls' := [(0, .ref a0), (8, .long sw0)]) rfl ?_
  obtain ⟨e9, hlt, h9⟩ := pf0
  exact r_callV (As := [.long sw0]) (rest := []) (ci := 8) moX10_has dX11_cell_117 mlX11_163 imX10_has seX10_has k3 rfl hlt (Nat.le_of_ble_eq_true rfl) h9
theorem gX11_cell_120 {d : Nat} {Q : Option Value → Mem → Prop} {M : Mem} {a0 : Nat} {w8 : Int64} {sx0 : Int32} (k0 : mK M a0 = 13) (k1 : mK M (mR M a0 0) = 5) (pq0 : sx0 = 0 → Q (some (.int (-3 : Int32))) M) (pf1 : ¬ sx0 = 0 → ClD d mdX2_answer [.ref (mR M a0 0), .long w8] M (fun r1 M1 => Wp d mdX11_cell 132 [] (r1.toList ++ []) M1 Q)) : Wp d mdX11_cell 120 [(0, .ref a0), (8, .long w8)] [.int sx0] M Q := by
  refine r_if_eq (tgt := 135) dX11_cell_120 (by decide) (fun c0 => ?_) (fun c0 => ?_)
  · skip
    refine r_bipush (v := (-3)) dX11_cell_135 rfl ?_
    exact r_ret (some (.int (-3 : Int32))) dX11_cell_137 rfl (pq0 c0)
  · skip
    refine r_aload_n dX11_cell_123 rfl 0 rfl ?_
    refine r_getR ck9 dX11_cell_124 flX11_10 rfl k0 ?_
    refine r_lload dX11_cell_127 1 rfl ?_
    refine r_sub [] (ls' := []) rfl ?_
    obtain ⟨e9, hlt, h9⟩ := (pf1 c0)
    exact r_callV (As := [.long w8]) (rest := []) (ci := 1) moX2_answer dX11_cell_129 mlX11_204 imX2_answer seX2_answer k1 rfl hlt (Nat.le_of_ble_eq_true rfl) h9
theorem gX11_cell_132 {d : Nat} {Q : Option Value → Mem → Prop} {M : Mem} {sx0 : Int32}  (pq0 : Q (some (.int sx0)) M) : Wp d mdX11_cell 132 [] [.int sx0] M Q := by
  refine r_goto (tgt := 137) dX11_cell_132 (by decide) ?_
  exact r_ret (some (.int sx0)) dX11_cell_137 rfl pq0
-- X11_lines
theorem gX11_lines_0 {d : Nat} {Q : Option Value → Mem → Prop} {M : Mem} {a0 : Nat} (k0 : mK M a0 = 13) (k1 : mK M (mR M a0 4) = 6) (k2 : mK M (mR M (mR M a0 4) 1) = 8) (pf0 : ¬ (mI M (mR M a0 4) 4) = (nI 3) → ClD d mdX6_isFull [.ref (mR M (mR M a0 4) 1)] M (fun r1 M1 => Wp d mdX11_lines 26 [(0, .ref a0), (1, .ref (mR M (mR M a0 4) 1))] (r1.toList ++ []) M1 Q)) (pq1 : (mI M (mR M a0 4) 4) = (nI 3) → Q (some (.int (-2 : Int32))) M) : Wp d mdX11_lines 0 [(0, .ref a0)] [] M Q := by
  refine r_aload_n dX11_lines_0 rfl 0 rfl ?_
  refine r_getR ck9 dX11_lines_1 flX11_38 rfl k0 ?_
  refine r_getI ck2 dX11_lines_4 flX11_92 rfl k1 ?_
  refine r_iconst (v := (nI 3)) dX11_lines_7 rfl ?_
  refine r_icmp_ne (tgt := 14) dX11_lines_8 (by decide) (fun c0 => ?_) (fun c0 => ?_)
  · skip
    refine r_aload_n dX11_lines_14 rfl 0 rfl ?_
    refine r_getR ck9 dX11_lines_15 flX11_38 rfl k0 ?_
    refine r_getR ck2 dX11_lines_18 flX11_227 rfl k1 ?_
    refine r_astore_n dX11_lines_21 rfl (by decide) (ls' := [(1, .ref (mR M (mR M a0 4) 1)), (0, .ref a0)]) rfl ?_
    refine r_aload_n dX11_lines_22 rfl 0 rfl ?_
    refine r_sub [1, 0] (ls' := [(0, .ref a0), (1, .ref (mR M (mR M a0 4) 1))]) rfl ?_
    obtain ⟨e9, hlt, h9⟩ := (pf0 c0)
    exact r_callV (As := []) (rest := []) (ci := 4) moX6_isFull dX11_lines_23 mlX11_231 imX6_isFull seX6_isFull k2 rfl hlt (Nat.le_of_ble_eq_true rfl) h9
  · skip
    refine r_bipush (v := (-2)) dX11_lines_11 rfl ?_
    exact r_ret (some (.int (-2 : Int32))) dX11_lines_13 rfl (pq1 c0)
theorem gX11_lines_26 {d : Nat} {Q : Option Value → Mem → Prop} {M : Mem} {a0 : Nat} {a1 : Nat} {sx0 : Int32} (k0 : mK M a1 = 8) (pf0 : ¬ sx0 = 0 → ClD d mdX6_findLines [.ref a1] M (fun r1 M1 => Wp d mdX11_lines 36 [(0, .ref a0), (1, .ref a1)] (r1.toList ++ []) M1 Q)) (pq1 : sx0 = 0 → Q (some (.int (-3 : Int32))) M) : Wp d mdX11_lines 26 [(0, .ref a0), (1, .ref a1)] [.int sx0] M Q := by
  refine r_if_ne (tgt := 32) dX11_lines_26 (by decide) (fun c0 => ?_) (fun c0 => ?_)
  · skip
    refine r_aload_n dX11_lines_32 rfl 1 rfl ?_
    obtain ⟨e9, hlt, h9⟩ := (pf0 c0)
    exact r_callV (As := []) (rest := []) (ci := 4) moX6_findLines dX11_lines_33 mlX11_236 imX6_findLines seX6_findLines k0 rfl hlt (Nat.le_of_ble_eq_true rfl) h9
  · skip
    refine r_bipush (v := (-3)) dX11_lines_29 rfl ?_
    exact r_ret (some (.int (-3 : Int32))) dX11_lines_31 rfl (pq1 c0)
theorem gX11_lines_36 {d : Nat} {Q : Option Value → Mem → Prop} {M : Mem} {a0 : Nat} {a1 : Nat} (k0 : mK M a1 = 8) (pf0 : ClD d mdX6_unlikeLines [.ref a1] M (fun r1 M1 => Wp d mdX11_lines 40 [(0, .ref a0), (1, .ref a1)] (r1.toList ++ []) M1 Q)) : Wp d mdX11_lines 36 [(0, .ref a0), (1, .ref a1)] [] M Q := by
  refine r_aload_n dX11_lines_36 rfl 1 rfl ?_
  obtain ⟨e9, hlt, h9⟩ := pf0
  exact r_callV (As := []) (rest := []) (ci := 4) moX6_unlikeLines dX11_lines_37 mlX11_239 imX6_unlikeLines seX6_unlikeLines k0 rfl hlt (Nat.le_of_ble_eq_true rfl) h9
theorem gX11_lines_40 {d : Nat} {Q : Option Value → Mem → Prop} {M : Mem} {a0 : Nat} {a1 : Nat} {sx0 : Int32} (k0 : mK M a0 = 13) (pf0 : ClD d mdX11_clearNumbers [.ref a0] M (fun r1 M1 => Wp d mdX11_lines 45 [(0, .ref a0), (1, .ref a1), (2, .int sx0)] (r1.toList ++ []) M1 Q)) : Wp d mdX11_lines 40 [(0, .ref a0), (1, .ref a1)] [.int sx0] M Q := by
  refine r_istore_n dX11_lines_40 rfl (by decide) (ls' := [(2, .int sx0), (0, .ref a0), (1, .ref a1)]) rfl ?_
  refine r_aload_n dX11_lines_41 rfl 1 rfl ?_
  refine r_sub [1, 2, 0] (ls' := [(0, .ref a0), (1, .ref a1), (2, .int sx0)]) rfl ?_
  obtain ⟨e9, hlt, h9⟩ := pf0
  exact r_callV (As := []) (rest := []) (ci := 9) moX11_clearNumbers dX11_lines_42 mlX11_181 imX11_clearNumbers seX11_clearNumbers k0 rfl hlt (Nat.le_of_ble_eq_true rfl) h9
theorem gX11_lines_45 {d : Nat} {Q : Option Value → Mem → Prop} {M : Mem} {a0 : Nat} {a1 : Nat} {x2 : Int32} (k0 : mK M a1 = 8) (k1 : mK M (mR M a1 1) = 11) (k2 : mK M a0 = 13) (pf0 : ClD d mdX11_put [.ref a0, .long (((mI M (mR M a1 1) 0) - x2).toInt64)] M (fun r1 M1 => Wp d mdX11_lines 59 [(0, .ref a0), (1, .ref a1), (2, .int x2)] (r1.toList ++ []) M1 Q)) : Wp d mdX11_lines 45 [(0, .ref a0), (1, .ref a1), (2, .int x2)] [] M Q := by
  refine r_aload_n dX11_lines_45 rfl 0 rfl ?_
  refine r_aload_n dX11_lines_46 rfl 1 rfl ?_
  refine r_getR ck4 dX11_lines_47 flX11_242 rfl k0 ?_
  refine r_getI ck7 dX11_lines_50 flX11_219 rfl k1 ?_
  refine r_iload_n dX11_lines_53 rfl 2 rfl ?_
  refine r_isub dX11_lines_54 ?_
  refine r_i2l dX11_lines_55 ?_
  obtain ⟨e9, hlt, h9⟩ := pf0
  exact r_callV (As := [.long (((mI M (mR M a1 1) 0) - x2).toInt64)]) (rest := []) (ci := 9) moX11_put dX11_lines_56 mlX11_184 imX11_put seX11_put k2 rfl hlt (Nat.le_of_ble_eq_true rfl) h9
theorem gX11_lines_59 {d : Nat} {Q : Option Value → Mem → Prop} {M : Mem} {a0 : Nat} {a1 : Nat} {x2 : Int32} (k0 : mK M a1 = 8) (pf0 : ClD d mdX6_openWords [.ref a1] M (fun r1 M1 => Wp d mdX11_lines 64 [(2, .int x2)] (r1.toList ++ [.ref a0]) M1 Q)) : Wp d mdX11_lines 59 [(0, .ref a0), (1, .ref a1), (2, .int x2)] [] M Q := by
  refine r_aload_n dX11_lines_59 rfl 0 rfl ?_
  refine r_aload_n dX11_lines_60 rfl 1 rfl ?_
  refine r_sub [2] (ls' := [(2, .int x2)]) rfl ?_
  obtain ⟨e9, hlt, h9⟩ := pf0
  exact r_callV (As := []) (rest := [.ref a0]) (ci := 4) moX6_openWords dX11_lines_61 mlX11_243 imX6_openWords seX6_openWords k0 rfl hlt (Nat.le_of_ble_eq_true rfl) h9
theorem gX11_lines_64 {d : Nat} {Q : Option Value → Mem → Prop} {M : Mem} {x2 : Int32} {sx0 : Int32} {sa1 : Nat} (k0 : mK M sa1 = 13) (pf0 : ClD d mdX11_put [.ref sa1, .long sx0.toInt64] M (fun r1 M1 => Wp d mdX11_lines 68 [(2, .int x2)] (r1.toList ++ []) M1 Q)) : Wp d mdX11_lines 64 [(2, .int x2)] [.int sx0, .ref sa1] M Q := by
  refine r_i2l dX11_lines_64 ?_
  obtain ⟨e9, hlt, h9⟩ := pf0
  exact r_callV (As := [.long sx0.toInt64]) (rest := []) (ci := 9) moX11_put dX11_lines_65 mlX11_184 imX11_put seX11_put k0 rfl hlt (Nat.le_of_ble_eq_true rfl) h9
theorem gX11_lines_68 {d : Nat} {Q : Option Value → Mem → Prop} {M : Mem} {x2 : Int32}  (pq0 : Q (some (.int x2)) M) : Wp d mdX11_lines 68 [(2, .int x2)] [] M Q := by
  refine r_iload_n dX11_lines_68 rfl 0 rfl ?_
  exact r_ret (some (.int x2)) dX11_lines_69 rfl pq0
-- X11_knot
theorem gX11_knot_0 {d : Nat} {Q : Option Value → Mem → Prop} {M : Mem} {a0 : Nat} {x1 : Int32} {x2 : Int32} (k0 : mK M a0 = 13) (k1 : mK M (mR M a0 4) = 6) {cnk2 : Nat} (hnk2 : NT cnk2) (k2 : mK M (mR M (mR M a0 4) 3) = cnk2 + 4) (k3 : mK M (mR M (mR M (mR M a0 4) 3) 2) = 11) (k4 : mK M (mR M (mR M a0 4) 2) = 10) (pq0 : x2 < 0 → Q (some (.int (-1 : Int32))) M) (pq1 : ¬ x2 < 0 → x2 < (nI 4) → (mI M (mR M a0 4) 4) = (nI 3) → x1 < 0 → Q (some (.int (-1 : Int32))) M) (pf2 : ¬ x2 < 0 → x2 < (nI 4) → (mI M (mR M a0 4) 4) = (nI 3) → ¬ x1 < 0 → x1 < (mI M (mR M (mR M (mR M a0 4) 3) 2) 0) → ClD d mdX8_linkAt [.ref (mR M (mR M a0 4) 2), .int ((x1 * (nI 4)) + x2)] M (fun r1 M1 => Wp d mdX11_knot 63 [] (r1.toList ++ []) M1 Q)) (pq3 : ¬ x2 < 0 → x2 < (nI 4) → (mI M (mR M a0 4) 4) = (nI 3) → ¬ x1 < 0 → ¬ x1 < (mI M (mR M (mR M (mR M a0 4) 3) 2) 0) → Q (some (.int (-1 : Int32))) M) (pq4 : ¬ x2 < 0 → x2 < (nI 4) → ¬ (mI M (mR M a0 4) 4) = (nI 3) → Q (some (.int (-2 : Int32))) M) (pq5 : ¬ x2 < 0 → ¬ x2 < (nI 4) → Q (some (.int (-1 : Int32))) M) : Wp d mdX11_knot 0 [(0, .ref a0), (1, .int x1), (2, .int x2)] [] M Q := by
  refine r_iload_n dX11_knot_0 rfl 2 rfl ?_
  refine r_if_lt (tgt := 9) dX11_knot_1 (by decide) (fun c0 => ?_) (fun c0 => ?_)
  · skip
    refine r_iconst (v := (-1)) dX11_knot_9 rfl ?_
    exact r_ret (some (.int (-1 : Int32))) dX11_knot_10 rfl (pq0 c0)
  · skip
    refine r_iload_n dX11_knot_4 rfl 2 rfl ?_
    refine r_iconst (v := (nI 4)) dX11_knot_5 rfl ?_
    refine r_icmp_lt (tgt := 11) dX11_knot_6 (by decide) (fun c1 => ?_) (fun c1 => ?_)
    · skip
      refine r_aload_n dX11_knot_11 rfl 0 rfl ?_
      refine r_getR ck9 dX11_knot_12 flX11_38 rfl k0 ?_
      refine r_getI ck2 dX11_knot_15 flX11_92 rfl k1 ?_
      refine r_iconst (v := (nI 3)) dX11_knot_18 rfl ?_
      refine r_icmp_eq (tgt := 25) dX11_knot_19 (by decide) (fun c2 => ?_) (fun c2 => ?_)
      · skip
        refine r_iload_n dX11_knot_25 rfl 1 rfl ?_
        refine r_if_lt (tgt := 46) dX11_knot_26 (by decide) (fun c3 => ?_) (fun c3 => ?_)
        · skip
          refine r_iconst (v := (-1)) dX11_knot_46 rfl ?_
          exact r_ret (some (.int (-1 : Int32))) dX11_knot_47 rfl (pq1 c0 c1 c2 c3)
        · skip
          refine r_iload_n dX11_knot_29 rfl 1 rfl ?_
          refine r_aload_n dX11_knot_30 rfl 0 rfl ?_
          refine r_getR ck9 dX11_knot_31 flX11_38 rfl k0 ?_
          refine r_getR ck2 dX11_knot_34 flX11_166 rfl k1 ?_
          refine r_getR (ckN hnk2) dX11_knot_37 (flX11_195 hnk2) (by rcases hnk2 with rfl | rfl <;> rfl) k2 ?_
          refine r_getI ck7 dX11_knot_40 flX11_219 rfl k3 ?_
          refine r_icmp_lt (tgt := 48) dX11_knot_43 (by decide) (fun c4 => ?_) (fun c4 => ?_)
          · skip
            refine r_aload_n dX11_knot_48 rfl 0 rfl ?_
            refine r_getR ck9 dX11_knot_49 flX11_38 rfl k0 ?_
            refine r_getR ck2 dX11_knot_52 flX11_246 rfl k1 ?_
            refine r_iload_n dX11_knot_55 rfl 1 rfl ?_
            refine r_iconst (v := (nI 4)) dX11_knot_56 rfl ?_
            refine r_imul dX11_knot_57 ?_
            refine r_iload_n dX11_knot_58 rfl 2 rfl ?_
            refine r_iadd dX11_knot_59 ?_
            refine r_sub [] (ls' := []) rfl ?_
            obtain ⟨e9, hlt, h9⟩ := (pf2 c0 c1 c2 c3 c4)
            exact r_callV (As := [.int ((x1 * (nI 4)) + x2)]) (rest := []) (ci := 6) moX8_linkAt dX11_knot_60 mlX11_250 imX8_linkAt seX8_linkAt k4 rfl hlt (Nat.le_of_ble_eq_true rfl) h9
          · skip
            refine r_iconst (v := (-1)) dX11_knot_46 rfl ?_
            exact r_ret (some (.int (-1 : Int32))) dX11_knot_47 rfl (pq3 c0 c1 c2 c3 c4)
      · skip
        refine r_bipush (v := (-2)) dX11_knot_22 rfl ?_
        exact r_ret (some (.int (-2 : Int32))) dX11_knot_24 rfl (pq4 c0 c1 c2)
    · skip
      refine r_iconst (v := (-1)) dX11_knot_9 rfl ?_
      exact r_ret (some (.int (-1 : Int32))) dX11_knot_10 rfl (pq5 c0 c1)
theorem gX11_knot_63 {d : Nat} {Q : Option Value → Mem → Prop} {M : Mem} {sx0 : Int32}  (pq0 : ¬ sx0 = (-1 : Int32) → Q (some (.int sx0)) M) (pq1 : sx0 = (-1 : Int32) → Q (some (.int (-3 : Int32))) M) : Wp d mdX11_knot 63 [] [.int sx0] M Q := by
  refine r_istore_n dX11_knot_63 rfl (by decide) (ls' := [(3, .int sx0)]) rfl ?_
  refine r_iload_n dX11_knot_64 rfl 0 rfl ?_
  refine r_iconst (v := (-1)) dX11_knot_65 rfl ?_
  refine r_icmp_ne (tgt := 74) dX11_knot_66 (by decide) (fun c0 => ?_) (fun c0 => ?_)
  · skip
    refine r_iload_n dX11_knot_74 rfl 0 rfl ?_
    exact r_ret (some (.int sx0)) dX11_knot_75 rfl (pq0 c0)
  · skip
    refine r_bipush (v := (-3)) dX11_knot_69 rfl ?_
    refine r_goto (tgt := 75) dX11_knot_71 (by decide) ?_
    exact r_ret (some (.int (-3 : Int32))) dX11_knot_75 rfl (pq1 c0)
-- X11_sift
theorem gX11_sift_0 {d : Nat} {Q : Option Value → Mem → Prop} {M : Mem} {a0 : Nat} {w1 : Int64} (k0 : mK M a0 = 13) (k1 : mK M (mR M a0 0) = 5) (pf0 : ClD d mdX1_measure [.long w1, .int (mI M (mR M a0 0) 1)] M (fun r1 M1 => Wp d mdX11_sift 11 [(0, .ref a0), (1, .long w1)] (r1.toList ++ []) M1 Q)) : Wp d mdX11_sift 0 [(0, .ref a0), (1, .long w1)] [] M Q := by
  refine r_lload_n dX11_sift_0 rfl 1 rfl ?_
  refine r_aload_n dX11_sift_1 rfl 0 rfl ?_
  refine r_getR ck9 dX11_sift_2 flX11_10 rfl k0 ?_
  refine r_getI ck1 dX11_sift_5 flX11_124 rfl k1 ?_
  obtain ⟨e9, hlt, h9⟩ := pf0
  exact r_callS (As := [.long w1, .int (mI M (mR M a0 0) 1)]) (rest := []) moX1_measure dX11_sift_8 mlX11_127 saX1_measure rfl hlt (Nat.le_of_ble_eq_true rfl) h9
theorem gX11_sift_11 {d : Nat} {Q : Option Value → Mem → Prop} {M : Mem} {a0 : Nat} {w1 : Int64} {sx0 : Int32} (k0 : mK M a0 = 13) (k1 : mK M (mR M a0 4) = 6) (k2 : mK M (mR M (mR M a0 4) 2) = 10) (pq0 : sx0 < 0 → Q (some (.int (-1 : Int32))) M) (pf1 : ¬ sx0 < 0 → sx0 ≤ (nI 15) → (mI M (mR M a0 4) 4) = (nI 3) → ClD d mdX8_descend [.ref (mR M (mR M a0 4) 2), .long w1] M (fun r1 M1 => Wp d mdX11_sift 49 [(0, .ref a0)] (r1.toList ++ []) M1 Q)) (pq2 : ¬ sx0 < 0 → sx0 ≤ (nI 15) → ¬ (mI M (mR M a0 4) 4) = (nI 3) → Q (some (.int (-2 : Int32))) M) (pq3 : ¬ sx0 < 0 → ¬ sx0 ≤ (nI 15) → Q (some (.int (-1 : Int32))) M) : Wp d mdX11_sift 11 [(0, .ref a0), (1, .long w1)] [.int sx0] M Q := by
  refine r_istore_n dX11_sift_11 rfl (by decide) (ls' := [(3, .int sx0), (0, .ref a0), (1, .long w1)]) rfl ?_
  refine r_iload_n dX11_sift_12 rfl 0 rfl ?_
  refine r_if_lt (tgt := 22) dX11_sift_13 (by decide) (fun c0 => ?_) (fun c0 => ?_)
  · skip
    refine r_iconst (v := (-1)) dX11_sift_22 rfl ?_
    exact r_ret (some (.int (-1 : Int32))) dX11_sift_23 rfl (pq0 c0)
  · skip
    refine r_iload_n dX11_sift_16 rfl 0 rfl ?_
    refine r_bipush (v := (nI 15)) dX11_sift_17 rfl ?_
    refine r_icmp_le (tgt := 24) dX11_sift_19 (by decide) (fun c1 => ?_) (fun c1 => ?_)
    · skip
      refine r_aload_n dX11_sift_24 rfl 1 rfl ?_
      refine r_getR ck9 dX11_sift_25 flX11_38 rfl k0 ?_
      refine r_getI ck2 dX11_sift_28 flX11_92 rfl k1 ?_
      refine r_iconst (v := (nI 3)) dX11_sift_31 rfl ?_
      refine r_icmp_eq (tgt := 38) dX11_sift_32 (by decide) (fun c2 => ?_) (fun c2 => ?_)
      · skip
        refine r_aload_n dX11_sift_38 rfl 1 rfl ?_
        refine r_getR ck9 dX11_sift_39 flX11_38 rfl k0 ?_
        refine r_getR ck2 dX11_sift_42 flX11_246 rfl k1 ?_
        refine r_lload_n dX11_sift_45 rfl 2 rfl ?_
        refine r_sub [1] (ls' := [(0, .ref a0)]) rfl ?_
        obtain ⟨e9, hlt, h9⟩ := (pf1 c0 c1 c2)
        exact r_callV (As := [.long w1]) (rest := []) (ci := 6) moX8_descend dX11_sift_46 mlX11_255 imX8_descend seX8_descend k2 rfl hlt (Nat.le_of_ble_eq_true rfl) h9
      · skip
        refine r_bipush (v := (-2)) dX11_sift_35 rfl ?_
        exact r_ret (some (.int (-2 : Int32))) dX11_sift_37 rfl (pq2 c0 c1 c2)
    · skip
      refine r_iconst (v := (-1)) dX11_sift_22 rfl ?_
      exact r_ret (some (.int (-1 : Int32))) dX11_sift_23 rfl (pq3 c0 c1)
theorem gX11_sift_49 {d : Nat} {Q : Option Value → Mem → Prop} {M : Mem} {a0 : Nat} {sx0 : Int32} (k0 : mK M a0 = 13) (pf0 : ¬ sx0 = (-1 : Int32) → ClD d mdX11_clearNumbers [.ref a0] M (fun r1 M1 => Wp d mdX11_sift 64 [(0, .ref a0), (4, .int sx0)] (r1.toList ++ []) M1 Q)) (pq1 : sx0 = (-1 : Int32) → Q (some (.int (-3 : Int32))) M) : Wp d mdX11_sift 49 [(0, .ref a0)] [.int sx0] M Q := by
  refine r_istore dX11_sift_49 (by decide) (ls' := [(4, .int sx0), (0, .ref a0)]) rfl ?_
  refine r_iload dX11_sift_51 0 rfl ?_
  refine r_iconst (v := (-1)) dX11_sift_53 rfl ?_
  refine r_icmp_ne (tgt := 60) dX11_sift_54 (by decide) (fun c0 => ?_) (fun c0 => ?_)
  · skip
    refine r_aload_n dX11_sift_60 rfl 1 rfl ?_
    refine r_sub [1, 0] (ls' := [(0, .ref a0), (4, .int sx0)]) rfl ?_
    obtain ⟨e9, hlt, h9⟩ := (pf0 c0)
    exact r_callV (As := []) (rest := []) (ci := 9) moX11_clearNumbers dX11_sift_61 mlX11_181 imX11_clearNumbers seX11_clearNumbers k0 rfl hlt (Nat.le_of_ble_eq_true rfl) h9
  · skip
    refine r_bipush (v := (-3)) dX11_sift_57 rfl ?_
    exact r_ret (some (.int (-3 : Int32))) dX11_sift_59 rfl (pq1 c0)
theorem gX11_sift_64 {d : Nat} {Q : Option Value → Mem → Prop} {M : Mem} {a0 : Nat} {x4 : Int32} (k0 : mK M a0 = 13) (k1 : mK M (mR M a0 4) = 6) (k2 : mK M (mR M (mR M a0 4) 2) = 10) (pf0 : ClD d mdX11_put [.ref a0, .long ((mI M (mR M (mR M a0 4) 2) 7).toInt64)] M (fun r1 M1 => Wp d mdX11_sift 79 [(4, .int x4)] (r1.toList ++ []) M1 Q)) : Wp d mdX11_sift 64 [(0, .ref a0), (4, .int x4)] [] M Q := by
  refine r_aload_n dX11_sift_64 rfl 0 rfl ?_
  refine r_aload_n dX11_sift_65 rfl 0 rfl ?_
  refine r_getR ck9 dX11_sift_66 flX11_38 rfl k0 ?_
  refine r_getR ck2 dX11_sift_69 flX11_246 rfl k1 ?_
  refine r_getI ck6 dX11_sift_72 flX11_258 rfl k2 ?_
  refine r_i2l dX11_sift_75 ?_
  refine r_sub [1] (ls' := [(4, .int x4)]) rfl ?_
  obtain ⟨e9, hlt, h9⟩ := pf0
  exact r_callV (As := [.long ((mI M (mR M (mR M a0 4) 2) 7).toInt64)]) (rest := []) (ci := 9) moX11_put dX11_sift_76 mlX11_184 imX11_put seX11_put k0 rfl hlt (Nat.le_of_ble_eq_true rfl) h9
theorem gX11_sift_79 {d : Nat} {Q : Option Value → Mem → Prop} {M : Mem} {x4 : Int32}  (pq0 : Q (some (.int x4)) M) : Wp d mdX11_sift 79 [(4, .int x4)] [] M Q := by
  refine r_iload dX11_sift_79 0 rfl ?_
  exact r_ret (some (.int x4)) dX11_sift_81 rfl pq0
-- X11_guessed
theorem gX11_guessed_0 {d : Nat} {Q : Option Value → Mem → Prop} {M : Mem} {a0 : Nat} {x1 : Int32} {x2 : Int32} (k0 : mK M a0 = 13) (k1 : mK M (mR M a0 0) = 5) (pq0 : x2 < 0 → Q (some (.int (-1 : Int32))) M) (pf1 : ¬ x2 < 0 → x2 ≤ (mI M (mR M a0 0) 1) → ClD d mdX11_refuseGuessed [.ref a0, .int x1] M (fun r1 M1 => Wp d mdX11_guessed 22 [(0, .ref a0), (1, .int x1), (2, .int x2)] (r1.toList ++ []) M1 Q)) (pq2 : ¬ x2 < 0 → ¬ x2 ≤ (mI M (mR M a0 0) 1) → Q (some (.int (-1 : Int32))) M) : Wp d mdX11_guessed 0 [(0, .ref a0), (1, .int x1), (2, .int x2)] [] M Q := by
  refine r_iload_n dX11_guessed_0 rfl 2 rfl ?_
  refine r_if_lt (tgt := 15) dX11_guessed_1 (by decide) (fun c0 => ?_) (fun c0 => ?_)
  · skip
    refine r_iconst (v := (-1)) dX11_guessed_15 rfl ?_
    exact r_ret (some (.int (-1 : Int32))) dX11_guessed_16 rfl (pq0 c0)
  · skip
    refine r_iload_n dX11_guessed_4 rfl 2 rfl ?_
    refine r_aload_n dX11_guessed_5 rfl 0 rfl ?_
    refine r_getR ck9 dX11_guessed_6 flX11_10 rfl k0 ?_
    refine r_getI ck1 dX11_guessed_9 flX11_124 rfl k1 ?_
    refine r_icmp_le (tgt := 17) dX11_guessed_12 (by decide) (fun c1 => ?_) (fun c1 => ?_)
    · skip
      refine r_aload_n dX11_guessed_17 rfl 0 rfl ?_
      refine r_iload_n dX11_guessed_18 rfl 1 rfl ?_
      obtain ⟨e9, hlt, h9⟩ := (pf1 c0 c1)
      exact r_callV (As := [.int x1]) (rest := []) (ci := 9) moX11_refuseGuessed dX11_guessed_19 mlX11_261 imX11_refuseGuessed seX11_refuseGuessed k0 rfl hlt (Nat.le_of_ble_eq_true rfl) h9
    · skip
      refine r_iconst (v := (-1)) dX11_guessed_15 rfl ?_
      exact r_ret (some (.int (-1 : Int32))) dX11_guessed_16 rfl (pq2 c0 c1)
theorem gX11_guessed_22 {d : Nat} {Q : Option Value → Mem → Prop} {M : Mem} {a0 : Nat} {x1 : Int32} {x2 : Int32} {sx0 : Int32} (k0 : mK M a0 = 13) (k1 : mK M (mR M a0 4) = 6) {cnk2 : Nat} (hnk2 : NT cnk2) (k2 : mK M (mR M (mR M a0 4) 3) = cnk2 + 4) (k3 : mK M (mR M (mR M (mR M a0 4) 3) 4) = 5) (pf0 : 0 ≤ sx0 → ClD d mdX2_look [.ref (mR M (mR M (mR M a0 4) 3) 4), .int x1, .int x2] M (fun r1 M1 => Wp d mdX11_guessed 46 [] (r1.toList ++ []) M1 Q)) (pw1 : ¬ 0 ≤ sx0 → Wp d mdX11_guessed 46 [] [.int sx0] M Q) : Wp d mdX11_guessed 22 [(0, .ref a0), (1, .int x1), (2, .int x2)] [.int sx0] M Q := by
  refine r_istore_n dX11_guessed_22 rfl (by decide) (ls' := [(3, .int sx0), (0, .ref a0), (1, .int x1), (2, .int x2)]) rfl ?_
  refine r_iload_n dX11_guessed_23 rfl 0 rfl ?_
  refine r_if_ge (tgt := 31) dX11_guessed_24 (by decide) (fun c0 => ?_) (fun c0 => ?_)
  · skip
    refine r_aload_n dX11_guessed_31 rfl 1 rfl ?_
    refine r_getR ck9 dX11_guessed_32 flX11_38 rfl k0 ?_
    refine r_getR ck2 dX11_guessed_35 flX11_166 rfl k1 ?_
    refine r_getR (ckN hnk2) dX11_guessed_38 (flX11_198 hnk2) (by rcases hnk2 with rfl | rfl <;> rfl) k2 ?_
    refine r_iload_n dX11_guessed_41 rfl 2 rfl ?_
    refine r_iload_n dX11_guessed_42 rfl 3 rfl ?_
    refine r_sub [] (ls' := []) rfl ?_
    obtain ⟨e9, hlt, h9⟩ := (pf0 c0)
    exact r_callV (As := [.int x1, .int x2]) (rest := []) (ci := 1) moX2_look dX11_guessed_43 mlX11_104 imX2_look seX2_look k3 rfl hlt (Nat.le_of_ble_eq_true rfl) h9
  · skip
    refine r_iload_n dX11_guessed_27 rfl 0 rfl ?_
    refine r_goto (tgt := 46) dX11_guessed_28 (by decide) ?_
    refine r_sub [] (ls' := []) rfl ?_
    exact (pw1 c0)
theorem gX11_guessed_46 {d : Nat} {Q : Option Value → Mem → Prop} {M : Mem} {sx0 : Int32}  (pq0 : Q (some (.int sx0)) M) : Wp d mdX11_guessed 46 [] [.int sx0] M Q := by
  exact r_ret (some (.int sx0)) dX11_guessed_46 rfl pq0
-- X11_access
theorem gX11_access_0 {d : Nat} {Q : Option Value → Mem → Prop} {M : Mem} {a0 : Nat} {x1 : Int32} (k0 : mK M a0 = 13) (pf0 : ClD d mdX11_refuseGuessed [.ref a0, .int x1] M (fun r1 M1 => Wp d mdX11_access 5 [(0, .ref a0), (1, .int x1)] (r1.toList ++ []) M1 Q)) : Wp d mdX11_access 0 [(0, .ref a0), (1, .int x1)] [] M Q := by
  refine r_aload_n dX11_access_0 rfl 0 rfl ?_
  refine r_iload_n dX11_access_1 rfl 1 rfl ?_
  obtain ⟨e9, hlt, h9⟩ := pf0
  exact r_callV (As := [.int x1]) (rest := []) (ci := 9) moX11_refuseGuessed dX11_access_2 mlX11_261 imX11_refuseGuessed seX11_refuseGuessed k0 rfl hlt (Nat.le_of_ble_eq_true rfl) h9
theorem gX11_access_5 {d : Nat} {Q : Option Value → Mem → Prop} {M : Mem} {a0 : Nat} {x1 : Int32} {sx0 : Int32} (k0 : mK M a0 = 13) (k1 : mK M (mR M a0 4) = 6) {cnk2 : Nat} (hnk2 : NT cnk2) (k2 : mK M (mR M (mR M a0 4) 3) = cnk2 + 4) (k3 : mK M (mR M (mR M (mR M a0 4) 3) 3) = 11) (pf0 : 0 ≤ sx0 → ClD d mdX9_get [.ref (mR M (mR M (mR M a0 4) 3) 3), .int x1] M (fun r1 M1 => Wp d mdX11_access 29 [] (r1.toList ++ []) M1 Q)) (pw1 : ¬ 0 ≤ sx0 → Wp d mdX11_access 29 [] [.long sx0.toInt64] M Q) : Wp d mdX11_access 5 [(0, .ref a0), (1, .int x1)] [.int sx0] M Q := by
  refine r_istore_n dX11_access_5 rfl (by decide) (ls' := [(2, .int sx0), (0, .ref a0), (1, .int x1)]) rfl ?_
  refine r_iload_n dX11_access_6 rfl 0 rfl ?_
  refine r_if_ge (tgt := 15) dX11_access_7 (by decide) (fun c0 => ?_) (fun c0 => ?_)
  · skip
    refine r_aload_n dX11_access_15 rfl 1 rfl ?_
    refine r_getR ck9 dX11_access_16 flX11_38 rfl k0 ?_
    refine r_getR ck2 dX11_access_19 flX11_166 rfl k1 ?_
    refine r_getR (ckN hnk2) dX11_access_22 (flX11_264 hnk2) (by rcases hnk2 with rfl | rfl <;> rfl) k2 ?_
    refine r_iload_n dX11_access_25 rfl 2 rfl ?_
    refine r_sub [] (ls' := []) rfl ?_
    obtain ⟨e9, hlt, h9⟩ := (pf0 c0)
    exact r_callV (As := [.int x1]) (rest := []) (ci := 7) moX9_get dX11_access_26 mlX11_220 imX9_get seX9_get k3 rfl hlt (Nat.le_of_ble_eq_true rfl) h9
  · skip
    refine r_iload_n dX11_access_10 rfl 0 rfl ?_
    refine r_i2l dX11_access_11 ?_
    refine r_goto (tgt := 29) dX11_access_12 (by decide) ?_
    refine r_sub [] (ls' := []) rfl ?_
    exact (pw1 c0)
theorem gX11_access_29 {d : Nat} {Q : Option Value → Mem → Prop} {M : Mem} {sw0 : Int64}  (pq0 : Q (some (.long sw0)) M) : Wp d mdX11_access 29 [] [.long sw0] M Q := by
  exact r_ret (some (.long sw0)) dX11_access_29 rfl pq0
-- X11_reads
theorem gX11_reads_0 {d : Nat} {Q : Option Value → Mem → Prop} {M : Mem} {a0 : Nat} {w1 : Int64} (k0 : mK M a0 = 13) (pf0 : ClD d mdX11_isNoWord [.ref a0, .long w1] M (fun r1 M1 => Wp d mdX11_reads 5 [(0, .ref a0), (1, .long w1)] (r1.toList ++ []) M1 Q)) : Wp d mdX11_reads 0 [(0, .ref a0), (1, .long w1)] [] M Q := by
  refine r_aload_n dX11_reads_0 rfl 0 rfl ?_
  refine r_lload_n dX11_reads_1 rfl 1 rfl ?_
  obtain ⟨e9, hlt, h9⟩ := pf0
  exact r_callV (As := [.long w1]) (rest := []) (ci := 9) moX11_isNoWord dX11_reads_2 mlX11_108 imX11_isNoWord seX11_isNoWord k0 rfl hlt (Nat.le_of_ble_eq_true rfl) h9
theorem gX11_reads_5 {d : Nat} {Q : Option Value → Mem → Prop} {M : Mem} {a0 : Nat} {w1 : Int64} {sx0 : Int32} (k0 : mK M a0 = 13) (k1 : mK M (mR M a0 4) = 6) {cnk2 : Nat} (hnk2 : NT cnk2) (k2 : mK M (mR M (mR M a0 4) 3) = cnk2 + 4) (pf0 : sx0 = 0 → ClD d mdX3_hasGuess [.ref (mR M (mR M a0 4) 3)] M (fun r1 M1 => Wp d mdX11_reads 22 [(0, .ref a0), (1, .long w1), (3, .ref (mR M (mR M a0 4) 3))] (r1.toList ++ []) M1 Q)) (pq1 : ¬ sx0 = 0 → Q (some (.int (-1 : Int32))) M) : Wp d mdX11_reads 5 [(0, .ref a0), (1, .long w1)] [.int sx0] M Q := by
  refine r_if_eq (tgt := 10) dX11_reads_5 (by decide) (fun c0 => ?_) (fun c0 => ?_)
  · skip
    refine r_aload_n dX11_reads_10 rfl 0 rfl ?_
    refine r_getR ck9 dX11_reads_11 flX11_38 rfl k0 ?_
    refine r_getR ck2 dX11_reads_14 flX11_166 rfl k1 ?_
    refine r_astore_n dX11_reads_17 rfl (by decide) (ls' := [(3, .ref (mR M (mR M a0 4) 3)), (0, .ref a0), (1, .long w1)]) rfl ?_
    refine r_aload_n dX11_reads_18 rfl 0 rfl ?_
    refine r_sub [1, 2, 0] (ls' := [(0, .ref a0), (1, .long w1), (3, .ref (mR M (mR M a0 4) 3))]) rfl ?_
    obtain ⟨e9, hlt, h9⟩ := (pf0 c0)
    rcases hnk2 with rfl | rfl
    · exact r_callU (As := []) (rest := []) (ci := 4) (x := yX3_hasGuess) (owner := "AskingPupil$Notes") moX3_hasGuess dX11_reads_19 mlX11_170 smX3_hasGuess imX3_hasGuess suX6_X3_hasGuess ⟨by decide +kernel, by decide +kernel⟩ (Or.inl rfl) k2 rfl hlt (Nat.le_of_ble_eq_true rfl) h9
    · exact r_callU (As := []) (rest := []) (ci := 6) (x := yX3_hasGuess) (owner := "AskingPupil$Notes") moX3_hasGuess dX11_reads_19 mlX11_170 smX3_hasGuess imX3_hasGuess suX8_X3_hasGuess ⟨by decide +kernel, by decide +kernel⟩ (Or.inl rfl) k2 rfl hlt (Nat.le_of_ble_eq_true rfl) h9
  · skip
    refine r_iconst (v := (-1)) dX11_reads_8 rfl ?_
    exact r_ret (some (.int (-1 : Int32))) dX11_reads_9 rfl (pq1 c0)
theorem gX11_reads_22 {d : Nat} {Q : Option Value → Mem → Prop} {M : Mem} {a0 : Nat} {w1 : Int64} {a3 : Nat} {sx0 : Int32} {cnk0 : Nat} (hnk0 : NT cnk0) (k0 : mK M a3 = cnk0 + 4) (k1 : mK M (mR M a3 4) = 5) (pf0 : ¬ sx0 = 0 → ClD d mdX2_endFrom [.ref (mR M a3 4), .int (nI 0), .long w1] M (fun r1 M1 => Wp d mdX11_reads 37 [(0, .ref a0), (3, .ref a3)] (r1.toList ++ []) M1 Q)) (pq1 : sx0 = 0 → Q (some (.int (-2 : Int32))) M) : Wp d mdX11_reads 22 [(0, .ref a0), (1, .long w1), (3, .ref a3)] [.int sx0] M Q := by
  refine r_if_ne (tgt := 28) dX11_reads_22 (by decide) (fun c0 => ?_) (fun c0 => ?_)
  · skip
    refine r_aload_n dX11_reads_28 rfl 2 rfl ?_
    refine r_getR (ckN hnk0) dX11_reads_29 (flX11_198 hnk0) (by rcases hnk0 with rfl | rfl <;> rfl) k0 ?_
    refine r_iconst (v := (nI 0)) dX11_reads_32 rfl ?_
    refine r_lload_n dX11_reads_33 rfl 1 rfl ?_
    refine r_sub [0, 2] (ls' := [(0, .ref a0), (3, .ref a3)]) rfl ?_
    obtain ⟨e9, hlt, h9⟩ := (pf0 c0)
    exact r_callV (As := [.int (nI 0), .long w1]) (rest := []) (ci := 1) moX2_endFrom dX11_reads_34 mlX11_112 imX2_endFrom seX2_endFrom k1 rfl hlt (Nat.le_of_ble_eq_true rfl) h9
  · skip
    refine r_bipush (v := (-2)) dX11_reads_25 rfl ?_
    exact r_ret (some (.int (-2 : Int32))) dX11_reads_27 rfl (pq1 c0)
theorem gX11_reads_37 {d : Nat} {Q : Option Value → Mem → Prop} {M : Mem} {a0 : Nat} {a3 : Nat} {sx0 : Int32} (k0 : mK M a0 = 13) (pf0 : ClD d mdX11_clearNumbers [.ref a0] M (fun r1 M1 => Wp d mdX11_reads 43 [(0, .ref a0), (3, .ref a3), (4, .int sx0)] (r1.toList ++ []) M1 Q)) : Wp d mdX11_reads 37 [(0, .ref a0), (3, .ref a3)] [.int sx0] M Q := by
  refine r_istore dX11_reads_37 (by decide) (ls' := [(4, .int sx0), (0, .ref a0), (3, .ref a3)]) rfl ?_
  refine r_aload_n dX11_reads_39 rfl 1 rfl ?_
  refine r_sub [1, 2, 0] (ls' := [(0, .ref a0), (3, .ref a3), (4, .int sx0)]) rfl ?_
  obtain ⟨e9, hlt, h9⟩ := pf0
  exact r_callV (As := []) (rest := []) (ci := 9) moX11_clearNumbers dX11_reads_40 mlX11_181 imX11_clearNumbers seX11_clearNumbers k0 rfl hlt (Nat.le_of_ble_eq_true rfl) h9
theorem gX11_reads_43 {d : Nat} {Q : Option Value → Mem → Prop} {M : Mem} {a0 : Nat} {a3 : Nat} {x4 : Int32} {cnk0 : Nat} (hnk0 : NT cnk0) (k0 : mK M a3 = cnk0 + 4) (k1 : mK M (mR M a3 4) = 5) (pf0 : ClD d mdX2_outputOf [.ref (mR M a3 4), .int x4] M (fun r1 M1 => Wp d mdX11_reads 53 [(4, .int x4)] (r1.toList ++ [.ref a0]) M1 Q)) : Wp d mdX11_reads 43 [(0, .ref a0), (3, .ref a3), (4, .int x4)] [] M Q := by
  refine r_aload_n dX11_reads_43 rfl 0 rfl ?_
  refine r_aload_n dX11_reads_44 rfl 1 rfl ?_
  refine r_getR (ckN hnk0) dX11_reads_45 (flX11_198 hnk0) (by rcases hnk0 with rfl | rfl <;> rfl) k0 ?_
  refine r_iload dX11_reads_48 2 rfl ?_
  refine r_sub [2] (ls' := [(4, .int x4)]) rfl ?_
  obtain ⟨e9, hlt, h9⟩ := pf0
  exact r_callV (As := [.int x4]) (rest := [.ref a0]) (ci := 1) moX2_outputOf dX11_reads_50 mlX11_267 imX2_outputOf seX2_outputOf k1 rfl hlt (Nat.le_of_ble_eq_true rfl) h9
theorem gX11_reads_53 {d : Nat} {Q : Option Value → Mem → Prop} {M : Mem} {x4 : Int32} {sx0 : Int32} {sa1 : Nat} (k0 : mK M sa1 = 13) (pf0 : ClD d mdX11_put [.ref sa1, .long sx0.toInt64] M (fun r1 M1 => Wp d mdX11_reads 57 [(4, .int x4)] (r1.toList ++ []) M1 Q)) : Wp d mdX11_reads 53 [(4, .int x4)] [.int sx0, .ref sa1] M Q := by
  refine r_i2l dX11_reads_53 ?_
  obtain ⟨e9, hlt, h9⟩ := pf0
  exact r_callV (As := [.long sx0.toInt64]) (rest := []) (ci := 9) moX11_put dX11_reads_54 mlX11_184 imX11_put seX11_put k0 rfl hlt (Nat.le_of_ble_eq_true rfl) h9
theorem gX11_reads_57 {d : Nat} {Q : Option Value → Mem → Prop} {M : Mem} {x4 : Int32}  (pq0 : Q (some (.int x4)) M) : Wp d mdX11_reads 57 [(4, .int x4)] [] M Q := by
  refine r_iload dX11_reads_57 0 rfl ?_
  exact r_ret (some (.int x4)) dX11_reads_59 rfl pq0
-- X11_errs
theorem gX11_errs_0 {d : Nat} {Q : Option Value → Mem → Prop} {M : Mem} {a0 : Nat} (k0 : mK M a0 = 13) (k1 : mK M (mR M a0 4) = 6) {cnk2 : Nat} (hnk2 : NT cnk2) (k2 : mK M (mR M (mR M a0 4) 3) = cnk2 + 4) (pf0 : ClD d mdX3_hasGuess [.ref (mR M (mR M a0 4) 3)] M (fun r1 M1 => Wp d mdX11_errs 12 [(0, .ref a0), (1, .ref (mR M (mR M a0 4) 3))] (r1.toList ++ []) M1 Q)) : Wp d mdX11_errs 0 [(0, .ref a0)] [] M Q := by
  refine r_aload_n dX11_errs_0 rfl 0 rfl ?_
  refine r_getR ck9 dX11_errs_1 flX11_38 rfl k0 ?_
  refine r_getR ck2 dX11_errs_4 flX11_166 rfl k1 ?_
  refine r_astore_n dX11_errs_7 rfl (by decide) (ls' := [(1, .ref (mR M (mR M a0 4) 3)), (0, .ref a0)]) rfl ?_
  refine r_aload_n dX11_errs_8 rfl 0 rfl ?_
  refine r_sub [1, 0] (ls' := [(0, .ref a0), (1, .ref (mR M (mR M a0 4) 3))]) rfl ?_
  obtain ⟨e9, hlt, h9⟩ := pf0
  rcases hnk2 with rfl | rfl
  · exact r_callU (As := []) (rest := []) (ci := 4) (x := yX3_hasGuess) (owner := "AskingPupil$Notes") moX3_hasGuess dX11_errs_9 mlX11_170 smX3_hasGuess imX3_hasGuess suX6_X3_hasGuess ⟨by decide +kernel, by decide +kernel⟩ (Or.inl rfl) k2 rfl hlt (Nat.le_of_ble_eq_true rfl) h9
  · exact r_callU (As := []) (rest := []) (ci := 6) (x := yX3_hasGuess) (owner := "AskingPupil$Notes") moX3_hasGuess dX11_errs_9 mlX11_170 smX3_hasGuess imX3_hasGuess suX8_X3_hasGuess ⟨by decide +kernel, by decide +kernel⟩ (Or.inl rfl) k2 rfl hlt (Nat.le_of_ble_eq_true rfl) h9
theorem gX11_errs_12 {d : Nat} {Q : Option Value → Mem → Prop} {M : Mem} {a0 : Nat} {a1 : Nat} {sx0 : Int32} (k0 : mK M a0 = 13) {cnk1 : Nat} (hnk1 : NT cnk1) (k1 : mK M a1 = cnk1 + 4) (k2 : mK M (mR M a0 3) = 7) (pq0 : sx0 = 0 → Q (some (.long (-2 : Int64))) M) (pf1 : ¬ sx0 = 0 → ClD d mdX5_firstUnlike [.ref (mR M a0 3), .ref (mR M a1 4), .int (nI 0), .ref (mR M a0 0), .int (nI 0)] M (fun r1 M1 => Wp d mdX11_errs 32 [] (r1.toList ++ []) M1 Q)) : Wp d mdX11_errs 12 [(0, .ref a0), (1, .ref a1)] [.int sx0] M Q := by
  refine r_if_eq (tgt := 35) dX11_errs_12 (by decide) (fun c0 => ?_) (fun c0 => ?_)
  · skip
    refine r_ldc2 dX11_errs_35 kwX11_274 ?_
    exact r_ret (some (.long (-2 : Int64))) dX11_errs_38 rfl (pq0 c0)
  · skip
    refine r_aload_n dX11_errs_15 rfl 0 rfl ?_
    refine r_getR ck9 dX11_errs_16 flX11_29 rfl k0 ?_
    refine r_aload_n dX11_errs_19 rfl 1 rfl ?_
    refine r_getR (ckN hnk1) dX11_errs_20 (flX11_198 hnk1) (by rcases hnk1 with rfl | rfl <;> rfl) k1 ?_
    refine r_iconst (v := (nI 0)) dX11_errs_23 rfl ?_
    refine r_aload_n dX11_errs_24 rfl 0 rfl ?_
    refine r_getR ck9 dX11_errs_25 flX11_10 rfl k0 ?_
    refine r_iconst (v := (nI 0)) dX11_errs_28 rfl ?_
    refine r_sub [] (ls' := []) rfl ?_
    obtain ⟨e9, hlt, h9⟩ := (pf1 c0)
    exact r_callV (As := [.ref (mR M a1 4), .int (nI 0), .ref (mR M a0 0), .int (nI 0)]) (rest := []) (ci := 3) moX5_firstUnlike dX11_errs_29 mlX11_270 imX5_firstUnlike seX5_firstUnlike k2 rfl hlt (Nat.le_of_ble_eq_true rfl) h9
theorem gX11_errs_32 {d : Nat} {Q : Option Value → Mem → Prop} {M : Mem} {sw0 : Int64}  (pq0 : Q (some (.long sw0)) M) : Wp d mdX11_errs 32 [] [.long sw0] M Q := by
  refine r_goto (tgt := 38) dX11_errs_32 (by decide) ?_
  exact r_ret (some (.long sw0)) dX11_errs_38 rfl pq0
-- X11_wrong
theorem gX11_wrong_0 {d : Nat} {Q : Option Value → Mem → Prop} {M : Mem} {a0 : Nat} {x1 : Int32} (k0 : mK M a0 = 13) (k1 : mK M (mR M a0 4) = 6) {cnk2 : Nat} (hnk2 : NT cnk2) (k2 : mK M (mR M (mR M a0 4) 3) = cnk2 + 4) (pq0 : x1 < 0 → Q (some (.int (-1 : Int32))) M) (pf1 : ¬ x1 < 0 → x1 ≤ (nI 8) → ClD d mdX3_hasGuess [.ref (mR M (mR M a0 4) 3)] M (fun r1 M1 => Wp d mdX11_wrong 24 [(0, .ref a0), (1, .int x1), (2, .ref (mR M (mR M a0 4) 3))] (r1.toList ++ []) M1 Q)) (pq2 : ¬ x1 < 0 → ¬ x1 ≤ (nI 8) → Q (some (.int (-1 : Int32))) M) : Wp d mdX11_wrong 0 [(0, .ref a0), (1, .int x1)] [] M Q := by
  refine r_iload_n dX11_wrong_0 rfl 1 rfl ?_
  refine r_if_lt (tgt := 10) dX11_wrong_1 (by decide) (fun c0 => ?_) (fun c0 => ?_)
  · skip
    refine r_iconst (v := (-1)) dX11_wrong_10 rfl ?_
    exact r_ret (some (.int (-1 : Int32))) dX11_wrong_11 rfl (pq0 c0)
  · skip
    refine r_iload_n dX11_wrong_4 rfl 1 rfl ?_
    refine r_bipush (v := (nI 8)) dX11_wrong_5 rfl ?_
    refine r_icmp_le (tgt := 12) dX11_wrong_7 (by decide) (fun c1 => ?_) (fun c1 => ?_)
    · skip
      refine r_aload_n dX11_wrong_12 rfl 0 rfl ?_
      refine r_getR ck9 dX11_wrong_13 flX11_38 rfl k0 ?_
      refine r_getR ck2 dX11_wrong_16 flX11_166 rfl k1 ?_
      refine r_astore_n dX11_wrong_19 rfl (by decide) (ls' := [(2, .ref (mR M (mR M a0 4) 3)), (0, .ref a0), (1, .int x1)]) rfl ?_
      refine r_aload_n dX11_wrong_20 rfl 0 rfl ?_
      refine r_sub [1, 2, 0] (ls' := [(0, .ref a0), (1, .int x1), (2, .ref (mR M (mR M a0 4) 3))]) rfl ?_
      obtain ⟨e9, hlt, h9⟩ := (pf1 c0 c1)
      rcases hnk2 with rfl | rfl
      · exact r_callU (As := []) (rest := []) (ci := 4) (x := yX3_hasGuess) (owner := "AskingPupil$Notes") moX3_hasGuess dX11_wrong_21 mlX11_170 smX3_hasGuess imX3_hasGuess suX6_X3_hasGuess ⟨by decide +kernel, by decide +kernel⟩ (Or.inl rfl) k2 rfl hlt (Nat.le_of_ble_eq_true rfl) h9
      · exact r_callU (As := []) (rest := []) (ci := 6) (x := yX3_hasGuess) (owner := "AskingPupil$Notes") moX3_hasGuess dX11_wrong_21 mlX11_170 smX3_hasGuess imX3_hasGuess suX8_X3_hasGuess ⟨by decide +kernel, by decide +kernel⟩ (Or.inl rfl) k2 rfl hlt (Nat.le_of_ble_eq_true rfl) h9
    · skip
      refine r_iconst (v := (-1)) dX11_wrong_10 rfl ?_
      exact r_ret (some (.int (-1 : Int32))) dX11_wrong_11 rfl (pq2 c0 c1)
theorem gX11_wrong_24 {d : Nat} {Q : Option Value → Mem → Prop} {M : Mem} {a0 : Nat} {x1 : Int32} {a2 : Nat} {sx0 : Int32} (k0 : mK M a0 = 13) {cnk1 : Nat} (hnk1 : NT cnk1) (k1 : mK M a2 = cnk1 + 4) (k2 : mK M (mR M a0 3) = 7) (pf0 : ¬ sx0 = 0 → ClD d mdX5_countUnlike [.ref (mR M a0 3), .ref (mR M a2 4), .ref (mR M a0 0), .int x1] M (fun r1 M1 => Wp d mdX11_wrong 46 [(0, .ref a0), (1, .int x1)] (r1.toList ++ []) M1 Q)) (pq1 : sx0 = 0 → Q (some (.int (-2 : Int32))) M) : Wp d mdX11_wrong 24 [(0, .ref a0), (1, .int x1), (2, .ref a2)] [.int sx0] M Q := by
  refine r_if_ne (tgt := 30) dX11_wrong_24 (by decide) (fun c0 => ?_) (fun c0 => ?_)
  · skip
    refine r_aload_n dX11_wrong_30 rfl 0 rfl ?_
    refine r_getR ck9 dX11_wrong_31 flX11_29 rfl k0 ?_
    refine r_aload_n dX11_wrong_34 rfl 2 rfl ?_
    refine r_getR (ckN hnk1) dX11_wrong_35 (flX11_198 hnk1) (by rcases hnk1 with rfl | rfl <;> rfl) k1 ?_
    refine r_aload_n dX11_wrong_38 rfl 0 rfl ?_
    refine r_getR ck9 dX11_wrong_39 flX11_10 rfl k0 ?_
    refine r_iload_n dX11_wrong_42 rfl 1 rfl ?_
    refine r_sub [0, 1] (ls' := [(0, .ref a0), (1, .int x1)]) rfl ?_
    obtain ⟨e9, hlt, h9⟩ := (pf0 c0)
    exact r_callV (As := [.ref (mR M a2 4), .ref (mR M a0 0), .int x1]) (rest := []) (ci := 3) moX5_countUnlike dX11_wrong_43 mlX11_276 imX5_countUnlike seX5_countUnlike k2 rfl hlt (Nat.le_of_ble_eq_true rfl) h9
  · skip
    refine r_bipush (v := (-2)) dX11_wrong_27 rfl ?_
    exact r_ret (some (.int (-2 : Int32))) dX11_wrong_29 rfl (pq1 c0)
theorem gX11_wrong_46 {d : Nat} {Q : Option Value → Mem → Prop} {M : Mem} {a0 : Nat} {x1 : Int32} {sx0 : Int32} (k0 : mK M a0 = 13) (pf0 : ClD d mdX11_clearNumbers [.ref a0] M (fun r1 M1 => Wp d mdX11_wrong 51 [(0, .ref a0), (1, .int x1), (3, .int sx0)] (r1.toList ++ []) M1 Q)) : Wp d mdX11_wrong 46 [(0, .ref a0), (1, .int x1)] [.int sx0] M Q := by
  refine r_istore_n dX11_wrong_46 rfl (by decide) (ls' := [(3, .int sx0), (0, .ref a0), (1, .int x1)]) rfl ?_
  refine r_aload_n dX11_wrong_47 rfl 1 rfl ?_
  refine r_sub [1, 2, 0] (ls' := [(0, .ref a0), (1, .int x1), (3, .int sx0)]) rfl ?_
  obtain ⟨e9, hlt, h9⟩ := pf0
  exact r_callV (As := []) (rest := []) (ci := 9) moX11_clearNumbers dX11_wrong_48 mlX11_181 imX11_clearNumbers seX11_clearNumbers k0 rfl hlt (Nat.le_of_ble_eq_true rfl) h9
theorem gX11_wrong_51 {d : Nat} {Q : Option Value → Mem → Prop} {M : Mem} {a0 : Nat} {x1 : Int32} {x3 : Int32} (k0 : mK M a0 = 13) (k1 : mK M (mR M a0 0) = 5) (pf0 : ClD d mdX1_countUpTo [.int x1, .int (mI M (mR M a0 0) 1)] M (fun r1 M1 => Wp d mdX11_wrong 63 [(3, .int x3)] (r1.toList ++ [.ref a0]) M1 Q)) : Wp d mdX11_wrong 51 [(0, .ref a0), (1, .int x1), (3, .int x3)] [] M Q := by
  refine r_aload_n dX11_wrong_51 rfl 0 rfl ?_
  refine r_iload_n dX11_wrong_52 rfl 1 rfl ?_
  refine r_aload_n dX11_wrong_53 rfl 0 rfl ?_
  refine r_getR ck9 dX11_wrong_54 flX11_10 rfl k0 ?_
  refine r_getI ck1 dX11_wrong_57 flX11_124 rfl k1 ?_
  refine r_sub [2] (ls' := [(3, .int x3)]) rfl ?_
  obtain ⟨e9, hlt, h9⟩ := pf0
  exact r_callS (As := [.int x1, .int (mI M (mR M a0 0) 1)]) (rest := [.ref a0]) moX1_countUpTo dX11_wrong_60 mlX11_280 saX1_countUpTo rfl hlt (Nat.le_of_ble_eq_true rfl) h9
theorem gX11_wrong_63 {d : Nat} {Q : Option Value → Mem → Prop} {M : Mem} {x3 : Int32} {sx0 : Int32} {sa1 : Nat} (k0 : mK M sa1 = 13) (pf0 : ClD d mdX11_put [.ref sa1, .long sx0.toInt64] M (fun r1 M1 => Wp d mdX11_wrong 67 [(3, .int x3)] (r1.toList ++ []) M1 Q)) : Wp d mdX11_wrong 63 [(3, .int x3)] [.int sx0, .ref sa1] M Q := by
  refine r_i2l dX11_wrong_63 ?_
  obtain ⟨e9, hlt, h9⟩ := pf0
  exact r_callV (As := [.long sx0.toInt64]) (rest := []) (ci := 9) moX11_put dX11_wrong_64 mlX11_184 imX11_put seX11_put k0 rfl hlt (Nat.le_of_ble_eq_true rfl) h9
theorem gX11_wrong_67 {d : Nat} {Q : Option Value → Mem → Prop} {M : Mem} {x3 : Int32}  (pq0 : Q (some (.int x3)) M) : Wp d mdX11_wrong 67 [(3, .int x3)] [] M Q := by
  refine r_iload_n dX11_wrong_67 rfl 0 rfl ?_
  exact r_ret (some (.int x3)) dX11_wrong_68 rfl pq0
-- X11_tests
theorem gX11_tests_0 {d : Nat} {Q : Option Value → Mem → Prop} {M : Mem} {a0 : Nat} {x1 : Int32} (k0 : mK M a0 = 13) (k1 : mK M (mR M a0 4) = 6) {cnk2 : Nat} (hnk2 : NT cnk2) (k2 : mK M (mR M (mR M a0 4) 3) = cnk2 + 4) (pq0 : x1 < 0 → Q (some (.int (-1 : Int32))) M) (pf1 : ¬ x1 < 0 → x1 ≤ (nI 2) → ClD d mdX3_hasGuess [.ref (mR M (mR M a0 4) 3)] M (fun r1 M1 => Wp d mdX11_tests 21 [(0, .ref a0), (1, .int x1)] (r1.toList ++ []) M1 Q)) (pq2 : ¬ x1 < 0 → ¬ x1 ≤ (nI 2) → Q (some (.int (-1 : Int32))) M) : Wp d mdX11_tests 0 [(0, .ref a0), (1, .int x1)] [] M Q := by
  refine r_iload_n dX11_tests_0 rfl 1 rfl ?_
  refine r_if_lt (tgt := 9) dX11_tests_1 (by decide) (fun c0 => ?_) (fun c0 => ?_)
  · skip
    refine r_iconst (v := (-1)) dX11_tests_9 rfl ?_
    exact r_ret (some (.int (-1 : Int32))) dX11_tests_10 rfl (pq0 c0)
  · skip
    refine r_iload_n dX11_tests_4 rfl 1 rfl ?_
    refine r_iconst (v := (nI 2)) dX11_tests_5 rfl ?_
    refine r_icmp_le (tgt := 11) dX11_tests_6 (by decide) (fun c1 => ?_) (fun c1 => ?_)
    · skip
      refine r_aload_n dX11_tests_11 rfl 0 rfl ?_
      refine r_getR ck9 dX11_tests_12 flX11_38 rfl k0 ?_
      refine r_getR ck2 dX11_tests_15 flX11_166 rfl k1 ?_
      obtain ⟨e9, hlt, h9⟩ := (pf1 c0 c1)
      rcases hnk2 with rfl | rfl
      · exact r_callU (As := []) (rest := []) (ci := 4) (x := yX3_hasGuess) (owner := "AskingPupil$Notes") moX3_hasGuess dX11_tests_18 mlX11_170 smX3_hasGuess imX3_hasGuess suX6_X3_hasGuess ⟨by decide +kernel, by decide +kernel⟩ (Or.inl rfl) k2 rfl hlt (Nat.le_of_ble_eq_true rfl) h9
      · exact r_callU (As := []) (rest := []) (ci := 6) (x := yX3_hasGuess) (owner := "AskingPupil$Notes") moX3_hasGuess dX11_tests_18 mlX11_170 smX3_hasGuess imX3_hasGuess suX8_X3_hasGuess ⟨by decide +kernel, by decide +kernel⟩ (Or.inl rfl) k2 rfl hlt (Nat.le_of_ble_eq_true rfl) h9
    · skip
      refine r_iconst (v := (-1)) dX11_tests_9 rfl ?_
      exact r_ret (some (.int (-1 : Int32))) dX11_tests_10 rfl (pq2 c0 c1)
theorem gX11_tests_21 {d : Nat} {Q : Option Value → Mem → Prop} {M : Mem} {a0 : Nat} {x1 : Int32} {sx0 : Int32} (k0 : mK M a0 = 13) (pf0 : ¬ sx0 = 0 → ClD d mdX11_gatherTrials [.ref a0, .int x1] M (fun r1 M1 => Wp d mdX11_tests 32 [(0, .ref a0)] (r1.toList ++ []) M1 Q)) (pq1 : sx0 = 0 → Q (some (.int (-2 : Int32))) M) : Wp d mdX11_tests 21 [(0, .ref a0), (1, .int x1)] [.int sx0] M Q := by
  refine r_if_ne (tgt := 27) dX11_tests_21 (by decide) (fun c0 => ?_) (fun c0 => ?_)
  · skip
    refine r_aload_n dX11_tests_27 rfl 0 rfl ?_
    refine r_iload_n dX11_tests_28 rfl 1 rfl ?_
    refine r_sub [0] (ls' := [(0, .ref a0)]) rfl ?_
    obtain ⟨e9, hlt, h9⟩ := (pf0 c0)
    exact r_callV (As := [.int x1]) (rest := []) (ci := 9) moX11_gatherTrials dX11_tests_29 mlX11_283 imX11_gatherTrials seX11_gatherTrials k0 rfl hlt (Nat.le_of_ble_eq_true rfl) h9
  · skip
    refine r_bipush (v := (-2)) dX11_tests_24 rfl ?_
    exact r_ret (some (.int (-2 : Int32))) dX11_tests_26 rfl (pq1 c0)
theorem gX11_tests_32 {d : Nat} {Q : Option Value → Mem → Prop} {M : Mem} {a0 : Nat}  (pw0 : Wp d mdX11_tests 42 [(0, .ref a0), (2, .int (nI 0)), (3, .int (nI 0)), (4, .int (nI 0)), (5, .int (nI 0))] [] M Q) : Wp d mdX11_tests 32 [(0, .ref a0)] [] M Q := by
  refine r_iconst (v := (nI 0)) dX11_tests_32 rfl ?_
  refine r_istore_n dX11_tests_33 rfl (by decide) (ls' := [(2, .int (nI 0)), (0, .ref a0)]) rfl ?_
  refine r_iconst (v := (nI 0)) dX11_tests_34 rfl ?_
  refine r_istore_n dX11_tests_35 rfl (by decide) (ls' := [(3, .int (nI 0)), (2, .int (nI 0)), (0, .ref a0)]) rfl ?_
  refine r_iconst (v := (nI 0)) dX11_tests_36 rfl ?_
  refine r_istore dX11_tests_37 (by decide) (ls' := [(4, .int (nI 0)), (3, .int (nI 0)), (2, .int (nI 0)), (0, .ref a0)]) rfl ?_
  refine r_iconst (v := (nI 0)) dX11_tests_39 rfl ?_
  refine r_istore dX11_tests_40 (by decide) (ls' := [(5, .int (nI 0)), (4, .int (nI 0)), (3, .int (nI 0)), (2, .int (nI 0)), (0, .ref a0)]) rfl ?_
  refine r_sub [4, 3, 2, 1, 0] (ls' := [(0, .ref a0), (2, .int (nI 0)), (3, .int (nI 0)), (4, .int (nI 0)), (5, .int (nI 0))]) rfl ?_
  exact pw0
theorem gX11_tests_42 {d : Nat} {Q : Option Value → Mem → Prop} {M : Mem} {a0 : Nat} {x2 : Int32} {x3 : Int32} {x4 : Int32} {x5 : Int32} (k0 : mK M a0 = 13) (k1 : mK M (mR M a0 6) = 12) (pf0 : ClD d mdX10_places [.ref (mR M a0 6)] M (fun r1 M1 => Wp d mdX11_tests 51 [(0, .ref a0), (2, .int x2), (3, .int x3), (4, .int x4), (5, .int x5)] (r1.toList ++ [.int x5]) M1 Q)) : Wp d mdX11_tests 42 [(0, .ref a0), (2, .int x2), (3, .int x3), (4, .int x4), (5, .int x5)] [] M Q := by
  refine r_iload dX11_tests_42 4 rfl ?_
  refine r_aload_n dX11_tests_44 rfl 0 rfl ?_
  refine r_getR ck9 dX11_tests_45 flX11_48 rfl k0 ?_
  obtain ⟨e9, hlt, h9⟩ := pf0
  exact r_callV (As := []) (rest := [.int x5]) (ci := 8) moX10_places dX11_tests_48 mlX11_286 imX10_places seX10_places k1 rfl hlt (Nat.le_of_ble_eq_true rfl) h9
theorem gX11_tests_51 {d : Nat} {Q : Option Value → Mem → Prop} {M : Mem} {a0 : Nat} {x2 : Int32} {x3 : Int32} {x4 : Int32} {x5 : Int32} {sx0 : Int32} {sx1 : Int32} (k0 : mK M a0 = 13) (k1 : mK M (mR M a0 6) = 12) (pf0 : sx0 ≤ sx1 → ClD d mdX11_clearNumbers [.ref a0] M (fun r1 M1 => Wp d mdX11_tests 125 [(0, .ref a0), (2, .int x2), (3, .int x3), (4, .int x4)] (r1.toList ++ []) M1 Q)) (pf1 : ¬ sx0 ≤ sx1 → ClD d mdX10_at [.ref (mR M a0 6), .int x5] M (fun r1 M1 => Wp d mdX11_tests 63 [(0, .ref a0), (2, .int x2), (3, .int x3), (4, .int x4), (5, .int x5)] (r1.toList ++ []) M1 Q)) : Wp d mdX11_tests 51 [(0, .ref a0), (2, .int x2), (3, .int x3), (4, .int x4), (5, .int x5)] [.int sx0, .int sx1] M Q := by
  refine r_icmp_ge (tgt := 121) dX11_tests_51 (by decide) (fun c0 => ?_) (fun c0 => ?_)
  · skip
    refine r_aload_n dX11_tests_121 rfl 0 rfl ?_
    refine r_sub [0, 1, 2, 3] (ls' := [(0, .ref a0), (2, .int x2), (3, .int x3), (4, .int x4)]) rfl ?_
    obtain ⟨e9, hlt, h9⟩ := (pf0 c0)
    exact r_callV (As := []) (rest := []) (ci := 9) moX11_clearNumbers dX11_tests_122 mlX11_181 imX11_clearNumbers seX11_clearNumbers k0 rfl hlt (Nat.le_of_ble_eq_true rfl) h9
  · skip
    refine r_aload_n dX11_tests_54 rfl 0 rfl ?_
    refine r_getR ck9 dX11_tests_55 flX11_48 rfl k0 ?_
    refine r_iload dX11_tests_58 4 rfl ?_
    obtain ⟨e9, hlt, h9⟩ := (pf1 c0)
    exact r_callV (As := [.int x5]) (rest := []) (ci := 8) moX10_at dX11_tests_60 mlX11_289 imX10_at seX10_at k1 rfl hlt (Nat.le_of_ble_eq_true rfl) h9
theorem gX11_tests_63 {d : Nat} {Q : Option Value → Mem → Prop} {M : Mem} {a0 : Nat} {x2 : Int32} {x3 : Int32} {x4 : Int32} {x5 : Int32} {sw0 : Int64}  (pf0 : ¬ sw0 = (lN 0) → ClD d mdX1_length [.long sw0] M (fun r1 M1 => Wp d mdX11_tests 80 [(0, .ref a0), (2, .int x2), (3, .int x3), (4, .int x4), (5, .int x5), (6, .long sw0)] (r1.toList ++ []) M1 Q)) (pw1 : sw0 = (lN 0) → Wp d mdX11_tests 42 [(0, .ref a0), (2, .int x2), (3, .int x3), (4, .int x4), (5, .int (x5 + (nI 1)))] [] M Q) : Wp d mdX11_tests 63 [(0, .ref a0), (2, .int x2), (3, .int x3), (4, .int x4), (5, .int x5)] [.long sw0] M Q := by
  refine r_lstore dX11_tests_63 (by decide) (ls' := [(6, .long sw0), (0, .ref a0), (2, .int x2), (3, .int x3), (4, .int x4), (5, .int x5)]) rfl ?_
  refine r_lload dX11_tests_65 0 rfl ?_
  refine r_lconst (v := (lN 0)) dX11_tests_67 rfl ?_
  refine r_lif_ne (tgt := 75) dX11_tests_68 dX11_tests_69 (by decide) (fun c0 => ?_) (fun c0 => ?_)
  · skip
    refine r_lload dX11_tests_75 0 rfl ?_
    refine r_sub [1, 2, 3, 4, 5, 0] (ls' := [(0, .ref a0), (2, .int x2), (3, .int x3), (4, .int x4), (5, .int x5), (6, .long sw0)]) rfl ?_
    obtain ⟨e9, hlt, h9⟩ := (pf0 c0)
    exact r_callS (As := [.long sw0]) (rest := []) moX1_length dX11_tests_77 mlX11_291 saX1_length rfl hlt (Nat.le_of_ble_eq_true rfl) h9
  · skip
    refine r_goto (tgt := 115) dX11_tests_72 (by decide) ?_
    refine r_iinc dX11_tests_115 5 rfl (v := x5 + (nI 1)) rfl (by decide) (ls' := [(5, .int (x5 + (nI 1))), (6, .long sw0), (0, .ref a0), (2, .int x2), (3, .int x3), (4, .int x4)]) rfl ?_
    refine r_goto (tgt := 42) dX11_tests_118 (by decide) ?_
    refine r_sub [2, 3, 4, 5, 0] (ls' := [(0, .ref a0), (2, .int x2), (3, .int x3), (4, .int x4), (5, .int (x5 + (nI 1)))]) rfl ?_
    exact (pw1 c0)
theorem gX11_tests_80 {d : Nat} {Q : Option Value → Mem → Prop} {M : Mem} {a0 : Nat} {x2 : Int32} {x3 : Int32} {x4 : Int32} {x5 : Int32} {w6 : Int64} {sx0 : Int32} (hd1 : 1 ≤ d) (k0 : mK M a0 = 13) (k1 : mK M (mR M a0 4) = 6) (k2 : mK M (mR M (mR M a0 4) 0) = 4) (k3 : mK M (mR M (mR M (mR M a0 4) 0) 1) = 12) (pf0 : ClD d mdX10_has [.ref (mR M (mR M (mR M a0 4) 0) 1), .long w6] M (fun r1 M1 => Wp d mdX11_tests 109 [(0, .ref a0), (2, .int (x2 + sx0)), (3, .int (jmax x3 sx0)), (4, .int x4), (5, .int x5)] (r1.toList ++ []) M1 Q)) : Wp d mdX11_tests 80 [(0, .ref a0), (2, .int x2), (3, .int x3), (4, .int x4), (5, .int x5), (6, .long w6)] [.int sx0] M Q := by
  refine r_istore dX11_tests_80 (by decide) (ls' := [(8, .int sx0), (0, .ref a0), (2, .int x2), (3, .int x3), (4, .int x4), (5, .int x5), (6, .long w6)]) rfl ?_
  refine r_iload_n dX11_tests_82 rfl 2 rfl ?_
  refine r_iload dX11_tests_83 0 rfl ?_
  refine r_iadd dX11_tests_85 ?_
  refine r_istore_n dX11_tests_86 rfl (by decide) (ls' := [(2, .int (x2 + sx0)), (8, .int sx0), (0, .ref a0), (3, .int x3), (4, .int x4), (5, .int x5), (6, .long w6)]) rfl ?_
  refine r_iload_n dX11_tests_87 rfl 3 rfl ?_
  refine r_iload dX11_tests_88 1 rfl ?_
  refine r_math_max dX11_tests_90 mlX11_294 hd1 (Nat.le_of_ble_eq_true rfl) ?_
  refine r_istore_n dX11_tests_93 rfl (by decide) (ls' := [(3, .int (jmax x3 sx0)), (2, .int (x2 + sx0)), (8, .int sx0), (0, .ref a0), (4, .int x4), (5, .int x5), (6, .long w6)]) rfl ?_
  refine r_aload_n dX11_tests_94 rfl 3 rfl ?_
  refine r_getR ck9 dX11_tests_95 flX11_38 rfl k0 ?_
  refine r_getR ck2 dX11_tests_98 flX11_146 rfl k1 ?_
  refine r_getR ck0 dX11_tests_101 flX11_160 rfl k2 ?_
  refine r_lload dX11_tests_104 6 rfl ?_
  refine r_sub [3, 1, 0, 4, 5] (ls' := [(0, .ref a0), (2, .int (x2 + sx0)), (3, .int (jmax x3 sx0)), (4, .int x4), (5, .int x5)]) rfl ?_
  obtain ⟨e9, hlt, h9⟩ := pf0
  exact r_callV (As := [.long w6]) (rest := []) (ci := 8) moX10_has dX11_tests_106 mlX11_163 imX10_has seX10_has k3 rfl hlt (Nat.le_of_ble_eq_true rfl) h9
theorem gX11_tests_109 {d : Nat} {Q : Option Value → Mem → Prop} {M : Mem} {a0 : Nat} {x2 : Int32} {x3 : Int32} {x4 : Int32} {x5 : Int32} {sx0 : Int32}  (pw0 : sx0 = 0 → Wp d mdX11_tests 42 [(0, .ref a0), (2, .int x2), (3, .int x3), (4, .int x4), (5, .int (x5 + (nI 1)))] [] M Q) (pw1 : ¬ sx0 = 0 → Wp d mdX11_tests 42 [(0, .ref a0), (2, .int x2), (3, .int x3), (4, .int (x4 + (nI 1))), (5, .int (x5 + (nI 1)))] [] M Q) : Wp d mdX11_tests 109 [(0, .ref a0), (2, .int x2), (3, .int x3), (4, .int x4), (5, .int x5)] [.int sx0] M Q := by
  refine r_if_eq (tgt := 115) dX11_tests_109 (by decide) (fun c0 => ?_) (fun c0 => ?_)
  · skip
    refine r_iinc dX11_tests_115 4 rfl (v := x5 + (nI 1)) rfl (by decide) (ls' := [(5, .int (x5 + (nI 1))), (0, .ref a0), (2, .int x2), (3, .int x3), (4, .int x4)]) rfl ?_
    refine r_goto (tgt := 42) dX11_tests_118 (by decide) ?_
    refine r_sub [1, 2, 3, 4, 0] (ls' := [(0, .ref a0), (2, .int x2), (3, .int x3), (4, .int x4), (5, .int (x5 + (nI 1)))]) rfl ?_
    exact (pw0 c0)
  · skip
    refine r_iinc dX11_tests_112 3 rfl (v := x4 + (nI 1)) rfl (by decide) (ls' := [(4, .int (x4 + (nI 1))), (0, .ref a0), (2, .int x2), (3, .int x3), (5, .int x5)]) rfl ?_
    refine r_iinc dX11_tests_115 4 rfl (v := x5 + (nI 1)) rfl (by decide) (ls' := [(5, .int (x5 + (nI 1))), (4, .int (x4 + (nI 1))), (0, .ref a0), (2, .int x2), (3, .int x3)]) rfl ?_
    refine r_goto (tgt := 42) dX11_tests_118 (by decide) ?_
    refine r_sub [2, 3, 4, 1, 0] (ls' := [(0, .ref a0), (2, .int x2), (3, .int x3), (4, .int (x4 + (nI 1))), (5, .int (x5 + (nI 1)))]) rfl ?_
    exact (pw1 c0)
theorem gX11_tests_125 {d : Nat} {Q : Option Value → Mem → Prop} {M : Mem} {a0 : Nat} {x2 : Int32} {x3 : Int32} {x4 : Int32} (k0 : mK M a0 = 13) (pf0 : ClD d mdX11_put [.ref a0, .long x2.toInt64] M (fun r1 M1 => Wp d mdX11_tests 131 [(0, .ref a0), (3, .int x3), (4, .int x4)] (r1.toList ++ []) M1 Q)) : Wp d mdX11_tests 125 [(0, .ref a0), (2, .int x2), (3, .int x3), (4, .int x4)] [] M Q := by
  refine r_aload_n dX11_tests_125 rfl 0 rfl ?_
  refine r_iload_n dX11_tests_126 rfl 1 rfl ?_
  refine r_i2l dX11_tests_127 ?_
  refine r_sub [0, 2, 3] (ls' := [(0, .ref a0), (3, .int x3), (4, .int x4)]) rfl ?_
  obtain ⟨e9, hlt, h9⟩ := pf0
  exact r_callV (As := [.long x2.toInt64]) (rest := []) (ci := 9) moX11_put dX11_tests_128 mlX11_184 imX11_put seX11_put k0 rfl hlt (Nat.le_of_ble_eq_true rfl) h9
theorem gX11_tests_131 {d : Nat} {Q : Option Value → Mem → Prop} {M : Mem} {a0 : Nat} {x3 : Int32} {x4 : Int32} (k0 : mK M a0 = 13) (pf0 : ClD d mdX11_put [.ref a0, .long x3.toInt64] M (fun r1 M1 => Wp d mdX11_tests 137 [(0, .ref a0), (4, .int x4)] (r1.toList ++ []) M1 Q)) : Wp d mdX11_tests 131 [(0, .ref a0), (3, .int x3), (4, .int x4)] [] M Q := by
  refine r_aload_n dX11_tests_131 rfl 0 rfl ?_
  refine r_iload_n dX11_tests_132 rfl 1 rfl ?_
  refine r_i2l dX11_tests_133 ?_
  refine r_sub [0, 2] (ls' := [(0, .ref a0), (4, .int x4)]) rfl ?_
  obtain ⟨e9, hlt, h9⟩ := pf0
  exact r_callV (As := [.long x3.toInt64]) (rest := []) (ci := 9) moX11_put dX11_tests_134 mlX11_184 imX11_put seX11_put k0 rfl hlt (Nat.le_of_ble_eq_true rfl) h9
theorem gX11_tests_137 {d : Nat} {Q : Option Value → Mem → Prop} {M : Mem} {a0 : Nat} {x4 : Int32} (k0 : mK M a0 = 13) (pf0 : ClD d mdX11_put [.ref a0, .long x4.toInt64] M (fun r1 M1 => Wp d mdX11_tests 144 [(0, .ref a0)] (r1.toList ++ []) M1 Q)) : Wp d mdX11_tests 137 [(0, .ref a0), (4, .int x4)] [] M Q := by
  refine r_aload_n dX11_tests_137 rfl 0 rfl ?_
  refine r_iload dX11_tests_138 1 rfl ?_
  refine r_i2l dX11_tests_140 ?_
  refine r_sub [0] (ls' := [(0, .ref a0)]) rfl ?_
  obtain ⟨e9, hlt, h9⟩ := pf0
  exact r_callV (As := [.long x4.toInt64]) (rest := []) (ci := 9) moX11_put dX11_tests_141 mlX11_184 imX11_put seX11_put k0 rfl hlt (Nat.le_of_ble_eq_true rfl) h9
theorem gX11_tests_144 {d : Nat} {Q : Option Value → Mem → Prop} {M : Mem} {a0 : Nat} (k0 : mK M a0 = 13) (k1 : mK M (mR M a0 6) = 12) (pq0 : Q (some (.int (mI M (mR M a0 6) 0))) M) : Wp d mdX11_tests 144 [(0, .ref a0)] [] M Q := by
  refine r_aload_n dX11_tests_144 rfl 0 rfl ?_
  refine r_getR ck9 dX11_tests_145 flX11_48 rfl k0 ?_
  refine r_getI ck8 dX11_tests_148 flX11_175 rfl k1 ?_
  exact r_ret (some (.int (mI M (mR M a0 6) 0))) dX11_tests_151 rfl pq0
-- X11_passes
theorem gX11_passes_0 {d : Nat} {Q : Option Value → Mem → Prop} {M : Mem} {a0 : Nat} {x1 : Int32} (k0 : mK M a0 = 13) (k1 : mK M (mR M a0 4) = 6) {cnk2 : Nat} (hnk2 : NT cnk2) (k2 : mK M (mR M (mR M a0 4) 3) = cnk2 + 4) (pq0 : x1 < 0 → Q (some (.long (-1 : Int64))) M) (pf1 : ¬ x1 < 0 → x1 ≤ (nI 2) → ClD d mdX3_hasGuess [.ref (mR M (mR M a0 4) 3)] M (fun r1 M1 => Wp d mdX11_passes 25 [(0, .ref a0), (1, .int x1), (2, .ref (mR M (mR M a0 4) 3))] (r1.toList ++ []) M1 Q)) (pq2 : ¬ x1 < 0 → ¬ x1 ≤ (nI 2) → Q (some (.long (-1 : Int64))) M) : Wp d mdX11_passes 0 [(0, .ref a0), (1, .int x1)] [] M Q := by
  refine r_iload_n dX11_passes_0 rfl 1 rfl ?_
  refine r_if_lt (tgt := 9) dX11_passes_1 (by decide) (fun c0 => ?_) (fun c0 => ?_)
  · skip
    refine r_ldc2 dX11_passes_9 kwX11_116 ?_
    exact r_ret (some (.long (-1 : Int64))) dX11_passes_12 rfl (pq0 c0)
  · skip
    refine r_iload_n dX11_passes_4 rfl 1 rfl ?_
    refine r_iconst (v := (nI 2)) dX11_passes_5 rfl ?_
    refine r_icmp_le (tgt := 13) dX11_passes_6 (by decide) (fun c1 => ?_) (fun c1 => ?_)
    · skip
      refine r_aload_n dX11_passes_13 rfl 0 rfl ?_
      refine r_getR ck9 dX11_passes_14 flX11_38 rfl k0 ?_
      refine r_getR ck2 dX11_passes_17 flX11_166 rfl k1 ?_
      refine r_astore_n dX11_passes_20 rfl (by decide) (ls' := [(2, .ref (mR M (mR M a0 4) 3)), (0, .ref a0), (1, .int x1)]) rfl ?_
      refine r_aload_n dX11_passes_21 rfl 0 rfl ?_
      refine r_sub [1, 2, 0] (ls' := [(0, .ref a0), (1, .int x1), (2, .ref (mR M (mR M a0 4) 3))]) rfl ?_
      obtain ⟨e9, hlt, h9⟩ := (pf1 c0 c1)
      rcases hnk2 with rfl | rfl
      · exact r_callU (As := []) (rest := []) (ci := 4) (x := yX3_hasGuess) (owner := "AskingPupil$Notes") moX3_hasGuess dX11_passes_22 mlX11_170 smX3_hasGuess imX3_hasGuess suX6_X3_hasGuess ⟨by decide +kernel, by decide +kernel⟩ (Or.inl rfl) k2 rfl hlt (Nat.le_of_ble_eq_true rfl) h9
      · exact r_callU (As := []) (rest := []) (ci := 6) (x := yX3_hasGuess) (owner := "AskingPupil$Notes") moX3_hasGuess dX11_passes_22 mlX11_170 smX3_hasGuess imX3_hasGuess suX8_X3_hasGuess ⟨by decide +kernel, by decide +kernel⟩ (Or.inl rfl) k2 rfl hlt (Nat.le_of_ble_eq_true rfl) h9
    · skip
      refine r_ldc2 dX11_passes_9 kwX11_116 ?_
      exact r_ret (some (.long (-1 : Int64))) dX11_passes_12 rfl (pq2 c0 c1)
theorem gX11_passes_25 {d : Nat} {Q : Option Value → Mem → Prop} {M : Mem} {a0 : Nat} {x1 : Int32} {a2 : Nat} {sx0 : Int32} (k0 : mK M a0 = 13) (pf0 : ¬ sx0 = 0 → ClD d mdX11_gatherTrials [.ref a0, .int x1] M (fun r1 M1 => Wp d mdX11_passes 37 [(0, .ref a0), (2, .ref a2)] (r1.toList ++ []) M1 Q)) (pq1 : sx0 = 0 → Q (some (.long (-2 : Int64))) M) : Wp d mdX11_passes 25 [(0, .ref a0), (1, .int x1), (2, .ref a2)] [.int sx0] M Q := by
  refine r_if_ne (tgt := 32) dX11_passes_25 (by decide) (fun c0 => ?_) (fun c0 => ?_)
  · skip
    refine r_aload_n dX11_passes_32 rfl 0 rfl ?_
    refine r_iload_n dX11_passes_33 rfl 1 rfl ?_
    refine r_sub [0, 2] (ls' := [(0, .ref a0), (2, .ref a2)]) rfl ?_
    obtain ⟨e9, hlt, h9⟩ := (pf0 c0)
    exact r_callV (As := [.int x1]) (rest := []) (ci := 9) moX11_gatherTrials dX11_passes_34 mlX11_283 imX11_gatherTrials seX11_gatherTrials k0 rfl hlt (Nat.le_of_ble_eq_true rfl) h9
  · skip
    refine r_ldc2 dX11_passes_28 kwX11_274 ?_
    exact r_ret (some (.long (-2 : Int64))) dX11_passes_31 rfl (pq1 c0)
theorem gX11_passes_37 {d : Nat} {Q : Option Value → Mem → Prop} {M : Mem} {a0 : Nat} {a2 : Nat}  (pw0 : Wp d mdX11_passes 42 [(0, .ref a0), (2, .ref a2), (3, .long (lN 0)), (5, .int (nI 0))] [] M Q) : Wp d mdX11_passes 37 [(0, .ref a0), (2, .ref a2)] [] M Q := by
  refine r_lconst (v := (lN 0)) dX11_passes_37 rfl ?_
  refine r_lstore_n dX11_passes_38 rfl (by decide) (ls' := [(3, .long (lN 0)), (0, .ref a0), (2, .ref a2)]) rfl ?_
  refine r_iconst (v := (nI 0)) dX11_passes_39 rfl ?_
  refine r_istore dX11_passes_40 (by decide) (ls' := [(5, .int (nI 0)), (3, .long (lN 0)), (0, .ref a0), (2, .ref a2)]) rfl ?_
  refine r_sub [2, 3, 1, 0] (ls' := [(0, .ref a0), (2, .ref a2), (3, .long (lN 0)), (5, .int (nI 0))]) rfl ?_
  exact pw0
theorem gX11_passes_42 {d : Nat} {Q : Option Value → Mem → Prop} {M : Mem} {a0 : Nat} {a2 : Nat} {w3 : Int64} {x5 : Int32} (k0 : mK M a0 = 13) (k1 : mK M (mR M a0 6) = 12) (pf0 : ClD d mdX10_places [.ref (mR M a0 6)] M (fun r1 M1 => Wp d mdX11_passes 51 [(0, .ref a0), (2, .ref a2), (3, .long w3), (5, .int x5)] (r1.toList ++ [.int x5]) M1 Q)) : Wp d mdX11_passes 42 [(0, .ref a0), (2, .ref a2), (3, .long w3), (5, .int x5)] [] M Q := by
  refine r_iload dX11_passes_42 3 rfl ?_
  refine r_aload_n dX11_passes_44 rfl 0 rfl ?_
  refine r_getR ck9 dX11_passes_45 flX11_48 rfl k0 ?_
  obtain ⟨e9, hlt, h9⟩ := pf0
  exact r_callV (As := []) (rest := [.int x5]) (ci := 8) moX10_places dX11_passes_48 mlX11_286 imX10_places seX10_places k1 rfl hlt (Nat.le_of_ble_eq_true rfl) h9
theorem gX11_passes_51 {d : Nat} {Q : Option Value → Mem → Prop} {M : Mem} {a0 : Nat} {a2 : Nat} {w3 : Int64} {x5 : Int32} {sx0 : Int32} {sx1 : Int32} (k0 : mK M a0 = 13) (k1 : mK M (mR M a0 6) = 12) (pq0 : sx0 ≤ sx1 → Q (some (.long w3)) M) (pf1 : ¬ sx0 ≤ sx1 → ClD d mdX10_at [.ref (mR M a0 6), .int x5] M (fun r1 M1 => Wp d mdX11_passes 63 [(0, .ref a0), (2, .ref a2), (3, .long w3), (5, .int x5)] (r1.toList ++ []) M1 Q)) : Wp d mdX11_passes 51 [(0, .ref a0), (2, .ref a2), (3, .long w3), (5, .int x5)] [.int sx0, .int sx1] M Q := by
  refine r_icmp_ge (tgt := 118) dX11_passes_51 (by decide) (fun c0 => ?_) (fun c0 => ?_)
  · skip
    refine r_lload_n dX11_passes_118 rfl 2 rfl ?_
    exact r_ret (some (.long w3)) dX11_passes_119 rfl (pq0 c0)
  · skip
    refine r_aload_n dX11_passes_54 rfl 0 rfl ?_
    refine r_getR ck9 dX11_passes_55 flX11_48 rfl k0 ?_
    refine r_iload dX11_passes_58 3 rfl ?_
    obtain ⟨e9, hlt, h9⟩ := (pf1 c0)
    exact r_callV (As := [.int x5]) (rest := []) (ci := 8) moX10_at dX11_passes_60 mlX11_289 imX10_at seX10_at k1 rfl hlt (Nat.le_of_ble_eq_true rfl) h9
theorem gX11_passes_63 {d : Nat} {Q : Option Value → Mem → Prop} {M : Mem} {a0 : Nat} {a2 : Nat} {w3 : Int64} {x5 : Int32} {sw0 : Int64}  (pw0 : sw0 = (lN 0) → Wp d mdX11_passes 42 [(0, .ref a0), (2, .ref a2), (3, .long w3), (5, .int (x5 + (nI 1)))] [] M Q) (pw1 : ¬ sw0 = (lN 0) → w3 = (lN 0) → Wp d mdX11_passes 88 [(0, .ref a0), (2, .ref a2), (3, .long w3), (5, .int x5), (6, .long sw0)] [] M Q) (pw2 : ¬ sw0 = (lN 0) → ¬ w3 = (lN 0) → sw0 ≤ w3 → Wp d mdX11_passes 88 [(0, .ref a0), (2, .ref a2), (3, .long w3), (5, .int x5), (6, .long sw0)] [] M Q) (pw3 : ¬ sw0 = (lN 0) → ¬ w3 = (lN 0) → ¬ sw0 ≤ w3 → Wp d mdX11_passes 42 [(0, .ref a0), (2, .ref a2), (3, .long w3), (5, .int (x5 + (nI 1)))] [] M Q) : Wp d mdX11_passes 63 [(0, .ref a0), (2, .ref a2), (3, .long w3), (5, .int x5)] [.long sw0] M Q := by
  refine r_lstore dX11_passes_63 (by decide) (ls' := [(6, .long sw0), (0, .ref a0), (2, .ref a2), (3, .long w3), (5, .int x5)]) rfl ?_
  refine r_lload dX11_passes_65 0 rfl ?_
  refine r_lconst (v := (lN 0)) dX11_passes_67 rfl ?_
  refine r_lif_eq (tgt := 112) dX11_passes_68 dX11_passes_69 (by decide) (fun c0 => ?_) (fun c0 => ?_)
  · skip
    refine r_iinc dX11_passes_112 4 rfl (v := x5 + (nI 1)) rfl (by decide) (ls' := [(5, .int (x5 + (nI 1))), (6, .long sw0), (0, .ref a0), (2, .ref a2), (3, .long w3)]) rfl ?_
    refine r_goto (tgt := 42) dX11_passes_115 (by decide) ?_
    refine r_sub [2, 3, 4, 0] (ls' := [(0, .ref a0), (2, .ref a2), (3, .long w3), (5, .int (x5 + (nI 1)))]) rfl ?_
    exact (pw0 c0)
  · skip
    refine r_lload_n dX11_passes_72 rfl 3 rfl ?_
    refine r_lconst (v := (lN 0)) dX11_passes_73 rfl ?_
    refine r_lif_eq (tgt := 88) dX11_passes_74 dX11_passes_75 (by decide) (fun c1 => ?_) (fun c1 => ?_)
    · skip
      refine r_sub [1, 2, 3, 4, 0] (ls' := [(0, .ref a0), (2, .ref a2), (3, .long w3), (5, .int x5), (6, .long sw0)]) rfl ?_
      exact (pw1 c0 c1)
    · skip
      refine r_lload dX11_passes_78 0 rfl ?_
      refine r_lload_n dX11_passes_80 rfl 3 rfl ?_
      refine r_lif_le (tgt := 88) dX11_passes_81 dX11_passes_82 (by decide) (fun c2 => ?_) (fun c2 => ?_)
      · skip
        refine r_sub [1, 2, 3, 4, 0] (ls' := [(0, .ref a0), (2, .ref a2), (3, .long w3), (5, .int x5), (6, .long sw0)]) rfl ?_
        exact (pw2 c0 c1 c2)
      · skip
        refine r_goto (tgt := 112) dX11_passes_85 (by decide) ?_
        refine r_iinc dX11_passes_112 4 rfl (v := x5 + (nI 1)) rfl (by decide) (ls' := [(5, .int (x5 + (nI 1))), (6, .long sw0), (0, .ref a0), (2, .ref a2), (3, .long w3)]) rfl ?_
        refine r_goto (tgt := 42) dX11_passes_115 (by decide) ?_
        refine r_sub [2, 3, 4, 0] (ls' := [(0, .ref a0), (2, .ref a2), (3, .long w3), (5, .int (x5 + (nI 1)))]) rfl ?_
        exact (pw3 c0 c1 c2)
theorem gX11_passes_88 {d : Nat} {Q : Option Value → Mem → Prop} {M : Mem} {a0 : Nat} {a2 : Nat} {w3 : Int64} {x5 : Int32} {w6 : Int64} {cnk0 : Nat} (hnk0 : NT cnk0) (k0 : mK M a2 = cnk0 + 4) (k1 : mK M (mR M a2 4) = 5) (pf0 : ClD d mdX2_answer [.ref (mR M a2 4), .long w6] M (fun r1 M1 => Wp d mdX11_passes 97 [(0, .ref a0), (2, .ref a2), (3, .long w3), (5, .int x5), (6, .long w6)] (r1.toList ++ []) M1 Q)) : Wp d mdX11_passes 88 [(0, .ref a0), (2, .ref a2), (3, .long w3), (5, .int x5), (6, .long w6)] [] M Q := by
  refine r_aload_n dX11_passes_88 rfl 1 rfl ?_
  refine r_getR (ckN hnk0) dX11_passes_89 (flX11_198 hnk0) (by rcases hnk0 with rfl | rfl <;> rfl) k0 ?_
  refine r_lload dX11_passes_92 4 rfl ?_
  obtain ⟨e9, hlt, h9⟩ := pf0
  exact r_callV (As := [.long w6]) (rest := []) (ci := 1) moX2_answer dX11_passes_94 mlX11_204 imX2_answer seX2_answer k1 rfl hlt (Nat.le_of_ble_eq_true rfl) h9
theorem gX11_passes_97 {d : Nat} {Q : Option Value → Mem → Prop} {M : Mem} {a0 : Nat} {a2 : Nat} {w3 : Int64} {x5 : Int32} {w6 : Int64} {sx0 : Int32} (k0 : mK M a0 = 13) (k1 : mK M (mR M a0 0) = 5) (pf0 : ClD d mdX2_answer [.ref (mR M a0 0), .long w6] M (fun r1 M1 => Wp d mdX11_passes 106 [(0, .ref a0), (2, .ref a2), (3, .long w3), (5, .int x5), (6, .long w6)] (r1.toList ++ [.int sx0]) M1 Q)) : Wp d mdX11_passes 97 [(0, .ref a0), (2, .ref a2), (3, .long w3), (5, .int x5), (6, .long w6)] [.int sx0] M Q := by
  refine r_aload_n dX11_passes_97 rfl 0 rfl ?_
  refine r_getR ck9 dX11_passes_98 flX11_10 rfl k0 ?_
  refine r_lload dX11_passes_101 4 rfl ?_
  obtain ⟨e9, hlt, h9⟩ := pf0
  exact r_callV (As := [.long w6]) (rest := [.int sx0]) (ci := 1) moX2_answer dX11_passes_103 mlX11_204 imX2_answer seX2_answer k1 rfl hlt (Nat.le_of_ble_eq_true rfl) h9
theorem gX11_passes_106 {d : Nat} {Q : Option Value → Mem → Prop} {M : Mem} {a0 : Nat} {a2 : Nat} {w3 : Int64} {x5 : Int32} {w6 : Int64} {sx0 : Int32} {sx1 : Int32}  (pw0 : sx1 = sx0 → Wp d mdX11_passes 42 [(0, .ref a0), (2, .ref a2), (3, .long w3), (5, .int (x5 + (nI 1)))] [] M Q) (pw1 : ¬ sx1 = sx0 → Wp d mdX11_passes 42 [(0, .ref a0), (2, .ref a2), (3, .long w6), (5, .int (x5 + (nI 1)))] [] M Q) : Wp d mdX11_passes 106 [(0, .ref a0), (2, .ref a2), (3, .long w3), (5, .int x5), (6, .long w6)] [.int sx0, .int sx1] M Q := by
  refine r_icmp_eq (tgt := 112) dX11_passes_106 (by decide) (fun c0 => ?_) (fun c0 => ?_)
  · skip
    refine r_iinc dX11_passes_112 3 rfl (v := x5 + (nI 1)) rfl (by decide) (ls' := [(5, .int (x5 + (nI 1))), (0, .ref a0), (2, .ref a2), (3, .long w3), (6, .long w6)]) rfl ?_
    refine r_goto (tgt := 42) dX11_passes_115 (by decide) ?_
    refine r_sub [1, 2, 3, 0] (ls' := [(0, .ref a0), (2, .ref a2), (3, .long w3), (5, .int (x5 + (nI 1)))]) rfl ?_
    exact (pw0 c0)
  · skip
    refine r_lload dX11_passes_109 4 rfl ?_
    refine r_lstore_n dX11_passes_111 rfl (by decide) (ls' := [(3, .long w6), (0, .ref a0), (2, .ref a2), (5, .int x5), (6, .long w6)]) rfl ?_
    refine r_iinc dX11_passes_112 3 rfl (v := x5 + (nI 1)) rfl (by decide) (ls' := [(5, .int (x5 + (nI 1))), (3, .long w6), (0, .ref a0), (2, .ref a2), (6, .long w6)]) rfl ?_
    refine r_goto (tgt := 42) dX11_passes_115 (by decide) ?_
    refine r_sub [2, 3, 1, 0] (ls' := [(0, .ref a0), (2, .ref a2), (3, .long w6), (5, .int (x5 + (nI 1)))]) rfl ?_
    exact (pw1 c0)
-- X11_parted
theorem gX11_parted_0 {d : Nat} {Q : Option Value → Mem → Prop} {M : Mem} {a0 : Nat} {x1 : Int32} {x2 : Int32} (k0 : mK M a0 = 13) (pf0 : ClD d mdX11_refuseGuessed [.ref a0, .int x1] M (fun r1 M1 => Wp d mdX11_parted 5 [(0, .ref a0), (1, .int x1), (2, .int x2)] (r1.toList ++ []) M1 Q)) : Wp d mdX11_parted 0 [(0, .ref a0), (1, .int x1), (2, .int x2)] [] M Q := by
  refine r_aload_n dX11_parted_0 rfl 0 rfl ?_
  refine r_iload_n dX11_parted_1 rfl 1 rfl ?_
  obtain ⟨e9, hlt, h9⟩ := pf0
  exact r_callV (As := [.int x1]) (rest := []) (ci := 9) moX11_refuseGuessed dX11_parted_2 mlX11_261 imX11_refuseGuessed seX11_refuseGuessed k0 rfl hlt (Nat.le_of_ble_eq_true rfl) h9
theorem gX11_parted_5 {d : Nat} {Q : Option Value → Mem → Prop} {M : Mem} {a0 : Nat} {x1 : Int32} {x2 : Int32} {sx0 : Int32} (k0 : mK M a0 = 13) (pf0 : ClD d mdX11_refuseGuessed [.ref a0, .int x2] M (fun r1 M1 => Wp d mdX11_parted 11 [(0, .ref a0), (1, .int x1), (2, .int x2), (3, .int sx0)] (r1.toList ++ []) M1 Q)) : Wp d mdX11_parted 5 [(0, .ref a0), (1, .int x1), (2, .int x2)] [.int sx0] M Q := by
  refine r_istore_n dX11_parted_5 rfl (by decide) (ls' := [(3, .int sx0), (0, .ref a0), (1, .int x1), (2, .int x2)]) rfl ?_
  refine r_aload_n dX11_parted_6 rfl 1 rfl ?_
  refine r_iload_n dX11_parted_7 rfl 3 rfl ?_
  refine r_sub [1, 2, 3, 0] (ls' := [(0, .ref a0), (1, .int x1), (2, .int x2), (3, .int sx0)]) rfl ?_
  obtain ⟨e9, hlt, h9⟩ := pf0
  exact r_callV (As := [.int x2]) (rest := []) (ci := 9) moX11_refuseGuessed dX11_parted_8 mlX11_261 imX11_refuseGuessed seX11_refuseGuessed k0 rfl hlt (Nat.le_of_ble_eq_true rfl) h9
theorem gX11_parted_11 {d : Nat} {Q : Option Value → Mem → Prop} {M : Mem} {a0 : Nat} {x1 : Int32} {x2 : Int32} {x3 : Int32} {sx0 : Int32} (k0 : mK M a0 = 13) (k1 : mK M (mR M a0 4) = 6) {cnk2 : Nat} (hnk2 : NT cnk2) (k2 : mK M (mR M (mR M a0 4) 3) = cnk2 + 4) (k3 : mK M (mR M a0 3) = 7) (pq0 : x3 = (-1 : Int32) → Q (some (.long (-1 : Int64))) M) (pf1 : ¬ x3 = (-1 : Int32) → ¬ sx0 = (-1 : Int32) → 0 ≤ x3 → ClD d mdX5_firstUnlike [.ref (mR M a0 3), .ref (mR M (mR M (mR M a0 4) 3) 4), .int x1, .ref (mR M (mR M (mR M a0 4) 3) 4), .int x2] M (fun r1 M1 => Wp d mdX11_parted 64 [] (r1.toList ++ []) M1 Q)) (pq2 : ¬ x3 = (-1 : Int32) → ¬ sx0 = (-1 : Int32) → ¬ 0 ≤ x3 → Q (some (.long x3.toInt64)) M) (pq3 : ¬ x3 = (-1 : Int32) → sx0 = (-1 : Int32) → Q (some (.long (-1 : Int64))) M) : Wp d mdX11_parted 11 [(0, .ref a0), (1, .int x1), (2, .int x2), (3, .int x3)] [.int sx0] M Q := by
  refine r_istore dX11_parted_11 (by decide) (ls' := [(4, .int sx0), (0, .ref a0), (1, .int x1), (2, .int x2), (3, .int x3)]) rfl ?_
  refine r_iload_n dX11_parted_13 rfl 4 rfl ?_
  refine r_iconst (v := (-1)) dX11_parted_14 rfl ?_
  refine r_icmp_eq (tgt := 24) dX11_parted_15 (by decide) (fun c0 => ?_) (fun c0 => ?_)
  · skip
    refine r_ldc2 dX11_parted_24 kwX11_116 ?_
    exact r_ret (some (.long (-1 : Int64))) dX11_parted_27 rfl (pq0 c0)
  · skip
    refine r_iload dX11_parted_18 0 rfl ?_
    refine r_iconst (v := (-1)) dX11_parted_20 rfl ?_
    refine r_icmp_ne (tgt := 28) dX11_parted_21 (by decide) (fun c1 => ?_) (fun c1 => ?_)
    · skip
      refine r_iload_n dX11_parted_28 rfl 4 rfl ?_
      refine r_if_ge (tgt := 35) dX11_parted_29 (by decide) (fun c2 => ?_) (fun c2 => ?_)
      · skip
        refine r_aload_n dX11_parted_35 rfl 1 rfl ?_
        refine r_getR ck9 dX11_parted_36 flX11_29 rfl k0 ?_
        refine r_aload_n dX11_parted_39 rfl 1 rfl ?_
        refine r_getR ck9 dX11_parted_40 flX11_38 rfl k0 ?_
        refine r_getR ck2 dX11_parted_43 flX11_166 rfl k1 ?_
        refine r_getR (ckN hnk2) dX11_parted_46 (flX11_198 hnk2) (by rcases hnk2 with rfl | rfl <;> rfl) k2 ?_
        refine r_iload_n dX11_parted_49 rfl 2 rfl ?_
        refine r_aload_n dX11_parted_50 rfl 1 rfl ?_
        refine r_getR ck9 dX11_parted_51 flX11_38 rfl k0 ?_
        refine r_getR ck2 dX11_parted_54 flX11_166 rfl k1 ?_
        refine r_getR (ckN hnk2) dX11_parted_57 (flX11_198 hnk2) (by rcases hnk2 with rfl | rfl <;> rfl) k2 ?_
        refine r_iload_n dX11_parted_60 rfl 3 rfl ?_
        refine r_sub [] (ls' := []) rfl ?_
        obtain ⟨e9, hlt, h9⟩ := (pf1 c0 c1 c2)
        exact r_callV (As := [.ref (mR M (mR M (mR M a0 4) 3) 4), .int x1, .ref (mR M (mR M (mR M a0 4) 3) 4), .int x2]) (rest := []) (ci := 3) moX5_firstUnlike dX11_parted_61 mlX11_270 imX5_firstUnlike seX5_firstUnlike k3 rfl hlt (Nat.le_of_ble_eq_true rfl) h9
      · skip
        refine r_iload_n dX11_parted_32 rfl 4 rfl ?_
        refine r_i2l dX11_parted_33 ?_
        exact r_ret (some (.long x3.toInt64)) dX11_parted_34 rfl (pq2 c0 c1 c2)
    · skip
      refine r_ldc2 dX11_parted_24 kwX11_116 ?_
      exact r_ret (some (.long (-1 : Int64))) dX11_parted_27 rfl (pq3 c0 c1)
theorem gX11_parted_64 {d : Nat} {Q : Option Value → Mem → Prop} {M : Mem} {sw0 : Int64}  (pq0 : Q (some (.long sw0)) M) : Wp d mdX11_parted 64 [] [.long sw0] M Q := by
  exact r_ret (some (.long sw0)) dX11_parted_64 rfl pq0
-- X11_like
theorem gX11_like_0 {d : Nat} {Q : Option Value → Mem → Prop} {M : Mem} {a0 : Nat} {x1 : Int32} {x2 : Int32} (k0 : mK M a0 = 13) (k1 : mK M (mR M a0 0) = 5) (k2 : mK M (mR M a0 3) = 7) (pq0 : x1 < 0 → Q (some (.long (-1 : Int64))) M) (pq1 : ¬ x1 < 0 → (mI M (mR M a0 0) 0) ≤ x1 → Q (some (.long (-1 : Int64))) M) (pq2 : ¬ x1 < 0 → ¬ (mI M (mR M a0 0) 0) ≤ x1 → x2 < 0 → Q (some (.long (-1 : Int64))) M) (pf3 : ¬ x1 < 0 → ¬ (mI M (mR M a0 0) 0) ≤ x1 → ¬ x2 < 0 → x2 < (mI M (mR M a0 0) 0) → ClD d mdX5_firstUnlike [.ref (mR M a0 3), .ref (mR M a0 0), .int x1, .ref (mR M a0 0), .int x2] M (fun r1 M1 => Wp d mdX11_like 51 [] (r1.toList ++ []) M1 Q)) (pq4 : ¬ x1 < 0 → ¬ (mI M (mR M a0 0) 0) ≤ x1 → ¬ x2 < 0 → ¬ x2 < (mI M (mR M a0 0) 0) → Q (some (.long (-1 : Int64))) M) : Wp d mdX11_like 0 [(0, .ref a0), (1, .int x1), (2, .int x2)] [] M Q := by
  refine r_iload_n dX11_like_0 rfl 1 rfl ?_
  refine r_if_lt (tgt := 30) dX11_like_1 (by decide) (fun c0 => ?_) (fun c0 => ?_)
  · skip
    refine r_ldc2 dX11_like_30 kwX11_116 ?_
    exact r_ret (some (.long (-1 : Int64))) dX11_like_33 rfl (pq0 c0)
  · skip
    refine r_iload_n dX11_like_4 rfl 1 rfl ?_
    refine r_aload_n dX11_like_5 rfl 0 rfl ?_
    refine r_getR ck9 dX11_like_6 flX11_10 rfl k0 ?_
    refine r_getI ck1 dX11_like_9 flX11_201 rfl k1 ?_
    refine r_icmp_ge (tgt := 30) dX11_like_12 (by decide) (fun c1 => ?_) (fun c1 => ?_)
    · skip
      refine r_ldc2 dX11_like_30 kwX11_116 ?_
      exact r_ret (some (.long (-1 : Int64))) dX11_like_33 rfl (pq1 c0 c1)
    · skip
      refine r_iload_n dX11_like_15 rfl 2 rfl ?_
      refine r_if_lt (tgt := 30) dX11_like_16 (by decide) (fun c2 => ?_) (fun c2 => ?_)
      · skip
        refine r_ldc2 dX11_like_30 kwX11_116 ?_
        exact r_ret (some (.long (-1 : Int64))) dX11_like_33 rfl (pq2 c0 c1 c2)
      · skip
        refine r_iload_n dX11_like_19 rfl 2 rfl ?_
        refine r_aload_n dX11_like_20 rfl 0 rfl ?_
        refine r_getR ck9 dX11_like_21 flX11_10 rfl k0 ?_
        refine r_getI ck1 dX11_like_24 flX11_201 rfl k1 ?_
        refine r_icmp_lt (tgt := 34) dX11_like_27 (by decide) (fun c3 => ?_) (fun c3 => ?_)
        · skip
          refine r_aload_n dX11_like_34 rfl 0 rfl ?_
          refine r_getR ck9 dX11_like_35 flX11_29 rfl k0 ?_
          refine r_aload_n dX11_like_38 rfl 0 rfl ?_
          refine r_getR ck9 dX11_like_39 flX11_10 rfl k0 ?_
          refine r_iload_n dX11_like_42 rfl 1 rfl ?_
          refine r_aload_n dX11_like_43 rfl 0 rfl ?_
          refine r_getR ck9 dX11_like_44 flX11_10 rfl k0 ?_
          refine r_iload_n dX11_like_47 rfl 2 rfl ?_
          refine r_sub [] (ls' := []) rfl ?_
          obtain ⟨e9, hlt, h9⟩ := (pf3 c0 c1 c2 c3)
          exact r_callV (As := [.ref (mR M a0 0), .int x1, .ref (mR M a0 0), .int x2]) (rest := []) (ci := 3) moX5_firstUnlike dX11_like_48 mlX11_270 imX5_firstUnlike seX5_firstUnlike k2 rfl hlt (Nat.le_of_ble_eq_true rfl) h9
        · skip
          refine r_ldc2 dX11_like_30 kwX11_116 ?_
          exact r_ret (some (.long (-1 : Int64))) dX11_like_33 rfl (pq4 c0 c1 c2 c3)
theorem gX11_like_51 {d : Nat} {Q : Option Value → Mem → Prop} {M : Mem} {sw0 : Int64}  (pq0 : Q (some (.long sw0)) M) : Wp d mdX11_like 51 [] [.long sw0] M Q := by
  exact r_ret (some (.long sw0)) dX11_like_51 rfl pq0
-- X11_least
theorem gX11_least_0 {d : Nat} {Q : Option Value → Mem → Prop} {M : Mem} {a0 : Nat} (k0 : mK M a0 = 13) (pf0 : ClD d mdX11_unlikeReached [.ref a0] M (fun r1 M1 => Wp d mdX11_least 4 [(0, .ref a0)] (r1.toList ++ []) M1 Q)) : Wp d mdX11_least 0 [(0, .ref a0)] [] M Q := by
  refine r_aload_n dX11_least_0 rfl 0 rfl ?_
  obtain ⟨e9, hlt, h9⟩ := pf0
  exact r_callV (As := []) (rest := []) (ci := 9) moX11_unlikeReached dX11_least_1 mlX11_100 imX11_unlikeReached seX11_unlikeReached k0 rfl hlt (Nat.le_of_ble_eq_true rfl) h9
theorem gX11_least_4 {d : Nat} {Q : Option Value → Mem → Prop} {M : Mem} {a0 : Nat} {sx0 : Int32} (k0 : mK M a0 = 13) (pf0 : ClD d mdX11_putGroups [.ref a0] M (fun r1 M1 => Wp d mdX11_least 9 [(1, .int sx0)] (r1.toList ++ []) M1 Q)) : Wp d mdX11_least 4 [(0, .ref a0)] [.int sx0] M Q := by
  refine r_istore_n dX11_least_4 rfl (by decide) (ls' := [(1, .int sx0), (0, .ref a0)]) rfl ?_
  refine r_aload_n dX11_least_5 rfl 1 rfl ?_
  refine r_sub [0] (ls' := [(1, .int sx0)]) rfl ?_
  obtain ⟨e9, hlt, h9⟩ := pf0
  exact r_callV (As := []) (rest := []) (ci := 9) moX11_putGroups dX11_least_6 mlX11_299 imX11_putGroups seX11_putGroups k0 rfl hlt (Nat.le_of_ble_eq_true rfl) h9
theorem gX11_least_9 {d : Nat} {Q : Option Value → Mem → Prop} {M : Mem} {x1 : Int32}  (pq0 : Q (some (.int x1)) M) : Wp d mdX11_least 9 [(1, .int x1)] [] M Q := by
  refine r_iload_n dX11_least_9 rfl 0 rfl ?_
  exact r_ret (some (.int x1)) dX11_least_10 rfl pq0
-- X11_reach
theorem gX11_reach_0 {d : Nat} {Q : Option Value → Mem → Prop} {M : Mem} {a0 : Nat} {x1 : Int32} (k0 : mK M a0 = 13) (k1 : mK M (mR M a0 0) = 5) (k2 : mK M (mR M a0 3) = 7) (pq0 : x1 < 0 → Q (some (.long (-1 : Int64))) M) (pf1 : ¬ x1 < 0 → x1 < (mI M (mR M a0 0) 0) → ClD d mdX5_walk [.ref (mR M a0 3), .ref (mR M a0 0)] M (fun r1 M1 => Wp d mdX11_reach 30 [(0, .ref a0), (1, .int x1)] (r1.toList ++ []) M1 Q)) (pq2 : ¬ x1 < 0 → ¬ x1 < (mI M (mR M a0 0) 0) → Q (some (.long (-1 : Int64))) M) : Wp d mdX11_reach 0 [(0, .ref a0), (1, .int x1)] [] M Q := by
  refine r_iload_n dX11_reach_0 rfl 1 rfl ?_
  refine r_if_lt (tgt := 15) dX11_reach_1 (by decide) (fun c0 => ?_) (fun c0 => ?_)
  · skip
    refine r_ldc2 dX11_reach_15 kwX11_116 ?_
    exact r_ret (some (.long (-1 : Int64))) dX11_reach_18 rfl (pq0 c0)
  · skip
    refine r_iload_n dX11_reach_4 rfl 1 rfl ?_
    refine r_aload_n dX11_reach_5 rfl 0 rfl ?_
    refine r_getR ck9 dX11_reach_6 flX11_10 rfl k0 ?_
    refine r_getI ck1 dX11_reach_9 flX11_201 rfl k1 ?_
    refine r_icmp_lt (tgt := 19) dX11_reach_12 (by decide) (fun c1 => ?_) (fun c1 => ?_)
    · skip
      refine r_aload_n dX11_reach_19 rfl 0 rfl ?_
      refine r_getR ck9 dX11_reach_20 flX11_29 rfl k0 ?_
      refine r_aload_n dX11_reach_23 rfl 0 rfl ?_
      refine r_getR ck9 dX11_reach_24 flX11_10 rfl k0 ?_
      obtain ⟨e9, hlt, h9⟩ := (pf1 c0 c1)
      exact r_callV (As := [.ref (mR M a0 0)]) (rest := []) (ci := 3) moX5_walk dX11_reach_27 mlX11_302 imX5_walk seX5_walk k2 rfl hlt (Nat.le_of_ble_eq_true rfl) h9
    · skip
      refine r_ldc2 dX11_reach_15 kwX11_116 ?_
      exact r_ret (some (.long (-1 : Int64))) dX11_reach_18 rfl (pq2 c0 c1)
theorem gX11_reach_30 {d : Nat} {Q : Option Value → Mem → Prop} {M : Mem} {a0 : Nat} {x1 : Int32} (k0 : mK M a0 = 13) (k1 : mK M (mR M a0 3) = 7) (pf0 : ClD d mdX5_firstTo [.ref (mR M a0 3), .int x1, .int x1] M (fun r1 M1 => Wp d mdX11_reach 39 [] (r1.toList ++ []) M1 Q)) : Wp d mdX11_reach 30 [(0, .ref a0), (1, .int x1)] [] M Q := by
  refine r_aload_n dX11_reach_30 rfl 0 rfl ?_
  refine r_getR ck9 dX11_reach_31 flX11_29 rfl k0 ?_
  refine r_iload_n dX11_reach_34 rfl 1 rfl ?_
  refine r_iload_n dX11_reach_35 rfl 1 rfl ?_
  refine r_sub [] (ls' := []) rfl ?_
  obtain ⟨e9, hlt, h9⟩ := pf0
  exact r_callV (As := [.int x1, .int x1]) (rest := []) (ci := 3) moX5_firstTo dX11_reach_36 mlX11_305 imX5_firstTo seX5_firstTo k1 rfl hlt (Nat.le_of_ble_eq_true rfl) h9
theorem gX11_reach_39 {d : Nat} {Q : Option Value → Mem → Prop} {M : Mem} {sw0 : Int64}  (pq0 : Q (some (.long sw0)) M) : Wp d mdX11_reach 39 [] [.long sw0] M Q := by
  exact r_ret (some (.long sw0)) dX11_reach_39 rfl pq0
-- X11_groups
theorem gX11_groups_0 {d : Nat} {Q : Option Value → Mem → Prop} {M : Mem} {a0 : Nat} {x1 : Int32} (k0 : mK M a0 = 13) (k1 : mK M (mR M a0 0) = 5) (pq0 : x1 < 0 → Q (some (.int (-1 : Int32))) M) (pf1 : ¬ x1 < 0 → x1 ≤ (nI 7) → ClD d mdX2_part [.ref (mR M a0 0), .int x1, .ref (mR M a0 8)] M (fun r1 M1 => Wp d mdX11_groups 24 [(0, .ref a0)] (r1.toList ++ []) M1 Q)) (pq2 : ¬ x1 < 0 → ¬ x1 ≤ (nI 7) → Q (some (.int (-1 : Int32))) M) : Wp d mdX11_groups 0 [(0, .ref a0), (1, .int x1)] [] M Q := by
  refine r_iload_n dX11_groups_0 rfl 1 rfl ?_
  refine r_if_lt (tgt := 10) dX11_groups_1 (by decide) (fun c0 => ?_) (fun c0 => ?_)
  · skip
    refine r_iconst (v := (-1)) dX11_groups_10 rfl ?_
    exact r_ret (some (.int (-1 : Int32))) dX11_groups_11 rfl (pq0 c0)
  · skip
    refine r_iload_n dX11_groups_4 rfl 1 rfl ?_
    refine r_bipush (v := (nI 7)) dX11_groups_5 rfl ?_
    refine r_icmp_le (tgt := 12) dX11_groups_7 (by decide) (fun c1 => ?_) (fun c1 => ?_)
    · skip
      refine r_aload_n dX11_groups_12 rfl 0 rfl ?_
      refine r_getR ck9 dX11_groups_13 flX11_10 rfl k0 ?_
      refine r_iload_n dX11_groups_16 rfl 1 rfl ?_
      refine r_aload_n dX11_groups_17 rfl 0 rfl ?_
      refine r_getR ck9 dX11_groups_18 flX11_61 rfl k0 ?_
      refine r_sub [0] (ls' := [(0, .ref a0)]) rfl ?_
      obtain ⟨e9, hlt, h9⟩ := (pf1 c0 c1)
      exact r_callV (As := [.int x1, .ref (mR M a0 8)]) (rest := []) (ci := 1) moX2_part dX11_groups_21 mlX11_308 imX2_part seX2_part k1 rfl hlt (Nat.le_of_ble_eq_true rfl) h9
    · skip
      refine r_iconst (v := (-1)) dX11_groups_10 rfl ?_
      exact r_ret (some (.int (-1 : Int32))) dX11_groups_11 rfl (pq2 c0 c1)
theorem gX11_groups_24 {d : Nat} {Q : Option Value → Mem → Prop} {M : Mem} {a0 : Nat} {sx0 : Int32} (k0 : mK M a0 = 13) (pf0 : ClD d mdX11_putGroups [.ref a0] M (fun r1 M1 => Wp d mdX11_groups 29 [(2, .int sx0)] (r1.toList ++ []) M1 Q)) : Wp d mdX11_groups 24 [(0, .ref a0)] [.int sx0] M Q := by
  refine r_istore_n dX11_groups_24 rfl (by decide) (ls' := [(2, .int sx0), (0, .ref a0)]) rfl ?_
  refine r_aload_n dX11_groups_25 rfl 1 rfl ?_
  refine r_sub [0] (ls' := [(2, .int sx0)]) rfl ?_
  obtain ⟨e9, hlt, h9⟩ := pf0
  exact r_callV (As := []) (rest := []) (ci := 9) moX11_putGroups dX11_groups_26 mlX11_299 imX11_putGroups seX11_putGroups k0 rfl hlt (Nat.le_of_ble_eq_true rfl) h9
theorem gX11_groups_29 {d : Nat} {Q : Option Value → Mem → Prop} {M : Mem} {x2 : Int32}  (pq0 : Q (some (.int x2)) M) : Wp d mdX11_groups 29 [(2, .int x2)] [] M Q := by
  refine r_iload_n dX11_groups_29 rfl 0 rfl ?_
  exact r_ret (some (.int x2)) dX11_groups_30 rfl pq0
-- X11_costs
theorem gX11_costs_0 {d : Nat} {Q : Option Value → Mem → Prop} {M : Mem} {a0 : Nat} {x1 : Int32} (k0 : mK M a0 = 13) (k1 : mK M (mR M a0 5) = 6) (pq0 : x1 < 0 → Q (some (.int (-1 : Int32))) M) (pf1 : ¬ x1 < 0 → x1 < (nI 4) → ClD d mdX4_renew [.ref (mR M a0 5), .int x1] M (fun r1 M1 => Wp d mdX11_costs 19 [(0, .ref a0)] (r1.toList ++ []) M1 Q)) (pq2 : ¬ x1 < 0 → ¬ x1 < (nI 4) → Q (some (.int (-1 : Int32))) M) : Wp d mdX11_costs 0 [(0, .ref a0), (1, .int x1)] [] M Q := by
  refine r_iload_n dX11_costs_0 rfl 1 rfl ?_
  refine r_if_lt (tgt := 9) dX11_costs_1 (by decide) (fun c0 => ?_) (fun c0 => ?_)
  · skip
    refine r_iconst (v := (-1)) dX11_costs_9 rfl ?_
    exact r_ret (some (.int (-1 : Int32))) dX11_costs_10 rfl (pq0 c0)
  · skip
    refine r_iload_n dX11_costs_4 rfl 1 rfl ?_
    refine r_iconst (v := (nI 4)) dX11_costs_5 rfl ?_
    refine r_icmp_lt (tgt := 11) dX11_costs_6 (by decide) (fun c1 => ?_) (fun c1 => ?_)
    · skip
      refine r_aload_n dX11_costs_11 rfl 0 rfl ?_
      refine r_getR ck9 dX11_costs_12 flX11_42 rfl k0 ?_
      refine r_iload_n dX11_costs_15 rfl 1 rfl ?_
      refine r_sub [0] (ls' := [(0, .ref a0)]) rfl ?_
      obtain ⟨e9, hlt, h9⟩ := (pf1 c0 c1)
      exact r_callV (As := [.int x1]) (rest := []) (ci := 2) moX4_renew dX11_costs_16 mlX11_69 imX4_renew seX4_renew k1 rfl hlt (Nat.le_of_ble_eq_true rfl) h9
    · skip
      refine r_iconst (v := (-1)) dX11_costs_9 rfl ?_
      exact r_ret (some (.int (-1 : Int32))) dX11_costs_10 rfl (pq2 c0 c1)
theorem gX11_costs_19 {d : Nat} {Q : Option Value → Mem → Prop} {M : Mem} {a0 : Nat} (k0 : mK M a0 = 13) (k1 : mK M (mR M a0 5) = 6) (pf0 : ClD d mdX4_learn [.ref (mR M a0 5)] M (fun r1 M1 => Wp d mdX11_costs 26 [(0, .ref a0)] (r1.toList ++ []) M1 Q)) : Wp d mdX11_costs 19 [(0, .ref a0)] [] M Q := by
  refine r_aload_n dX11_costs_19 rfl 0 rfl ?_
  refine r_getR ck9 dX11_costs_20 flX11_42 rfl k0 ?_
  obtain ⟨e9, hlt, h9⟩ := pf0
  exact r_callV (As := []) (rest := []) (ci := 2) moX4_learn dX11_costs_23 mlX11_210 imX4_learn seX4_learn k1 rfl hlt (Nat.le_of_ble_eq_true rfl) h9
theorem gX11_costs_26 {d : Nat} {Q : Option Value → Mem → Prop} {M : Mem} {a0 : Nat} (k0 : mK M a0 = 13) (pf0 : ClD d mdX11_clearNumbers [.ref a0] M (fun r1 M1 => Wp d mdX11_costs 30 [(0, .ref a0)] (r1.toList ++ []) M1 Q)) : Wp d mdX11_costs 26 [(0, .ref a0)] [] M Q := by
  refine r_aload_n dX11_costs_26 rfl 0 rfl ?_
  obtain ⟨e9, hlt, h9⟩ := pf0
  exact r_callV (As := []) (rest := []) (ci := 9) moX11_clearNumbers dX11_costs_27 mlX11_181 imX11_clearNumbers seX11_clearNumbers k0 rfl hlt (Nat.le_of_ble_eq_true rfl) h9
theorem gX11_costs_30 {d : Nat} {Q : Option Value → Mem → Prop} {M : Mem} {a0 : Nat} (k0 : mK M a0 = 13) (k1 : mK M (mR M a0 5) = 6) (k2 : mK M (mR M (mR M a0 5) 0) = 4) (k3 : mK M (mR M (mR M (mR M a0 5) 0) 1) = 12) (pf0 : ClD d mdX11_put [.ref a0, .long ((mI M (mR M (mR M (mR M a0 5) 0) 1) 0).toInt64)] M (fun r1 M1 => Wp d mdX11_costs 48 [(0, .ref a0)] (r1.toList ++ []) M1 Q)) : Wp d mdX11_costs 30 [(0, .ref a0)] [] M Q := by
  refine r_aload_n dX11_costs_30 rfl 0 rfl ?_
  refine r_aload_n dX11_costs_31 rfl 0 rfl ?_
  refine r_getR ck9 dX11_costs_32 flX11_42 rfl k0 ?_
  refine r_getR ck2 dX11_costs_35 flX11_146 rfl k1 ?_
  refine r_getR ck0 dX11_costs_38 flX11_160 rfl k2 ?_
  refine r_getI ck8 dX11_costs_41 flX11_175 rfl k3 ?_
  refine r_i2l dX11_costs_44 ?_
  obtain ⟨e9, hlt, h9⟩ := pf0
  exact r_callV (As := [.long ((mI M (mR M (mR M (mR M a0 5) 0) 1) 0).toInt64)]) (rest := []) (ci := 9) moX11_put dX11_costs_45 mlX11_184 imX11_put seX11_put k0 rfl hlt (Nat.le_of_ble_eq_true rfl) h9
theorem gX11_costs_48 {d : Nat} {Q : Option Value → Mem → Prop} {M : Mem} {a0 : Nat} (k0 : mK M a0 = 13) (k1 : mK M (mR M a0 5) = 6) {cnk2 : Nat} (hnk2 : NT cnk2) (k2 : mK M (mR M (mR M a0 5) 3) = cnk2 + 4) (pf0 : ClD d mdX11_put [.ref a0, .long ((mI M (mR M (mR M a0 5) 3) 6).toInt64)] M (fun r1 M1 => Wp d mdX11_costs 63 [(0, .ref a0)] (r1.toList ++ []) M1 Q)) : Wp d mdX11_costs 48 [(0, .ref a0)] [] M Q := by
  refine r_aload_n dX11_costs_48 rfl 0 rfl ?_
  refine r_aload_n dX11_costs_49 rfl 0 rfl ?_
  refine r_getR ck9 dX11_costs_50 flX11_42 rfl k0 ?_
  refine r_getR ck2 dX11_costs_53 flX11_166 rfl k1 ?_
  refine r_getI (ckN hnk2) dX11_costs_56 (flX11_216 hnk2) (by rcases hnk2 with rfl | rfl <;> rfl) k2 ?_
  refine r_i2l dX11_costs_59 ?_
  obtain ⟨e9, hlt, h9⟩ := pf0
  exact r_callV (As := [.long ((mI M (mR M (mR M a0 5) 3) 6).toInt64)]) (rest := []) (ci := 9) moX11_put dX11_costs_60 mlX11_184 imX11_put seX11_put k0 rfl hlt (Nat.le_of_ble_eq_true rfl) h9
theorem gX11_costs_63 {d : Nat} {Q : Option Value → Mem → Prop} {M : Mem} {a0 : Nat} (k0 : mK M a0 = 13) (k1 : mK M (mR M a0 5) = 6) (pf0 : ClD d mdX11_put [.ref a0, .long ((mI M (mR M a0 5) 5).toInt64)] M (fun r1 M1 => Wp d mdX11_costs 75 [(0, .ref a0)] (r1.toList ++ []) M1 Q)) : Wp d mdX11_costs 63 [(0, .ref a0)] [] M Q := by
  refine r_aload_n dX11_costs_63 rfl 0 rfl ?_
  refine r_aload_n dX11_costs_64 rfl 0 rfl ?_
  refine r_getR ck9 dX11_costs_65 flX11_42 rfl k0 ?_
  refine r_getI ck2 dX11_costs_68 flX11_213 rfl k1 ?_
  refine r_i2l dX11_costs_71 ?_
  obtain ⟨e9, hlt, h9⟩ := pf0
  exact r_callV (As := [.long ((mI M (mR M a0 5) 5).toInt64)]) (rest := []) (ci := 9) moX11_put dX11_costs_72 mlX11_184 imX11_put seX11_put k0 rfl hlt (Nat.le_of_ble_eq_true rfl) h9
theorem gX11_costs_75 {d : Nat} {Q : Option Value → Mem → Prop} {M : Mem} {a0 : Nat} (k0 : mK M a0 = 13) (k1 : mK M (mR M a0 5) = 6) {cnk2 : Nat} (hnk2 : NT cnk2) (k2 : mK M (mR M (mR M a0 5) 3) = cnk2 + 4) (k3 : mK M (mR M (mR M (mR M a0 5) 3) 1) = 11) (pf0 : ClD d mdX11_put [.ref a0, .long ((mI M (mR M (mR M (mR M a0 5) 3) 1) 0).toInt64)] M (fun r1 M1 => Wp d mdX11_costs 93 [(0, .ref a0)] (r1.toList ++ []) M1 Q)) : Wp d mdX11_costs 75 [(0, .ref a0)] [] M Q := by
  refine r_aload_n dX11_costs_75 rfl 0 rfl ?_
  refine r_aload_n dX11_costs_76 rfl 0 rfl ?_
  refine r_getR ck9 dX11_costs_77 flX11_42 rfl k0 ?_
  refine r_getR ck2 dX11_costs_80 flX11_166 rfl k1 ?_
  refine r_getR (ckN hnk2) dX11_costs_83 (flX11_188 hnk2) (by rcases hnk2 with rfl | rfl <;> rfl) k2 ?_
  refine r_getI ck7 dX11_costs_86 flX11_219 rfl k3 ?_
  refine r_i2l dX11_costs_89 ?_
  obtain ⟨e9, hlt, h9⟩ := pf0
  exact r_callV (As := [.long ((mI M (mR M (mR M (mR M a0 5) 3) 1) 0).toInt64)]) (rest := []) (ci := 9) moX11_put dX11_costs_90 mlX11_184 imX11_put seX11_put k0 rfl hlt (Nat.le_of_ble_eq_true rfl) h9
theorem gX11_costs_93 {d : Nat} {Q : Option Value → Mem → Prop} {M : Mem} {a0 : Nat} (k0 : mK M a0 = 13) (k1 : mK M (mR M a0 5) = 6) {cnk2 : Nat} (hnk2 : NT cnk2) (k2 : mK M (mR M (mR M a0 5) 3) = cnk2 + 4) (k3 : mK M (mR M (mR M (mR M a0 5) 3) 2) = 11) (pf0 : ClD d mdX11_put [.ref a0, .long ((mI M (mR M (mR M (mR M a0 5) 3) 2) 0).toInt64)] M (fun r1 M1 => Wp d mdX11_costs 111 [(0, .ref a0)] (r1.toList ++ []) M1 Q)) : Wp d mdX11_costs 93 [(0, .ref a0)] [] M Q := by
  refine r_aload_n dX11_costs_93 rfl 0 rfl ?_
  refine r_aload_n dX11_costs_94 rfl 0 rfl ?_
  refine r_getR ck9 dX11_costs_95 flX11_42 rfl k0 ?_
  refine r_getR ck2 dX11_costs_98 flX11_166 rfl k1 ?_
  refine r_getR (ckN hnk2) dX11_costs_101 (flX11_195 hnk2) (by rcases hnk2 with rfl | rfl <;> rfl) k2 ?_
  refine r_getI ck7 dX11_costs_104 flX11_219 rfl k3 ?_
  refine r_i2l dX11_costs_107 ?_
  obtain ⟨e9, hlt, h9⟩ := pf0
  exact r_callV (As := [.long ((mI M (mR M (mR M (mR M a0 5) 3) 2) 0).toInt64)]) (rest := []) (ci := 9) moX11_put dX11_costs_108 mlX11_184 imX11_put seX11_put k0 rfl hlt (Nat.le_of_ble_eq_true rfl) h9
theorem gX11_costs_111 {d : Nat} {Q : Option Value → Mem → Prop} {M : Mem} {a0 : Nat} (k0 : mK M a0 = 13) (k1 : mK M (mR M a0 5) = 6) (k2 : mK M (mR M (mR M a0 5) 0) = 4) (pq0 : Q (some (.int (mI M (mR M (mR M a0 5) 0) 4))) M) : Wp d mdX11_costs 111 [(0, .ref a0)] [] M Q := by
  refine r_aload_n dX11_costs_111 rfl 0 rfl ?_
  refine r_getR ck9 dX11_costs_112 flX11_42 rfl k0 ?_
  refine r_getR ck2 dX11_costs_115 flX11_146 rfl k1 ?_
  refine r_getI ck0 dX11_costs_118 flX11_312 rfl k2 ?_
  exact r_ret (some (.int (mI M (mR M (mR M a0 5) 0) 4))) dX11_costs_121 rfl pq0
-- X11_cheapest
theorem gX11_cheapest_0 {d : Nat} {Q : Option Value → Mem → Prop} {M : Mem} {a0 : Nat} (k0 : mK M a0 = 13) (pf0 : ClD d mdX11_clearNumbers [.ref a0] M (fun r1 M1 => Wp d mdX11_cheapest 8 [(0, .ref a0), (1, .int (nI 0)), (2, .int (nI 0))] (r1.toList ++ []) M1 Q)) : Wp d mdX11_cheapest 0 [(0, .ref a0)] [] M Q := by
  refine r_iconst (v := (nI 0)) dX11_cheapest_0 rfl ?_
  refine r_istore_n dX11_cheapest_1 rfl (by decide) (ls' := [(1, .int (nI 0)), (0, .ref a0)]) rfl ?_
  refine r_iconst (v := (nI 0)) dX11_cheapest_2 rfl ?_
  refine r_istore_n dX11_cheapest_3 rfl (by decide) (ls' := [(2, .int (nI 0)), (1, .int (nI 0)), (0, .ref a0)]) rfl ?_
  refine r_aload_n dX11_cheapest_4 rfl 2 rfl ?_
  refine r_sub [2, 1, 0] (ls' := [(0, .ref a0), (1, .int (nI 0)), (2, .int (nI 0))]) rfl ?_
  obtain ⟨e9, hlt, h9⟩ := pf0
  exact r_callV (As := []) (rest := []) (ci := 9) moX11_clearNumbers dX11_cheapest_5 mlX11_181 imX11_clearNumbers seX11_clearNumbers k0 rfl hlt (Nat.le_of_ble_eq_true rfl) h9
theorem gX11_cheapest_8 {d : Nat} {Q : Option Value → Mem → Prop} {M : Mem} {a0 : Nat} {x1 : Int32} {x2 : Int32}  (pw0 : Wp d mdX11_cheapest 10 [(0, .ref a0), (1, .int x1), (2, .int x2), (3, .int (nI 0))] [] M Q) : Wp d mdX11_cheapest 8 [(0, .ref a0), (1, .int x1), (2, .int x2)] [] M Q := by
  refine r_iconst (v := (nI 0)) dX11_cheapest_8 rfl ?_
  refine r_istore_n dX11_cheapest_9 rfl (by decide) (ls' := [(3, .int (nI 0)), (0, .ref a0), (1, .int x1), (2, .int x2)]) rfl ?_
  refine r_sub [1, 2, 3, 0] (ls' := [(0, .ref a0), (1, .int x1), (2, .int x2), (3, .int (nI 0))]) rfl ?_
  exact pw0
theorem gX11_cheapest_10 {d : Nat} {Q : Option Value → Mem → Prop} {M : Mem} {a0 : Nat} {x1 : Int32} {x2 : Int32} {x3 : Int32} (k0 : mK M a0 = 13) (k1 : mK M (mR M a0 5) = 6) (pq0 : (nI 4) ≤ x3 → Q (some (.int x1)) M) (pf1 : ¬ (nI 4) ≤ x3 → ClD d mdX4_renew [.ref (mR M a0 5), .int x3] M (fun r1 M1 => Wp d mdX11_cheapest 23 [(0, .ref a0), (1, .int x1), (2, .int x2), (3, .int x3)] (r1.toList ++ []) M1 Q)) : Wp d mdX11_cheapest 10 [(0, .ref a0), (1, .int x1), (2, .int x2), (3, .int x3)] [] M Q := by
  refine r_iload_n dX11_cheapest_10 rfl 3 rfl ?_
  refine r_iconst (v := (nI 4)) dX11_cheapest_11 rfl ?_
  refine r_icmp_ge (tgt := 70) dX11_cheapest_12 (by decide) (fun c0 => ?_) (fun c0 => ?_)
  · skip
    refine r_iload_n dX11_cheapest_70 rfl 1 rfl ?_
    exact r_ret (some (.int x1)) dX11_cheapest_71 rfl (pq0 c0)
  · skip
    refine r_aload_n dX11_cheapest_15 rfl 0 rfl ?_
    refine r_getR ck9 dX11_cheapest_16 flX11_42 rfl k0 ?_
    refine r_iload_n dX11_cheapest_19 rfl 3 rfl ?_
    obtain ⟨e9, hlt, h9⟩ := (pf1 c0)
    exact r_callV (As := [.int x3]) (rest := []) (ci := 2) moX4_renew dX11_cheapest_20 mlX11_69 imX4_renew seX4_renew k1 rfl hlt (Nat.le_of_ble_eq_true rfl) h9
theorem gX11_cheapest_23 {d : Nat} {Q : Option Value → Mem → Prop} {M : Mem} {a0 : Nat} {x1 : Int32} {x2 : Int32} {x3 : Int32} (k0 : mK M a0 = 13) (k1 : mK M (mR M a0 5) = 6) (pf0 : ClD d mdX4_learn [.ref (mR M a0 5)] M (fun r1 M1 => Wp d mdX11_cheapest 30 [(0, .ref a0), (1, .int x1), (2, .int x2), (3, .int x3)] (r1.toList ++ []) M1 Q)) : Wp d mdX11_cheapest 23 [(0, .ref a0), (1, .int x1), (2, .int x2), (3, .int x3)] [] M Q := by
  refine r_aload_n dX11_cheapest_23 rfl 0 rfl ?_
  refine r_getR ck9 dX11_cheapest_24 flX11_42 rfl k0 ?_
  obtain ⟨e9, hlt, h9⟩ := pf0
  exact r_callV (As := []) (rest := []) (ci := 2) moX4_learn dX11_cheapest_27 mlX11_210 imX4_learn seX4_learn k1 rfl hlt (Nat.le_of_ble_eq_true rfl) h9
theorem gX11_cheapest_30 {d : Nat} {Q : Option Value → Mem → Prop} {M : Mem} {a0 : Nat} {x1 : Int32} {x2 : Int32} {x3 : Int32} (k0 : mK M a0 = 13) (k1 : mK M (mR M a0 5) = 6) (k2 : mK M (mR M (mR M a0 5) 0) = 4) (pf0 : ClD d mdX11_put [.ref a0, .long ((mI M (mR M (mR M a0 5) 0) 4).toInt64)] M (fun r1 M1 => Wp d mdX11_cheapest 49 [(0, .ref a0), (1, .int x1), (2, .int x2), (3, .int x3), (4, .int (mI M (mR M (mR M a0 5) 0) 4))] (r1.toList ++ []) M1 Q)) : Wp d mdX11_cheapest 30 [(0, .ref a0), (1, .int x1), (2, .int x2), (3, .int x3)] [] M Q := by
  refine r_aload_n dX11_cheapest_30 rfl 0 rfl ?_
  refine r_getR ck9 dX11_cheapest_31 flX11_42 rfl k0 ?_
  refine r_getR ck2 dX11_cheapest_34 flX11_146 rfl k1 ?_
  refine r_getI ck0 dX11_cheapest_37 flX11_312 rfl k2 ?_
  refine r_istore dX11_cheapest_40 (by decide) (ls' := [(4, .int (mI M (mR M (mR M a0 5) 0) 4)), (0, .ref a0), (1, .int x1), (2, .int x2), (3, .int x3)]) rfl ?_
  refine r_aload_n dX11_cheapest_42 rfl 1 rfl ?_
  refine r_iload dX11_cheapest_43 0 rfl ?_
  refine r_i2l dX11_cheapest_45 ?_
  refine r_sub [1, 2, 3, 4, 0] (ls' := [(0, .ref a0), (1, .int x1), (2, .int x2), (3, .int x3), (4, .int (mI M (mR M (mR M a0 5) 0) 4))]) rfl ?_
  obtain ⟨e9, hlt, h9⟩ := pf0
  exact r_callV (As := [.long ((mI M (mR M (mR M a0 5) 0) 4).toInt64)]) (rest := []) (ci := 9) moX11_put dX11_cheapest_46 mlX11_184 imX11_put seX11_put k0 rfl hlt (Nat.le_of_ble_eq_true rfl) h9
theorem gX11_cheapest_49 {d : Nat} {Q : Option Value → Mem → Prop} {M : Mem} {a0 : Nat} {x1 : Int32} {x2 : Int32} {x3 : Int32} {x4 : Int32}  (pw0 : x3 = 0 → Wp d mdX11_cheapest 59 [(0, .ref a0), (3, .int x3), (4, .int x4)] [] M Q) (pw1 : ¬ x3 = 0 → x2 ≤ x4 → Wp d mdX11_cheapest 10 [(0, .ref a0), (1, .int x1), (2, .int x2), (3, .int (x3 + (nI 1)))] [] M Q) (pw2 : ¬ x3 = 0 → ¬ x2 ≤ x4 → Wp d mdX11_cheapest 59 [(0, .ref a0), (3, .int x3), (4, .int x4)] [] M Q) : Wp d mdX11_cheapest 49 [(0, .ref a0), (1, .int x1), (2, .int x2), (3, .int x3), (4, .int x4)] [] M Q := by
  refine r_iload_n dX11_cheapest_49 rfl 3 rfl ?_
  refine r_if_eq (tgt := 59) dX11_cheapest_50 (by decide) (fun c0 => ?_) (fun c0 => ?_)
  · skip
    refine r_sub [0, 3, 4] (ls' := [(0, .ref a0), (3, .int x3), (4, .int x4)]) rfl ?_
    exact (pw0 c0)
  · skip
    refine r_iload dX11_cheapest_53 4 rfl ?_
    refine r_iload_n dX11_cheapest_55 rfl 2 rfl ?_
    refine r_icmp_ge (tgt := 64) dX11_cheapest_56 (by decide) (fun c1 => ?_) (fun c1 => ?_)
    · skip
      refine r_iinc dX11_cheapest_64 3 rfl (v := x3 + (nI 1)) rfl (by decide) (ls' := [(3, .int (x3 + (nI 1))), (0, .ref a0), (1, .int x1), (2, .int x2), (4, .int x4)]) rfl ?_
      refine r_goto (tgt := 10) dX11_cheapest_67 (by decide) ?_
      refine r_sub [1, 2, 3, 0] (ls' := [(0, .ref a0), (1, .int x1), (2, .int x2), (3, .int (x3 + (nI 1)))]) rfl ?_
      exact (pw1 c0 c1)
    · skip
      refine r_sub [0, 3, 4] (ls' := [(0, .ref a0), (3, .int x3), (4, .int x4)]) rfl ?_
      exact (pw2 c0 c1)
theorem gX11_cheapest_59 {d : Nat} {Q : Option Value → Mem → Prop} {M : Mem} {a0 : Nat} {x3 : Int32} {x4 : Int32}  (pw0 : Wp d mdX11_cheapest 10 [(0, .ref a0), (1, .int x3), (2, .int x4), (3, .int (x3 + (nI 1)))] [] M Q) : Wp d mdX11_cheapest 59 [(0, .ref a0), (3, .int x3), (4, .int x4)] [] M Q := by
  refine r_iload_n dX11_cheapest_59 rfl 1 rfl ?_
  refine r_istore_n dX11_cheapest_60 rfl (by decide) (ls' := [(1, .int x3), (0, .ref a0), (3, .int x3), (4, .int x4)]) rfl ?_
  refine r_iload dX11_cheapest_61 3 rfl ?_
  refine r_istore_n dX11_cheapest_63 rfl (by decide) (ls' := [(2, .int x4), (1, .int x3), (0, .ref a0), (3, .int x3), (4, .int x4)]) rfl ?_
  refine r_iinc dX11_cheapest_64 3 rfl (v := x3 + (nI 1)) rfl (by decide) (ls' := [(3, .int (x3 + (nI 1))), (2, .int x4), (1, .int x3), (0, .ref a0), (4, .int x4)]) rfl ?_
  refine r_goto (tgt := 10) dX11_cheapest_67 (by decide) ?_
  refine r_sub [3, 2, 1, 0] (ls' := [(0, .ref a0), (1, .int x3), (2, .int x4), (3, .int (x3 + (nI 1)))]) rfl ?_
  exact pw0
-- X11_count
theorem gX11_count_0 {d : Nat} {Q : Option Value → Mem → Prop} {M : Mem} {a0 : Nat} {x1 : Int32} (k0 : mK M a0 = 13) (k1 : mK M (mR M a0 4) = 6) (k2 : mK M (mR M a0 0) = 5) (k3 : mK M (mR M (mR M a0 4) 0) = 4) (k4 : mK M (mR M (mR M (mR M a0 4) 0) 1) = 12) {cnk5 : Nat} (hnk5 : NT cnk5) (k5 : mK M (mR M (mR M a0 4) 3) = cnk5 + 4) (k6 : mK M (mR M a0 2) = 9) (pq0 : x1 = (nI 0) → Q (some (.int (mI M (mR M a0 4) 4))) M) (pq1 : ¬ x1 = (nI 0) → x1 = (nI 1) → Q (some (.int (mI M (mR M a0 0) 1))) M) (pq2 : ¬ x1 = (nI 0) → ¬ x1 = (nI 1) → x1 = (nI 2) → Q (some (.int (mI M (mR M a0 0) 0))) M) (pq3 : ¬ x1 = (nI 0) → ¬ x1 = (nI 1) → ¬ x1 = (nI 2) → x1 = (nI 3) → Q (some (.int (mI M (mR M (mR M (mR M a0 4) 0) 1) 0))) M) (pq4 : ¬ x1 = (nI 0) → ¬ x1 = (nI 1) → ¬ x1 = (nI 2) → ¬ x1 = (nI 3) → x1 = (nI 4) → Q (some (.int (mI M (mR M (mR M a0 4) 0) 4))) M) (pq5 : ¬ x1 = (nI 0) → ¬ x1 = (nI 1) → ¬ x1 = (nI 2) → ¬ x1 = (nI 3) → ¬ x1 = (nI 4) → x1 = (nI 5) → Q (some (.int (mI M (mR M (mR M a0 4) 3) 6))) M) (pf6 : ¬ x1 = (nI 0) → ¬ x1 = (nI 1) → ¬ x1 = (nI 2) → ¬ x1 = (nI 3) → ¬ x1 = (nI 4) → ¬ x1 = (nI 5) → x1 = (nI 6) → ClD d mdX3_hasGuess [.ref (mR M (mR M a0 4) 3)] M (fun r1 M1 => Wp d mdX11_count 130 [(0, .ref a0)] (r1.toList ++ []) M1 Q)) (pq7 : ¬ x1 = (nI 0) → ¬ x1 = (nI 1) → ¬ x1 = (nI 2) → ¬ x1 = (nI 3) → ¬ x1 = (nI 4) → ¬ x1 = (nI 5) → ¬ x1 = (nI 6) → x1 = (nI 7) → Q (some (.int (mI M a0 10))) M) (pq8 : ¬ x1 = (nI 0) → ¬ x1 = (nI 1) → ¬ x1 = (nI 2) → ¬ x1 = (nI 3) → ¬ x1 = (nI 4) → ¬ x1 = (nI 5) → ¬ x1 = (nI 6) → ¬ x1 = (nI 7) → x1 = (nI 8) → Q (some (.int (mI M (mR M a0 2) 0))) M) (pq9 : ¬ x1 = (nI 0) → ¬ x1 = (nI 1) → ¬ x1 = (nI 2) → ¬ x1 = (nI 3) → ¬ x1 = (nI 4) → ¬ x1 = (nI 5) → ¬ x1 = (nI 6) → ¬ x1 = (nI 7) → ¬ x1 = (nI 8) → x1 = (nI 9) → Q (some (.int (mI M (mR M (mR M a0 4) 0) 2))) M) (pq10 : ¬ x1 = (nI 0) → ¬ x1 = (nI 1) → ¬ x1 = (nI 2) → ¬ x1 = (nI 3) → ¬ x1 = (nI 4) → ¬ x1 = (nI 5) → ¬ x1 = (nI 6) → ¬ x1 = (nI 7) → ¬ x1 = (nI 8) → ¬ x1 = (nI 9) → x1 = (nI 10) → Q (some (.int (mI M (mR M (mR M a0 4) 0) 3))) M) (pq11 : ¬ x1 = (nI 0) → ¬ x1 = (nI 1) → ¬ x1 = (nI 2) → ¬ x1 = (nI 3) → ¬ x1 = (nI 4) → ¬ x1 = (nI 5) → ¬ x1 = (nI 6) → ¬ x1 = (nI 7) → ¬ x1 = (nI 8) → ¬ x1 = (nI 9) → ¬ x1 = (nI 10) → Q (some (.int (-1 : Int32))) M) : Wp d mdX11_count 0 [(0, .ref a0), (1, .int x1)] [] M Q := by
  refine r_iload_n dX11_count_0 rfl 1 rfl ?_
  by_cases c0 : x1 = (nI 0)
  · refine r_tableIn (off := 59) (tgt := 60) dX11_count_1 (by rw [c0]; decide) (by rw [c0]; decide) (by rw [c0]; rfl) (by decide) ?_
    refine r_aload_n dX11_count_60 rfl 0 rfl ?_
    refine r_getR ck9 dX11_count_61 flX11_38 rfl k0 ?_
    refine r_getI ck2 dX11_count_64 flX11_92 rfl k1 ?_
    exact r_ret (some (.int (mI M (mR M a0 4) 4))) dX11_count_67 rfl (pq0 c0)
  by_cases c1 : x1 = (nI 1)
  · refine r_tableIn (off := 67) (tgt := 68) dX11_count_1 (by rw [c1]; decide) (by rw [c1]; decide) (by rw [c1]; rfl) (by decide) ?_
    refine r_aload_n dX11_count_68 rfl 0 rfl ?_
    refine r_getR ck9 dX11_count_69 flX11_10 rfl k0 ?_
    refine r_getI ck1 dX11_count_72 flX11_124 rfl k2 ?_
    exact r_ret (some (.int (mI M (mR M a0 0) 1))) dX11_count_75 rfl (pq1 c0 c1)
  by_cases c2 : x1 = (nI 2)
  · refine r_tableIn (off := 75) (tgt := 76) dX11_count_1 (by rw [c2]; decide) (by rw [c2]; decide) (by rw [c2]; rfl) (by decide) ?_
    refine r_aload_n dX11_count_76 rfl 0 rfl ?_
    refine r_getR ck9 dX11_count_77 flX11_10 rfl k0 ?_
    refine r_getI ck1 dX11_count_80 flX11_201 rfl k2 ?_
    exact r_ret (some (.int (mI M (mR M a0 0) 0))) dX11_count_83 rfl (pq2 c0 c1 c2)
  by_cases c3 : x1 = (nI 3)
  · refine r_tableIn (off := 83) (tgt := 84) dX11_count_1 (by rw [c3]; decide) (by rw [c3]; decide) (by rw [c3]; rfl) (by decide) ?_
    refine r_aload_n dX11_count_84 rfl 0 rfl ?_
    refine r_getR ck9 dX11_count_85 flX11_38 rfl k0 ?_
    refine r_getR ck2 dX11_count_88 flX11_146 rfl k1 ?_
    refine r_getR ck0 dX11_count_91 flX11_160 rfl k3 ?_
    refine r_getI ck8 dX11_count_94 flX11_175 rfl k4 ?_
    exact r_ret (some (.int (mI M (mR M (mR M (mR M a0 4) 0) 1) 0))) dX11_count_97 rfl (pq3 c0 c1 c2 c3)
  by_cases c4 : x1 = (nI 4)
  · refine r_tableIn (off := 97) (tgt := 98) dX11_count_1 (by rw [c4]; decide) (by rw [c4]; decide) (by rw [c4]; rfl) (by decide) ?_
    refine r_aload_n dX11_count_98 rfl 0 rfl ?_
    refine r_getR ck9 dX11_count_99 flX11_38 rfl k0 ?_
    refine r_getR ck2 dX11_count_102 flX11_146 rfl k1 ?_
    refine r_getI ck0 dX11_count_105 flX11_312 rfl k3 ?_
    exact r_ret (some (.int (mI M (mR M (mR M a0 4) 0) 4))) dX11_count_108 rfl (pq4 c0 c1 c2 c3 c4)
  by_cases c5 : x1 = (nI 5)
  · refine r_tableIn (off := 108) (tgt := 109) dX11_count_1 (by rw [c5]; decide) (by rw [c5]; decide) (by rw [c5]; rfl) (by decide) ?_
    refine r_aload_n dX11_count_109 rfl 0 rfl ?_
    refine r_getR ck9 dX11_count_110 flX11_38 rfl k0 ?_
    refine r_getR ck2 dX11_count_113 flX11_166 rfl k1 ?_
    refine r_getI (ckN hnk5) dX11_count_116 (flX11_216 hnk5) (by rcases hnk5 with rfl | rfl <;> rfl) k5 ?_
    exact r_ret (some (.int (mI M (mR M (mR M a0 4) 3) 6))) dX11_count_119 rfl (pq5 c0 c1 c2 c3 c4 c5)
  by_cases c6 : x1 = (nI 6)
  · refine r_tableIn (off := 119) (tgt := 120) dX11_count_1 (by rw [c6]; decide) (by rw [c6]; decide) (by rw [c6]; rfl) (by decide) ?_
    refine r_aload_n dX11_count_120 rfl 0 rfl ?_
    refine r_getR ck9 dX11_count_121 flX11_38 rfl k0 ?_
    refine r_getR ck2 dX11_count_124 flX11_166 rfl k1 ?_
    refine r_sub [0] (ls' := [(0, .ref a0)]) rfl ?_
    obtain ⟨e9, hlt, h9⟩ := (pf6 c0 c1 c2 c3 c4 c5 c6)
    rcases hnk5 with rfl | rfl
    · exact r_callU (As := []) (rest := []) (ci := 4) (x := yX3_hasGuess) (owner := "AskingPupil$Notes") moX3_hasGuess dX11_count_127 mlX11_170 smX3_hasGuess imX3_hasGuess suX6_X3_hasGuess ⟨by decide +kernel, by decide +kernel⟩ (Or.inl rfl) k5 rfl hlt (Nat.le_of_ble_eq_true rfl) h9
    · exact r_callU (As := []) (rest := []) (ci := 6) (x := yX3_hasGuess) (owner := "AskingPupil$Notes") moX3_hasGuess dX11_count_127 mlX11_170 smX3_hasGuess imX3_hasGuess suX8_X3_hasGuess ⟨by decide +kernel, by decide +kernel⟩ (Or.inl rfl) k5 rfl hlt (Nat.le_of_ble_eq_true rfl) h9
  by_cases c7 : x1 = (nI 7)
  · refine r_tableIn (off := 150) (tgt := 151) dX11_count_1 (by rw [c7]; decide) (by rw [c7]; decide) (by rw [c7]; rfl) (by decide) ?_
    refine r_aload_n dX11_count_151 rfl 0 rfl ?_
    refine r_getI ck9 dX11_count_152 flX11_315 rfl k0 ?_
    exact r_ret (some (.int (mI M a0 10))) dX11_count_155 rfl (pq7 c0 c1 c2 c3 c4 c5 c6 c7)
  by_cases c8 : x1 = (nI 8)
  · refine r_tableIn (off := 155) (tgt := 156) dX11_count_1 (by rw [c8]; decide) (by rw [c8]; decide) (by rw [c8]; rfl) (by decide) ?_
    refine r_aload_n dX11_count_156 rfl 0 rfl ?_
    refine r_getR ck9 dX11_count_157 flX11_22 rfl k0 ?_
    refine r_getI ck5 dX11_count_160 flX11_318 rfl k6 ?_
    exact r_ret (some (.int (mI M (mR M a0 2) 0))) dX11_count_163 rfl (pq8 c0 c1 c2 c3 c4 c5 c6 c7 c8)
  by_cases c9 : x1 = (nI 9)
  · refine r_tableIn (off := 163) (tgt := 164) dX11_count_1 (by rw [c9]; decide) (by rw [c9]; decide) (by rw [c9]; rfl) (by decide) ?_
    refine r_aload_n dX11_count_164 rfl 0 rfl ?_
    refine r_getR ck9 dX11_count_165 flX11_38 rfl k0 ?_
    refine r_getR ck2 dX11_count_168 flX11_146 rfl k1 ?_
    refine r_getI ck0 dX11_count_171 flX11_319 rfl k3 ?_
    exact r_ret (some (.int (mI M (mR M (mR M a0 4) 0) 2))) dX11_count_174 rfl (pq9 c0 c1 c2 c3 c4 c5 c6 c7 c8 c9)
  by_cases c10 : x1 = (nI 10)
  · refine r_tableIn (off := 174) (tgt := 175) dX11_count_1 (by rw [c10]; decide) (by rw [c10]; decide) (by rw [c10]; rfl) (by decide) ?_
    refine r_aload_n dX11_count_175 rfl 0 rfl ?_
    refine r_getR ck9 dX11_count_176 flX11_38 rfl k0 ?_
    refine r_getR ck2 dX11_count_179 flX11_146 rfl k1 ?_
    refine r_getI ck0 dX11_count_182 flX11_322 rfl k3 ?_
    exact r_ret (some (.int (mI M (mR M (mR M a0 4) 0) 3))) dX11_count_185 rfl (pq10 c0 c1 c2 c3 c4 c5 c6 c7 c8 c9 c10)
  refine r_tableOut (tgt := 186) dX11_count_1 (sw11 c0 c1 c2 c3 c4 c5 c6 c7 c8 c9 c10) (by decide) ?_
  refine r_iconst (v := (-1)) dX11_count_186 rfl ?_
  exact r_ret (some (.int (-1 : Int32))) dX11_count_187 rfl (pq11 c0 c1 c2 c3 c4 c5 c6 c7 c8 c9 c10)
theorem gX11_count_130 {d : Nat} {Q : Option Value → Mem → Prop} {M : Mem} {a0 : Nat} {sx0 : Int32} (k0 : mK M a0 = 13) (k1 : mK M (mR M a0 4) = 6) {cnk2 : Nat} (hnk2 : NT cnk2) (k2 : mK M (mR M (mR M a0 4) 3) = cnk2 + 4) (k3 : mK M (mR M (mR M (mR M a0 4) 3) 4) = 5) (pq0 : sx0 = 0 → Q (some (.int (-1 : Int32))) M) (pq1 : ¬ sx0 = 0 → Q (some (.int (mI M (mR M (mR M (mR M a0 4) 3) 4) 0))) M) : Wp d mdX11_count 130 [(0, .ref a0)] [.int sx0] M Q := by
  refine r_if_eq (tgt := 149) dX11_count_130 (by decide) (fun c0 => ?_) (fun c0 => ?_)
  · skip
    refine r_iconst (v := (-1)) dX11_count_149 rfl ?_
    exact r_ret (some (.int (-1 : Int32))) dX11_count_150 rfl (pq0 c0)
  · skip
    refine r_aload_n dX11_count_133 rfl 0 rfl ?_
    refine r_getR ck9 dX11_count_134 flX11_38 rfl k0 ?_
    refine r_getR ck2 dX11_count_137 flX11_166 rfl k1 ?_
    refine r_getR (ckN hnk2) dX11_count_140 (flX11_198 hnk2) (by rcases hnk2 with rfl | rfl <;> rfl) k2 ?_
    refine r_getI ck1 dX11_count_143 flX11_201 rfl k3 ?_
    refine r_goto (tgt := 150) dX11_count_146 (by decide) ?_
    exact r_ret (some (.int (mI M (mR M (mR M (mR M a0 4) 3) 4) 0))) dX11_count_150 rfl (pq1 c0)
-- X11_clearNumbers
theorem gX11_clearNumbers_0 {d : Nat} {Q : Option Value → Mem → Prop} {M : Mem} {a0 : Nat} (k0 : mK M a0 = 13) (pq0 : Q none (sI M a0 10 (nI 0))) : Wp d mdX11_clearNumbers 0 [(0, .ref a0)] [] M Q := by
  refine r_aload_n dX11_clearNumbers_0 rfl 0 rfl ?_
  refine r_iconst (v := (nI 0)) dX11_clearNumbers_1 rfl ?_
  refine r_putI ck9 dX11_clearNumbers_2 flX11_315 rfl (Or.inl rfl) k0 ?_
  exact r_ret none dX11_clearNumbers_5 rfl pq0
-- X11_put
theorem gX11_put_0 {d : Nat} {Q : Option Value → Mem → Prop} {M : Mem} {a0 : Nat} {w1 : Int64} (k0 : mK M a0 = 13) (k1 : mK M (mR M a0 9) = 2) (pq0 : (nI (mN M (mR M a0 9))) ≤ (mI M a0 10) → Q none M) (pb1 : ¬ (nI (mN M (mR M a0 9))) ≤ (mI M a0 10) → vp_in (mI M a0 10) (mN (sI M a0 10 ((mI M a0 10) + (nI 1))) (mR M a0 9))) (pq2 : ¬ (nI (mN M (mR M a0 9))) ≤ (mI M a0 10) → Q none (sJ (sI M a0 10 ((mI M a0 10) + (nI 1))) (mR M a0 9) (mI M a0 10).toNatClampNeg w1)) : Wp d mdX11_put 0 [(0, .ref a0), (1, .long w1)] [] M Q := by
  refine r_aload_n dX11_put_0 rfl 0 rfl ?_
  refine r_getI ck9 dX11_put_1 flX11_315 rfl k0 ?_
  refine r_aload_n dX11_put_4 rfl 0 rfl ?_
  refine r_getR ck9 dX11_put_5 flX11_65 rfl k0 ?_
  refine r_alen dX11_put_8 (Or.inr (Or.inl k1)) ?_
  refine r_icmp_ge (tgt := 29) dX11_put_9 (by decide) (fun c0 => ?_) (fun c0 => ?_)
  · skip
    exact r_ret none dX11_put_29 rfl (pq0 c0)
  · skip
    refine r_aload_n dX11_put_12 rfl 0 rfl ?_
    refine r_getR ck9 dX11_put_13 flX11_65 rfl k0 ?_
    refine r_aload_n dX11_put_16 rfl 0 rfl ?_
    refine r_dup dX11_put_17 rfl ?_
    refine r_getI ck9 dX11_put_18 flX11_315 rfl k0 ?_
    refine r_dup_x1 dX11_put_21 rfl rfl ?_
    refine r_iconst (v := (nI 1)) dX11_put_22 rfl ?_
    refine r_iadd dX11_put_23 ?_
    refine r_putI ck9 dX11_put_24 flX11_315 rfl (Or.inl rfl) k0 ?_
    refine r_lload_n dX11_put_27 rfl 1 rfl ?_
    refine r_last dX11_put_28 k1 (pb1 c0) ?_
    exact r_ret none dX11_put_29 rfl (pq2 c0)
-- X11_putGroups
theorem gX11_putGroups_0 {d : Nat} {Q : Option Value → Mem → Prop} {M : Mem} {a0 : Nat} (k0 : mK M a0 = 13) (pf0 : ClD d mdX11_clearNumbers [.ref a0] M (fun r1 M1 => Wp d mdX11_putGroups 4 [(0, .ref a0)] (r1.toList ++ []) M1 Q)) : Wp d mdX11_putGroups 0 [(0, .ref a0)] [] M Q := by
  refine r_aload_n dX11_putGroups_0 rfl 0 rfl ?_
  obtain ⟨e9, hlt, h9⟩ := pf0
  exact r_callV (As := []) (rest := []) (ci := 9) moX11_clearNumbers dX11_putGroups_1 mlX11_181 imX11_clearNumbers seX11_clearNumbers k0 rfl hlt (Nat.le_of_ble_eq_true rfl) h9
theorem gX11_putGroups_4 {d : Nat} {Q : Option Value → Mem → Prop} {M : Mem} {a0 : Nat}  (pw0 : Wp d mdX11_putGroups 6 [(0, .ref a0), (1, .int (nI 0))] [] M Q) : Wp d mdX11_putGroups 4 [(0, .ref a0)] [] M Q := by
  refine r_iconst (v := (nI 0)) dX11_putGroups_4 rfl ?_
  refine r_istore_n dX11_putGroups_5 rfl (by decide) (ls' := [(1, .int (nI 0)), (0, .ref a0)]) rfl ?_
  refine r_sub [1, 0] (ls' := [(0, .ref a0), (1, .int (nI 0))]) rfl ?_
  exact pw0
theorem gX11_putGroups_6 {d : Nat} {Q : Option Value → Mem → Prop} {M : Mem} {a0 : Nat} {x1 : Int32} (k0 : mK M a0 = 13) (k1 : mK M (mR M a0 0) = 5) (k2 : mK M (mR M a0 8) = 1) (pq0 : (mI M (mR M a0 0) 0) ≤ x1 → Q none M) (pq1 : ¬ (mI M (mR M a0 0) 0) ≤ x1 → (nI (mN M (mR M a0 8))) ≤ x1 → Q none M) (pb2 : ¬ (mI M (mR M a0 0) 0) ≤ x1 → ¬ (nI (mN M (mR M a0 8))) ≤ x1 → vp_in x1 (mN M (mR M a0 8))) (pf3 : ¬ (mI M (mR M a0 0) 0) ≤ x1 → ¬ (nI (mN M (mR M a0 8))) ≤ x1 → ClD d mdX11_put [.ref a0, .long ((mI M (mR M a0 8) x1.toNatClampNeg).toInt64)] M (fun r1 M1 => Wp d mdX11_putGroups 37 [(0, .ref a0), (1, .int x1)] (r1.toList ++ []) M1 Q)) : Wp d mdX11_putGroups 6 [(0, .ref a0), (1, .int x1)] [] M Q := by
  refine r_iload_n dX11_putGroups_6 rfl 1 rfl ?_
  refine r_aload_n dX11_putGroups_7 rfl 0 rfl ?_
  refine r_getR ck9 dX11_putGroups_8 flX11_10 rfl k0 ?_
  refine r_getI ck1 dX11_putGroups_11 flX11_201 rfl k1 ?_
  refine r_icmp_ge (tgt := 43) dX11_putGroups_14 (by decide) (fun c0 => ?_) (fun c0 => ?_)
  · skip
    exact r_ret none dX11_putGroups_43 rfl (pq0 c0)
  · skip
    refine r_iload_n dX11_putGroups_17 rfl 1 rfl ?_
    refine r_aload_n dX11_putGroups_18 rfl 0 rfl ?_
    refine r_getR ck9 dX11_putGroups_19 flX11_61 rfl k0 ?_
    refine r_alen dX11_putGroups_22 (Or.inl k2) ?_
    refine r_icmp_ge (tgt := 43) dX11_putGroups_23 (by decide) (fun c1 => ?_) (fun c1 => ?_)
    · skip
      exact r_ret none dX11_putGroups_43 rfl (pq1 c0 c1)
    · skip
      refine r_aload_n dX11_putGroups_26 rfl 0 rfl ?_
      refine r_aload_n dX11_putGroups_27 rfl 0 rfl ?_
      refine r_getR ck9 dX11_putGroups_28 flX11_61 rfl k0 ?_
      refine r_iload_n dX11_putGroups_31 rfl 1 rfl ?_
      refine r_iald dX11_putGroups_32 k2 (pb2 c0 c1) ?_
      refine r_i2l dX11_putGroups_33 ?_
      obtain ⟨e9, hlt, h9⟩ := (pf3 c0 c1)
      exact r_callV (As := [.long ((mI M (mR M a0 8) x1.toNatClampNeg).toInt64)]) (rest := []) (ci := 9) moX11_put dX11_putGroups_34 mlX11_184 imX11_put seX11_put k0 rfl hlt (Nat.le_of_ble_eq_true rfl) h9
theorem gX11_putGroups_37 {d : Nat} {Q : Option Value → Mem → Prop} {M : Mem} {a0 : Nat} {x1 : Int32}  (pw0 : Wp d mdX11_putGroups 6 [(0, .ref a0), (1, .int (x1 + (nI 1)))] [] M Q) : Wp d mdX11_putGroups 37 [(0, .ref a0), (1, .int x1)] [] M Q := by
  refine r_iinc dX11_putGroups_37 1 rfl (v := x1 + (nI 1)) rfl (by decide) (ls' := [(1, .int (x1 + (nI 1))), (0, .ref a0)]) rfl ?_
  refine r_goto (tgt := 6) dX11_putGroups_40 (by decide) ?_
  refine r_sub [1, 0] (ls' := [(0, .ref a0), (1, .int (x1 + (nI 1)))]) rfl ?_
  exact pw0
-- X11_isNoWord
theorem gX11_isNoWord_0 {d : Nat} {Q : Option Value → Mem → Prop} {M : Mem} {a0 : Nat} {w1 : Int64} (k0 : mK M a0 = 13) (k1 : mK M (mR M a0 0) = 5) (pf0 : ClD d mdX1_measure [.long w1, .int (mI M (mR M a0 0) 1)] M (fun r1 M1 => Wp d mdX11_isNoWord 11 [] (r1.toList ++ []) M1 Q)) : Wp d mdX11_isNoWord 0 [(0, .ref a0), (1, .long w1)] [] M Q := by
  refine r_lload_n dX11_isNoWord_0 rfl 1 rfl ?_
  refine r_aload_n dX11_isNoWord_1 rfl 0 rfl ?_
  refine r_getR ck9 dX11_isNoWord_2 flX11_10 rfl k0 ?_
  refine r_getI ck1 dX11_isNoWord_5 flX11_124 rfl k1 ?_
  refine r_sub [] (ls' := []) rfl ?_
  obtain ⟨e9, hlt, h9⟩ := pf0
  exact r_callS (As := [.long w1, .int (mI M (mR M a0 0) 1)]) (rest := []) moX1_measure dX11_isNoWord_8 mlX11_127 saX1_measure rfl hlt (Nat.le_of_ble_eq_true rfl) h9
theorem gX11_isNoWord_11 {d : Nat} {Q : Option Value → Mem → Prop} {M : Mem} {sx0 : Int32}  (pq0 : 0 ≤ sx0 → Q (some (.int (nI 0))) M) (pq1 : ¬ 0 ≤ sx0 → Q (some (.int (nI 1))) M) : Wp d mdX11_isNoWord 11 [] [.int sx0] M Q := by
  refine r_if_ge (tgt := 18) dX11_isNoWord_11 (by decide) (fun c0 => ?_) (fun c0 => ?_)
  · skip
    refine r_iconst (v := (nI 0)) dX11_isNoWord_18 rfl ?_
    exact r_ret (some (.int (nI 0))) dX11_isNoWord_19 rfl (pq0 c0)
  · skip
    refine r_iconst (v := (nI 1)) dX11_isNoWord_14 rfl ?_
    refine r_goto (tgt := 19) dX11_isNoWord_15 (by decide) ?_
    exact r_ret (some (.int (nI 1))) dX11_isNoWord_19 rfl (pq1 c0)
-- X11_refuseGuessed
theorem gX11_refuseGuessed_0 {d : Nat} {Q : Option Value → Mem → Prop} {M : Mem} {a0 : Nat} {x1 : Int32} (k0 : mK M a0 = 13) (k1 : mK M (mR M a0 4) = 6) {cnk2 : Nat} (hnk2 : NT cnk2) (k2 : mK M (mR M (mR M a0 4) 3) = cnk2 + 4) (pq0 : x1 < 0 → Q (some (.int (-1 : Int32))) M) (pf1 : ¬ x1 < 0 → x1 < (nI 8) → ClD d mdX3_hasGuess [.ref (mR M (mR M a0 4) 3)] M (fun r1 M1 => Wp d mdX11_refuseGuessed 22 [(0, .ref a0), (1, .int x1)] (r1.toList ++ []) M1 Q)) (pq2 : ¬ x1 < 0 → ¬ x1 < (nI 8) → Q (some (.int (-1 : Int32))) M) : Wp d mdX11_refuseGuessed 0 [(0, .ref a0), (1, .int x1)] [] M Q := by
  refine r_iload_n dX11_refuseGuessed_0 rfl 1 rfl ?_
  refine r_if_lt (tgt := 10) dX11_refuseGuessed_1 (by decide) (fun c0 => ?_) (fun c0 => ?_)
  · skip
    refine r_iconst (v := (-1)) dX11_refuseGuessed_10 rfl ?_
    exact r_ret (some (.int (-1 : Int32))) dX11_refuseGuessed_11 rfl (pq0 c0)
  · skip
    refine r_iload_n dX11_refuseGuessed_4 rfl 1 rfl ?_
    refine r_bipush (v := (nI 8)) dX11_refuseGuessed_5 rfl ?_
    refine r_icmp_lt (tgt := 12) dX11_refuseGuessed_7 (by decide) (fun c1 => ?_) (fun c1 => ?_)
    · skip
      refine r_aload_n dX11_refuseGuessed_12 rfl 0 rfl ?_
      refine r_getR ck9 dX11_refuseGuessed_13 flX11_38 rfl k0 ?_
      refine r_getR ck2 dX11_refuseGuessed_16 flX11_166 rfl k1 ?_
      obtain ⟨e9, hlt, h9⟩ := (pf1 c0 c1)
      rcases hnk2 with rfl | rfl
      · exact r_callU (As := []) (rest := []) (ci := 4) (x := yX3_hasGuess) (owner := "AskingPupil$Notes") moX3_hasGuess dX11_refuseGuessed_19 mlX11_170 smX3_hasGuess imX3_hasGuess suX6_X3_hasGuess ⟨by decide +kernel, by decide +kernel⟩ (Or.inl rfl) k2 rfl hlt (Nat.le_of_ble_eq_true rfl) h9
      · exact r_callU (As := []) (rest := []) (ci := 6) (x := yX3_hasGuess) (owner := "AskingPupil$Notes") moX3_hasGuess dX11_refuseGuessed_19 mlX11_170 smX3_hasGuess imX3_hasGuess suX8_X3_hasGuess ⟨by decide +kernel, by decide +kernel⟩ (Or.inl rfl) k2 rfl hlt (Nat.le_of_ble_eq_true rfl) h9
    · skip
      refine r_iconst (v := (-1)) dX11_refuseGuessed_10 rfl ?_
      exact r_ret (some (.int (-1 : Int32))) dX11_refuseGuessed_11 rfl (pq2 c0 c1)
theorem gX11_refuseGuessed_22 {d : Nat} {Q : Option Value → Mem → Prop} {M : Mem} {a0 : Nat} {x1 : Int32} {sx0 : Int32} (k0 : mK M a0 = 13) (k1 : mK M (mR M a0 4) = 6) {cnk2 : Nat} (hnk2 : NT cnk2) (k2 : mK M (mR M (mR M a0 4) 3) = cnk2 + 4) (k3 : mK M (mR M (mR M (mR M a0 4) 3) 4) = 5) (pq0 : ¬ sx0 = 0 → (mI M (mR M (mR M (mR M a0 4) 3) 4) 0) ≤ x1 → Q (some (.int (-1 : Int32))) M) (pq1 : ¬ sx0 = 0 → ¬ (mI M (mR M (mR M (mR M a0 4) 3) 4) 0) ≤ x1 → Q (some (.int (nI 0))) M) (pq2 : sx0 = 0 → Q (some (.int (-2 : Int32))) M) : Wp d mdX11_refuseGuessed 22 [(0, .ref a0), (1, .int x1)] [.int sx0] M Q := by
  refine r_if_ne (tgt := 28) dX11_refuseGuessed_22 (by decide) (fun c0 => ?_) (fun c0 => ?_)
  · skip
    refine r_iload_n dX11_refuseGuessed_28 rfl 1 rfl ?_
    refine r_aload_n dX11_refuseGuessed_29 rfl 0 rfl ?_
    refine r_getR ck9 dX11_refuseGuessed_30 flX11_38 rfl k0 ?_
    refine r_getR ck2 dX11_refuseGuessed_33 flX11_166 rfl k1 ?_
    refine r_getR (ckN hnk2) dX11_refuseGuessed_36 (flX11_198 hnk2) (by rcases hnk2 with rfl | rfl <;> rfl) k2 ?_
    refine r_getI ck1 dX11_refuseGuessed_39 flX11_201 rfl k3 ?_
    refine r_icmp_ge (tgt := 49) dX11_refuseGuessed_42 (by decide) (fun c1 => ?_) (fun c1 => ?_)
    · skip
      refine r_iconst (v := (-1)) dX11_refuseGuessed_49 rfl ?_
      exact r_ret (some (.int (-1 : Int32))) dX11_refuseGuessed_50 rfl (pq0 c0 c1)
    · skip
      refine r_iconst (v := (nI 0)) dX11_refuseGuessed_45 rfl ?_
      refine r_goto (tgt := 50) dX11_refuseGuessed_46 (by decide) ?_
      exact r_ret (some (.int (nI 0))) dX11_refuseGuessed_50 rfl (pq1 c0 c1)
  · skip
    refine r_bipush (v := (-2)) dX11_refuseGuessed_25 rfl ?_
    exact r_ret (some (.int (-2 : Int32))) dX11_refuseGuessed_27 rfl (pq2 c0)
-- X11_unlikeReached
theorem gX11_unlikeReached_0 {d : Nat} {Q : Option Value → Mem → Prop} {M : Mem} {a0 : Nat} (k0 : mK M a0 = 13) (k1 : mK M (mR M a0 0) = 5) (pf0 : ClD d mdX2_part [.ref (mR M a0 0), .int (nI 7), .ref (mR M a0 8)] M (fun r1 M1 => Wp d mdX11_unlikeReached 13 [(0, .ref a0)] (r1.toList ++ []) M1 Q)) : Wp d mdX11_unlikeReached 0 [(0, .ref a0)] [] M Q := by
  refine r_aload_n dX11_unlikeReached_0 rfl 0 rfl ?_
  refine r_getR ck9 dX11_unlikeReached_1 flX11_10 rfl k0 ?_
  refine r_bipush (v := (nI 7)) dX11_unlikeReached_4 rfl ?_
  refine r_aload_n dX11_unlikeReached_6 rfl 0 rfl ?_
  refine r_getR ck9 dX11_unlikeReached_7 flX11_61 rfl k0 ?_
  obtain ⟨e9, hlt, h9⟩ := pf0
  exact r_callV (As := [.int (nI 7), .ref (mR M a0 8)]) (rest := []) (ci := 1) moX2_part dX11_unlikeReached_10 mlX11_308 imX2_part seX2_part k1 rfl hlt (Nat.le_of_ble_eq_true rfl) h9
theorem gX11_unlikeReached_13 {d : Nat} {Q : Option Value → Mem → Prop} {M : Mem} {a0 : Nat} {sx0 : Int32} (k0 : mK M a0 = 13) (k1 : mK M (mR M a0 3) = 7) (pf0 : ClD d mdX5_walk [.ref (mR M a0 3), .ref (mR M a0 0)] M (fun r1 M1 => Wp d mdX11_unlikeReached 25 [(0, .ref a0)] (r1.toList ++ []) M1 Q)) : Wp d mdX11_unlikeReached 13 [(0, .ref a0)] [.int sx0] M Q := by
  refine r_pop dX11_unlikeReached_13 rfl ?_
  refine r_aload_n dX11_unlikeReached_14 rfl 0 rfl ?_
  refine r_getR ck9 dX11_unlikeReached_15 flX11_29 rfl k0 ?_
  refine r_aload_n dX11_unlikeReached_18 rfl 0 rfl ?_
  refine r_getR ck9 dX11_unlikeReached_19 flX11_10 rfl k0 ?_
  obtain ⟨e9, hlt, h9⟩ := pf0
  exact r_callV (As := [.ref (mR M a0 0)]) (rest := []) (ci := 3) moX5_walk dX11_unlikeReached_22 mlX11_302 imX5_walk seX5_walk k1 rfl hlt (Nat.le_of_ble_eq_true rfl) h9
theorem gX11_unlikeReached_25 {d : Nat} {Q : Option Value → Mem → Prop} {M : Mem} {a0 : Nat}  (pw0 : Wp d mdX11_unlikeReached 29 [(0, .ref a0), (1, .int (nI 0)), (2, .int (nI 0))] [] M Q) : Wp d mdX11_unlikeReached 25 [(0, .ref a0)] [] M Q := by
  refine r_iconst (v := (nI 0)) dX11_unlikeReached_25 rfl ?_
  refine r_istore_n dX11_unlikeReached_26 rfl (by decide) (ls' := [(1, .int (nI 0)), (0, .ref a0)]) rfl ?_
  refine r_iconst (v := (nI 0)) dX11_unlikeReached_27 rfl ?_
  refine r_istore_n dX11_unlikeReached_28 rfl (by decide) (ls' := [(2, .int (nI 0)), (1, .int (nI 0)), (0, .ref a0)]) rfl ?_
  refine r_sub [2, 1, 0] (ls' := [(0, .ref a0), (1, .int (nI 0)), (2, .int (nI 0))]) rfl ?_
  exact pw0
theorem gX11_unlikeReached_29 {d : Nat} {Q : Option Value → Mem → Prop} {M : Mem} {a0 : Nat} {x1 : Int32} {x2 : Int32} (k0 : mK M a0 = 13) (k1 : mK M (mR M a0 0) = 5) (pq0 : (mI M (mR M a0 0) 0) ≤ x2 → Q (some (.int x1)) M) (pf1 : ¬ (mI M (mR M a0 0) 0) ≤ x2 → ClD d mdX11_isGroupReached [.ref a0, .int x2] M (fun r1 M1 => Wp d mdX11_unlikeReached 45 [(0, .ref a0), (1, .int x1), (2, .int x2)] (r1.toList ++ []) M1 Q)) : Wp d mdX11_unlikeReached 29 [(0, .ref a0), (1, .int x1), (2, .int x2)] [] M Q := by
  refine r_iload_n dX11_unlikeReached_29 rfl 2 rfl ?_
  refine r_aload_n dX11_unlikeReached_30 rfl 0 rfl ?_
  refine r_getR ck9 dX11_unlikeReached_31 flX11_10 rfl k0 ?_
  refine r_getI ck1 dX11_unlikeReached_34 flX11_201 rfl k1 ?_
  refine r_icmp_ge (tgt := 57) dX11_unlikeReached_37 (by decide) (fun c0 => ?_) (fun c0 => ?_)
  · skip
    refine r_iload_n dX11_unlikeReached_57 rfl 1 rfl ?_
    exact r_ret (some (.int x1)) dX11_unlikeReached_58 rfl (pq0 c0)
  · skip
    refine r_aload_n dX11_unlikeReached_40 rfl 0 rfl ?_
    refine r_iload_n dX11_unlikeReached_41 rfl 2 rfl ?_
    obtain ⟨e9, hlt, h9⟩ := (pf1 c0)
    exact r_callV (As := [.int x2]) (rest := []) (ci := 9) moX11_isGroupReached dX11_unlikeReached_42 mlX11_328 imX11_isGroupReached seX11_isGroupReached k0 rfl hlt (Nat.le_of_ble_eq_true rfl) h9
theorem gX11_unlikeReached_45 {d : Nat} {Q : Option Value → Mem → Prop} {M : Mem} {a0 : Nat} {x1 : Int32} {x2 : Int32} {sx0 : Int32}  (pw0 : sx0 = 0 → Wp d mdX11_unlikeReached 29 [(0, .ref a0), (1, .int x1), (2, .int (x2 + (nI 1)))] [] M Q) (pw1 : ¬ sx0 = 0 → Wp d mdX11_unlikeReached 29 [(0, .ref a0), (1, .int (x1 + (nI 1))), (2, .int (x2 + (nI 1)))] [] M Q) : Wp d mdX11_unlikeReached 45 [(0, .ref a0), (1, .int x1), (2, .int x2)] [.int sx0] M Q := by
  refine r_if_eq (tgt := 51) dX11_unlikeReached_45 (by decide) (fun c0 => ?_) (fun c0 => ?_)
  · skip
    refine r_iinc dX11_unlikeReached_51 2 rfl (v := x2 + (nI 1)) rfl (by decide) (ls' := [(2, .int (x2 + (nI 1))), (0, .ref a0), (1, .int x1)]) rfl ?_
    refine r_goto (tgt := 29) dX11_unlikeReached_54 (by decide) ?_
    refine r_sub [1, 2, 0] (ls' := [(0, .ref a0), (1, .int x1), (2, .int (x2 + (nI 1)))]) rfl ?_
    exact (pw0 c0)
  · skip
    refine r_iinc dX11_unlikeReached_48 1 rfl (v := x1 + (nI 1)) rfl (by decide) (ls' := [(1, .int (x1 + (nI 1))), (0, .ref a0), (2, .int x2)]) rfl ?_
    refine r_iinc dX11_unlikeReached_51 2 rfl (v := x2 + (nI 1)) rfl (by decide) (ls' := [(2, .int (x2 + (nI 1))), (1, .int (x1 + (nI 1))), (0, .ref a0)]) rfl ?_
    refine r_goto (tgt := 29) dX11_unlikeReached_54 (by decide) ?_
    refine r_sub [2, 1, 0] (ls' := [(0, .ref a0), (1, .int (x1 + (nI 1))), (2, .int (x2 + (nI 1)))]) rfl ?_
    exact (pw1 c0)
-- X11_isGroupReached
theorem gX11_isGroupReached_0 {d : Nat} {Q : Option Value → Mem → Prop} {M : Mem} {a0 : Nat} {x1 : Int32}  (pw0 : Wp d mdX11_isGroupReached 2 [(0, .ref a0), (1, .int x1), (2, .int (nI 0))] [] M Q) : Wp d mdX11_isGroupReached 0 [(0, .ref a0), (1, .int x1)] [] M Q := by
  refine r_iconst (v := (nI 0)) dX11_isGroupReached_0 rfl ?_
  refine r_istore_n dX11_isGroupReached_1 rfl (by decide) (ls' := [(2, .int (nI 0)), (0, .ref a0), (1, .int x1)]) rfl ?_
  refine r_sub [1, 2, 0] (ls' := [(0, .ref a0), (1, .int x1), (2, .int (nI 0))]) rfl ?_
  exact pw0
theorem gX11_isGroupReached_2 {d : Nat} {Q : Option Value → Mem → Prop} {M : Mem} {a0 : Nat} {x1 : Int32} {x2 : Int32} (k0 : mK M a0 = 13) (k1 : mK M (mR M a0 0) = 5) (k2 : mK M (mR M a0 8) = 1) (k3 : mK M (mR M a0 3) = 7) (pq0 : (mI M (mR M a0 0) 0) ≤ x2 → Q (some (.int (nI 0))) M) (pq1 : ¬ (mI M (mR M a0 0) 0) ≤ x2 → (nI (mN M (mR M a0 8))) ≤ x2 → Q (some (.int (nI 0))) M) (pb2 : ¬ (mI M (mR M a0 0) 0) ≤ x2 → ¬ (nI (mN M (mR M a0 8))) ≤ x2 → vp_in x2 (mN M (mR M a0 8))) (pw3 : ¬ (mI M (mR M a0 0) 0) ≤ x2 → ¬ (nI (mN M (mR M a0 8))) ≤ x2 → ¬ (mI M (mR M a0 8) x2.toNatClampNeg) = x1 → Wp d mdX11_isGroupReached 2 [(0, .ref a0), (1, .int x1), (2, .int (x2 + (nI 1)))] [] M Q) (pf4 : ¬ (mI M (mR M a0 0) 0) ≤ x2 → ¬ (nI (mN M (mR M a0 8))) ≤ x2 → (mI M (mR M a0 8) x2.toNatClampNeg) = x1 → ClD d mdX5_firstTo [.ref (mR M a0 3), .int x2, .int x2] M (fun r1 M1 => Wp d mdX11_isGroupReached 41 [(0, .ref a0), (1, .int x1), (2, .int x2)] (r1.toList ++ []) M1 Q)) : Wp d mdX11_isGroupReached 2 [(0, .ref a0), (1, .int x1), (2, .int x2)] [] M Q := by
  refine r_iload_n dX11_isGroupReached_2 rfl 2 rfl ?_
  refine r_aload_n dX11_isGroupReached_3 rfl 0 rfl ?_
  refine r_getR ck9 dX11_isGroupReached_4 flX11_10 rfl k0 ?_
  refine r_getI ck1 dX11_isGroupReached_7 flX11_201 rfl k1 ?_
  refine r_icmp_ge (tgt := 54) dX11_isGroupReached_10 (by decide) (fun c0 => ?_) (fun c0 => ?_)
  · skip
    refine r_iconst (v := (nI 0)) dX11_isGroupReached_54 rfl ?_
    exact r_ret (some (.int (nI 0))) dX11_isGroupReached_55 rfl (pq0 c0)
  · skip
    refine r_iload_n dX11_isGroupReached_13 rfl 2 rfl ?_
    refine r_aload_n dX11_isGroupReached_14 rfl 0 rfl ?_
    refine r_getR ck9 dX11_isGroupReached_15 flX11_61 rfl k0 ?_
    refine r_alen dX11_isGroupReached_18 (Or.inl k2) ?_
    refine r_icmp_ge (tgt := 54) dX11_isGroupReached_19 (by decide) (fun c1 => ?_) (fun c1 => ?_)
    · skip
      refine r_iconst (v := (nI 0)) dX11_isGroupReached_54 rfl ?_
      exact r_ret (some (.int (nI 0))) dX11_isGroupReached_55 rfl (pq1 c0 c1)
    · skip
      refine r_aload_n dX11_isGroupReached_22 rfl 0 rfl ?_
      refine r_getR ck9 dX11_isGroupReached_23 flX11_61 rfl k0 ?_
      refine r_iload_n dX11_isGroupReached_26 rfl 2 rfl ?_
      refine r_iald dX11_isGroupReached_27 k2 (pb2 c0 c1) ?_
      refine r_iload_n dX11_isGroupReached_28 rfl 1 rfl ?_
      refine r_icmp_ne (tgt := 48) dX11_isGroupReached_29 (by decide) (fun c2 => ?_) (fun c2 => ?_)
      · skip
        refine r_iinc dX11_isGroupReached_48 2 rfl (v := x2 + (nI 1)) rfl (by decide) (ls' := [(2, .int (x2 + (nI 1))), (0, .ref a0), (1, .int x1)]) rfl ?_
        refine r_goto (tgt := 2) dX11_isGroupReached_51 (by decide) ?_
        refine r_sub [1, 2, 0] (ls' := [(0, .ref a0), (1, .int x1), (2, .int (x2 + (nI 1)))]) rfl ?_
        exact (pw3 c0 c1 c2)
      · skip
        refine r_aload_n dX11_isGroupReached_32 rfl 0 rfl ?_
        refine r_getR ck9 dX11_isGroupReached_33 flX11_29 rfl k0 ?_
        refine r_iload_n dX11_isGroupReached_36 rfl 2 rfl ?_
        refine r_iload_n dX11_isGroupReached_37 rfl 2 rfl ?_
        obtain ⟨e9, hlt, h9⟩ := (pf4 c0 c1 c2)
        exact r_callV (As := [.int x2, .int x2]) (rest := []) (ci := 3) moX5_firstTo dX11_isGroupReached_38 mlX11_305 imX5_firstTo seX5_firstTo k3 rfl hlt (Nat.le_of_ble_eq_true rfl) h9
theorem gX11_isGroupReached_41 {d : Nat} {Q : Option Value → Mem → Prop} {M : Mem} {a0 : Nat} {x1 : Int32} {x2 : Int32} {sw0 : Int64}  (pw0 : sw0 = (lN 0) → Wp d mdX11_isGroupReached 2 [(0, .ref a0), (1, .int x1), (2, .int (x2 + (nI 1)))] [] M Q) (pq1 : ¬ sw0 = (lN 0) → Q (some (.int (nI 1))) M) : Wp d mdX11_isGroupReached 41 [(0, .ref a0), (1, .int x1), (2, .int x2)] [.long sw0] M Q := by
  refine r_lconst (v := (lN 0)) dX11_isGroupReached_41 rfl ?_
  refine r_lif_eq (tgt := 48) dX11_isGroupReached_42 dX11_isGroupReached_43 (by decide) (fun c0 => ?_) (fun c0 => ?_)
  · skip
    refine r_iinc dX11_isGroupReached_48 2 rfl (v := x2 + (nI 1)) rfl (by decide) (ls' := [(2, .int (x2 + (nI 1))), (0, .ref a0), (1, .int x1)]) rfl ?_
    refine r_goto (tgt := 2) dX11_isGroupReached_51 (by decide) ?_
    refine r_sub [1, 2, 0] (ls' := [(0, .ref a0), (1, .int x1), (2, .int (x2 + (nI 1)))]) rfl ?_
    exact (pw0 c0)
  · skip
    refine r_iconst (v := (nI 1)) dX11_isGroupReached_46 rfl ?_
    exact r_ret (some (.int (nI 1))) dX11_isGroupReached_47 rfl (pq1 c0)
-- X11_gatherTrials
theorem gX11_gatherTrials_0 {d : Nat} {Q : Option Value → Mem → Prop} {M : Mem} {a0 : Nat} {x1 : Int32} (k0 : mK M a0 = 13) (k1 : mK M (mR M a0 4) = 6) {cnk2 : Nat} (hnk2 : NT cnk2) (k2 : mK M (mR M (mR M a0 4) 3) = cnk2 + 4) (pf0 : ClD d mdX11_gatherPartings [.ref a0, .ref (mR M (mR M (mR M a0 4) 3) 4)] M (fun r1 M1 => Wp d mdX11_gatherTrials 16 [(0, .ref a0), (1, .int x1), (2, .ref (mR M (mR M (mR M a0 4) 3) 4))] (r1.toList ++ []) M1 Q)) : Wp d mdX11_gatherTrials 0 [(0, .ref a0), (1, .int x1)] [] M Q := by
  refine r_aload_n dX11_gatherTrials_0 rfl 0 rfl ?_
  refine r_getR ck9 dX11_gatherTrials_1 flX11_38 rfl k0 ?_
  refine r_getR ck2 dX11_gatherTrials_4 flX11_166 rfl k1 ?_
  refine r_getR (ckN hnk2) dX11_gatherTrials_7 (flX11_198 hnk2) (by rcases hnk2 with rfl | rfl <;> rfl) k2 ?_
  refine r_astore_n dX11_gatherTrials_10 rfl (by decide) (ls' := [(2, .ref (mR M (mR M (mR M a0 4) 3) 4)), (0, .ref a0), (1, .int x1)]) rfl ?_
  refine r_aload_n dX11_gatherTrials_11 rfl 1 rfl ?_
  refine r_aload_n dX11_gatherTrials_12 rfl 0 rfl ?_
  refine r_sub [1, 2, 0] (ls' := [(0, .ref a0), (1, .int x1), (2, .ref (mR M (mR M (mR M a0 4) 3) 4))]) rfl ?_
  obtain ⟨e9, hlt, h9⟩ := pf0
  exact r_callV (As := [.ref (mR M (mR M (mR M a0 4) 3) 4)]) (rest := []) (ci := 9) moX11_gatherPartings dX11_gatherTrials_13 mlX11_331 imX11_gatherPartings seX11_gatherPartings k0 rfl hlt (Nat.le_of_ble_eq_true rfl) h9
theorem gX11_gatherTrials_16 {d : Nat} {Q : Option Value → Mem → Prop} {M : Mem} {a0 : Nat} {x1 : Int32} {a2 : Nat} (k0 : mK M a0 = 13) (k1 : mK M (mR M a0 6) = 12) (pf0 : ClD d mdX10_clear [.ref (mR M a0 6)] M (fun r1 M1 => Wp d mdX11_gatherTrials 23 [(0, .ref a0), (1, .int x1), (2, .ref a2)] (r1.toList ++ []) M1 Q)) : Wp d mdX11_gatherTrials 16 [(0, .ref a0), (1, .int x1), (2, .ref a2)] [] M Q := by
  refine r_aload_n dX11_gatherTrials_16 rfl 0 rfl ?_
  refine r_getR ck9 dX11_gatherTrials_17 flX11_48 rfl k0 ?_
  obtain ⟨e9, hlt, h9⟩ := pf0
  exact r_callV (As := []) (rest := []) (ci := 8) moX10_clear dX11_gatherTrials_20 mlX11_334 imX10_clear seX10_clear k1 rfl hlt (Nat.le_of_ble_eq_true rfl) h9
theorem gX11_gatherTrials_23 {d : Nat} {Q : Option Value → Mem → Prop} {M : Mem} {a0 : Nat} {x1 : Int32} {a2 : Nat} (k0 : mK M a0 = 13) (k1 : mK M (mR M a0 3) = 7) (pf0 : ClD d mdX5_walk [.ref (mR M a0 3), .ref a2] M (fun r1 M1 => Wp d mdX11_gatherTrials 31 [(0, .ref a0), (1, .int x1), (2, .ref a2)] (r1.toList ++ []) M1 Q)) : Wp d mdX11_gatherTrials 23 [(0, .ref a0), (1, .int x1), (2, .ref a2)] [] M Q := by
  refine r_aload_n dX11_gatherTrials_23 rfl 0 rfl ?_
  refine r_getR ck9 dX11_gatherTrials_24 flX11_29 rfl k0 ?_
  refine r_aload_n dX11_gatherTrials_27 rfl 2 rfl ?_
  obtain ⟨e9, hlt, h9⟩ := pf0
  exact r_callV (As := [.ref a2]) (rest := []) (ci := 3) moX5_walk dX11_gatherTrials_28 mlX11_302 imX5_walk seX5_walk k1 rfl hlt (Nat.le_of_ble_eq_true rfl) h9
theorem gX11_gatherTrials_31 {d : Nat} {Q : Option Value → Mem → Prop} {M : Mem} {a0 : Nat} {x1 : Int32} {a2 : Nat} (k0 : mK M a2 = 5) (pf0 : ClD d mdX1_countUpTo [.int (x1 + (nI 1)), .int (mI M a2 1)] M (fun r1 M1 => Wp d mdX11_gatherTrials 41 [(0, .ref a0), (2, .ref a2)] (r1.toList ++ []) M1 Q)) : Wp d mdX11_gatherTrials 31 [(0, .ref a0), (1, .int x1), (2, .ref a2)] [] M Q := by
  refine r_iload_n dX11_gatherTrials_31 rfl 1 rfl ?_
  refine r_iconst (v := (nI 1)) dX11_gatherTrials_32 rfl ?_
  refine r_iadd dX11_gatherTrials_33 ?_
  refine r_aload_n dX11_gatherTrials_34 rfl 2 rfl ?_
  refine r_getI ck1 dX11_gatherTrials_35 flX11_124 rfl k0 ?_
  refine r_sub [0, 2] (ls' := [(0, .ref a0), (2, .ref a2)]) rfl ?_
  obtain ⟨e9, hlt, h9⟩ := pf0
  exact r_callS (As := [.int (x1 + (nI 1)), .int (mI M a2 1)]) (rest := []) moX1_countUpTo dX11_gatherTrials_38 mlX11_280 saX1_countUpTo rfl hlt (Nat.le_of_ble_eq_true rfl) h9
theorem gX11_gatherTrials_41 {d : Nat} {Q : Option Value → Mem → Prop} {M : Mem} {a0 : Nat} {a2 : Nat} {sx0 : Int32}  (pw0 : Wp d mdX11_gatherTrials 45 [(0, .ref a0), (2, .ref a2), (3, .int sx0), (4, .int (nI 0))] [] M Q) : Wp d mdX11_gatherTrials 41 [(0, .ref a0), (2, .ref a2)] [.int sx0] M Q := by
  refine r_istore_n dX11_gatherTrials_41 rfl (by decide) (ls' := [(3, .int sx0), (0, .ref a0), (2, .ref a2)]) rfl ?_
  refine r_iconst (v := (nI 0)) dX11_gatherTrials_42 rfl ?_
  refine r_istore dX11_gatherTrials_43 (by decide) (ls' := [(4, .int (nI 0)), (3, .int sx0), (0, .ref a0), (2, .ref a2)]) rfl ?_
  refine r_sub [2, 3, 1, 0] (ls' := [(0, .ref a0), (2, .ref a2), (3, .int sx0), (4, .int (nI 0))]) rfl ?_
  exact pw0
theorem gX11_gatherTrials_45 {d : Nat} {Q : Option Value → Mem → Prop} {M : Mem} {a0 : Nat} {a2 : Nat} {x3 : Int32} {x4 : Int32} (k0 : mK M a2 = 5) (k1 : mK M a0 = 13) (k2 : mK M (mR M a0 3) = 7) (pq0 : (mI M a2 0) ≤ x4 → Q none M) (pf1 : ¬ (mI M a2 0) ≤ x4 → ClD d mdX5_firstTo [.ref (mR M a0 3), .int x4, .int x4] M (fun r1 M1 => Wp d mdX11_gatherTrials 65 [(0, .ref a0), (2, .ref a2), (3, .int x3), (4, .int x4)] (r1.toList ++ []) M1 Q)) : Wp d mdX11_gatherTrials 45 [(0, .ref a0), (2, .ref a2), (3, .int x3), (4, .int x4)] [] M Q := by
  refine r_iload dX11_gatherTrials_45 3 rfl ?_
  refine r_aload_n dX11_gatherTrials_47 rfl 1 rfl ?_
  refine r_getI ck1 dX11_gatherTrials_48 flX11_201 rfl k0 ?_
  refine r_icmp_ge (tgt := 113) dX11_gatherTrials_51 (by decide) (fun c0 => ?_) (fun c0 => ?_)
  · skip
    exact r_ret none dX11_gatherTrials_113 rfl (pq0 c0)
  · skip
    refine r_aload_n dX11_gatherTrials_54 rfl 0 rfl ?_
    refine r_getR ck9 dX11_gatherTrials_55 flX11_29 rfl k1 ?_
    refine r_iload dX11_gatherTrials_58 3 rfl ?_
    refine r_iload dX11_gatherTrials_60 3 rfl ?_
    obtain ⟨e9, hlt, h9⟩ := (pf1 c0)
    exact r_callV (As := [.int x4, .int x4]) (rest := []) (ci := 3) moX5_firstTo dX11_gatherTrials_62 mlX11_305 imX5_firstTo seX5_firstTo k2 rfl hlt (Nat.le_of_ble_eq_true rfl) h9
theorem gX11_gatherTrials_65 {d : Nat} {Q : Option Value → Mem → Prop} {M : Mem} {a0 : Nat} {a2 : Nat} {x3 : Int32} {x4 : Int32} {sw0 : Int64}  (pw0 : Wp d mdX11_gatherTrials 70 [(0, .ref a0), (2, .ref a2), (3, .int x3), (4, .int x4), (5, .long sw0), (7, .int (nI 0))] [] M Q) : Wp d mdX11_gatherTrials 65 [(0, .ref a0), (2, .ref a2), (3, .int x3), (4, .int x4)] [.long sw0] M Q := by
  refine r_lstore dX11_gatherTrials_65 (by decide) (ls' := [(5, .long sw0), (0, .ref a0), (2, .ref a2), (3, .int x3), (4, .int x4)]) rfl ?_
  refine r_iconst (v := (nI 0)) dX11_gatherTrials_67 rfl ?_
  refine r_istore dX11_gatherTrials_68 (by decide) (ls' := [(7, .int (nI 0)), (5, .long sw0), (0, .ref a0), (2, .ref a2), (3, .int x3), (4, .int x4)]) rfl ?_
  refine r_sub [2, 3, 4, 5, 1, 0] (ls' := [(0, .ref a0), (2, .ref a2), (3, .int x3), (4, .int x4), (5, .long sw0), (7, .int (nI 0))]) rfl ?_
  exact pw0
theorem gX11_gatherTrials_70 {d : Nat} {Q : Option Value → Mem → Prop} {M : Mem} {a0 : Nat} {a2 : Nat} {x3 : Int32} {x4 : Int32} {w5 : Int64} {x7 : Int32} (k0 : mK M a2 = 5) (pw0 : x3 ≤ x7 → Wp d mdX11_gatherTrials 45 [(0, .ref a0), (2, .ref a2), (3, .int x3), (4, .int (x4 + (nI 1)))] [] M Q) (pw1 : ¬ x3 ≤ x7 → w5 = (lN 0) → Wp d mdX11_gatherTrials 45 [(0, .ref a0), (2, .ref a2), (3, .int x3), (4, .int (x4 + (nI 1)))] [] M Q) (pf2 : ¬ x3 ≤ x7 → ¬ w5 = (lN 0) → ClD d mdX1_kth [.int x7, .int (mI M a2 1)] M (fun r1 M1 => Wp d mdX11_gatherTrials 95 [(0, .ref a0), (2, .ref a2), (3, .int x3), (4, .int x4), (5, .long w5), (7, .int x7)] (r1.toList ++ [.long w5, .ref a0]) M1 Q)) : Wp d mdX11_gatherTrials 70 [(0, .ref a0), (2, .ref a2), (3, .int x3), (4, .int x4), (5, .long w5), (7, .int x7)] [] M Q := by
  refine r_iload dX11_gatherTrials_70 5 rfl ?_
  refine r_iload_n dX11_gatherTrials_72 rfl 2 rfl ?_
  refine r_icmp_ge (tgt := 107) dX11_gatherTrials_73 (by decide) (fun c0 => ?_) (fun c0 => ?_)
  · skip
    refine r_iinc dX11_gatherTrials_107 3 rfl (v := x4 + (nI 1)) rfl (by decide) (ls' := [(4, .int (x4 + (nI 1))), (0, .ref a0), (2, .ref a2), (3, .int x3), (5, .long w5), (7, .int x7)]) rfl ?_
    refine r_goto (tgt := 45) dX11_gatherTrials_110 (by decide) ?_
    refine r_sub [1, 2, 3, 0] (ls' := [(0, .ref a0), (2, .ref a2), (3, .int x3), (4, .int (x4 + (nI 1)))]) rfl ?_
    exact (pw0 c0)
  · skip
    refine r_lload dX11_gatherTrials_76 4 rfl ?_
    refine r_lconst (v := (lN 0)) dX11_gatherTrials_78 rfl ?_
    refine r_lif_eq (tgt := 107) dX11_gatherTrials_79 dX11_gatherTrials_80 (by decide) (fun c1 => ?_) (fun c1 => ?_)
    · skip
      refine r_iinc dX11_gatherTrials_107 3 rfl (v := x4 + (nI 1)) rfl (by decide) (ls' := [(4, .int (x4 + (nI 1))), (0, .ref a0), (2, .ref a2), (3, .int x3), (5, .long w5), (7, .int x7)]) rfl ?_
      refine r_goto (tgt := 45) dX11_gatherTrials_110 (by decide) ?_
      refine r_sub [1, 2, 3, 0] (ls' := [(0, .ref a0), (2, .ref a2), (3, .int x3), (4, .int (x4 + (nI 1)))]) rfl ?_
      exact (pw1 c0 c1)
    · skip
      refine r_aload_n dX11_gatherTrials_83 rfl 0 rfl ?_
      refine r_lload dX11_gatherTrials_84 4 rfl ?_
      refine r_iload dX11_gatherTrials_86 5 rfl ?_
      refine r_aload_n dX11_gatherTrials_88 rfl 1 rfl ?_
      refine r_getI ck1 dX11_gatherTrials_89 flX11_124 rfl k0 ?_
      obtain ⟨e9, hlt, h9⟩ := (pf2 c0 c1)
      exact r_callS (As := [.int x7, .int (mI M a2 1)]) (rest := [.long w5, .ref a0]) moX1_kth dX11_gatherTrials_92 mlX11_142 saX1_kth rfl hlt (Nat.le_of_ble_eq_true rfl) h9
theorem gX11_gatherTrials_95 {d : Nat} {Q : Option Value → Mem → Prop} {M : Mem} {a0 : Nat} {a2 : Nat} {x3 : Int32} {x4 : Int32} {w5 : Int64} {x7 : Int32} {sw0 : Int64} {sw1 : Int64} {sa2 : Nat}  (pf0 : ClD d mdX1_join [.long sw1, .long sw0] M (fun r1 M1 => Wp d mdX11_gatherTrials 98 [(0, .ref a0), (2, .ref a2), (3, .int x3), (4, .int x4), (5, .long w5), (7, .int x7)] (r1.toList ++ [.ref sa2]) M1 Q)) : Wp d mdX11_gatherTrials 95 [(0, .ref a0), (2, .ref a2), (3, .int x3), (4, .int x4), (5, .long w5), (7, .int x7)] [.long sw0, .long sw1, .ref sa2] M Q := by
  obtain ⟨e9, hlt, h9⟩ := pf0
  exact r_callS (As := [.long sw1, .long sw0]) (rest := [.ref sa2]) moX1_join dX11_gatherTrials_95 mlX11_118 saX1_join rfl hlt (Nat.le_of_ble_eq_true rfl) h9
theorem gX11_gatherTrials_98 {d : Nat} {Q : Option Value → Mem → Prop} {M : Mem} {a0 : Nat} {a2 : Nat} {x3 : Int32} {x4 : Int32} {w5 : Int64} {x7 : Int32} {sw0 : Int64} {sa1 : Nat} (k0 : mK M sa1 = 13) (pf0 : ClD d mdX11_addTrials [.ref sa1, .long sw0] M (fun r1 M1 => Wp d mdX11_gatherTrials 101 [(0, .ref a0), (2, .ref a2), (3, .int x3), (4, .int x4), (5, .long w5), (7, .int x7)] (r1.toList ++ []) M1 Q)) : Wp d mdX11_gatherTrials 98 [(0, .ref a0), (2, .ref a2), (3, .int x3), (4, .int x4), (5, .long w5), (7, .int x7)] [.long sw0, .ref sa1] M Q := by
  obtain ⟨e9, hlt, h9⟩ := pf0
  exact r_callV (As := [.long sw0]) (rest := []) (ci := 9) moX11_addTrials dX11_gatherTrials_98 mlX11_337 imX11_addTrials seX11_addTrials k0 rfl hlt (Nat.le_of_ble_eq_true rfl) h9
theorem gX11_gatherTrials_101 {d : Nat} {Q : Option Value → Mem → Prop} {M : Mem} {a0 : Nat} {a2 : Nat} {x3 : Int32} {x4 : Int32} {w5 : Int64} {x7 : Int32}  (pw0 : Wp d mdX11_gatherTrials 70 [(0, .ref a0), (2, .ref a2), (3, .int x3), (4, .int x4), (5, .long w5), (7, .int (x7 + (nI 1)))] [] M Q) : Wp d mdX11_gatherTrials 101 [(0, .ref a0), (2, .ref a2), (3, .int x3), (4, .int x4), (5, .long w5), (7, .int x7)] [] M Q := by
  refine r_iinc dX11_gatherTrials_101 5 rfl (v := x7 + (nI 1)) rfl (by decide) (ls' := [(7, .int (x7 + (nI 1))), (0, .ref a0), (2, .ref a2), (3, .int x3), (4, .int x4), (5, .long w5)]) rfl ?_
  refine r_goto (tgt := 70) dX11_gatherTrials_104 (by decide) ?_
  refine r_sub [1, 2, 3, 4, 5, 0] (ls' := [(0, .ref a0), (2, .ref a2), (3, .int x3), (4, .int x4), (5, .long w5), (7, .int (x7 + (nI 1)))]) rfl ?_
  exact pw0
-- X11_addTrials
theorem gX11_addTrials_0 {d : Nat} {Q : Option Value → Mem → Prop} {M : Mem} {a0 : Nat} {w1 : Int64}  (pw0 : Wp d mdX11_addTrials 2 [(0, .ref a0), (1, .long w1), (3, .int (nI 0))] [] M Q) : Wp d mdX11_addTrials 0 [(0, .ref a0), (1, .long w1)] [] M Q := by
  refine r_iconst (v := (nI 0)) dX11_addTrials_0 rfl ?_
  refine r_istore_n dX11_addTrials_1 rfl (by decide) (ls' := [(3, .int (nI 0)), (0, .ref a0), (1, .long w1)]) rfl ?_
  refine r_sub [1, 2, 0] (ls' := [(0, .ref a0), (1, .long w1), (3, .int (nI 0))]) rfl ?_
  exact pw0
theorem gX11_addTrials_2 {d : Nat} {Q : Option Value → Mem → Prop} {M : Mem} {a0 : Nat} {w1 : Int64} {x3 : Int32} (k0 : mK M a0 = 13) (k1 : mK M (mR M a0 7) = 11) (k2 : mK M (mR M a0 6) = 12) (pq0 : (mI M (mR M a0 7) 0) ≤ x3 → Q none M) (pf1 : ¬ (mI M (mR M a0 7) 0) ≤ x3 → ClD d mdX10_makeRoom [.ref (mR M a0 6)] M (fun r1 M1 => Wp d mdX11_addTrials 20 [(0, .ref a0), (1, .long w1), (3, .int x3)] (r1.toList ++ []) M1 Q)) : Wp d mdX11_addTrials 2 [(0, .ref a0), (1, .long w1), (3, .int x3)] [] M Q := by
  refine r_iload_n dX11_addTrials_2 rfl 2 rfl ?_
  refine r_aload_n dX11_addTrials_3 rfl 0 rfl ?_
  refine r_getR ck9 dX11_addTrials_4 flX11_57 rfl k0 ?_
  refine r_getI ck7 dX11_addTrials_7 flX11_219 rfl k1 ?_
  refine r_icmp_ge (tgt := 46) dX11_addTrials_10 (by decide) (fun c0 => ?_) (fun c0 => ?_)
  · skip
    exact r_ret none dX11_addTrials_46 rfl (pq0 c0)
  · skip
    refine r_aload_n dX11_addTrials_13 rfl 0 rfl ?_
    refine r_getR ck9 dX11_addTrials_14 flX11_48 rfl k0 ?_
    obtain ⟨e9, hlt, h9⟩ := (pf1 c0)
    exact r_callV (As := []) (rest := []) (ci := 8) moX10_makeRoom dX11_addTrials_17 mlX11_340 imX10_makeRoom seX10_makeRoom k2 rfl hlt (Nat.le_of_ble_eq_true rfl) h9
theorem gX11_addTrials_20 {d : Nat} {Q : Option Value → Mem → Prop} {M : Mem} {a0 : Nat} {w1 : Int64} {x3 : Int32} (k0 : mK M a0 = 13) (k1 : mK M (mR M a0 7) = 11) (pf0 : ClD d mdX9_get [.ref (mR M a0 7), .int x3] M (fun r1 M1 => Wp d mdX11_addTrials 33 [(0, .ref a0), (1, .long w1), (3, .int x3)] (r1.toList ++ [.long w1, .ref (mR M a0 6)]) M1 Q)) : Wp d mdX11_addTrials 20 [(0, .ref a0), (1, .long w1), (3, .int x3)] [] M Q := by
  refine r_aload_n dX11_addTrials_20 rfl 0 rfl ?_
  refine r_getR ck9 dX11_addTrials_21 flX11_48 rfl k0 ?_
  refine r_lload_n dX11_addTrials_24 rfl 1 rfl ?_
  refine r_aload_n dX11_addTrials_25 rfl 0 rfl ?_
  refine r_getR ck9 dX11_addTrials_26 flX11_57 rfl k0 ?_
  refine r_iload_n dX11_addTrials_29 rfl 2 rfl ?_
  obtain ⟨e9, hlt, h9⟩ := pf0
  exact r_callV (As := [.int x3]) (rest := [.long w1, .ref (mR M a0 6)]) (ci := 7) moX9_get dX11_addTrials_30 mlX11_220 imX9_get seX9_get k1 rfl hlt (Nat.le_of_ble_eq_true rfl) h9
theorem gX11_addTrials_33 {d : Nat} {Q : Option Value → Mem → Prop} {M : Mem} {a0 : Nat} {w1 : Int64} {x3 : Int32} {sw0 : Int64} {sw1 : Int64} {sa2 : Nat}  (pf0 : ClD d mdX1_join [.long sw1, .long sw0] M (fun r1 M1 => Wp d mdX11_addTrials 36 [(0, .ref a0), (1, .long w1), (3, .int x3)] (r1.toList ++ [.ref sa2]) M1 Q)) : Wp d mdX11_addTrials 33 [(0, .ref a0), (1, .long w1), (3, .int x3)] [.long sw0, .long sw1, .ref sa2] M Q := by
  obtain ⟨e9, hlt, h9⟩ := pf0
  exact r_callS (As := [.long sw1, .long sw0]) (rest := [.ref sa2]) moX1_join dX11_addTrials_33 mlX11_118 saX1_join rfl hlt (Nat.le_of_ble_eq_true rfl) h9
theorem gX11_addTrials_36 {d : Nat} {Q : Option Value → Mem → Prop} {M : Mem} {a0 : Nat} {w1 : Int64} {x3 : Int32} {sw0 : Int64} {sa1 : Nat} (k0 : mK M sa1 = 12) (pf0 : ClD d mdX10_add [.ref sa1, .long sw0] M (fun r1 M1 => Wp d mdX11_addTrials 39 [(0, .ref a0), (1, .long w1), (3, .int x3)] (r1.toList ++ []) M1 Q)) : Wp d mdX11_addTrials 36 [(0, .ref a0), (1, .long w1), (3, .int x3)] [.long sw0, .ref sa1] M Q := by
  obtain ⟨e9, hlt, h9⟩ := pf0
  exact r_callV (As := [.long sw0]) (rest := []) (ci := 8) moX10_add dX11_addTrials_36 mlX11_343 imX10_add seX10_add k0 rfl hlt (Nat.le_of_ble_eq_true rfl) h9
theorem gX11_addTrials_39 {d : Nat} {Q : Option Value → Mem → Prop} {M : Mem} {a0 : Nat} {w1 : Int64} {x3 : Int32} {sx0 : Int32}  (pw0 : Wp d mdX11_addTrials 2 [(0, .ref a0), (1, .long w1), (3, .int (x3 + (nI 1)))] [] M Q) : Wp d mdX11_addTrials 39 [(0, .ref a0), (1, .long w1), (3, .int x3)] [.int sx0] M Q := by
  refine r_pop dX11_addTrials_39 rfl ?_
  refine r_iinc dX11_addTrials_40 2 rfl (v := x3 + (nI 1)) rfl (by decide) (ls' := [(3, .int (x3 + (nI 1))), (0, .ref a0), (1, .long w1)]) rfl ?_
  refine r_goto (tgt := 2) dX11_addTrials_43 (by decide) ?_
  refine r_sub [1, 2, 0] (ls' := [(0, .ref a0), (1, .long w1), (3, .int (x3 + (nI 1)))]) rfl ?_
  exact pw0
-- X11_gatherPartings
theorem gX11_gatherPartings_0 {d : Nat} {Q : Option Value → Mem → Prop} {M : Mem} {a0 : Nat} {a1 : Nat} (k0 : mK M a0 = 13) (k1 : mK M (mR M a0 7) = 11) (pf0 : ClD d mdX9_clear [.ref (mR M a0 7)] M (fun r1 M1 => Wp d mdX11_gatherPartings 7 [(0, .ref a0), (1, .ref a1)] (r1.toList ++ []) M1 Q)) : Wp d mdX11_gatherPartings 0 [(0, .ref a0), (1, .ref a1)] [] M Q := by
  refine r_aload_n dX11_gatherPartings_0 rfl 0 rfl ?_
  refine r_getR ck9 dX11_gatherPartings_1 flX11_57 rfl k0 ?_
  obtain ⟨e9, hlt, h9⟩ := pf0
  exact r_callV (As := []) (rest := []) (ci := 7) moX9_clear dX11_gatherPartings_4 mlX11_346 imX9_clear seX9_clear k1 rfl hlt (Nat.le_of_ble_eq_true rfl) h9
theorem gX11_gatherPartings_7 {d : Nat} {Q : Option Value → Mem → Prop} {M : Mem} {a0 : Nat} {a1 : Nat}  (pw0 : Wp d mdX11_gatherPartings 9 [(0, .ref a0), (1, .ref a1), (2, .int (nI 0))] [] M Q) : Wp d mdX11_gatherPartings 7 [(0, .ref a0), (1, .ref a1)] [] M Q := by
  refine r_iconst (v := (nI 0)) dX11_gatherPartings_7 rfl ?_
  refine r_istore_n dX11_gatherPartings_8 rfl (by decide) (ls' := [(2, .int (nI 0)), (0, .ref a0), (1, .ref a1)]) rfl ?_
  refine r_sub [1, 2, 0] (ls' := [(0, .ref a0), (1, .ref a1), (2, .int (nI 0))]) rfl ?_
  exact pw0
theorem gX11_gatherPartings_9 {d : Nat} {Q : Option Value → Mem → Prop} {M : Mem} {a0 : Nat} {a1 : Nat} {x2 : Int32} (k0 : mK M a1 = 5) (k1 : mK M a0 = 13) (k2 : mK M (mR M a0 7) = 11) (pw0 : (mI M a1 0) ≤ x2 → ¬ (mI M (mR M a0 7) 0) = 0 → Wp d mdX11_gatherPartings 100 [] [] M Q) (pf1 : (mI M a1 0) ≤ x2 → (mI M (mR M a0 7) 0) = 0 → ClD d mdX9_add [.ref (mR M a0 7), .long (lN 1)] M (fun r1 M1 => Wp d mdX11_gatherPartings 100 [] (r1.toList ++ []) M1 Q)) (pw2 : ¬ (mI M a1 0) ≤ x2 → Wp d mdX11_gatherPartings 21 [(0, .ref a0), (1, .ref a1), (2, .int x2), (3, .int (x2 + (nI 1)))] [] M Q) : Wp d mdX11_gatherPartings 9 [(0, .ref a0), (1, .ref a1), (2, .int x2)] [] M Q := by
  refine r_iload_n dX11_gatherPartings_9 rfl 2 rfl ?_
  refine r_aload_n dX11_gatherPartings_10 rfl 1 rfl ?_
  refine r_getI ck1 dX11_gatherPartings_11 flX11_201 rfl k0 ?_
  refine r_icmp_ge (tgt := 82) dX11_gatherPartings_14 (by decide) (fun c0 => ?_) (fun c0 => ?_)
  · skip
    refine r_aload_n dX11_gatherPartings_82 rfl 0 rfl ?_
    refine r_getR ck9 dX11_gatherPartings_83 flX11_57 rfl k1 ?_
    refine r_getI ck7 dX11_gatherPartings_86 flX11_219 rfl k2 ?_
    refine r_if_ne (tgt := 100) dX11_gatherPartings_89 (by decide) (fun c1 => ?_) (fun c1 => ?_)
    · skip
      refine r_sub [] (ls' := []) rfl ?_
      exact (pw0 c0 c1)
    · skip
      refine r_aload_n dX11_gatherPartings_92 rfl 0 rfl ?_
      refine r_getR ck9 dX11_gatherPartings_93 flX11_57 rfl k1 ?_
      refine r_lconst (v := (lN 1)) dX11_gatherPartings_96 rfl ?_
      refine r_sub [] (ls' := []) rfl ?_
      obtain ⟨e9, hlt, h9⟩ := (pf1 c0 c1)
      exact r_callV (As := [.long (lN 1)]) (rest := []) (ci := 7) moX9_add dX11_gatherPartings_97 mlX11_348 imX9_add seX9_add k2 rfl hlt (Nat.le_of_ble_eq_true rfl) h9
  · skip
    refine r_iload_n dX11_gatherPartings_17 rfl 2 rfl ?_
    refine r_iconst (v := (nI 1)) dX11_gatherPartings_18 rfl ?_
    refine r_iadd dX11_gatherPartings_19 ?_
    refine r_istore_n dX11_gatherPartings_20 rfl (by decide) (ls' := [(3, .int (x2 + (nI 1))), (0, .ref a0), (1, .ref a1), (2, .int x2)]) rfl ?_
    refine r_sub [1, 2, 3, 0] (ls' := [(0, .ref a0), (1, .ref a1), (2, .int x2), (3, .int (x2 + (nI 1)))]) rfl ?_
    exact (pw2 c0)
theorem gX11_gatherPartings_21 {d : Nat} {Q : Option Value → Mem → Prop} {M : Mem} {a0 : Nat} {a1 : Nat} {x2 : Int32} {x3 : Int32} (k0 : mK M a1 = 5) (k1 : mK M a0 = 13) (k2 : mK M (mR M a0 3) = 7) (pw0 : (mI M a1 0) ≤ x3 → Wp d mdX11_gatherPartings 9 [(0, .ref a0), (1, .ref a1), (2, .int (x2 + (nI 1)))] [] M Q) (pf1 : ¬ (mI M a1 0) ≤ x3 → ClD d mdX5_firstUnlike [.ref (mR M a0 3), .ref a1, .int x2, .ref a1, .int x3] M (fun r1 M1 => Wp d mdX11_gatherPartings 40 [(0, .ref a0), (1, .ref a1), (2, .int x2), (3, .int x3)] (r1.toList ++ []) M1 Q)) : Wp d mdX11_gatherPartings 21 [(0, .ref a0), (1, .ref a1), (2, .int x2), (3, .int x3)] [] M Q := by
  refine r_iload_n dX11_gatherPartings_21 rfl 3 rfl ?_
  refine r_aload_n dX11_gatherPartings_22 rfl 1 rfl ?_
  refine r_getI ck1 dX11_gatherPartings_23 flX11_201 rfl k0 ?_
  refine r_icmp_ge (tgt := 76) dX11_gatherPartings_26 (by decide) (fun c0 => ?_) (fun c0 => ?_)
  · skip
    refine r_iinc dX11_gatherPartings_76 2 rfl (v := x2 + (nI 1)) rfl (by decide) (ls' := [(2, .int (x2 + (nI 1))), (0, .ref a0), (1, .ref a1), (3, .int x3)]) rfl ?_
    refine r_goto (tgt := 9) dX11_gatherPartings_79 (by decide) ?_
    refine r_sub [1, 2, 0] (ls' := [(0, .ref a0), (1, .ref a1), (2, .int (x2 + (nI 1)))]) rfl ?_
    exact (pw0 c0)
  · skip
    refine r_aload_n dX11_gatherPartings_29 rfl 0 rfl ?_
    refine r_getR ck9 dX11_gatherPartings_30 flX11_29 rfl k1 ?_
    refine r_aload_n dX11_gatherPartings_33 rfl 1 rfl ?_
    refine r_iload_n dX11_gatherPartings_34 rfl 2 rfl ?_
    refine r_aload_n dX11_gatherPartings_35 rfl 1 rfl ?_
    refine r_iload_n dX11_gatherPartings_36 rfl 3 rfl ?_
    obtain ⟨e9, hlt, h9⟩ := (pf1 c0)
    exact r_callV (As := [.ref a1, .int x2, .ref a1, .int x3]) (rest := []) (ci := 3) moX5_firstUnlike dX11_gatherPartings_37 mlX11_270 imX5_firstUnlike seX5_firstUnlike k2 rfl hlt (Nat.le_of_ble_eq_true rfl) h9
theorem gX11_gatherPartings_40 {d : Nat} {Q : Option Value → Mem → Prop} {M : Mem} {a0 : Nat} {a1 : Nat} {x2 : Int32} {x3 : Int32} {sw0 : Int64} (k0 : mK M a0 = 13) (k1 : mK M (mR M a0 7) = 11) (pw0 : sw0 = (lN 0) → Wp d mdX11_gatherPartings 70 [(0, .ref a0), (1, .ref a1), (2, .int x2), (3, .int x3)] [] M Q) (pf1 : ¬ sw0 = (lN 0) → ClD d mdX9_has [.ref (mR M a0 7), .long sw0] M (fun r1 M1 => Wp d mdX11_gatherPartings 58 [(0, .ref a0), (1, .ref a1), (2, .int x2), (3, .int x3), (4, .long sw0)] (r1.toList ++ []) M1 Q)) : Wp d mdX11_gatherPartings 40 [(0, .ref a0), (1, .ref a1), (2, .int x2), (3, .int x3)] [.long sw0] M Q := by
  refine r_lstore dX11_gatherPartings_40 (by decide) (ls' := [(4, .long sw0), (0, .ref a0), (1, .ref a1), (2, .int x2), (3, .int x3)]) rfl ?_
  refine r_lload dX11_gatherPartings_42 0 rfl ?_
  refine r_lconst (v := (lN 0)) dX11_gatherPartings_44 rfl ?_
  refine r_lif_eq (tgt := 70) dX11_gatherPartings_45 dX11_gatherPartings_46 (by decide) (fun c0 => ?_) (fun c0 => ?_)
  · skip
    refine r_sub [1, 2, 3, 4] (ls' := [(0, .ref a0), (1, .ref a1), (2, .int x2), (3, .int x3)]) rfl ?_
    exact (pw0 c0)
  · skip
    refine r_aload_n dX11_gatherPartings_49 rfl 1 rfl ?_
    refine r_getR ck9 dX11_gatherPartings_50 flX11_57 rfl k0 ?_
    refine r_lload dX11_gatherPartings_53 0 rfl ?_
    refine r_sub [1, 2, 3, 4, 0] (ls' := [(0, .ref a0), (1, .ref a1), (2, .int x2), (3, .int x3), (4, .long sw0)]) rfl ?_
    obtain ⟨e9, hlt, h9⟩ := (pf1 c0)
    exact r_callV (As := [.long sw0]) (rest := []) (ci := 7) moX9_has dX11_gatherPartings_55 mlX11_347 imX9_has seX9_has k1 rfl hlt (Nat.le_of_ble_eq_true rfl) h9
theorem gX11_gatherPartings_58 {d : Nat} {Q : Option Value → Mem → Prop} {M : Mem} {a0 : Nat} {a1 : Nat} {x2 : Int32} {x3 : Int32} {w4 : Int64} {sx0 : Int32} (k0 : mK M a0 = 13) (k1 : mK M (mR M a0 7) = 11) (pw0 : ¬ sx0 = 0 → Wp d mdX11_gatherPartings 70 [(0, .ref a0), (1, .ref a1), (2, .int x2), (3, .int x3)] [] M Q) (pf1 : sx0 = 0 → ClD d mdX9_add [.ref (mR M a0 7), .long w4] M (fun r1 M1 => Wp d mdX11_gatherPartings 70 [(0, .ref a0), (1, .ref a1), (2, .int x2), (3, .int x3)] (r1.toList ++ []) M1 Q)) : Wp d mdX11_gatherPartings 58 [(0, .ref a0), (1, .ref a1), (2, .int x2), (3, .int x3), (4, .long w4)] [.int sx0] M Q := by
  refine r_if_ne (tgt := 70) dX11_gatherPartings_58 (by decide) (fun c0 => ?_) (fun c0 => ?_)
  · skip
    refine r_sub [0, 1, 2, 3] (ls' := [(0, .ref a0), (1, .ref a1), (2, .int x2), (3, .int x3)]) rfl ?_
    exact (pw0 c0)
  · skip
    refine r_aload_n dX11_gatherPartings_61 rfl 0 rfl ?_
    refine r_getR ck9 dX11_gatherPartings_62 flX11_57 rfl k0 ?_
    refine r_lload dX11_gatherPartings_65 4 rfl ?_
    refine r_sub [0, 1, 2, 3] (ls' := [(0, .ref a0), (1, .ref a1), (2, .int x2), (3, .int x3)]) rfl ?_
    obtain ⟨e9, hlt, h9⟩ := (pf1 c0)
    exact r_callV (As := [.long w4]) (rest := []) (ci := 7) moX9_add dX11_gatherPartings_67 mlX11_348 imX9_add seX9_add k1 rfl hlt (Nat.le_of_ble_eq_true rfl) h9
theorem gX11_gatherPartings_70 {d : Nat} {Q : Option Value → Mem → Prop} {M : Mem} {a0 : Nat} {a1 : Nat} {x2 : Int32} {x3 : Int32}  (pw0 : Wp d mdX11_gatherPartings 21 [(0, .ref a0), (1, .ref a1), (2, .int x2), (3, .int (x3 + (nI 1)))] [] M Q) : Wp d mdX11_gatherPartings 70 [(0, .ref a0), (1, .ref a1), (2, .int x2), (3, .int x3)] [] M Q := by
  refine r_iinc dX11_gatherPartings_70 3 rfl (v := x3 + (nI 1)) rfl (by decide) (ls' := [(3, .int (x3 + (nI 1))), (0, .ref a0), (1, .ref a1), (2, .int x2)]) rfl ?_
  refine r_goto (tgt := 21) dX11_gatherPartings_73 (by decide) ?_
  refine r_sub [1, 2, 3, 0] (ls' := [(0, .ref a0), (1, .ref a1), (2, .int x2), (3, .int (x3 + (nI 1)))]) rfl ?_
  exact pw0
theorem gX11_gatherPartings_100 {d : Nat} {Q : Option Value → Mem → Prop} {M : Mem}  (pq0 : Q none M) : Wp d mdX11_gatherPartings 100 [] [] M Q := by
  exact r_ret none dX11_gatherPartings_100 rfl pq0
-- J7_fill_d0a16
theorem gJ7_fill_d0a16_0 {d : Nat} {Q : Option Value → Mem → Prop} {M : Mem} {a0 : Nat} {w1 : Int64} (k0 : mK M a0 = 2) (pw0 : Wp d mdJ7_fill_d0a16 6 [(0, .ref a0), (1, .long w1), (3, .int (nI 0)), (4, .int (nI (mN M a0)))] [] M Q) : Wp d mdJ7_fill_d0a16 0 [(0, .ref a0), (1, .long w1)] [] M Q := by
  refine r_iconst (v := (nI 0)) dJ7_fill_d0a16_0 rfl ?_
  refine r_istore_n dJ7_fill_d0a16_1 rfl (by decide) (ls' := [(3, .int (nI 0)), (0, .ref a0), (1, .long w1)]) rfl ?_
  refine r_aload_n dJ7_fill_d0a16_2 rfl 1 rfl ?_
  refine r_alen dJ7_fill_d0a16_3 (Or.inr (Or.inl k0)) ?_
  refine r_istore dJ7_fill_d0a16_4 (by decide) (ls' := [(4, .int (nI (mN M a0))), (3, .int (nI 0)), (0, .ref a0), (1, .long w1)]) rfl ?_
  refine r_sub [2, 3, 1, 0] (ls' := [(0, .ref a0), (1, .long w1), (3, .int (nI 0)), (4, .int (nI (mN M a0)))]) rfl ?_
  exact pw0
theorem gJ7_fill_d0a16_6 {d : Nat} {Q : Option Value → Mem → Prop} {M : Mem} {a0 : Nat} {w1 : Int64} {x3 : Int32} {x4 : Int32} (k0 : mK M a0 = 2) (pq0 : x4 ≤ x3 → Q none M) (pb1 : ¬ x4 ≤ x3 → vp_in x3 (mN M a0)) (pw2 : ¬ x4 ≤ x3 → Wp d mdJ7_fill_d0a16 6 [(0, .ref a0), (1, .long w1), (3, .int (x3 + (nI 1))), (4, .int x4)] [] (sJ M a0 x3.toNatClampNeg w1) Q) : Wp d mdJ7_fill_d0a16 6 [(0, .ref a0), (1, .long w1), (3, .int x3), (4, .int x4)] [] M Q := by
  refine r_iload_n dJ7_fill_d0a16_6 rfl 2 rfl ?_
  refine r_iload dJ7_fill_d0a16_7 3 rfl ?_
  refine r_icmp_ge (tgt := 22) dJ7_fill_d0a16_9 (by decide) (fun c0 => ?_) (fun c0 => ?_)
  · skip
    exact r_ret none dJ7_fill_d0a16_22 rfl (pq0 c0)
  · skip
    refine r_aload_n dJ7_fill_d0a16_12 rfl 0 rfl ?_
    refine r_iload_n dJ7_fill_d0a16_13 rfl 2 rfl ?_
    refine r_lload_n dJ7_fill_d0a16_14 rfl 1 rfl ?_
    refine r_last dJ7_fill_d0a16_15 k0 (pb1 c0) ?_
    refine r_iinc dJ7_fill_d0a16_16 2 rfl (v := x3 + (nI 1)) rfl (by decide) (ls' := [(3, .int (x3 + (nI 1))), (0, .ref a0), (1, .long w1), (4, .int x4)]) rfl ?_
    refine r_goto (tgt := 6) dJ7_fill_d0a16_19 (by decide) ?_
    refine r_sub [1, 2, 0, 3] (ls' := [(0, .ref a0), (1, .long w1), (3, .int (x3 + (nI 1))), (4, .int x4)]) rfl ?_
    exact (pw2 c0)
-- J7_fill_53178
theorem gJ7_fill_53178_0 {d : Nat} {Q : Option Value → Mem → Prop} {M : Mem} {a0 : Nat} {x1 : Int32} (k0 : mK M a0 = 1) (pw0 : Wp d mdJ7_fill_53178 5 [(0, .ref a0), (1, .int x1), (2, .int (nI 0)), (3, .int (nI (mN M a0)))] [] M Q) : Wp d mdJ7_fill_53178 0 [(0, .ref a0), (1, .int x1)] [] M Q := by
  refine r_iconst (v := (nI 0)) dJ7_fill_53178_0 rfl ?_
  refine r_istore_n dJ7_fill_53178_1 rfl (by decide) (ls' := [(2, .int (nI 0)), (0, .ref a0), (1, .int x1)]) rfl ?_
  refine r_aload_n dJ7_fill_53178_2 rfl 1 rfl ?_
  refine r_alen dJ7_fill_53178_3 (Or.inl k0) ?_
  refine r_istore_n dJ7_fill_53178_4 rfl (by decide) (ls' := [(3, .int (nI (mN M a0))), (2, .int (nI 0)), (0, .ref a0), (1, .int x1)]) rfl ?_
  refine r_sub [2, 3, 1, 0] (ls' := [(0, .ref a0), (1, .int x1), (2, .int (nI 0)), (3, .int (nI (mN M a0)))]) rfl ?_
  exact pw0
theorem gJ7_fill_53178_5 {d : Nat} {Q : Option Value → Mem → Prop} {M : Mem} {a0 : Nat} {x1 : Int32} {x2 : Int32} {x3 : Int32} (k0 : mK M a0 = 1) (pq0 : x3 ≤ x2 → Q none M) (pb1 : ¬ x3 ≤ x2 → vp_in x2 (mN M a0)) (pw2 : ¬ x3 ≤ x2 → Wp d mdJ7_fill_53178 5 [(0, .ref a0), (1, .int x1), (2, .int (x2 + (nI 1))), (3, .int x3)] [] (sI M a0 x2.toNatClampNeg x1) Q) : Wp d mdJ7_fill_53178 5 [(0, .ref a0), (1, .int x1), (2, .int x2), (3, .int x3)] [] M Q := by
  refine r_iload_n dJ7_fill_53178_5 rfl 2 rfl ?_
  refine r_iload_n dJ7_fill_53178_6 rfl 3 rfl ?_
  refine r_icmp_ge (tgt := 20) dJ7_fill_53178_7 (by decide) (fun c0 => ?_) (fun c0 => ?_)
  · skip
    exact r_ret none dJ7_fill_53178_20 rfl (pq0 c0)
  · skip
    refine r_aload_n dJ7_fill_53178_10 rfl 0 rfl ?_
    refine r_iload_n dJ7_fill_53178_11 rfl 2 rfl ?_
    refine r_iload_n dJ7_fill_53178_12 rfl 1 rfl ?_
    refine r_iast dJ7_fill_53178_13 k0 (pb1 c0) ?_
    refine r_iinc dJ7_fill_53178_14 2 rfl (v := x2 + (nI 1)) rfl (by decide) (ls' := [(2, .int (x2 + (nI 1))), (0, .ref a0), (1, .int x1), (3, .int x3)]) rfl ?_
    refine r_goto (tgt := 5) dJ7_fill_53178_17 (by decide) ?_
    refine r_sub [1, 2, 0, 3] (ls' := [(0, .ref a0), (1, .int x1), (2, .int (x2 + (nI 1))), (3, .int x3)]) rfl ?_
    exact (pw2 c0)
