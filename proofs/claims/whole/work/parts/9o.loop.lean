/-! the law's loop -/
theorem sw40 {x : Int32} (h : ¬ (x.toInt < 0 ∨ 39 < x.toInt)) : ∃ j, j < 40 ∧ x = nI j := by
  refine ⟨x.toInt.toNat, by omega, ?_⟩
  rw [← Int32.toInt_inj, nI_toInt (by omega)]
  omega
theorem lp_end {i L : Nat} (hL : L ≤ 2560) (hi : i ≤ 2560) : nI L - nI 5 < nI i ↔ L < i + 5 := by
  by_cases c : 5 ≤ L
  · rw [z_sub c, nI_ltI (by omega) (by omega)]; omega
  · have h : L = 0 ∨ L = 1 ∨ L = 2 ∨ L = 3 ∨ L = 4 := by omega
    refine ⟨fun _ => by omega, fun _ => ?_⟩
    have h0 : nI L - nI 5 < nI 0 := by rcases h with e | e | e | e | e <;> subst e <;> decide
    rw [Int32.lt_iff_toInt_lt] at h0 ⊢
    rw [nI_toInt (by decide)] at h0
    rw [nI_toInt (by omega)]
    omega
section Loop
variable {m o L : Nat} {xs : Nat → Int32} {Q : Option Value → Mem → Prop}
theorem law_case {n i : Nat} {M : Mem} (hi : i + 5 ≤ L) (hL : L ≤ 2560) (ho : o = m + 31) (hJ : JI n m M) (hn : n ≤ 511) (hN : ∀ M2, JI (n + 1) m M2 → Wp 30 (mdL_law L xs) 1645 (LL m o i) [] M2 Q) : Wp 30 (mdL_law L xs) 32 (LL m o i) [] M Q := by
  refine r_aload_n dL_law_32 rfl 0 rfl ?_
  refine r_iload dL_law_33 4 rfl ?_
  refine r_sald rfl dL_law_35 (z_in (by omega) (by omega)) ?_
  refine r_bipush (v := nI 63) dL_law_36 rfl ?_
  refine r_iand dL_law_38 ?_
  obtain ⟨x, hx⟩ : ∃ x, x = xs (nI i).toNatClampNeg &&& nI 63 := ⟨_, rfl⟩
  rw [← hx]
  by_cases c : x.toInt < 0 ∨ 39 < x.toInt
  · exact r_tableOut (tgt := 1645) dL_law_39 c (by decide) (hN M hJ.up)
  · obtain ⟨j, hj, ej⟩ := sw40 c
    have cases40 : j = 0 ∨ j = 1 ∨ j = 2 ∨ j = 3 ∨ j = 4 ∨ j = 5 ∨ j = 6 ∨ j = 7 ∨ j = 8 ∨ j = 9 ∨ j = 10 ∨ j = 11 ∨ j = 12 ∨ j = 13 ∨ j = 14 ∨ j = 15 ∨ j = 16 ∨ j = 17 ∨ j = 18 ∨ j = 19 ∨ j = 20 ∨ j = 21 ∨ j = 22 ∨ j = 23 ∨ j = 24 ∨ j = 25 ∨ j = 26 ∨ j = 27 ∨ j = 28 ∨ j = 29 ∨ j = 30 ∨ j = 31 ∨ j = 32 ∨ j = 33 ∨ j = 34 ∨ j = 35 ∨ j = 36 ∨ j = 37 ∨ j = 38 ∨ j = 39 := by omega
    rw [ej]
    clear hx c ej
    rcases cases40 with e | e | e | e | e | e | e | e | e | e | e | e | e | e | e | e | e | e | e | e | e | e | e | e | e | e | e | e | e | e | e | e | e | e | e | e | e | e | e | e <;> subst e
    · exact r_tableIn (off := 173) (tgt := 212) dL_law_39 (by decide) (by decide) (by decide) (by decide) (law_op0 hi hL (SmI.mono (so_sign _ hJ hn) hN))
    · exact r_tableIn (off := 198) (tgt := 237) dL_law_39 (by decide) (by decide) (by decide) (by decide) (law_op1 hi hL (SmI.mono (so_end _ hJ hn) hN))
    · exact r_tableIn (off := 223) (tgt := 262) dL_law_39 (by decide) (by decide) (by decide) (by decide) (law_op2 hi hL (SmI.mono (so_machine hJ hn) hN))
    · exact r_tableIn (off := 236) (tgt := 275) dL_law_39 (by decide) (by decide) (by decide) (by decide) (law_op3 hi hL (SmI.mono (so_draws _ _ _ _ hJ hn) hN))
    · exact r_tableIn (off := 297) (tgt := 336) dL_law_39 (by decide) (by decide) (by decide) (by decide) (law_op4 hi hL (SmI.mono (so_state _ _ hJ hn) hN))
    · exact r_tableIn (off := 334) (tgt := 373) dL_law_39 (by decide) (by decide) (by decide) (by decide) (law_op5 hi hL (SmI.mono (so_run _ hJ hn) hN))
    · exact r_tableIn (off := 391) (tgt := 430) dL_law_39 (by decide) (by decide) (by decide) (by decide) (law_op6 hi hL (SmJ.mono (so_joins _ _ hJ hn) hN))
    · exact r_tableIn (off := 493) (tgt := 532) dL_law_39 (by decide) (by decide) (by decide) (by decide) (law_op7 hi hL (SmI.mono (so_letter _ _ hJ hn) hN))
    · exact r_tableIn (off := 562) (tgt := 601) dL_law_39 (by decide) (by decide) (by decide) (by decide) (law_op8 hi hL (SmJ.mono (so_cut _ _ hJ hn) hN))
    · exact r_tableIn (off := 632) (tgt := 671) dL_law_39 (by decide) (by decide) (by decide) (by decide) (law_op9 hi hL (SmJ.mono (so_word _ hJ hn) hN))
    · exact r_tableIn (off := 658) (tgt := 697) dL_law_39 (by decide) (by decide) (by decide) (by decide) (law_op10 hi hL (SmI.mono (so_prices _ _ hJ hn) hN))
    · exact r_tableIn (off := 695) (tgt := 734) dL_law_39 (by decide) (by decide) (by decide) (by decide) (law_op11 hi hL (SmI.mono (so_method _ hJ hn) hN))
    · exact r_tableIn (off := 720) (tgt := 759) dL_law_39 (by decide) (by decide) (by decide) (by decide) (law_op12 hi hL (SmI.mono (so_asks _ hJ hn) hN))
    · exact r_tableIn (off := 777) (tgt := 816) dL_law_39 (by decide) (by decide) (by decide) (by decide) (law_op13 hi hL (SmI.mono (so_known _ hJ hn) hN))
    · exact r_tableIn (off := 834) (tgt := 873) dL_law_39 (by decide) (by decide) (by decide) (by decide) (law_op14 hi hL (SmI.mono (so_step hJ hn) hN))
    · exact r_tableIn (off := 847) (tgt := 886) dL_law_39 (by decide) (by decide) (by decide) (by decide) (law_op15 hi hL (SmI.mono (so_guess hJ hn) hN))
    · exact r_tableIn (off := 860) (tgt := 899) dL_law_39 (by decide) (by decide) (by decide) (by decide) (law_op16 hi hL (SmI.mono (so_tells _ hJ hn) hN))
    · exact r_tableIn (off := 917) (tgt := 956) dL_law_39 (by decide) (by decide) (by decide) (by decide) (law_op17 hi hL (SmI.mono (so_learns hJ hn) hN))
    · exact r_tableIn (off := 930) (tgt := 969) dL_law_39 (by decide) (by decide) (by decide) (by decide) (law_op18 hi hL (SmJ.mono (so_head _ hJ hn) hN))
    · exact r_tableIn (off := 956) (tgt := 995) dL_law_39 (by decide) (by decide) (by decide) (by decide) (law_op19 hi hL (SmJ.mono (so_tail _ hJ hn) hN))
    · exact r_tableIn (off := 982) (tgt := 1021) dL_law_39 (by decide) (by decide) (by decide) (by decide) (law_op20 hi hL (SmI.mono (so_cell _ _ _ hJ hn) hN))
    · exact r_tableIn (off := 1031) (tgt := 1070) dL_law_39 (by decide) (by decide) (by decide) (by decide) (law_op21 hi hL (SmI.mono (so_lines hJ hn) hN))
    · exact r_tableIn (off := 1044) (tgt := 1083) dL_law_39 (by decide) (by decide) (by decide) (by decide) (law_op22 hi hL (SmI.mono (so_knot _ _ hJ hn) hN))
    · exact r_tableIn (off := 1081) (tgt := 1120) dL_law_39 (by decide) (by decide) (by decide) (by decide) (law_op23 hi hL (SmI.mono (so_sift _ hJ hn) hN))
    · exact r_tableIn (off := 1138) (tgt := 1177) dL_law_39 (by decide) (by decide) (by decide) (by decide) (law_op24 hi hL (SmI.mono (so_guessed _ _ hJ hn) hN))
    · exact r_tableIn (off := 1175) (tgt := 1214) dL_law_39 (by decide) (by decide) (by decide) (by decide) (law_op25 hi hL (SmJ.mono (so_access _ hJ hn) hN))
    · exact r_tableIn (off := 1201) (tgt := 1240) dL_law_39 (by decide) (by decide) (by decide) (by decide) (law_op26 hi hL (SmI.mono (so_reads _ hJ hn) hN))
    · exact r_tableIn (off := 1258) (tgt := 1297) dL_law_39 (by decide) (by decide) (by decide) (by decide) (law_op27 hi hL (SmJ.mono (so_errs hJ hn) hN))
    · exact r_tableIn (off := 1272) (tgt := 1311) dL_law_39 (by decide) (by decide) (by decide) (by decide) (law_op28 hi hL (SmI.mono (so_wrong _ hJ hn) hN))
    · exact r_tableIn (off := 1297) (tgt := 1336) dL_law_39 (by decide) (by decide) (by decide) (by decide) (law_op29 hi hL (SmI.mono (so_tests _ hJ hn) hN))
    · exact r_tableIn (off := 1322) (tgt := 1361) dL_law_39 (by decide) (by decide) (by decide) (by decide) (law_op30 hi hL (SmJ.mono (so_passes _ hJ hn) hN))
    · exact r_tableIn (off := 1348) (tgt := 1387) dL_law_39 (by decide) (by decide) (by decide) (by decide) (law_op31 hi hL (SmJ.mono (so_parted _ _ hJ hn) hN))
    · exact r_tableIn (off := 1386) (tgt := 1425) dL_law_39 (by decide) (by decide) (by decide) (by decide) (law_op32 hi hL (SmJ.mono (so_like _ _ hJ hn) hN))
    · exact r_tableIn (off := 1424) (tgt := 1463) dL_law_39 (by decide) (by decide) (by decide) (by decide) (law_op33 hi hL (SmI.mono (so_least hJ hn) hN))
    · exact r_tableIn (off := 1437) (tgt := 1476) dL_law_39 (by decide) (by decide) (by decide) (by decide) (law_op34 hi hL (SmJ.mono (so_reach _ hJ hn) hN))
    · exact r_tableIn (off := 1463) (tgt := 1502) dL_law_39 (by decide) (by decide) (by decide) (by decide) (law_op35 hi hL (SmI.mono (so_groups _ hJ hn) hN))
    · exact r_tableIn (off := 1488) (tgt := 1527) dL_law_39 (by decide) (by decide) (by decide) (by decide) (law_op36 hi hL (SmI.mono (so_costs _ hJ hn) hN))
    · exact r_tableIn (off := 1513) (tgt := 1552) dL_law_39 (by decide) (by decide) (by decide) (by decide) (law_op37 hi hL (SmI.mono (so_cheapest hJ hn) hN))
    · exact r_tableIn (off := 1526) (tgt := 1565) dL_law_39 (by decide) (by decide) (by decide) (by decide) (law_op38 hi hL (SmI.mono (so_count _ hJ hn) hN))
    · exact r_tableIn (off := 1551) (tgt := 1590) dL_law_39 (by decide) (by decide) (by decide) (by decide) (law_op39 hi hL ho hJ hn hN)
theorem law_loop (hL : L ≤ 2560) (ho : o = m + 31) (hQ : ∀ n M, n ≤ 512 → JI n m M → Q (some (.int (nI 1))) M) : ∀ f n M, L + 5 ≤ 5 * n + f → 5 * n ≤ L → JI n m M → Wp 30 (mdL_law L xs) 23 (LL m o (5 * n)) [] M Q := by
  intro f
  induction f with
  | zero => intro n M h1 h2; omega
  | succ f ih =>
    intro n M h1 h2 hJ
    refine r_iload dL_law_23 4 rfl ?_
    refine r_aload_n dL_law_25 rfl 0 rfl ?_
    refine r_slen rfl dL_law_26 ?_
    refine r_iconst (v := nI 5) dL_law_27 rfl ?_
    refine r_isub dL_law_28 ?_
    refine r_icmp_gt (tgt := 1651) dL_law_29 (by decide) (fun c => ?_) (fun c => ?_) <;> rw [lp_end hL (by omega)] at c
    · refine r_iconst (v := nI 1) dL_law_1651 rfl ?_
      exact r_ret (some (.int (nI 1))) dL_law_1652 rfl (hQ n M (by omega) hJ)
    · refine law_case (n := n) (by omega) hL ho hJ (by omega) (fun M2 hJ2 => ?_)
      refine r_iinc dL_law_1645 4 rfl (v := nI (5 * (n + 1))) (by show nI (5 * n) + nI 5 = _; rw [nI_add]; rfl) (Nat.le_of_ble_eq_true rfl) (ls' := (4, .int (nI (5 * (n + 1)))) :: [(0, .ref 1), (1, .ref 2), (2, .ref m), (3, .ref o)]) rfl ?_
      refine r_goto (tgt := 23) dL_law_1648 (by decide) ?_
      exact r_sub [1, 2, 3, 4, 0] (ls' := LL m o (5 * (n + 1))) rfl (ih (n + 1) M2 (by omega) (by omega) hJ2)
end Loop
