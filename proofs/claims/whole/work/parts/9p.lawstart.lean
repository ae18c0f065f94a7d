/-! the law, from its entry -/
def mem0 : Mem := (fun _ _ => 0, fun _ _ => 0, fun _ _ => 0, fun _ => 0, fun _ => 0, 0, 0)
section LawS
variable {L : Nat} {xs : Nat → Int32}
theorem law_all (hL : L ≤ 2560) : Wp 30 (mdL_law L xs) 0 [(0, .ref 1)] [] mem0 (fun r M => r = some (.int (nI 1)) ∧ mC M ≤ 601024 ∧ mS M ≤ 7293034) := by
  obtain ⟨Q, hQ⟩ : ∃ Q : Option Value → Mem → Prop, Q = fun r M => r = some (.int (nI 1)) ∧ mC M ≤ 601024 ∧ mS M ≤ 7293034 := ⟨_, rfl⟩
  rw [← hQ]
  have Q1 : ∀ n m M, n ≤ 512 → JI n m M → Q (some (.int (nI 1))) M := fun n m M hn hJ => by
    rw [hQ]; exact ⟨rfl, hJ.room hn⟩
  clear hQ
  -- the class's object
  refine r_new (ci := 9) ck9 (by decide) rk9 dL_law_0 cwL_8 ?_
  have F0 := Fo.of mem0 13 11
  obtain ⟨M0, hM0⟩ : ∃ M0, M0 = nwC mem0 13 11 := ⟨_, rfl⟩
  rw [← hM0] at F0
  have S0 : mS M0 = 11 := by rw [hM0]; rfl
  change Wp 30 (mdL_law L xs) 3 [(0, .ref 1)] [.ref 2] (nwC mem0 13 11) Q
  rw [← hM0]
  refine r_dup dL_law_3 rfl ?_
  obtain ⟨e1, he1, hc1⟩ := w_X11_init (d := 30) (a := 2) (M := M0) (Q := fun r M' => r = none ∧ CC M' [] mach0 1 1 (newP mach0 1 1 0) [] ∧ (mC M' + 768 ≤ 86 + sN M' ∧ mS M' + 2 * 768 ≤ mS M0 + 2935 + 2 * sN M') ∧ 86 ≤ mC M') (by decide) rfl F0 (fun M' h1 h2 _ _ h3 => ⟨rfl, h1, h2, h3⟩)
  refine r_callI (ci := 9) (As := []) (rest := [.ref 2]) moX11_init rfl rfl dL_law_4 mlL_15 imX11_init F0.1 rfl he1 (Nat.le_of_ble_eq_true rfl) (hc1.mono (fun r1 M1 hq => ?_))
  obtain ⟨rfl, c1, ⟨r1, r2⟩, r3⟩ := hq
  rw [S0] at r2
  refine r_astore_n dL_law_7 rfl (Nat.le_of_ble_eq_true rfl) (ls' := [(1, .ref 2), (0, .ref 1)]) rfl ?_
  -- the reference
  refine r_new (ci := 10) ck10 (by decide) rk10 dL_law_8 cwL_16 ?_
  obtain ⟨m, hm⟩ : ∃ m, m = mC M1 + 2 := ⟨_, rfl⟩
  have F1 := Fo.of M1 14 51
  have K1 : Kp [] M1 (nwC M1 14 51) 1 51 := Kp.nw _ _ _
  rw [← hm] at F1
  change Wp 30 (mdL_law L xs) 11 [(1, .ref 2), (0, .ref 1)] [.ref (mC M1 + 2)] (nwC M1 14 51) Q
  rw [← hm]
  obtain ⟨M2, hM2⟩ : ∃ M2, M2 = nwC M1 14 51 := ⟨_, rfl⟩
  rw [← hM2] at F1 K1 ⊢
  refine r_dup dL_law_11 rfl ?_
  obtain ⟨e2, he2, hc2⟩ := w_X12_init (d := 30) (m := m) (M := M2) (Q := fun r M' => r = none ∧ MoC M' m [] mach0 1 1 (newP mach0 1 1 0) [] ∧ (∀ p, p < m → mI M' p = mI M2 p ∧ mJ M' p = mJ M2 p ∧ mR M' p = mR M2 p ∧ mK M' p = mK M2 p ∧ mN M' p = mN M2 p) ∧ mC M' = mC M2 + 30 ∧ mS M' = mS M2 + 68105) (by decide) F1 (by omega) (fun M' h1 h2 h3 h4 => ⟨rfl, h1, h2, h3, h4⟩)
  refine r_callI (ci := 10) (As := []) (rest := [.ref m]) moX12_init rfl rfl dL_law_12 mlL_18 imX12_init F1.1 rfl he2 (Nat.le_of_ble_eq_true rfl) (hc2.mono (fun r1 M3 hq => ?_))
  obtain ⟨rfl, mo, fr, k1, k2⟩ := hq
  have a1 := K1.2.2.1
  have a2 := K1.2.2.2
  refine r_astore_n dL_law_15 rfl (Nat.le_of_ble_eq_true rfl) (ls' := [(2, .ref m), (1, .ref 2), (0, .ref 1)]) rfl ?_
  refine r_iconst (v := nI 1) dL_law_16 rfl ?_
  refine r_newa dL_law_17 (Or.inr (Or.inl rfl)) ac_long (by decide) rfl (by decide) ?_
  obtain ⟨o, ho⟩ : ∃ o, o = mC M3 + 2 := ⟨_, rfl⟩
  have eo : o = m + 31 := by omega
  have K3 : Kp [] M3 (nwC M3 2 1) 1 1 := Kp.nw _ _ _
  have ok := wK_at M3 2 1
  have on := wN_at M3 2 1
  change Wp 30 (mdL_law L xs) 19 [(2, .ref m), (1, .ref 2), (0, .ref 1)] [.ref (mC M3 + 2)] (nwC M3 2 1) Q
  have FF : Fm [] M1 (nwC M3 2 1) := by
    have f2 : Fm [] M1 M3 := ⟨fun p hp _ => ⟨(fr p (by omega)).1.trans (K1.1 p hp (by simp)).1, (fr p (by omega)).2.1.trans (K1.1 p hp (by simp)).2.1, (fr p (by omega)).2.2.1.trans (K1.1 p hp (by simp)).2.2⟩, fun p hp => ⟨(fr p (by omega)).2.2.2.1.trans (K1.2.1 p hp).1, (fr p (by omega)).2.2.2.2.trans (K1.2.1 p hp).2⟩, fun p j hp _ => by rw [(fr p (by omega)).2.2.1, (K1.1 p hp (by simp)).2.2], by omega, by omega⟩
    exact f2.tr (Fm.nw M3 2 1) (fun p hp => by simp at hp)
  rw [← ho] at ok on ⊢
  obtain ⟨M4, hM4⟩ : ∃ M4, M4 = nwC M3 2 1 := ⟨_, rfl⟩
  rw [← hM4] at K3 ok on FF ⊢
  have b1 := K3.2.2.1
  have b2 := K3.2.2.2
  refine r_astore_n dL_law_19 rfl (Nat.le_of_ble_eq_true rfl) (ls' := [(3, .ref o), (2, .ref m), (1, .ref 2), (0, .ref 1)]) rfl ?_
  refine r_iconst (v := nI 0) dL_law_20 rfl ?_
  refine r_istore dL_law_21 (Nat.le_of_ble_eq_true rfl) (ls' := [(4, .int (nI 0)), (3, .ref o), (2, .ref m), (1, .ref 2), (0, .ref 1)]) rfl ?_
  refine r_sub [4, 3, 2, 1, 0] (ls' := LL m o (5 * 0)) rfl ?_
  -- all is in place
  obtain ⟨q1, st1, sn1⟩ := c1.outF FF (fun q hq => by simp at hq)
  have q2 := mo.kr (K3.kr (lo := m) (hi := m + 31) (by omega) (fun q hq => by simp at hq))
  have sl := c1.1.2.1
  have hJ : JI 0 m M4 := by
    refine ⟨[], mach0, 1, 1, newP mach0 1 1 0, [], q1, q2, PI.new q1.ok (by decide), ⟨by omega, by omega⟩, ?_, ⟨by rw [← eo]; exact ok, by rw [← eo]; exact on⟩, by omega, by omega⟩
    rw [st1 19 (by decide), st1 51 (by decide), st1 81 (by decide)]
    have := sl.2.1
    omega
  exact law_loop (L := L) (xs := xs) (Q := Q) hL eo (fun n M hn h => Q1 n m M hn h) (L + 5) 0 M4 (by omega) (by omega) hJ
end LawS
