/-! the law's last case -/
theorem CC.outF {st sp : Nat} {M M' : Mem} {A : PM} {p : PS} {X : List Nat} {R : List Int64} {L : List Nat} (h : CC M X A st sp p R) (F : Fm L M M') (hL : ∀ q, q ∈ L → 88 ≤ q ∧ q ≠ slq M 19 ∧ q ≠ slq M 51 ∧ q ≠ slq M 81) : CC M' X A st sp p R ∧ (∀ r, r < 87 → slq M' r = slq M r) ∧ sN M' = sN M := by
  obtain ⟨⟨h1, h2, h3⟩, h4, h5, ⟨s, h6⟩, ⟨k, T, n, h7⟩, h8⟩ := h
  have l8 := h2.2.2.2
  have hc := F.2.2.2.1
  have nf : ∀ q, q < 88 → q ∉ L := fun q hq a => by have := hL q a; omega
  have e3 : mR M 82 1 = slq M 81 := rfl
  have st : ∀ r, r < 87 → slq M' r = slq M r := fun r hr => by unfold slq; rw [F.R (by omega) (nf _ (by omega))]
  have sn : sN M' = sN M := by
    unfold sN
    rw [st 19 (by decide), st 51 (by decide), st 81 (by decide), F.N h2.2.1.1, F.N h2.2.1.2.1, F.N h2.2.1.2.2]
  have hSL : SL M' := by
    unfold SL at h2 ⊢
    rw [st 19 (by decide), st 51 (by decide), st 81 (by decide)]
    obtain ⟨a, ⟨b1, b2, b3⟩, c, d⟩ := h2
    exact ⟨a, ⟨by omega, by omega, by omega⟩, c, by omega⟩
  obtain ⟨⟨l1, l2, l3⟩, -, -, -⟩ := h2
  exact ⟨⟨⟨h1.fm F l8, hSL, SeaSh.fm F (by omega) h3 (nf 13 (by omega))⟩, h4.fm F (by omega) (nf 11 (by omega)) (nf 12 (by omega)), h5.fm F (fun q hq => by have := hL q hq; show q ≠ slq M 19 ∧ _; omega), ⟨s, h6.fm F (nf _ (by omega)) (nf _ (by omega)) (fun a => (hL _ a).2.2.1 rfl) (nf _ (by omega)) (nf _ (by omega)) (nf _ (by omega))⟩, ⟨k, T, n, h7.fm F (by omega) (nf _ (by omega)) (fun a => (hL _ a).2.2.2 rfl)⟩, h8.fm F l8 (nf _ (by omega)) (nf _ (by omega))⟩, st, sn⟩
theorem Fm.nw (M : Mem) (kd n : Nat) : Fm [] M (nwC M kd n) := by
  have K := Kp.nw (S := []) M kd n
  exact ⟨K.1, K.2.1, fun p j hp _ => by rw [(K.1 p hp (by simp)).2.2], by rw [K.2.2.1]; exact Nat.le_succ _, by rw [K.2.2.2]; exact Nat.le_add_right _ _⟩
theorem JI.up {n m : Nat} {M : Mem} (h : JI n m M) : JI (n + 1) m M := by
  obtain ⟨X, A, st, sp, p, R, h1, h2, h3, h4⟩ := h
  exact ⟨X, A, st, sp, p, R, h1, h2, h3.mono (by omega), h4.up (Nat.le_succ n)⟩
/-- there is room -/
theorem JI.room {n m : Nat} {M : Mem} (h : JI n m M) (hn : n ≤ 512) : mC M ≤ 601024 ∧ mS M ≤ 7293034 := by
  obtain ⟨X, A, st, sp, p, R, h1, h2, h3, h4⟩ := h
  obtain ⟨-, -, hc, ⟨s6, h6⟩, ⟨k, T, n7, h7⟩, -⟩ := h1
  obtain ⟨sc, -, aic⟩ := hc.ai
  have b : ∀ {r k T n}, SetAt M (r + 1) k T n → mN M (slq M r) ≤ 16384 := fun h => by
    have := (p2k h.2.2.2.2.1 h.2.2.2.2.2).2
    have e : mN M (slq M _) = 2 ^ _ := h.1.2.2.1
    rw [e]; exact this
  obtain ⟨k1, T1, s1, -, -⟩ := aic.2.1.2.2
  obtain ⟨k2, T2, s2, -, -⟩ := h6.2.1.2.2
  have b1 : mN M (slq M 19) ≤ 16384 := b s1
  have b2 : mN M (slq M 51) ≤ 16384 := b s2
  have b3 : mN M (slq M 81) ≤ 16384 := b h7
  obtain ⟨-, -, -, c1, c2⟩ := h4
  unfold sN at c1 c2
  omega
section Op39
variable {n m o i L : Nat} {xs : Nat → Int32} {M : Mem} {Q : Option Value → Mem → Prop}
/-- what is left when row has answered -/
theorem law_op39b {k : Int32} {M1 : Mem} (hi : i + 5 ≤ L) (hL : L ≤ 2560) (ho : o = m + 31) (hk : k = nI 0 ∨ k = nI 1) {x : Int32} (ex : x = av xs i 1) (hmo : mK M1 m = 14) (hm : ClD 30 mdX12_row [.ref m, .int x] M1 (fun r M2 => ∃ v, r = some (.long v) ∧ mK M2 m = 14 ∧ mI M2 m 0 = k ∧ (k = nI 0 → (mK M2 o = 2 ∧ mN M2 o = 1) ∧ mJ M2 o 0 = v) ∧ Wp 30 (mdL_law L xs) 1645 (LL m o i) [] M2 Q)) : Wp 30 (mdL_law L xs) 1601 (LL m o i) [.int k] M1 Q := by
  obtain ⟨e1, he1, hc1⟩ := hm
  refine r_istore dL_law_1601 (Nat.le_of_ble_eq_true rfl) (ls' := (5, .int k) :: LL m o i) rfl ?_
  refine r_aload_n dL_law_1603 rfl 3 rfl ?_
  refine r_aload_n dL_law_1604 rfl 1 rfl ?_
  refine r_iload dL_law_1605 5 rfl ?_
  refine r_iconst (v := nI 1) dL_law_1607 rfl ?_
  refine r_iadd dL_law_1608 ?_
  refine r_sald rfl dL_law_1609 (by rw [nI_add]; exact z_in (by omega) (by omega)) ?_
  rw [ex] at hc1
  refine r_callV (ci := 10) (As := [.int (av xs i 1)]) (rest := []) moX12_row dL_law_1610 mlL_195 imX12_row seX12_row hmo rfl he1 (Nat.le_of_ble_eq_true rfl) (hc1.mono (fun r1 M2 hq => ?_))
  obtain ⟨v, rfl, k14, e0, eJ, hN⟩ := hq
  refine r_lstore dL_law_1613 (Nat.le_of_ble_eq_true rfl) (ls' := (6, .long v) :: (5, .int k) :: LL m o i) rfl ?_
  refine r_aload_n dL_law_1615 rfl 4 rfl ?_
  obtain ⟨e2, he2, hc2⟩ := w_X12_thrown (d := 30) (Q := fun r M3 => r = some (.int k) ∧ M3 = M2) (by decide) k14 ⟨by rw [e0], rfl⟩
  refine r_callV (ci := 10) (As := []) (rest := []) moX12_thrown dL_law_1616 mlL_196 imX12_thrown seX12_thrown k14 rfl he2 (Nat.le_of_ble_eq_true rfl) (hc2.mono (fun r1 M3 hq => ?_))
  obtain ⟨rfl, rfl⟩ := hq
  refine r_iload dL_law_1619 1 rfl ?_
  refine r_icmp_eq (tgt := 1626) dL_law_1621 (by decide) (fun _ => ?_) (fun c => absurd rfl c)
  have FIN : Wp 30 (mdL_law L xs) 1642 ((6, .long v) :: (5, .int k) :: LL m o i) [] M3 Q := by
    refine r_goto (tgt := 1645) dL_law_1642 (by decide) ?_
    exact r_sub [2, 3, 4, 5, 6] (ls' := LL m o i) rfl hN
  refine r_iload dL_law_1626 1 rfl ?_
  refine r_if_ne (tgt := 1642) dL_law_1628 (by decide) (fun _ => FIN) (fun c => ?_)
  obtain ⟨⟨k1, k2⟩, k3⟩ := eJ c
  refine r_aload_n dL_law_1631 rfl 5 rfl ?_
  refine r_iconst (v := nI 0) dL_law_1632 rfl ?_
  refine r_lald dL_law_1633 k1 (by rw [k2]; exact z_in (by decide) (by decide)) ?_
  rw [nI_clamp (by decide), k3]
  refine r_lload dL_law_1634 0 rfl ?_
  exact r_lif_eq (tgt := 1642) dL_law_1636 dL_law_1637 (by decide) (fun _ => FIN) (fun c => absurd rfl c)
theorem nI_not {R : List Int64} (hR : R.length ≤ 8) {x : Int32} (h : ¬ ∃ k, k < R.length ∧ x = nI k) : x < 0 ∨ nI R.length ≤ x := by
  by_cases c : x < 0
  · exact Or.inl c
  · obtain ⟨k, k1, k2⟩ := nI_of c
    refine Or.inr ?_
    rw [k2, nI_leI (by omega) k1]
    exact Nat.not_lt.mp (fun z => h ⟨k, z, k2⟩)
theorem law_op39 (hi : i + 5 ≤ L) (hL : L ≤ 2560) (ho : o = m + 31) (hJ : JI n m M) (hn : n ≤ 511) (hN : ∀ M2, JI (n + 1) m M2 → Wp 30 (mdL_law L xs) 1645 (LL m o i) [] M2 Q) : Wp 30 (mdL_law L xs) 1590 (LL m o i) [] M Q := by
  obtain ⟨X, A, st, sp, p, R, j1, j2, j3, j4⟩ := hJ
  have hI' : PI A (8 * (n + 1)) p := j3.mono (by omega)
  obtain ⟨⟨p1, p2⟩, p3, ⟨p4, p5⟩, p6, p7⟩ := id j4
  have rw8 := j1.2.2.2.2.2
  have sh := j1.1.1
  have l8 := j1.1.2.1.2.2.2
  have k2 : mK M 2 = 13 := sh.1.1
  have h9 : mR M 2 9 = 87 := sh.r.2.2.2.2.2
  have k87 := sh.2.1.2
  refine r_aload_n dL_law_1590 rfl 1 rfl ?_
  refine r_aload_n dL_law_1591 rfl 0 rfl ?_
  refine r_iload dL_law_1592 4 rfl ?_
  refine r_iconst (v := nI 1) dL_law_1594 rfl ?_
  refine r_iadd dL_law_1595 ?_
  refine r_sald rfl dL_law_1596 (by rw [nI_add]; exact z_in (by omega) (by omega)) ?_
  refine r_aload_n dL_law_1597 rfl 3 rfl ?_
  obtain ⟨x, hx⟩ : ∃ x, x = av xs i 1 := ⟨_, rfl⟩
  change Wp 30 (mdL_law L xs) 1598 (LL m o i) [.ref o, .int (av xs i 1), .ref 2] M Q
  rw [← hx]
  by_cases c : ∃ k, k < R.length ∧ x = nI k
  · obtain ⟨k, c1, c2⟩ := c
    have hc := w_row1 (o := o) (M := M) k2 h9 k87.1 k87.2 rw8.1 c1 rw8.2.1 (by rw [ho]; exact p4) (by rw [ho]; exact p5)
    obtain ⟨M1, hM1⟩ : ∃ M1, M1 = sJ M o 0 (mJ M 87 k) := ⟨_, rfl⟩
    rw [← hM1] at hc
    have S1 : Sm [o] M M1 := by rw [hM1]; exact Sm.sJ (by simp) _ _ _
    have q1 : CC M1 X A st sp p R := j1.out S1 (fun q hq => by simp at hq; omega)
    have K1 : Kr m (m + 31) M M1 := fun q a b => ⟨by rw [S1.I (by simp; omega)], by rw [S1.J (by simp; omega)], by rw [S1.2.1], by rw [S1.2.2.1], by rw [S1.2.2.2.1]⟩
    have q2 := j2.kr K1
    have q4 := j4.rf S1
    rw [c2]
    refine r_callRow (As := [.ref 2, .int (nI k), .ref o]) (rest := []) rfl rfl dL_law_1598 rfl (by decide) (Nat.le_of_ble_eq_true rfl) hc ?_
    refine law_op39b (x := nI k) hi hL ho (Or.inl rfl) (by rw [← c2, hx]) q2.2.1.sh.1.1 ?_
    refine w_X12_row (Mz := M1) (by decide) ⟨q2, Sm.rf _ _⟩ (fun M2 k' a b hS h0 => ?_) (fun M2 no => absurd ⟨k, c1, rfl⟩ no)
    have hR8 := rw8.2.1
    have ek : k' = k := (nInj b (by omega) (by omega)).symm
    rw [ek]
    have f1 := hS.2
    have fo : o ∉ moA m := fun z => by have := moA_mem.mp z; omega
    refine ⟨_, rfl, hS.1.2.1.sh.1.1, h0, fun _ => ⟨⟨by rw [f1.2.2.1, S1.2.2.1, ho]; exact p4, by rw [f1.2.2.2.1, S1.2.2.2.1, ho]; exact p5⟩, ?_⟩, ?_⟩
    · rw [f1.J fo, hM1, rJ_at]; exact rw8.2.2 k c1
    · refine hN M2 ⟨X, A, st, sp, p, R, q1.out f1 (fun q hq => ?_), hS.1, hI', (q4.rf f1).up (Nat.le_succ n)⟩
      have := moA_mem.mp hq
      have := q4.1
      have := q4.2.1
      omega
  · have hc := w_row2 (o := o) (M := M) k2 (by rw [rw8.1]; exact nI_not rw8.2.1 c) (by omega)
    obtain ⟨M1, hM1⟩ : ∃ M1, M1 = nwC M 0 6 := ⟨_, rfl⟩
    have F1 : Fm [] M M1 := by rw [hM1]; exact Fm.nw _ _ _
    have KP : Kp [] M M1 1 6 := by rw [hM1]; exact Kp.nw _ _ _
    rw [← hM1] at hc
    obtain ⟨q1, st1, sn1⟩ := j1.outF F1 (fun q hq => by simp at hq)
    have q2 := j2.kr (KP.kr (lo := m) (hi := m + 31) (by omega) (fun q hq => by simp at hq))
    have c1 := KP.2.2.1
    have s1 := KP.2.2.2
    have q4 : JF (n + 1) m M1 := by
      have ko := KP.2.1 (m + 31) (by omega)
      refine ⟨⟨p1, by omega⟩, ?_, ⟨by rw [ko.1]; exact p4, by rw [ko.2]; exact p5⟩, by omega, by omega⟩
      rw [st1 19 (by decide), st1 51 (by decide), st1 81 (by decide)]; exact p3
    refine r_callRow (As := [.ref 2, .int x, .ref o]) (rest := []) rfl rfl dL_law_1598 rfl (by decide) (Nat.le_of_ble_eq_true rfl) hc ?_
    refine law_op39b (x := x) hi hL ho (Or.inr rfl) hx q2.2.1.sh.1.1 ?_
    refine w_X12_row (Mz := M1) (by decide) ⟨q2, Sm.rf _ _⟩ (fun M2 k' a b => absurd ⟨k', a, b⟩ c) (fun M2 _ hS h0 => ?_)
    have f1 := hS.2
    refine ⟨_, rfl, hS.1.2.1.sh.1.1, h0, fun z => absurd z (by decide), ?_⟩
    refine hN M2 ⟨X, A, st, sp, p, R, q1.out f1 (fun q hq => ?_), hS.1, hI', q4.rf f1⟩
    have := moA_mem.mp hq
    have := q4.1
    have := q4.2.1
    omega
end Op39
