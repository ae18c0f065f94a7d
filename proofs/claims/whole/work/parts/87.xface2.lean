/-! the class's face: asking, prices, methods, a new machine -/
section XFb
variable {z d r b P st sp N : Nat} {Q : Option Value → Mem → Prop} {Mz M M' M1 : Mem} {A A' : PM} {p p' : PS} {X : List Nat} {R : List Int64} {s : List (List Nat) × Nat} {H T : List (List Nat)} {K : Nat → Nat}
/-- a pupil that has asked more -/
theorem TPp.as {s' S2 : List (List Nat) × Nat} (F : Fa r [r, r + 1] M M') (hi : TPp z M b r A st sp p) (ha : AI z M' r A st sp s') (e2 : eqS s' S2) (hsub : ∀ w, w ∈ (qs p).1 → w ∈ S2.1) : TPp z M' b r A st sp (qm p, S2, ql p, qH p, qT p, qK p, qg p) := by
  obtain ⟨h1, s, es, ti, ⟨i5, i6⟩, g, fh, ft, ⟨a1, a2⟩, a3, a4⟩ := hi
  have hb : ∀ q, b ≤ q ∧ q < z → mI M' q = mI M q := fun q hq => ti.fb F hq (fun hm => by
    have := ti.2.2.2.2.2.2
    simp at hm; omega)
  have bz := ti.2.2.2.2.2.1
  have br := ti.2.2.2.2.2.2
  have q6 := ti.2.1.2.2.2.2.2
  have nq' : ∀ q, b ≤ q → q < z → q ∉ slq M r :: [r, r + 1] := fun q a c => nq q6.1 c (by omega) (fun hm => by simp at hm; omega)
  refine ⟨h1, s', e2, ti.fa F (fun q hq => by simp at hq; omega) ha, ⟨by rw [hb b (by omega)]; exact i5, by rw [hb b (by omega)]; exact i6⟩, g.fm F.1 (by omega) (nq' _ (by omega) (by omega)) (nq' _ (by omega) (by omega)) (nq' _ (by omega) (by omega)) (nq' _ (by omega) (by omega)) (nq' _ (by omega) (by omega)), fh, ft, ⟨by rw [hb b (by omega)]; exact a1, by rw [hb b (by omega)]; exact a2⟩, a3, fun k y e h1 h2 h3 => (e2.2.1 _).mpr (hsub _ ((es.2.1 _).mp (a4 k y e h1 h2 h3)))⟩
theorem RPp.as {s' S2 : List (List Nat) × Nat} {L : List Nat} (F : Fa r L M M') (hL : ∀ q, q ∈ L → q = r ∨ q = r + 1 ∨ q = b) (hb5 : ∀ j, j ≠ 7 → j ≠ 9 → mI M' b j = mI M b j) (hi : RPp z M b r A st sp p) (ha : AI z M' r A st sp s') (e2 : eqS s' S2) : RPp z M' b r A st sp (qm p, S2, ql p, qH p, qT p, qK p, qg p) := by
  obtain ⟨h1, s, es, ri, ⟨i5, i6⟩, g⟩ := hi
  have bz := ri.2.2.2.2.2.1
  have br := ri.2.2.2.2.2.2
  have q6 := ri.2.1.2.2.2.2.2
  have nq' : ∀ q, b < q → q < z → q ∉ slq M r :: L := fun q a c => nq q6.1 c (by omega) (fun hm => by have := hL q hm; omega)
  exact ⟨h1, s', e2, ri.fa F (fun q hq => by have := hL q hq; omega) ha, ⟨by rw [hb5 5 (by decide) (by decide)]; exact i5, by rw [hb5 6 (by decide) (by decide)]; exact i6⟩, g.fm F.1 (by omega) (nq' _ (by omega) (by omega)) (nq' _ (by omega) (by omega)) (nq' _ (by omega) (by omega)) (nq' _ (by omega) (by omega)) (nq' _ (by omega) (by omega))⟩
theorem w_X11_asks {x : Int64} (hd : 4 < d) (hS : CX Mz M X A st sp p R) (hI : PI A N p) (hN : N ≤ 4600) (h1 : ∀ M' w, isW (pl A) x w → CX Mz M' X A st sp (qm p, aS st sp (qs p) w, ql p, qH p, qT p, qK p, qg p) R → Q (some (.int (nI (an A 0 w)))) M') (h2 : ∀ M', CX Mz M' X A st sp p R → (¬ ∃ w, isW (pl A) x w) → Q (some (.int (-1 : Int32))) M') : ClD d mdX11_asks [.ref 2, .long x] M Q := by
  have hA := hS.ok
  have l3 := hA.2.1.2
  have r := hS.r
  have hc := hS.1.2.2.1
  have hn := hI.n hA
  obtain ⟨s, es, ai⟩ := hc.ai
  have e4 : mR M 2 4 = 18 := r.1.2.2.2.2
  have e0 : mR M 18 0 = 19 := hc.1.1.2.1
  have K1 : mK M (mR M 2 4) = 6 := by rw [e4]; exact hc.1.1.1
  have K2 : mK M (mR M (mR M 2 4) 0) = 4 := by rw [e4, e0]; exact ai.1.1
  refine ⟨4, hd, Cl.of moX11_asks (Nat.le_of_ble_eq_true rfl) (gX11_asks_0 hS.k (w_X11_isNoWord (by decide) hS (fun w hw => gX11_asks_5 hS.k K1 K2 (fun _ => ?_) (fun c => absurd rfl c)) (fun hn => gX11_asks_5 hS.k K1 K2 (fun c => absurd c (by decide)) (fun _ => gX11_asks_23 ⟨⟨_, rfl⟩, h2 M hS hn⟩))))⟩
  have hw0 := hw
  obtain ⟨w1, w2, w3⟩ := hw
  rw [e4, e0, w3]
  have ai19 : AI 88 M 19 A st sp s := ai
  refine w_ask (by decide) ai19 w1 w2 (by rw [es.len]; omega) (fun M1 F1 A1 => gX11_asks_23 ⟨⟨_, rfl⟩, h1 M1 w hw0 ?_⟩)
  have sub : ∀ v, v ∈ (qs p).1 → v ∈ (aS st sp (qs p) w).1 := fun v hv => (aS_mem st sp _ w v).mpr (Or.inl hv)
  have up := (hc.up (p' := (qm p, aS st sp (qs p) w, ql p, qH p, qT p, qK p, qg p)) (S := [19, 20]) F1 (fun q hq => by simp at hq; omega) rfl (fun c => TPp.as F1 (hc.2.2.1 c) A1 es.a sub) (fun c => RPp.as F1 (fun q hq => by simp at hq; omega) (fun j _ _ => by
    have q6 := ai19.2.2.2.2.2
    rw [F1.1.I (by omega) (nq q6.1 (by omega) (by omega) (by simp))]) (hc.2.2.2.1 c) A1 es.a)).1
  refine hS.pu F1 (fun q hq => by simp at hq; omega) up (SeaSh.fm F1.1 (by have := hS.1.1.2.1.2.2.2; omega) hS.1.1.2.2 (fun hm => ?_))
  have := hS.1.1.2.1.1.1
  rcases List.mem_cons.mp hm with e | e
  · have e : 13 = slq M 19 := e
    omega
  · simp at e
theorem w_X11_method {x : Int32} (hd : 7 < d) (hS : CX Mz M X A st sp p R) (h1 : ∀ M' k, k ≤ 3 → x = nI k → CX Mz M' X A st sp (newP A st sp k) R → Q (some (.int (nI (qm p)))) M') (h2 : ∀ M', CX Mz M' X A st sp p R → (¬ ∃ k, k ≤ 3 ∧ x = nI k) → Q (some (.int (-1 : Int32))) M') : ClD d mdX11_method [.ref 2, .int x] M Q := by
  have r := hS.r
  have hc := hS.1.2.2.1
  obtain ⟨s, es, ai⟩ := hc.ai
  have e4 : mR M 2 4 = 18 := r.1.2.2.2.2
  refine ⟨7, hd, Cl.of moX11_method (Nat.le_of_ble_eq_true rfl) (gX11_method_0 hS.k (by rw [e4]; exact hc.1.1.1) (fun c => ⟨⟨_, rfl⟩, h2 M hS ?_⟩) (fun c c2 => ?_) (fun c c2 => ⟨⟨_, rfl⟩, h2 M hS ?_⟩))⟩
  · rintro ⟨i, i1, i2⟩
    rw [i2] at c; exact nI_pos (by omega) c
  · obtain ⟨k, k1, k2⟩ := nI_of c
    rw [k2, nI_ltI k1 (by decide)] at c2
    rw [e4, k2, hc.2.1.2]
    refine w_X4_renew (P := 18) (by decide) (by omega) hc.1 ai ⟨by decide, by decide⟩ (fun M1 F1 C1 => gX11_method_27 ⟨⟨_, rfl⟩, h1 M1 k (by omega) k2 (hS.pu F1 (fun q hq => by rw [puS_mem] at hq; omega) C1 (SeaSh.fm F1.1 (by have := hS.1.1.2.1.2.2.2; omega) hS.1.1.2.2 (fun hm => ?_)))⟩)
    have := hS.1.1.2.1.1.1
    rcases List.mem_cons.mp hm with e | e
    · have e : 13 = slq M 19 := e
      omega
    · rw [puS_mem] at e; omega
  · rintro ⟨i, i1, i2⟩
    rw [i2, nI_ltI (by omega) (by decide)] at c2; omega
/-- another machine is told -/
theorem CX.nm (h : CX Mz M X A st sp p R) (F : Sm [3, 4, 5] M M1) (hA' : okM A') (ha : MacAt M1 3 A') : (∃ s, AI 88 M1 19 A' st sp s) ∧ PuSh M1 18 ∧ mI M1 18 4 = nI (qm p) ∧ mR M1 2 4 = 18 ∧ mK M1 2 = 13 ∧ ∀ M2, Fa 19 (puS 18) M1 M2 → CP 88 M2 18 A' st sp p' → CX Mz M2 X A' st sp p' R := by
  have r := h.r
  obtain ⟨⟨⟨h1, h2, h3⟩, h4, h5, ⟨s, h6⟩, ⟨k, T, n, h7⟩, h8⟩, hx⟩ := h
  have l8 := h2.2.2.2
  have sl := h2
  obtain ⟨⟨l1, l2, l3⟩, ⟨b1, b2, b3⟩, ⟨d1, d2, d3⟩, -⟩ := h2
  have e3 : mR M 82 1 = slq M 81 := rfl
  have F1 := F.fe
  have hL : ∀ q, q ∈ [3, 4, 5] → 3 ≤ q ∧ q ≤ 5 := fun q hq => by simp at hq; omega
  have nf : ∀ q, 5 < q ∨ q < 3 → q ∉ [3, 4, 5] := fun q a hm => by have := hL q hm; omega
  have hS1 : ∀ q, q ∈ [3, 4, 5] → (2 ≤ q ∧ q < 88) ∧ q ≠ 20 ∧ q ≠ 52 ∧ q ≠ 82 := fun q hq => by have := hL q hq; omega
  obtain ⟨s0, es, ai⟩ := h5.ai
  have nai : ∀ {r s}, AI 88 M r A st sp s → (5 < r ∧ r < 86) → AI 88 M1 r A' st sp s := fun {r s} g hr => by
    obtain ⟨g1, g2, g3, g4, g5, g6, g7, g8⟩ := g
    exact ⟨g1.fm F1.1 (by omega), g2.fm F1.1 (by omega) (nf _ (by omega)) (nf _ (by omega)) (nf _ (by omega)), g3.sm F, ha, hA', by unfold slq at g6 ⊢; rw [F.2.1]; exact g6, by rw [F.2.2.2.2.1]; exact g7, g8⟩
  have c1 := h1.fm F1.1 l8
  have sl1 := sl.fe F1 hS1
  have lq : ∀ r, slq M1 r = slq M r := fun r => by unfold slq; rw [F.2.1]
  refine ⟨⟨s0, nai ai (by decide)⟩, h5.1.fm F1.1 (by omega), by rw [F.I (nf _ (by omega))]; exact h5.2.1.2, c1.r.1.2.2.2.2, c1.1.1, fun M2 F2 C2 => ?_⟩
  have c51 := nai h6 (by decide)
  have s7 := h7.fm F1.1 (by omega) (nf _ (by omega)) (nf _ (by omega))
  have t4 := h4.fm F1.1 (by omega) (nf _ (by omega)) (nf _ (by omega))
  have r8 := h8.fm F1.1 l8 (nf _ (by omega)) (nf _ (by omega))
  have ll8 : 88 ≤ mC M1 + 2 := by rw [F.2.2.2.2.1]; exact l8
  have nf2 : ∀ q, (q < 18 ∨ 49 < q) → q ≠ slq M 19 → q ∉ slq M1 19 :: puS 18 := fun q a b hm => by
    rcases List.mem_cons.mp hm with e | e
    · rw [lq] at e; exact b e
    · rw [puS_mem] at e; omega
  have e31 : mR M1 82 1 = slq M 81 := by rw [F.2.1]; rfl
  have hS2 : ∀ q, q ∈ puS 18 → (2 ≤ q ∧ q < 88) ∧ (q = 20 → 19 = 19) ∧ (q = 52 → 19 = 51) ∧ (q = 82 → 19 = 81) := fun q hq => by rw [puS_mem] at hq; omega
  obtain ⟨sc, -, aic⟩ := C2.ai
  obtain ⟨ka, Ta, sa, -, -⟩ := aic.2.1.2.2
  have q51 := lq 51
  refine ⟨⟨⟨c1.fm F2.1 ll8, sl1.up (Or.inl rfl) F2 hS2 sa.1.2.2.2.2, SeaSh.fm F2.1 (by omega) (h3.sm F) (nf2 _ (by omega) (by omega))⟩, t4.fm F2.1 (by omega) (nf2 _ (by omega) (by omega)) (nf2 _ (by omega) (by omega)), C2, ⟨s, c51.fm F2.1 (nf2 _ (by omega) (by omega)) (nf2 _ (by omega) (by omega)) (nf2 _ (by omega) (by omega)) (nf2 _ (by omega) (by omega)) (nf2 _ (by omega) (by omega)) (nf2 _ (by omega) (by omega))⟩, ⟨k, T, n, s7.fm F2.1 (by omega) (nf2 _ (by omega) (by omega)) (nf2 _ (by omega) (by omega))⟩, r8.fm F2.1 ll8 (nf2 _ (by omega) (by omega)) (nf2 _ (by omega) (by omega))⟩, (hx.tr (XF.fe sl F1 hS1)).tr (XF.fa sl1 (Or.inl rfl) F2 hS2)⟩
theorem w_X11_machine (hd : 8 < d) (hS : CX Mz M X A st sp p R) (hm3 : qm p ≤ 3)
    (h1 : ∀ M' n, prK X n → clM (tA X n) → CX Mz M' [] (tA X n) st sp (newP (tA X n) st sp (qm p)) R → Q (some (.int (nI n))) M')
    (h2 : ∀ M' n, prK X n → ¬ clM (tA X n) → CX Mz M' [] A st sp p R → Q (some (.int (-100 : Int32))) M')
    (h3 : ∀ M' q, prE X q → CX Mz M' [] A st sp p R → Q (some (.int ((-21 : Int32) - nI q))) M') : ClD d mdX11_machine [.ref 2] M Q := by
  have r := hS.r
  have ts := hS.1.1.1.2.2.2.1
  have m7 := hS.1.1.1.2.2.1
  refine ⟨8, hd, Cl.of moX11_machine (Nat.le_of_ble_eq_true rfl) (gX11_machine_0 hS.k (by rw [r.1.2.2.1]; exact ts.1) ?_)⟩
  rw [r.1.2.2.1, r.1.2.1]
  have CUT : ∀ (v : Int32) (M1 : Mem), Sm [11, 7, 7 + 1, 7 + 2] M M1 → TxtAt M1 11 X → (∀ M2, CX Mz M2 [] A st sp p R → Sm [11] M1 M2 → Wp 8 mdX11_machine 20 [(0, .ref 2), (1, .int v)] [.int (nI 1)] M2 (fun r M' => ROK mdX11_machine r ∧ Q r M')) → Wp 8 mdX11_machine 11 [(0, .ref 2)] [.int v] M1 (fun r M' => ROK mdX11_machine r ∧ Q r M') := fun v M1 S1 T1 go => by
    have hS1 : CX Mz M1 X A st sp p R := hS.tx S1 (fun q hq => by simp at hq; unfold frL; omega) T1
    have r1 := hS1.r
    have ts1 := hS1.1.1.1.2.2.2.1
    refine gX11_machine_11 hS1.k (by rw [r1.1.2.2.1]; exact ts1.1) ?_
    rw [r1.1.2.2.1]
    refine w_X7_shorten (by decide) ts1 T1 (fun n hn en => ?_) (fun c => ?_)
    · rw [nI_eq (by decide) (by have := T1.2.1; omega)] at en
      subst en
      have t2 := T1.cut (n := 0) (Nat.zero_le _)
      rw [List.take_zero] at t2
      exact go _ (hS1.tx (Sm.sI (S := [11]) (by simp) _ _ _) (fun q hq => by simp at hq; omega) t2) (Sm.sI (by simp) _ _ _)
    · exfalso
      rcases c with c | c
      · exact absurd c (by decide)
      · rw [nI_ltI (by have := T1.2.1; omega) (by decide)] at c; omega
  refine w_X7_read (by decide) ts hS.1.2.1 m7 (Or.inr (by decide)) (fun M1 n S1 T1 hk ha => CUT _ M1 S1 T1 (fun M2 hS2 S2 => ?_)) (fun M1 q hq S1 T1 he => CUT _ M1 S1 T1 (fun M2 hS2 S2 => ?_))
  · have r2 := hS2.r
    have m72 := hS2.1.1.1.2.2.1
    have ha2 : MacAt M2 7 (tA X n) := ha.sm S2 (by simp) (by simp) (by simp)
    have hb := tA_bd hk
    have n8 := hk.1
    refine gX11_machine_20 hS2.k (by rw [r2.1.2.1]; exact m72.1.1) (fun _ => ?_) (fun c => absurd (nI_pos' (by omega)) c)
    rw [r2.1.2.1]
    have m3 := hS2.1.m3
    refine w_X2_isClosed (by decide) m72 ha2 hb (fun hcl => gX11_machine_34 hS2.k (by rw [r2.1.1]; exact m3.1.1.1) (fun _ => ?_) (fun c => absurd c (by decide))) (fun hcl => gX11_machine_34 hS2.k (by rw [r2.1.1]; exact m3.1.1.1) (fun c => absurd rfl c) (fun _ => ⟨⟨_, rfl⟩, h2 M2 n hk hcl hS2⟩))
    have okA : okM (tA X n) := ⟨n8, l0_b X, hb.2.2.1, hcl⟩
    rw [r2.1.1, r2.1.2.1]
    refine w_X2_become (by decide) m3.1 m72 ha2 okA (fun i hi j hj => by omega) (fun M3 S3 ha3 => ?_)
    obtain ⟨⟨s, ai⟩, pu, e4, er, ek, fin⟩ := hS2.nm (p' := newP (tA X n) st sp (qm p)) S3 okA ha3
    refine gX11_machine_51 ek (by rw [er]; exact pu.1.1) ?_
    rw [er, e4]
    exact w_X4_renew (P := 18) (by decide) hm3 pu ai ⟨by decide, by decide⟩ (fun M4 F4 C4 => gX11_machine_65 ⟨⟨_, rfl⟩, h1 M4 n hk hcl (fin M4 F4 C4)⟩)
  · refine gX11_machine_20 hS2.k (by rw [hS2.r.1.2.1]; exact hS2.1.1.1.2.2.1.1.1) (fun c => ?_) (fun _ => ⟨⟨_, rfl⟩, h3 M2 q he hS2⟩)
    exfalso
    have e0 : (0 : Int32).toInt = 0 := by decide
    have e21 : (-21 : Int32).toInt = -21 := by decide
    rw [Int32.le_iff_toInt_le, e0, Int32.toInt_sub, e21, nI_toInt (by omega), Int.bmod_eq_of_le (by omega) (by omega)] at c
    omega
end XFb
