/-! Arrays.fill, WordSet's clear and makeRoom -/
section Room
variable {d r : Nat} {Q : Option Value → Mem → Prop} {M : Mem}
theorem w_fillJ {q : Nat} {v : Int64} (hd : 1 < d) (hk : mK M q = 2) (hn : mN M q < 2 ^ 30) (h : ∀ M', Sm [q] M M' → (∀ j, j < mN M q → mJ M' q j = v) → Q none M') : ClD d mdJ7_fill_d0a16 [.ref q, .long v] M Q := by
  refine ⟨1, hd, Cl.of moJ7_fill_d0a16 (Nat.le_of_ble_eq_true rfl) (gJ7_fill_d0a16_0 hk ?_)⟩
  refine upto (mN M q) (fun i => ∀ M1, Sm [q] M M1 → (∀ j, j < i → mJ M1 q j = v) → Wp 1 mdJ7_fill_d0a16 6 [(0, .ref q), (1, .long v), (3, .int (nI i)), (4, .int (nI (mN M q)))] [] M1 (fun r M' => ROK mdJ7_fill_d0a16 r ∧ Q r M')) ?_ 0 (Nat.zero_le _) M (Sm.rf _ _) (fun _ h => by omega)
  intro i hi ih M1 hS hj
  have k1 : mK M1 q = 2 := by rw [hS.2.2.1]; exact hk
  have n1 : mN M1 q = mN M q := by rw [hS.2.2.2.1]
  refine gJ7_fill_d0a16_6 k1 (fun c => ⟨rfl, ?_⟩) (fun c => ?_) (fun c => ?_)
  · rw [nI_leI (by omega) (by omega)] at c
    exact h M1 hS (fun j hj' => hj j (by omega))
  · have : i < mN M q := Nat.lt_of_not_le fun q => c (nI_le q (by omega))
    rw [n1]; exact z_in this (by omega)
  · have hlt : i < mN M q := Nat.lt_of_not_le fun q => c (nI_le q (by omega))
    rw [nI_add, nI_clamp (by omega)]
    refine ih hlt _ (hS.tr (Sm.sJ (by simp) _ _ _)) (fun j hj' => ?_)
    by_cases e : j = i
    · subst e; exact rJ_at _ _ _ _
    · rw [rJ_nk e]; exact hj j (by omega)
theorem w_fillI {q : Nat} {v : Int32} (hd : 1 < d) (hk : mK M q = 1) (hn : mN M q < 2 ^ 30) (h : ∀ M', Sm [q] M M' → (∀ j, j < mN M q → mI M' q j = v) → Q none M') : ClD d mdJ7_fill_53178 [.ref q, .int v] M Q := by
  refine ⟨1, hd, Cl.of moJ7_fill_53178 (Nat.le_of_ble_eq_true rfl) (gJ7_fill_53178_0 hk ?_)⟩
  refine upto (mN M q) (fun i => ∀ M1, Sm [q] M M1 → (∀ j, j < i → mI M1 q j = v) → Wp 1 mdJ7_fill_53178 5 [(0, .ref q), (1, .int v), (2, .int (nI i)), (3, .int (nI (mN M q)))] [] M1 (fun r M' => ROK mdJ7_fill_53178 r ∧ Q r M')) ?_ 0 (Nat.zero_le _) M (Sm.rf _ _) (fun _ h => by omega)
  intro i hi ih M1 hS hj
  have k1 : mK M1 q = 1 := by rw [hS.2.2.1]; exact hk
  have n1 : mN M1 q = mN M q := by rw [hS.2.2.2.1]
  refine gJ7_fill_53178_5 k1 (fun c => ⟨rfl, ?_⟩) (fun c => ?_) (fun c => ?_)
  · rw [nI_leI (by omega) (by omega)] at c
    exact h M1 hS (fun j hj' => hj j (by omega))
  · have : i < mN M q := Nat.lt_of_not_le fun q => c (nI_le q (by omega))
    rw [n1]; exact z_in this (by omega)
  · have hlt : i < mN M q := Nat.lt_of_not_le fun q => c (nI_le q (by omega))
    rw [nI_add, nI_clamp (by omega)]
    refine ih hlt _ (hS.tr (Sm.sI (by simp) _ _ _)) (fun j hj' => ?_)
    by_cases e : j = i
    · subst e; exact rI_at _ _ _ _
    · rw [rI_nk e]; exact hj j (by omega)
theorem nzc_all {T : Nat → Nat} : ∀ {n}, nzc T n = 0 → ∀ k, k < n → T k = 0
  | 0, _, k, hk => absurd hk (Nat.not_lt_zero _)
  | n + 1, h, k, hk => by
    have h2 : nzc T n + (if T n = 0 then 0 else 1) = 0 := h
    by_cases e : T n = 0
    · rw [if_pos e] at h2
      by_cases ek : k = n
      · rw [ek]; exact e
      · exact nzc_all (T := T) (n := n) (by omega) k (by omega)
    · rw [if_neg e] at h2; omega
theorem w_X10_clear {k n : Nat} {T : Nat → Nat} (hd : 2 < d) (hs : SetAt M r k T n) (hq : mR M r 1 ≠ r) (h : ∀ M', Sm [r, mR M r 1] M M' → SetAt M' r k (fun _ => 0) 0 → Q none M') : ClD d mdX10_clear [.ref r] M Q := by
  obtain ⟨⟨a1, a2, a3, a4, a5⟩, b, hi, hz, k1, k2⟩ := hs
  have hk := p2k k1 k2
  have hzn := nzc_le T (2 ^ k)
  have fin : ∀ M1, Sm [mR M r 1] M M1 → (∀ j, j < 2 ^ k → mJ M1 (mR M r 1) j = lN 0) → Wp 2 mdX10_clear 15 [(0, .ref r)] [] M1 (fun r M' => ROK mdX10_clear r ∧ Q r M') := by
    intro M1 hS hj
    refine gX10_clear_15 (by rw [hS.2.2.1]; exact a1) ⟨rfl, ?_⟩
    refine h _ ((hS.mono (by simp)).tr (Sm.sI (by simp) _ _ _)) ⟨⟨by show mK M1 r = 12; rw [hS.2.2.1]; exact a1, ?_, ?_, rI_at _ _ _ _, ?_⟩, fun j hj' => ⟨?_, (by decide : (0 : Nat) < 2 ^ 61)⟩, hinv_0 _ _, nzc_0 _, k1, k2⟩
    · show mK M1 (mR M1 r 1) = 2
      rw [hS.2.1, hS.2.2.1]; exact a2
    · show mN M1 (mR M1 r 1) = 2 ^ k
      rw [hS.2.1, hS.2.2.2.1]; exact a3
    · show mR M1 r 1 < mC M1 + 2
      rw [hS.2.1, hS.2.2.2.2.1]; exact a5
    · show mJ M1 (mR M1 r 1) j = lN 0
      rw [hS.2.1]; exact hj j hj'
  refine ⟨2, hd, Cl.of moX10_clear (Nat.le_of_ble_eq_true rfl) (gX10_clear_0 a1 (fun c => ?_) (fun c => ?_))⟩
  · have hn0 : n = 0 := by
      by_cases e : n = 0
      · exact e
      · rw [a4] at c; exact absurd c (nI_nle (by omega) (by omega))
    refine fin M (Sm.rf _ _) (fun j hj => ?_)
    rw [(b j hj).1, nzc_all (hz.trans hn0) j hj]
  · refine w_fillJ (by decide) a2 (by omega) (fun M1 hS hj => fin M1 hS (fun j hj' => hj j (by omega)))
/-- room for one more: the same words, it may be in a new row -/
theorem w_X10_makeRoom {k n : Nat} {T : Nat → Nat} {f : Nat → Prop} (hd : 2 < d) (hs : SetAt M r k T n) (hf : hset (2 ^ k) T f) (hn : n < 2 ^ k) (hrl : r < mC M + 2) (h : ∀ k' T' M', Fm [r] M M' → SetAt M' r k' T' n → hset (2 ^ k') T' f → (2 * n < 2 ^ k' ∨ 2 ^ k' = 16384) → mC M' + 2 ^ k ≤ mC M + 2 ^ k' → mS M' + 2 * 2 ^ k ≤ mS M + 2 * 2 ^ k' → (mR M' r 1 = mR M r 1 ∨ mC M + 2 ≤ mR M' r 1) → Q none M') : ClD d mdX10_makeRoom [.ref r] M Q := by
  have hs0 := hs
  obtain ⟨⟨a1, a2, a3, a4, a5⟩, b, hi, hz, k1, k2⟩ := hs
  have hk := p2k k1 k2
  have hzn := nzc_le T (2 ^ k)
  refine ⟨2, hd, Cl.of moX10_makeRoom (Nat.le_of_ble_eq_true rfl) (gX10_makeRoom_0 a1 a2 (fun c => ⟨rfl, ?_⟩) (fun _ _ => ?_) (fun _ _ => ?_) (fun c1 c2 => ?_) (fun c1 c2 => ⟨rfl, ?_⟩))⟩
  · rw [a3, a4, pk_mul, nI_ltI (by omega) (by omega)] at c
    exact h k T M (Fm.rf _ _) hs0 hf (by omega) (Nat.le_refl _) (Nat.le_refl _) (Or.inl rfl)
  · rw [a3, pk_mul]; exact nI_pos (by omega)
  · rw [a3, pk_mul, nI_clamp (by omega)]; omega
  · rw [a3, nI_ltI (by omega) (by decide)] at c2
    rw [a3, a4, pk_mul, nI_ltI (by omega) (by omega)] at c1
    have e2 : 2 * 2 ^ k = 2 ^ (k + 1) := by rw [Nat.pow_succ, Nat.mul_comm]
    have k2' : k + 1 ≤ 14 := by
      rcases Nat.lt_or_ge k 14 with q | q
      · omega
      · have : (2 : Nat) ^ 14 ≤ 2 ^ k := Nat.pow_le_pow_right (by decide) q
        have e14 : (2 : Nat) ^ 14 = 16384 := by decide
        omega
    have hk' := p2k (k := k + 1) (by omega) k2'
    rw [a3, pk_mul, nI_clamp (by omega), e2]
    refine gX10_makeRoom_38 (show mK (nwC M 2 (2 ^ (k + 1))) r = 12 from (if_neg (by omega)).trans a1) ?_
    -- the memory with the new row
    obtain ⟨M2, hM2⟩ : ∃ M2, M2 = sR (nwC M 2 (2 ^ (k + 1))) r 1 (mC M + 2) := ⟨_, rfl⟩
    obtain ⟨q', hq'⟩ : ∃ q', q' = mC M + 2 := ⟨_, rfl⟩
    rw [← hq'] at hM2
    have old : ∀ p, p < q' → p ≠ r → mI M2 p = mI M p ∧ mJ M2 p = mJ M p ∧ mR M2 p = mR M p := by
      intro p hp hpr
      rw [hM2]
      refine ⟨funext fun j => if_neg (by omega), funext fun j => if_neg (by omega), ?_⟩
      exact (up2_ne hpr).trans (funext fun j => if_neg (by omega))
    have oldK : ∀ p, p < q' → mK M2 p = mK M p ∧ mN M2 p = mN M p := by
      intro p hp
      rw [hM2]
      exact ⟨if_neg (by omega), if_neg (by omega)⟩
    have oldR : ∀ p j, p < q' → (p ≠ r ∨ j ≠ 1) → mR M2 p j = mR M p j := by
      intro p j hp hc
      rw [hM2]
      exact (if_neg (fun e => by omega)).trans (if_neg (by omega))
    have r1 : mR M2 r 1 = q' := by rw [hM2]; exact up2_at _ _ _ _
    have rI0 : mI M2 r 0 = nI n := by rw [hM2]; exact (if_neg (by omega)).trans a4
    have nK : mK M2 q' = 2 := by rw [hM2, hq']; exact if_pos rfl
    have nN : mN M2 q' = 2 ^ (k + 1) := by rw [hM2, hq']; exact if_pos rfl
    have nJ : ∀ j, mJ M2 q' j = lN 0 := by intro j; rw [hM2, hq']; exact if_pos rfl
    have nC : mC M2 = mC M + 1 := by rw [hM2]; rfl
    have nS : mS M2 = mS M + 2 ^ (k + 1) := by rw [hM2]; rfl
    have F2 : Fm [r] M M2 := by
      refine ⟨fun p hp hn' => old p (by omega) (fun e => hn' (by simp [e])), fun p hp => oldK p (by omega), fun p j hp hv => oldR p j (by omega) ?_, by omega, by omega⟩
      by_cases e : p = r
      · right; intro e1; apply hv; rw [e, a1, e1]; exact Or.inl ⟨rfl, rfl⟩
      · exact Or.inl e
    rw [show sR (nwC M 2 (2 ^ (k + 1))) r 1 (mC M + 2) = M2 by rw [hM2, hq']]
    clear hM2
    refine upto (2 ^ k) (fun i => ∀ M3 T', Sm [q'] M2 M3 → (∀ j, j < 2 ^ (k + 1) → mJ M3 q' j = lN (T' j) ∧ T' j < 2 ^ 61) → hinv hX (2 ^ (k + 1)) T' → hset (2 ^ (k + 1)) T' (fun x => x ≠ 0 ∧ ∃ j, j < i ∧ T j = x) → nzc T' (2 ^ (k + 1)) = nzc T i → Wp 2 mdX10_makeRoom 43 [(0, .ref r), (1, .ref (mR M r 1)), (2, .int (nI i))] [] M3 (fun r M' => ROK mdX10_makeRoom r ∧ Q r M')) ?_ 0 (Nat.zero_le _) M2 (fun _ => 0) (Sm.rf _ _) (fun j _ => ⟨nJ j, by decide⟩) (hinv_0 _ _) (fun c => ⟨fun g => absurd g.2 (fun ⟨_, q, _⟩ => by omega), fun ⟨g, _, _, e⟩ => absurd e.symm g⟩) (nzc_0 _)
    intro i hi1 ih M3 T' hS hJ hin hst' hnz
    have z1 : mR M3 r 1 = q' := by rw [hS.2.1]; exact r1
    have z2 : mK M3 r = 12 := by rw [hS.2.2.1, (oldK r (by omega)).1]; exact a1
    have z3 : mK M3 q' = 2 := by rw [hS.2.2.1]; exact nK
    have z4 : mN M3 q' = 2 ^ (k + 1) := by rw [hS.2.2.2.1]; exact nN
    have z5 : mK M3 (mR M r 1) = 2 := by rw [hS.2.2.1, (oldK _ (by omega)).1]; exact a2
    have z6 : mN M3 (mR M r 1) = 2 ^ k := by rw [hS.2.2.2.1, (oldK _ (by omega)).2]; exact a3
    have hqr : mR M r 1 ≠ r := fun e => by rw [e, a1] at a2; cases a2
    have z7 : mJ M3 (mR M r 1) = mJ M (mR M r 1) := by rw [hS.J (by simp; omega)]; exact (old _ (by omega) hqr).2.1
    refine gX10_makeRoom_43 z5 z2 (fun c => ⟨rfl, ?_⟩) (fun c => ?_) (fun c => ?_)
    · rw [z6, nI_leI (by omega) (by omega)] at c
      have ei : i = 2 ^ k := by omega
      subst ei
      refine h (k + 1) T' M3 (F2.tr hS.fm (fun p hp => Or.inr (by simp at hp; omega))) ⟨⟨z2, by rw [z1]; exact z3, by rw [z1]; exact z4, ?_, by rw [z1, hS.2.2.2.2.1, nC]; omega⟩, by rw [z1]; exact hJ, hin, by rw [hnz, hz], by omega, k2'⟩ (fun c => ?_) ?_ ?_ ?_ (Or.inr (by rw [z1]; omega))
      · rw [hS.I (by simp; omega)]; exact rI0
      · rw [hf c]
        constructor
        · rintro ⟨g1, j, g2, g3⟩
          exact (hst' c).mp ⟨g1, j, g2, g3⟩
        · intro g
          obtain ⟨g1, j, g2, g3⟩ := (hst' c).mpr g
          exact ⟨g1, j, g2, g3⟩
      · omega
      · rw [hS.2.2.2.2.1, nC, ← e2]; omega
      · rw [hS.2.2.2.2.2, nS, ← e2]; omega
    · have : i < 2 ^ k := Nat.lt_of_not_le fun q => c (by rw [z6]; exact nI_le q (by omega))
      rw [z6]; exact z_in this (by omega)
    · have hil : i < 2 ^ k := Nat.lt_of_not_le fun q => c (by rw [z6]; exact nI_le q (by omega))
      have bi := b i hil
      have nle : nzc T i ≤ i := nzc_le T i
      rw [nI_clamp (by omega), z7, bi.1]
      refine w_place (k := k + 1) (T := T') (by decide) z2 (by rw [z1]; exact z3) (by rw [z1]; exact z4) (by rw [z1]; exact hJ) (by omega) (by omega) k2' bi.2 (fun i' hst => ?_)
      have hp : pr hX (2 ^ (k + 1)) (T i) i' < 2 ^ (k + 1) := pr_lt (by omega)
      have hTi : T i ≠ 0 → T' (pr hX (2 ^ (k + 1)) (T i) i') = 0 := by
        intro hne
        rcases hst.2.1 with g | g
        · exfalso
          obtain ⟨-, j, g2, g3⟩ := (hst' (T i)).mpr ⟨hne, _, hp, g⟩
          have := hi.2 j i (by omega) hil (by rw [g3]; exact hne) g3
          omega
        · exact g
      refine gX10_makeRoom_56 z5 z2 (by rw [z1]; exact z3) ?_ (fun c1 => ?_) (fun c1 c2 => absurd c2 (nI_pos (by omega))) (fun c1 c2 c3 => ?_) (fun _ _ _ => ?_) (fun _ _ _ => ?_) (fun c1 c2 c3 => ?_)
      · rw [z6]; exact z_in hil (by omega)
      · rw [nI_clamp (by omega), z7, bi.1, pk_lEQ (by omega) (by decide)] at c1
        rw [nI_add]
        refine ih hil M3 T' hS hJ hin (fun c => ?_) ?_
        · rw [← hst' c]
          exact ⟨fun ⟨g1, j, g2, g3⟩ => ⟨g1, j, (by
            rcases Nat.lt_or_ge j i with q | q
            · exact q
            · have : j = i := by omega
              rw [this, c1] at g3
              exact absurd g3.symm g1), g3⟩, fun ⟨g1, j, g2, g3⟩ => ⟨g1, j, by omega, g3⟩⟩
        · show nzc T' (2 ^ (k + 1)) = nzc T i + (if T i = 0 then 0 else 1)
          rw [if_pos c1]; exact hnz
      · exfalso
        rw [z1, z4, nI_leI (by omega) (by omega)] at c3
        omega
      · rw [z6]; exact z_in hil (by omega)
      · rw [z1, z4]; exact z_in hp (by omega)
      · rw [nI_clamp (by omega), z7, bi.1, pk_lEQ (by omega) (by decide)] at c1
        rw [nI_clamp (by omega), nI_clamp (by omega), z1, z7, bi.1, nI_add]
        have h0 := hTi c1
        obtain ⟨g1, g2⟩ := ins_inv hin hst' c1 hst h0
        refine ih hil _ (upN T' (pr hX (2 ^ (k + 1)) (T i) i') (T i)) (hS.tr (Sm.sJ (by simp) _ _ _)) (fun j hj => ?_) g1 (fun c => ?_) ?_
        · by_cases e : j = pr hX (2 ^ (k + 1)) (T i) i'
          · subst e
            rw [rJ_at, show upN T' (pr hX (2 ^ (k + 1)) (T i) i') (T i) (pr hX (2 ^ (k + 1)) (T i) i') = T i from if_pos rfl]
            exact ⟨rfl, bi.2⟩
          · rw [rJ_nk e, show upN T' (pr hX (2 ^ (k + 1)) (T i) i') (T i) j = T' j from if_neg e]
            exact hJ j hj
        · rw [← g2 c]
          constructor
          · rintro ⟨q1, j, q2, q3⟩
            rcases Nat.lt_or_ge j i with q | q
            · exact Or.inr ⟨q1, j, q, q3⟩
            · have : j = i := by omega
              rw [this] at q3
              exact Or.inl q3.symm
          · rintro (q | ⟨q1, j, q2, q3⟩)
            · rw [q]; exact ⟨c1, i, by omega, rfl⟩
            · exact ⟨q1, j, by omega, q3⟩
        · rw [nzc_up h0 c1 hp, hnz]
          show _ = nzc T i + (if T i = 0 then 0 else 1)
          rw [if_neg c1]
  · rw [a3, nI_ltI (by omega) (by decide)] at c2
    exact h k T M (Fm.rf _ _) hs0 hf (by omega) (Nat.le_refl _) (Nat.le_refl _) (Or.inl rfl)
end Room
