/-! the reference: its face, words by number, letters, states -/
section MFg
variable {d m st sp N : Nat} {Q : Option Value → Mem → Prop} {Mz M M' : Mem} {A : PM} {p p' : PS} {X : List Nat} {R : List Int64}
theorem w_inM {x : Int32} {n : Nat} (hd : 1 < d) (hb : n < 2 ^ 30) (h1 : ∀ k, k < n → x = nI k → Q (some (.int (nI 1))) M) (h0 : (¬ ∃ k, k < n ∧ x = nI k) → Q (some (.int (nI 0))) M) : ClD d mdX12_in [.long x.toInt64, .long (lN 0), .long (nI n - nI 1).toInt64] M Q := by
  refine w_X12_in hd (fun c1 c2 => ?_) (fun c => h0 ?_)
  · rw [Int32.toInt_toInt64, pk_lT (by decide)] at c1
    rw [Int32.toInt_toInt64, Int32.toInt_toInt64, pk_sub_toInt (by omega) (by decide)] at c2
    refine h1 x.toInt.toNat (by omega) ?_
    rw [← Int32.toInt_inj, nI_toInt (by omega)]; omega
  · rintro ⟨k, k1, k2⟩
    apply c
    rw [k2, Int32.toInt_toInt64, Int32.toInt_toInt64, pk_lT (by decide), pk_sub_toInt (by omega) (by decide), nI_toInt (by omega)]
    omega
theorem w_X12_letter {x : Int64} {y : Int32} (hd : 2 < d) (hS : MoS Mz M m X A st sp p R) (h : ∀ M', MoS Mz M' m X A st sp p R → ((¬ ∃ w, isW (pl A) x w) → Q (some (.int (-1 : Int32))) M') ∧ ∀ w, isW (pl A) x w → (y = (-1 : Int32) → Q (some (.int (nI w.length))) M') ∧ (∀ i, i < w.length → y = nI i → Q (some (.int (nI (w.getD i 0)))) M') ∧ (y ≠ (-1 : Int32) → (¬ ∃ i, i < w.length ∧ y = nI i) → Q (some (.int (-1 : Int32))) M')) : ClD d mdX12_letter [.ref m, .long x, .int y] M Q := by
  have hA := hS.sh.2
  have l3 := hA.2.1
  obtain ⟨M1, hM1⟩ : ∃ M1, M1 = sI M m 0 (nI 0) := ⟨_, rfl⟩
  have hS1 : MoS Mz M1 m X A st sp p R := by rw [hM1]; exact hS.th
  have s1 := hS1.sh.1
  have h := h M1 hS1
  refine ⟨2, hd, Cl.of moX12_letter (Nat.le_of_ble_eq_true rfl) (gX12_letter_0 hS.sh.1.1 ?_)⟩
  rw [← hM1]
  refine w_X12_isWord (by decide) s1.1 hS1.l3.1 l3.1 l3.2 (fun w hw => gX12_letter_10 (fun _ => ?_) (fun c => absurd c (by decide))) (fun hn => gX12_letter_10 (fun c => absurd rfl c) (fun _ => ⟨⟨_, rfl⟩, h.1 hn⟩))
  have h := h.2 w hw
  obtain ⟨w1, w2, w3⟩ := hw
  have w4 := vw_mono w1 (show pl A ≤ 4 by omega)
  rw [w3]
  refine w_X12_lengthOf (by decide) w4 w2 (gX12_letter_19 (fun c => ?_) (fun c => ⟨⟨_, rfl⟩, h.1 c⟩))
  refine w_inM (by decide) (by omega) (fun i hi ei => gX12_letter_40 (fun c => absurd c (by decide)) (fun _ => ?_)) (fun hn => gX12_letter_40 (fun _ => ⟨⟨_, rfl⟩, h.2.2 c hn⟩) (fun c => absurd rfl c))
  have hh := h.2.1 i hi ei
  rw [ei]
  exact w_X12_letterOf (by decide) w4 w2 hi (gX12_letter_50 ⟨⟨_, rfl⟩, hh⟩)
theorem w_X12_cut {x : Int64} {y : Int32} (hd : 3 < d) (hS : MoS Mz M m X A st sp p R) (h : ∀ M', MoS Mz M' m X A st sp p R → ((¬ ∃ w, isW (pl A) x w) → Q (some (.long (-1 : Int64))) M') ∧ ∀ w, isW (pl A) x w → (∀ i, i ≤ w.length → y = nI i → Q (some (.long (lN (cd (w.take i))))) M') ∧ (∀ i, i ≤ w.length → 0 < i → -y = nI i → y < 0 → Q (some (.long (lN (cd (w.drop i))))) M') ∧ ((y.toInt < -(w.length : Int) ∨ (w.length : Int) < y.toInt) → Q (some (.long (-1 : Int64))) M')) : ClD d mdX12_cut [.ref m, .long x, .int y] M Q := by
  have hA := hS.sh.2
  have l3 := hA.2.1
  obtain ⟨M1, hM1⟩ : ∃ M1, M1 = sI M m 0 (nI 0) := ⟨_, rfl⟩
  have hS1 : MoS Mz M1 m X A st sp p R := by rw [hM1]; exact hS.th
  have s1 := hS1.sh.1
  have h := h M1 hS1
  refine ⟨3, hd, Cl.of moX12_cut (Nat.le_of_ble_eq_true rfl) (gX12_cut_0 hS.sh.1.1 ?_)⟩
  rw [← hM1]
  refine w_X12_isWord (by decide) s1.1 hS1.l3.1 l3.1 l3.2 (fun w hw => gX12_cut_10 (by decide) (fun c => absurd c (by decide)) (fun _ => ?_)) (fun hn => gX12_cut_10 (by decide) (fun _ => ⟨⟨_, rfl⟩, h.1 hn⟩) (fun c => absurd rfl c))
  have h := h.2 w hw
  obtain ⟨w1, w2, w3⟩ := hw
  have w4 := vw_mono w1 (show pl A ≤ 4 by omega)
  rw [w3]
  have y1 := Int32.le_toInt y
  have y2 := Int32.toInt_lt y
  have hab : (jabs y.toInt64).toInt = if 0 < y.toInt then y.toInt else - y.toInt := by
    unfold jabs
    have e0 : (0 : Int64).toInt = 0 := by decide
    by_cases c : 0 < y.toInt64
    · rw [if_pos c]
      rw [Int64.lt_iff_toInt_lt, Int32.toInt_toInt64, e0] at c
      rw [if_pos c, Int32.toInt_toInt64]
    · rw [if_neg c]
      rw [Int64.lt_iff_toInt_lt, Int32.toInt_toInt64, e0] at c
      rw [if_neg c, Int64.toInt_neg, Int32.toInt_toInt64]
      exact Int.bmod_eq_of_le (by omega) (by omega)
  have e0 : (0 : Int32).toInt = 0 := by decide
  refine w_X12_lengthOf (by decide) w4 w2 (gX12_cut_22 (fun c c2 => ?_) (fun c c2 => ?_) (fun c => ⟨⟨_, rfl⟩, h.2.2 ?_⟩)) <;> rw [Int64.le_iff_toInt_le, hab, Int32.toInt_toInt64, nI_toInt (by omega)] at c
  · have c3 := c2
    rw [Int32.lt_iff_toInt_lt, e0] at c2
    rw [if_neg (by omega)] at c
    obtain ⟨k, hk⟩ : ∃ k, k = (-y.toInt).toNat := ⟨_, rfl⟩
    have ey : -y = nI k := by
      rw [← Int32.toInt_inj, nI_toInt (by omega), Int32.toInt_neg]
      rw [Int.bmod_eq_of_le (by omega) (by omega)]; omega
    have hh := h.2.1 k (by omega) (by omega) ey c3
    rw [ey]
    exact w_X12_behind (by decide) w4 w2 (by omega) (gX12_cut_49 ⟨⟨_, rfl⟩, hh⟩)
  · rw [Int32.lt_iff_toInt_lt, e0] at c2
    obtain ⟨k, hk⟩ : ∃ k, k = y.toInt.toNat := ⟨_, rfl⟩
    have hkl : k ≤ w.length := by split at c <;> omega
    have ey : y = nI k := by
      rw [← Int32.toInt_inj, nI_toInt (by omega)]; omega
    have hh := h.1 k hkl ey
    rw [ey]
    exact w_X12_firstOf (by decide) w4 w2 hkl (gX12_cut_40 (gX12_cut_49 ⟨⟨_, rfl⟩, hh⟩))
  · split at c <;> omega
theorem dg_next {l b j i : Nat} : dg l (i + 1) (b / l ^ j) = dg l i (b / l ^ (j + 1)) ++ [b % l ^ (j + 1) / l ^ j] := by
  show dg l i (b / l ^ j / l) ++ [b / l ^ j % l] = _
  rw [Nat.div_div_eq_div_mul, ← Nat.pow_succ, Nat.pow_succ l j, ← Nat.mod_mul_right_div_self]
theorem w_X12_word {x : Int32} (hd : 2 < d) (hS : MoS Mz M m X A st sp p R) (h : ∀ M', MoS Mz M' m X A st sp p R → (∀ k w, k ≤ 1000000 → x = nI k → kw (pl A) k = some w → Q (some (.long (lN (cd w)))) M') ∧ (∀ k, k ≤ 1000000 → x = nI k → kw (pl A) k = none → Q (some (.long (-1 : Int64))) M') ∧ ((¬ ∃ k, k ≤ 1000000 ∧ x = nI k) → Q (some (.long (-1 : Int64))) M')) : ClD d mdX12_word [.ref m, .int x] M Q := by
  have hA := hS.sh.2
  have l3 := hA.2.1
  obtain ⟨M1, hM1⟩ : ∃ M1, M1 = sI M m 0 (nI 0) := ⟨_, rfl⟩
  have hS1 : MoS Mz M1 m X A st sp p R := by rw [hM1]; exact hS.th
  have s1 := hS1.sh.1
  have h := h M1 hS1
  have h3 := hS1.l3.1
  refine ⟨2, hd, Cl.of moX12_word (Nat.le_of_ble_eq_true rfl) (gX12_word_0 hS.sh.1.1 ?_)⟩
  rw [← hM1]
  refine w_inI (a := 0) (b := 1000000) (by decide) (by decide) (by decide) (fun k _ hk ek => gX12_word_14 (fun _ => ?_) (fun c => absurd c (by decide))) (fun hn => gX12_word_14 (fun c => absurd rfl c) (fun _ => ⟨⟨_, rfl⟩, h.2.2 (fun ⟨k, k1, k2⟩ => hn ⟨k, Nat.zero_le _, k1, k2⟩)⟩))
  have g1 := fun w => h.1 k w hk ek
  have g2 := h.2.1 k hk ek
  rw [ek]
  suffices H : ∀ f n q b, n + f = 30 → q = pl A ^ n → q ≤ 3000003 → b ≤ 1000000 → (∀ w, kwf (pl A) (f + 1) n q b = some w → Q (some (.long (lN (cd w)))) M1) → (kwf (pl A) (f + 1) n q b = none → Q (some (.long (-1 : Int64))) M1) → Wp 2 mdX12_word 28 [(0, .ref m), (2, .int (nI b)), (3, .int (nI q)), (4, .int (nI n))] [] M1 (fun r M' => ROK mdX12_word r ∧ Q r M') from H 30 0 1 k rfl rfl (by omega) hk g1 g2
  have LP : ∀ n q b, n ≤ 30 → q = pl A ^ n → q ≤ 3000003 → b < q → (Q (some (.long (lN (cd (dg (pl A) n b))))) M1) → Wp 2 mdX12_word 67 [(0, .ref m), (2, .int (nI b)), (4, .int (nI n)), (5, .long (lN 1)), (7, .int (nI q)), (8, .int (nI 0))] [] M1 (fun r M' => ROK mdX12_word r ∧ Q r M') := by
    intro n q b hn hq hq3 hb hh
    suffices H : ∀ f i, i + f = n → Wp 2 mdX12_word 67 [(0, .ref m), (2, .int (nI (b % pl A ^ f))), (4, .int (nI n)), (5, .long (lN (cd (dg (pl A) i (b / pl A ^ f))))), (7, .int (nI (pl A ^ f))), (8, .int (nI i))] [] M1 (fun r M' => ROK mdX12_word r ∧ Q r M') by
      have := H n 0 (by omega)
      rw [← hq, Nat.mod_eq_of_lt hb] at this
      exact this
    intro f
    induction f with
    | zero =>
      intro i hi
      have e : i = n := by omega
      subst e
      refine gX12_word_67 s1.1 (fun _ => ⟨⟨_, rfl⟩, ?_⟩) (fun c => ?_) (fun c => ?_) (fun c => ?_)
      · rw [Nat.pow_zero, Nat.div_one]; exact hh
      all_goals exact absurd (nI_le (Nat.le_refl _) (by omega)) c
    | succ f ih =>
      intro i hi
      have hle : pl A ^ (f + 1) ≤ q := by rw [hq]; exact Nat.pow_le_pow_right l3.1 (by omega)
      have hp0 : 0 < pl A ^ f := Nat.pow_pos l3.1
      have e2 : pl A ^ (f + 1) / pl A = pl A ^ f := by rw [Nat.pow_succ]; exact Nat.mul_div_cancel _ l3.1
      have hle2 : pl A ^ f ≤ q := by rw [hq]; exact Nat.pow_le_pow_right l3.1 (by omega)
      have ed : nI (pl A ^ (f + 1)) / mI M1 m 3 = nI (pl A ^ f) := by
        rw [h3, pk_div (by omega) (by omega) (by omega), e2]
      have hbm : b % pl A ^ (f + 1) < pl A ^ (f + 1) := Nat.mod_lt _ (Nat.pow_pos l3.1)
      have n0 : ∀ v, 0 < v → v < 2 ^ 31 → ¬ nI v = 0 := fun v h1 h2 q => by
        have q : nI v = nI 0 := q
        rw [nI_eq (by omega) (by decide)] at q; omega
      have hdm : b % pl A ^ (f + 1) / pl A ^ f < 4 := by
        rw [Nat.div_lt_iff_lt_mul hp0]
        rw [Nat.pow_succ] at hbm
        have := Nat.mul_le_mul_left (pl A ^ f) l3.2
        rw [Nat.pow_succ]
        omega
      refine gX12_word_67 s1.1 (fun c => ?_) (fun _ => ?_) (fun _ => ?_) (fun _ => ?_)
      · rw [nI_leI (by omega) (by omega)] at c; omega
      · rw [h3]; exact n0 _ (by omega) (by omega)
      · rw [ed]; exact n0 _ hp0 (by omega)
      · rw [ed, pk_div (by omega) hp0 (by omega)]
        refine w_X12_longer (by decide) (by omega) (gX12_word_92 (n0 _ hp0 (by omega)) ?_)
        rw [← dg_next, nI_add, pk_rem (by omega) hp0 (by omega), Nat.mod_mod_of_dvd _ (Nat.pow_dvd_pow _ (Nat.le_succ f))]
        exact ih (i + 1) (by omega)
  intro f
  induction f with
  | zero =>
    intro n q b hn hq hq3 hb k1 k2
    have e : n = 30 := by omega
    refine gX12_word_28 s1.1 (fun c => ?_) (fun _ c => ?_) (fun c _ => ⟨⟨_, rfl⟩, k2 ?_⟩)
    · rw [nI_ltI (by omega) (by omega)] at c
      exact LP n q b (by omega) hq hq3 c (k1 _ (if_pos c))
    · exfalso; rw [nI_add, nI_leI (by omega) (by decide)] at c; omega
    · rw [nI_ltI (by omega) (by omega)] at c
      exact if_neg c
  | succ f ih =>
    intro n q b hn hq hq3 hb k1 k2
    refine gX12_word_28 s1.1 (fun c => ?_) (fun c _ => ?_) (fun _ c => ?_)
    · rw [nI_ltI (by omega) (by omega)] at c
      exact LP n q b (by omega) hq hq3 c (k1 _ (if_pos c))
    · rw [nI_ltI (by omega) (by omega)] at c
      have e : kwf (pl A) (f + 1 + 1) n q b = kwf (pl A) (f + 1) (n + 1) (q * pl A) (b - q) := if_neg c
      rw [e] at k1 k2
      have hpl : q * pl A ≤ 1000000 * 3 := Nat.mul_le_mul (by omega) l3.2
      rw [z_sub (by omega), h3, pk_mul, nI_add]
      exact ih (n + 1) (q * pl A) (b - q) (by omega) (by rw [hq, Nat.pow_succ]) (by omega) (by omega) k1 k2
    · exfalso; apply c; rw [nI_add]; exact nI_le (by omega) (by decide)
theorem w_X12_state {x y : Int32} (hd : 3 < d) (hS : MoS Mz M m X A st sp p R) (h : ∀ M', MoS Mz M' m X A st sp p R → (∀ s, s < pn A → x = nI s → y = 0 → Q (some (.int (nI (po A s)))) M') ∧ (∀ s z, s < pn A → z < pl A → x = nI s → y = nI (z + 1) → Q (some (.int (nI (pt A s z)))) M') ∧ ((x < 0 ∨ nI (pn A) ≤ x ∨ y < 0 ∨ nI (pl A) < y) → Q (some (.int (-1 : Int32))) M')) : ClD d mdX12_state [.ref m, .int x, .int y] M Q := by
  have hA := hS.sh.2
  have l3 := hA.2.1
  have a8 := hA.1
  obtain ⟨M1, hM1⟩ : ∃ M1, M1 = sI M m 0 (nI 0) := ⟨_, rfl⟩
  have hS1 : MoS Mz M1 m X A st sp p R := by rw [hM1]; exact hS.th
  have s1 := hS1.sh.1
  have h := h M1 hS1
  have h3 := hS1.l3
  refine ⟨3, hd, Cl.of moX12_state (Nat.le_of_ble_eq_true rfl) (gX12_state_0 hS.sh.1.1 ?_)⟩
  rw [← hM1]
  refine w_X12_isState (by decide) s1 (by decide) h3.2.1 a8.2 (fun s hs es => gX12_state_11 s1.1 (fun c => absurd c (by decide)) (fun _ => ?_)) (fun hn => gX12_state_11 s1.1 (fun _ => ⟨⟨_, rfl⟩, h.2.2 (hn.elim Or.inl (fun q => Or.inr (Or.inl q)))⟩) (fun c => absurd rfl c))
  rw [h3.1, nI_l (by omega)]
  refine w_inI (a := 0) (by decide) (by decide) (by omega) (fun k _ hk ek => gX12_state_25 s1.1 (fun _ c => ?_) (fun _ c => ?_) (fun c => absurd c (by decide))) (fun hn => gX12_state_25 s1.1 (fun c => absurd rfl c) (fun c => absurd rfl c) (fun _ => ⟨⟨_, rfl⟩, h.2.2 (Or.inr (Or.inr ?_))⟩))
  · have k0 : 0 < k := Nat.pos_of_ne_zero (fun q => c (by rw [ek, q]; rfl))
    have hh := h.2.1 s (k - 1) hs (by omega) es (by rw [ek]; congr 1; omega)
    rw [ek, es, z_sub (by omega)]
    exact w_X12_comes (by decide) s1 (by decide) h3.2 hA hs (by omega) (gX12_state_52 ⟨⟨_, rfl⟩, hh⟩)
  · have hh := h.1 s hs es c
    rw [es]
    exact w_X12_shown (by decide) s1 (by decide) h3.2 hA hs (gX12_state_40 (gX12_state_52 ⟨⟨_, rfl⟩, hh⟩))
  · rw [Int32.lt_iff_toInt_lt, Int32.lt_iff_toInt_lt, nI_toInt (by omega), show (0 : Int32).toInt = 0 by decide]
    refine Classical.byContradiction fun q => hn ⟨y.toInt.toNat, Nat.zero_le _, by omega, ?_⟩
    rw [← Int32.toInt_inj, nI_toInt (by omega)]; omega
end MFg
