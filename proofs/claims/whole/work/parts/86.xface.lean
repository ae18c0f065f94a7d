/-! the class's face: text, words, what is asked -/
section XFa
variable {d st sp N : Nat} {Q : Option Value → Mem → Prop} {Mz M M' : Mem} {A A' : PM} {p p' : PS} {X : List Nat} {R : List Int64}
theorem w_X1_joinL {u v : List Nat} (hd : 2 < d) (hu : vw 4 u) (hul : u.length ≤ 30) (hv : vw 4 v) (hvl : v.length ≤ 30) (hl : ¬ u.length + v.length ≤ 30) (h : Q (some (.long (-1 : Int64))) M) : ClD d mdX1_join [.long (lN (cd u)), .long (lN (cd v))] M Q := by
  refine ⟨2, hd, Cl.of moX1_join (Nat.le_of_ble_eq_true rfl) (gX1_join_0 (w_X1_length (by decide) hv (by omega) (gX1_join_4 (w_X1_length (by decide) hu (by omega) (gX1_join_10 (fun c => ?_) (fun _ => ⟨⟨_, rfl⟩, h⟩))))))⟩
  exfalso; apply hl
  rw [nI_add, nI_leI (by omega) (by decide)] at c; exact c
theorem CX.k (h : CX Mz M X A st sp p R) : mK M 2 = 13 := h.1.1.1.1.1
theorem CX.r (h : CX Mz M X A st sp p R) : (mR M 2 0 = 3 ∧ mR M 2 1 = 7 ∧ mR M 2 2 = 11 ∧ mR M 2 3 = 13 ∧ mR M 2 4 = 18) ∧ mR M 2 5 = 50 ∧ mR M 2 6 = 82 ∧ mR M 2 7 = 84 ∧ mR M 2 8 = 86 ∧ mR M 2 9 = 87 := h.1.1.1.r
theorem w_X11_isNoWord {x : Int64} (hd : 2 < d) (hS : CX Mz M X A st sp p R) (h1 : ∀ w, isW (pl A) x w → Q (some (.int (nI 0))) M) (h2 : (¬ ∃ w, isW (pl A) x w) → Q (some (.int (nI 1))) M) : ClD d mdX11_isNoWord [.ref 2, .long x] M Q := by
  have hA := hS.ok
  have m3 := hS.1.m3
  have r := hS.r
  refine ⟨2, hd, Cl.of moX11_isNoWord (Nat.le_of_ble_eq_true rfl) (gX11_isNoWord_0 hS.k (by rw [r.1.1]; exact m3.1.1.1) ?_)⟩
  rw [r.1.1, m3.2.1.2]
  exact w_X1_measure (by decide) hA.2.1.2 (fun w hw => gX11_isNoWord_11 (fun _ => ⟨⟨_, rfl, by decide⟩, h1 w hw⟩) (fun c => absurd (nI_pos' (by have := hw.2.1; omega)) c)) (fun hn => gX11_isNoWord_11 (fun c => absurd c (by decide)) (fun _ => ⟨⟨_, rfl, by decide⟩, h2 hn⟩))
theorem w_X11_clearNumbers (hd : 1 < d) (hS : CX Mz M X A st sp p R) (h : ∀ M', CX Mz M' X A st sp p [] → Sm [2, 87] M M' → Q none M') : ClD d mdX11_clearNumbers [.ref 2] M Q := by
  have S : Sm [2, 87] M (sI M 2 10 (nI 0)) := Sm.sI (by simp) _ _ _
  exact ⟨1, hd, Cl.of moX11_clearNumbers (Nat.le_of_ble_eq_true rfl) (gX11_clearNumbers_0 hS.k ⟨rfl, h _ (hS.rw S ⟨rI_at _ _ _ _, Nat.zero_le _, fun j hj => by rw [List.length_nil] at hj; omega⟩) S⟩)⟩
theorem w_X11_put {v : Int64} (hd : 1 < d) (hS : CX Mz M X A st sp p R) (hl : R.length < 8) (h : ∀ M', CX Mz M' X A st sp p (R ++ [v]) → Sm [2, 87] M M' → Q none M') : ClD d mdX11_put [.ref 2, .long v] M Q := by
  have r := hS.r
  obtain ⟨r1, r2, r3⟩ := hS.1.2.2.2.2.2
  have n87 := hS.1.1.1.2.1.2
  have e9 : mR M 2 9 = 87 := r.2.2.2.2.2
  have nle : ¬ nI (mN M (mR M 2 9)) ≤ mI M 2 10 := by rw [e9, n87.2, r1, nI_leI (by decide) (by omega)]; omega
  refine ⟨1, hd, Cl.of moX11_put (Nat.le_of_ble_eq_true rfl) (gX11_put_0 hS.k (by rw [e9]; exact n87.1) (fun c => absurd c nle) (fun _ => by rw [r1, e9]; show vp_in _ (mN M 87); rw [n87.2]; exact z_in hl (by decide)) (fun _ => ⟨rfl, ?_⟩))⟩
  rw [r1, e9, nI_clamp (by omega), nI_add]
  have S : Sm [2, 87] M (sJ (sI M 2 10 (nI (R.length + 1))) 87 R.length v) := (Sm.sI (by simp) _ _ _).tr (Sm.sJ (by simp) _ _ _)
  refine h _ (hS.rw S ⟨by rw [rI_J, rI_at, List.length_append, List.length_singleton], by rw [List.length_append, List.length_singleton]; omega, fun j hj => ?_⟩) S
  rw [List.length_append, List.length_singleton] at hj
  by_cases z : j = R.length
  · subst z
    rw [rJ_at]; simp [List.getD]
  · rw [rJ_nk z, rJ_I, r3 j (by omega)]
    simp [List.getD, List.getElem?_append_left (show j < R.length by omega)]
theorem w_X11_sign {v : Int32} (hd : 2 < d) (hS : CX Mz M X A st sp p R) (h1 : X.length + 4 ≤ 64 → ∀ M', CX Mz M' (X ++ bts v 4) A st sp p R → Q (some (.int (nI (X.length + 4)))) M') (h2 : ¬ X.length + 4 ≤ 64 → ∀ M', CX Mz M' X A st sp p R → Q (some (.int (-1 : Int32))) M') : ClD d mdX11_sign [.ref 2, .int v] M Q := by
  have r := hS.r
  have ts := hS.1.1.1.2.2.2.1
  refine ⟨2, hd, Cl.of moX11_sign (Nat.le_of_ble_eq_true rfl) (gX11_sign_0 hS.k (by rw [r.1.2.2.1]; exact ts.1) ?_)⟩
  rw [r.1.2.2.1]
  exact w_X7_append (by decide) ts hS.1.2.1 (fun c M1 S1 T1 => gX11_sign_8 ⟨⟨_, rfl⟩, h1 c M1 (hS.tx S1 (fun q hq => by simp at hq; unfold frL; omega) T1)⟩) (fun c => gX11_sign_8 ⟨⟨_, rfl⟩, h2 c M hS⟩)
theorem w_X11_end {x : Int32} (hd : 2 < d) (hS : CX Mz M X A st sp p R) (h1 : ∀ n, n ≤ X.length → x = nI n → ∀ M', CX Mz M' (X.take n) A st sp p R → Q (some (.int (nI 1))) M') (h2 : (x < 0 ∨ nI X.length < x) → ∀ M', CX Mz M' X A st sp p R → Q (some (.int (nI 0))) M') : ClD d mdX11_end [.ref 2, .int x] M Q := by
  have r := hS.r
  have ts := hS.1.1.1.2.2.2.1
  refine ⟨2, hd, Cl.of moX11_end (Nat.le_of_ble_eq_true rfl) (gX11_end_0 hS.k (by rw [r.1.2.2.1]; exact ts.1) ?_)⟩
  rw [r.1.2.2.1]
  exact w_X7_shorten (by decide) ts hS.1.2.1 (fun n hn en => gX11_end_8 ⟨⟨_, rfl, by decide⟩, h1 n hn en _ (hS.tx (Sm.sI (S := [11]) (by simp) _ _ _) (fun q hq => by simp at hq; omega) (hS.1.2.1.cut hn))⟩) (fun c => gX11_end_8 ⟨⟨_, rfl, by decide⟩, h2 c M hS⟩)
theorem w_X11_state {x y : Int32} (hd : 3 < d) (hS : CX Mz M X A st sp p R) (h : ∀ M', CX Mz M' X A st sp p R → (∀ s, s < pn A → x = nI s → y = 0 → Q (some (.int (nI (po A s)))) M') ∧ (∀ s z, s < pn A → z < pl A → x = nI s → y = nI (z + 1) → Q (some (.int (nI (pt A s z)))) M') ∧ ((x < 0 ∨ nI (pn A) ≤ x ∨ y < 0 ∨ nI (pl A) < y) → Q (some (.int (-1 : Int32))) M')) : ClD d mdX11_state [.ref 2, .int x, .int y] M Q := by
  have hA := hS.ok
  have m3 := hS.1.m3
  have r := hS.r
  have h := h M hS
  refine ⟨3, hd, Cl.of moX11_state (Nat.le_of_ble_eq_true rfl) (gX11_state_0 hS.k (by rw [r.1.1]; exact m3.1.1.1) ?_)⟩
  rw [r.1.1]
  exact w_X2_look (by decide) m3.1 m3.2 hA.bd (fun s hs es ey => gX11_state_9 ⟨⟨_, rfl⟩, h.1 s hs es ey⟩) (fun s z hs hz es ez => gX11_state_9 ⟨⟨_, rfl⟩, h.2.1 s z hs hz es ez⟩) (fun c => gX11_state_9 ⟨⟨_, rfl⟩, h.2.2 c⟩)
theorem w_X11_run {x : Int64} (hd : 3 < d) (hS : CX Mz M X A st sp p R) (h : ∀ M', CX Mz M' X A st sp p R → (∀ w, isW (pl A) x w → Q (some (.int (nI (rn (pt A) 0 w)))) M') ∧ ((¬ ∃ w, isW (pl A) x w) → Q (some (.int (-1 : Int32))) M')) : ClD d mdX11_run [.ref 2, .long x] M Q := by
  have hA := hS.ok
  have l3 := hA.2.1.2
  have m3 := hS.1.m3
  have r := hS.r
  have h := h M hS
  refine ⟨3, hd, Cl.of moX11_run (Nat.le_of_ble_eq_true rfl) (gX11_run_0 hS.k (w_X11_isNoWord (by decide) hS (fun w hw => gX11_run_5 hS.k (by rw [r.1.1]; exact m3.1.1.1) (fun _ => ?_) (fun c => absurd rfl c)) (fun hn => gX11_run_5 hS.k (by rw [r.1.1]; exact m3.1.1.1) (fun c => absurd c (by decide)) (fun _ => gX11_run_21 ⟨⟨_, rfl⟩, h.2 hn⟩))))⟩
  have hh := h.1 w hw
  obtain ⟨w1, w2, w3⟩ := hw
  rw [r.1.1, w3]
  refine w_X2_endFrom (s := some 0) (by decide) m3.1 m3.2 hA.bd (fun j e => by cases e; decide) (vw_mono w1 (by omega)) w2 (gX11_run_21 ⟨⟨_, rfl⟩, ?_⟩)
  rw [rnO_ok hA hA.1.1 w1]; exact hh
theorem w_X11_joins {x y : Int64} (hd : 3 < d) (hS : CX Mz M X A st sp p R) (h : ∀ M', CX Mz M' X A st sp p R → (∀ u v, isW (pl A) x u → isW (pl A) y v → u.length + v.length ≤ 30 → Q (some (.long (lN (cd (u ++ v))))) M') ∧ ((¬ ∃ u v, isW (pl A) x u ∧ isW (pl A) y v ∧ u.length + v.length ≤ 30) → Q (some (.long (-1 : Int64))) M')) : ClD d mdX11_joins [.ref 2, .long x, .long y] M Q := by
  have hA := hS.ok
  have l3 := hA.2.1.2
  have h := h M hS
  refine ⟨3, hd, Cl.of moX11_joins (Nat.le_of_ble_eq_true rfl) (gX11_joins_0 hS.k (w_X11_isNoWord (by decide) hS (fun u hu => gX11_joins_5 hS.k (fun c => absurd rfl c) (fun _ => ?_)) (fun hn => gX11_joins_5 hS.k (fun _ => ⟨⟨_, rfl⟩, h.2 (fun ⟨u, v, q, _⟩ => hn ⟨u, q⟩)⟩) (fun c => absurd c (by decide)))))⟩
  refine w_X11_isNoWord (by decide) hS (fun v hv => gX11_joins_13 (fun _ => ?_) (fun c => absurd rfl c)) (fun hn => gX11_joins_13 (fun c => absurd c (by decide)) (fun _ => ⟨⟨_, rfl⟩, h.2 (fun ⟨u, v, _, q, _⟩ => hn ⟨v, q⟩)⟩))
  have hu0 := hu
  have hv0 := hv
  obtain ⟨u1, u2, u3⟩ := hu
  obtain ⟨v1, v2, v3⟩ := hv
  have u4 := vw_mono u1 (show pl A ≤ 4 by omega)
  have v4 := vw_mono v1 (show pl A ≤ 4 by omega)
  rw [u3, v3]
  by_cases c : u.length + v.length ≤ 30
  · exact w_X1_join (by decide) u4 v4 c (gX11_joins_25 ⟨⟨_, rfl⟩, h.1 u v hu0 hv0 c⟩)
  · refine w_X1_joinL (by decide) u4 u2 v4 v2 c (gX11_joins_25 ⟨⟨_, rfl⟩, h.2 ?_⟩)
    rintro ⟨u', v', q1, q2, q3⟩
    rw [isW_inj (by omega) q1 hu0, isW_inj (by omega) q2 hv0] at q3
    exact c q3
theorem w_X11_letter {x : Int64} {y : Int32} (hd : 3 < d) (hS : CX Mz M X A st sp p R) (h : ∀ M', CX Mz M' X A st sp p R → ((¬ ∃ w, isW (pl A) x w) → Q (some (.int (-1 : Int32))) M') ∧ ∀ w, isW (pl A) x w → (y = (-1 : Int32) → Q (some (.int (nI w.length))) M') ∧ (∀ i, i < w.length → y = nI i → Q (some (.int (nI (w.getD i 0)))) M') ∧ (y ≠ (-1 : Int32) → (¬ ∃ i, i < w.length ∧ y = nI i) → Q (some (.int (-1 : Int32))) M')) : ClD d mdX11_letter [.ref 2, .long x, .int y] M Q := by
  have hA := hS.ok
  have l3 := hA.2.1.2
  have m3 := hS.1.m3
  have r := hS.r
  have h := h M hS
  refine ⟨3, hd, Cl.of moX11_letter (Nat.le_of_ble_eq_true rfl) (gX11_letter_0 hS.k (by rw [r.1.1]; exact m3.1.1.1) ?_)⟩
  rw [r.1.1, m3.2.1.2]
  refine w_X1_measure (by decide) l3 (fun w hw => ?_) (fun hn => gX11_letter_11 (fun _ => ⟨⟨_, rfl⟩, h.1 hn⟩) (fun c => absurd (by decide) c) (fun c => absurd (by decide) c) (fun c => absurd (by decide) c) (fun c => absurd (by decide) c))
  have h := h.2 w hw
  obtain ⟨w1, w2, w3⟩ := hw
  have w4 := vw_mono w1 (show pl A ≤ 4 by omega)
  refine gX11_letter_11 (fun c => absurd c (nI_pos (by omega))) (fun _ c1 c2 => gX11_letter_45 ⟨⟨_, rfl⟩, h.2.2 c1 ?_⟩) (fun _ c1 c2 c3 => ?_) (fun _ c1 c2 c3 => gX11_letter_45 ⟨⟨_, rfl⟩, h.2.2 c1 ?_⟩) (fun _ c => ⟨⟨_, rfl⟩, h.1 c⟩)
  · rintro ⟨i, i1, i2⟩
    rw [i2] at c2; exact nI_pos (by omega) c2
  · obtain ⟨i, i1, i2⟩ := nI_of c2
    rw [i2, nI_ltI i1 (by omega)] at c3
    have hh := h.2.1 i c3 i2
    rw [w3, i2]
    exact w_X1_at (by decide) w4 w2 c3 (gX11_letter_45 ⟨⟨_, rfl⟩, hh⟩)
  · rintro ⟨i, i1, i2⟩
    rw [i2] at c3; exact c3 (nI_lt i1 (by omega))
theorem w_X11_cut {x : Int64} {y : Int32} (hd : 3 < d) (hS : CX Mz M X A st sp p R) (h : ∀ M', CX Mz M' X A st sp p R → ((¬ ∃ w, isW (pl A) x w) → Q (some (.long (-1 : Int64))) M') ∧ ∀ w, isW (pl A) x w → (∀ i, i ≤ w.length → y = nI i → Q (some (.long (lN (cd (w.take i))))) M') ∧ (∀ i, i ≤ w.length → 0 < i → -y = nI i → y < 0 → Q (some (.long (lN (cd (w.drop i))))) M') ∧ ((y.toInt < -(w.length : Int) ∨ (w.length : Int) < y.toInt) → Q (some (.long (-1 : Int64))) M')) : ClD d mdX11_cut [.ref 2, .long x, .int y] M Q := by
  have hA := hS.ok
  have l3 := hA.2.1.2
  have m3 := hS.1.m3
  have r := hS.r
  have h := h M hS
  refine ⟨3, hd, Cl.of moX11_cut (Nat.le_of_ble_eq_true rfl) (gX11_cut_0 hS.k (by rw [r.1.1]; exact m3.1.1.1) ?_)⟩
  rw [r.1.1, m3.2.1.2]
  refine w_X1_measure (by decide) l3 (fun w hw => ?_) (fun hn => gX11_cut_11 (fun _ => ⟨⟨_, rfl⟩, h.1 hn⟩) (fun c => absurd (by decide) c) (fun c => absurd (by decide) c) (fun c => absurd (by decide) c) (fun c => absurd (by decide) c))
  have h := h.2 w hw
  obtain ⟨w1, w2, w3⟩ := hw
  have w4 := vw_mono w1 (show pl A ≤ 4 by omega)
  have y1 := Int32.le_toInt y
  have y2 := Int32.toInt_lt y
  have e0 : (0 : Int32).toInt = 0 := by decide
  have en : (-(nI w.length)).toInt = -(w.length : Int) := by
    rw [Int32.toInt_neg, nI_toInt (by omega)]
    exact Int.bmod_eq_of_le (by omega) (by omega)
  refine gX11_cut_11 (fun c => absurd c (nI_pos (by omega))) (fun _ c => ⟨⟨_, rfl⟩, h.2.2 (Or.inr ?_)⟩) (fun _ c c2 c3 => ?_) (fun _ c c2 c3 => ?_) (fun _ c c2 => ⟨⟨_, rfl⟩, h.2.2 (Or.inl ?_)⟩) <;> rw [Int32.lt_iff_toInt_lt, nI_toInt (by omega)] at c
  · exact c
  · rw [Int32.le_iff_toInt_le, e0] at c3
    obtain ⟨k, hk⟩ : ∃ k, k = y.toInt.toNat := ⟨_, rfl⟩
    have ey : y = nI k := by rw [← Int32.toInt_inj, nI_toInt (by omega)]; omega
    have hh := h.1 k (by omega) ey
    rw [w3, ey]
    exact w_X1_first (by decide) w4 w2 (by omega) (gX11_cut_53 ⟨⟨_, rfl⟩, hh⟩)
  · rw [Int32.le_iff_toInt_le, en] at c2
    rw [Int32.le_iff_toInt_le, e0] at c3
    obtain ⟨k, hk⟩ : ∃ k, k = (-y.toInt).toNat := ⟨_, rfl⟩
    have ey : -y = nI k := by
      rw [← Int32.toInt_inj, nI_toInt (by omega), Int32.toInt_neg]
      rw [Int.bmod_eq_of_le (by omega) (by omega)]; omega
    have hh := h.2.1 k (by omega) (by omega) ey (by rw [Int32.lt_iff_toInt_lt, e0]; omega)
    rw [w3, ey]
    exact w_X1_behind (by decide) w4 w2 (by omega) (gX11_cut_45 (gX11_cut_53 ⟨⟨_, rfl⟩, hh⟩))
  · rw [Int32.le_iff_toInt_le, en] at c2; omega
theorem w_X11_word {x : Int32} (hd : 3 < d) (hS : CX Mz M X A st sp p R) (h : ∀ M', CX Mz M' X A st sp p R → (∀ k w, k ≤ 1000000 → x = nI k → kw (pl A) k = some w → Q (some (.long (lN (cd w)))) M') ∧ (∀ k, k ≤ 1000000 → x = nI k → kw (pl A) k = none → Q (some (.long (-1 : Int64))) M') ∧ ((¬ ∃ k, k ≤ 1000000 ∧ x = nI k) → Q (some (.long (-1 : Int64))) M')) : ClD d mdX11_word [.ref 2, .int x] M Q := by
  have hA := hS.ok
  have m3 := hS.1.m3
  have r := hS.r
  have h := h M hS
  refine ⟨3, hd, Cl.of moX11_word (Nat.le_of_ble_eq_true rfl) (gX11_word_0 hS.k (by rw [r.1.1]; exact m3.1.1.1) (fun c => gX11_word_27 ⟨⟨_, rfl⟩, h.2.2 ?_⟩) (fun c c2 => ?_) (fun c c2 => gX11_word_27 ⟨⟨_, rfl⟩, h.2.2 ?_⟩))⟩
  · rintro ⟨i, i1, i2⟩
    rw [i2] at c; exact nI_pos (by omega) c
  · obtain ⟨k, k1, k2⟩ := nI_of c
    rw [k2, nI_leI k1 (by decide)] at c2
    rw [r.1.1, m3.2.1.2, k2]
    exact w_X1_kth (by decide) c2 hA.2.1.1 hA.2.1.2 (fun w hw => gX11_word_27 ⟨⟨_, rfl⟩, h.1 k w c2 k2 hw⟩) (fun hn => gX11_word_27 ⟨⟨_, rfl⟩, h.2.1 k c2 k2 hn⟩)
  · rintro ⟨i, i1, i2⟩
    rw [i2] at c2; exact c2 ((nI_leI (by omega) (by decide)).mpr i1)
theorem w_X11_known {x : Int64} (hd : 3 < d) (hS : CX Mz M X A st sp p R) (h : ∀ M', CX Mz M' X A st sp p R → (∀ w, isW (pl A) x w → (w ∈ (qs p).1 → Q (some (.int (nI 1))) M') ∧ (w ∉ (qs p).1 → Q (some (.int (nI 0))) M')) ∧ ((¬ ∃ w, isW (pl A) x w) → Q (some (.int (-1 : Int32))) M')) : ClD d mdX11_known [.ref 2, .long x] M Q := by
  have hA := hS.ok
  have l3 := hA.2.1.2
  have h := h M hS
  have r := hS.r
  have hc := hS.1.2.2.1
  obtain ⟨s, es, ai⟩ := hc.ai
  have e4 : mR M 2 4 = 18 := r.1.2.2.2.2
  have e0 : mR M 18 0 = 19 := hc.1.1.2.1
  have e1 : mR M 19 1 = 20 := ai.1.2.2.1
  have K1 : mK M (mR M 2 4) = 6 := by rw [e4]; exact hc.1.1.1
  have K2 : mK M (mR M (mR M 2 4) 0) = 4 := by rw [e4, e0]; exact ai.1.1
  have K3 : mK M (mR M (mR M (mR M 2 4) 0) 1) = 12 := by rw [e4, e0, e1]; exact ai.1.2.2.2
  refine ⟨3, hd, Cl.of moX11_known (Nat.le_of_ble_eq_true rfl) (gX11_known_0 hS.k (w_X11_isNoWord (by decide) hS (fun w hw => gX11_known_5 hS.k K1 K2 K3 (fun _ => ?_) (fun c => absurd rfl c)) (fun hn => gX11_known_5 hS.k K1 K2 K3 (fun c => absurd c (by decide)) (fun _ => ⟨⟨_, rfl⟩, h.2 hn⟩))))⟩
  have hh := h.1 w hw
  obtain ⟨w1, w2, w3⟩ := hw
  rw [e4, e0, e1, w3]
  have ai20 : AI 88 M 19 A st sp s := ai
  exact w_has (r := 19) (by decide) ai20 (vw_mono w1 (by omega)) w2 (fun z => gX11_known_24 (fun c => absurd c (by decide)) (fun _ => ⟨⟨_, rfl⟩, hh.1 ((es.2.1 w).mp z)⟩)) (fun z => gX11_known_24 (fun _ => ⟨⟨_, rfl⟩, hh.2 (fun y => z ((es.2.1 w).mpr y))⟩) (fun c => absurd rfl c))
end XFa
