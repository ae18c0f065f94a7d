/-! the reference: its face, words and machine and pupil -/
section MFd
variable {d m st sp N : Nat} {Q : Option Value → Mem → Prop} {Mz M M' : Mem} {A : PM} {p p' : PS} {X : List Nat} {R : List Int64}
theorem MoS.fx (h : MoS Mz M m X A st sp p R) (F : Fx m 0 M M') (hP : MoP M' m 0 A st sp p') (hm : qm p' = qm p) : MoS Mz M' m X A st sp p' R := by
  have h0 := h
  obtain ⟨⟨⟨h1, h2⟩, h3, h4, h5, h6, h7⟩, -⟩ := h
  have n : ∀ q, m + q ∈ fxL m → q ≠ 1 ∧ q ≠ 21 := fun q hq => by rw [fxL_mem] at hq; omega
  refine ⟨?_, h0.fr F.1 (fun q hq => by rw [fxL_mem] at hq; omega)⟩
  exact ⟨⟨h1.sm F.1 (fun q => (n 21 q).2 rfl), by rw [F.2.1 30 (by decide) (by decide)]; exact h2⟩, hP, by rw [F.2.1 7 (by decide) (by decide), hm]; exact h4, by rw [F.2.1 1 (by decide) (by decide)]; exact h5, h6, fun j hj => by rw [F.1.J (fun q => (n 1 q).1 rfl)]; exact h7 j hj⟩
theorem MoS.nil (h : MoS Mz M m X A st sp p R) : MoS Mz (sI M m 1 (nI 0)) m X A st sp p [] := by
  have h0 := h
  obtain ⟨⟨⟨h1, h2⟩, h3, h4, h5, h6, h7⟩, -⟩ := h
  have S : Sm [m] M (sI M m 1 (nI 0)) := Sm.sI (by simp) _ _ _
  refine ⟨?_, h0.fr S (fun q hq => by simp at hq; omega)⟩
  exact ⟨⟨h1.sm S (by simp), by rw [rI_nk (by decide)]; exact h2⟩, h3.cg (h3.sh.1.sm S) (fun q a b => ⟨S.I (by simp; omega), S.J (by simp; omega)⟩) ⟨rI_nk (by decide), rI_nk (by decide), rI_nk (by decide)⟩, by rw [rI_nk (by decide)]; exact h4, rI_at _ _ _ _, Nat.zero_le _, fun j hj => by rw [List.length_nil] at hj; omega⟩
theorem MoS.ent {v : Int64} (hl : R.length < 16) (h : MoS Mz M m X A st sp p R) : MoS Mz (sI (sJ M (m + 1) R.length v) m 1 (nI (R.length + 1))) m X A st sp p (R ++ [v]) := by
  have h0 := h
  obtain ⟨⟨⟨h1, h2⟩, h3, h4, h5, h6, h7⟩, -⟩ := h
  have S : Sm [m, m + 1] M (sI (sJ M (m + 1) R.length v) m 1 (nI (R.length + 1))) := (Sm.sJ (by simp) _ _ _).tr (Sm.sI (by simp) _ _ _)
  refine ⟨?_, h0.fr S (fun q hq => by simp at hq; omega)⟩
  refine ⟨⟨h1.sm S (by simp), by rw [rI_nk (by decide)]; exact h2⟩, h3.cg (h3.sh.1.sm S) (fun q a b => ⟨S.I (by simp; omega), S.J (by simp; omega)⟩) ⟨rI_nk (by decide), rI_nk (by decide), rI_nk (by decide)⟩, by rw [rI_nk (by decide)]; exact h4, by rw [rI_at, List.length_append, List.length_singleton], by rw [List.length_append, List.length_singleton]; omega, fun j hj => ?_⟩
  rw [List.length_append, List.length_singleton] at hj
  rw [rJ_I]
  by_cases z : j = R.length
  · subst z
    rw [rJ_at]; simp [List.getD]
  · rw [rJ_nk z, h7 j (by omega)]
    simp [List.getD, List.getElem?_append_left (show j < R.length by omega)]
theorem w_X12_enters {v : Int64} (hd : 1 < d) (hS : MoS Mz M m X A st sp p R) (hl : R.length < 16) (h : ∀ M', MoS Mz M' m X A st sp p (R ++ [v]) → mJ M' m = mJ M m → Q none M') : ClD d mdX12_enters [.ref m, .long v] M Q := by
  have f := hS.sh.1.f2
  have h1 := hS.1.2.2.2.1
  refine ⟨1, hd, Cl.of moX12_enters (Nat.le_of_ble_eq_true rfl) (gX12_enters_0 hS.sh.1.1 (by rw [f.1]; exact f.2.1) (by rw [f.1, f.2.2, h1]; exact z_in (by omega) (by decide)) ⟨rfl, ?_⟩)⟩
  rw [f.1, h1, nI_clamp (by omega), rI_J, h1, nI_add]
  exact h _ (hS.ent hl) (by rw [rJ_I, rJ_np (by omega)])
theorem MoS.th (h : MoS Mz M m X A st sp p R) : MoS Mz (sI M m 0 (nI 0)) m X A st sp p R := h.f (j := 0) (v := nI 0) (by decide)
theorem MoS.l3 (h : MoS Mz M m X A st sp p R) : mI M m 3 = nI (pl A) ∧ MoM M m 0 A := by
  obtain ⟨s, -, i, -⟩ := h.1.2.1
  exact ⟨i.2.1.1, i.2.2.1⟩
theorem w_X12_run {x : Int64} (hd : 3 < d) (hS : MoS Mz M m X A st sp p R) (h : ∀ M', MoS Mz M' m X A st sp p R → (∀ w, isW (pl A) x w → Q (some (.int (nI (rn (pt A) 0 w)))) M') ∧ ((¬ ∃ w, isW (pl A) x w) → Q (some (.int (-1 : Int32))) M')) : ClD d mdX12_run [.ref m, .long x] M Q := by
  have hA := hS.sh.2
  have l3 := hA.2.1
  obtain ⟨M1, hM1⟩ : ∃ M1, M1 = sI M m 0 (nI 0) := ⟨_, rfl⟩
  have hS1 : MoS Mz M1 m X A st sp p R := by rw [hM1]; exact hS.th
  have s1 := hS1.sh.1
  have h := h M1 hS1
  refine ⟨3, hd, Cl.of moX12_run (Nat.le_of_ble_eq_true rfl) (gX12_run_0 hS.sh.1.1 ?_)⟩
  rw [← hM1]
  refine w_X12_isWord (by decide) s1.1 hS1.l3.1 l3.1 l3.2 (fun w hw => gX12_run_10 s1.1 (fun c => absurd c (by decide)) (fun _ => ?_)) (fun hn => gX12_run_10 s1.1 (fun _ => ⟨⟨_, rfl⟩, h.2 hn⟩) (fun c => absurd rfl c))
  have hh := h.1 w hw
  obtain ⟨w1, w2, w3⟩ := hw
  rw [w3]
  exact w_X12_endFrom (by decide) s1 (by decide) hS1.l3.2 hA hA.1.1 w1 w2 (gX12_run_20 ⟨⟨_, rfl⟩, hh⟩)
theorem w_X12_joins {x y : Int64} (hd : 3 < d) (hS : MoS Mz M m X A st sp p R) (h : ∀ M', MoS Mz M' m X A st sp p R → (∀ u v, isW (pl A) x u → isW (pl A) y v → u.length + v.length ≤ 30 → Q (some (.long (lN (cd (u ++ v))))) M') ∧ ((¬ ∃ u v, isW (pl A) x u ∧ isW (pl A) y v ∧ u.length + v.length ≤ 30) → Q (some (.long (-1 : Int64))) M')) : ClD d mdX12_joins [.ref m, .long x, .long y] M Q := by
  have hA := hS.sh.2
  have l3 := hA.2.1
  obtain ⟨M1, hM1⟩ : ∃ M1, M1 = sI M m 0 (nI 0) := ⟨_, rfl⟩
  have hS1 : MoS Mz M1 m X A st sp p R := by rw [hM1]; exact hS.th
  have s1 := hS1.sh.1
  have h := h M1 hS1
  refine ⟨3, hd, Cl.of moX12_joins (Nat.le_of_ble_eq_true rfl) (gX12_joins_0 hS.sh.1.1 ?_)⟩
  rw [← hM1]
  refine w_X12_isWord (by decide) s1.1 hS1.l3.1 l3.1 l3.2 (fun u hu => gX12_joins_10 s1.1 (fun c => absurd c (by decide)) (fun _ => ?_)) (fun hn => gX12_joins_10 s1.1 (fun _ => ⟨⟨_, rfl⟩, h.2 (fun ⟨u, v, q, _⟩ => hn ⟨u, q⟩)⟩) (fun c => absurd rfl c))
  refine w_X12_isWord (by decide) s1.1 hS1.l3.1 l3.1 l3.2 (fun v hv => gX12_joins_18 (fun c => absurd c (by decide)) (fun _ => ?_)) (fun hn => gX12_joins_18 (fun _ => ⟨⟨_, rfl⟩, h.2 (fun ⟨u, v, _, q, _⟩ => hn ⟨v, q⟩)⟩) (fun c => absurd rfl c))
  have hu0 := hu
  have hv0 := hv
  obtain ⟨u1, u2, u3⟩ := hu
  obtain ⟨v1, v2, v3⟩ := hv
  have u4 := vw_mono u1 (show pl A ≤ 4 by omega)
  have v4 := vw_mono v1 (show pl A ≤ 4 by omega)
  rw [u3, v3]
  refine w_X12_lengthOf (by decide) u4 u2 (gX12_joins_25 (w_X12_lengthOf (by decide) v4 v2 (gX12_joins_29 (fun c => ?_) (fun c => ⟨⟨_, rfl⟩, h.2 ?_⟩)))) <;> rw [nI_add, nI_leI (by omega) (by decide)] at c
  · exact w_X12_both (by decide) u4 v4 c (gX12_joins_44 ⟨⟨_, rfl⟩, h.1 u v hu0 hv0 c⟩)
  · rintro ⟨u', v', q1, q2, q3⟩
    rw [isW_inj (by omega) q1 hu0, isW_inj (by omega) q2 hv0] at q3
    exact c q3
theorem w_X12_asks {x : Int64} (hd : 5 < d) (hS : MoS Mz M m X A st sp p R) (hI : PI A N p) (hN : N ≤ 4600) (h1 : ∀ M' w, isW (pl A) x w → MoS Mz M' m X A st sp (qm p, aS st sp (qs p) w, ql p, qH p, qT p, qK p, qg p) R → Q (some (.int (nI (an A 0 w)))) M') (h2 : ∀ M', MoS Mz M' m X A st sp p R → (¬ ∃ w, isW (pl A) x w) → Q (some (.int (-1 : Int32))) M') : ClD d mdX12_asks [.ref m, .long x] M Q := by
  have hA := hS.sh.2
  have l3 := hA.2.1
  obtain ⟨M1, hM1⟩ : ∃ M1, M1 = sI M m 0 (nI 0) := ⟨_, rfl⟩
  have hS1 : MoS Mz M1 m X A st sp p R := by rw [hM1]; exact hS.th
  have s1 := hS1.sh.1
  refine ⟨5, hd, Cl.of moX12_asks (Nat.le_of_ble_eq_true rfl) (gX12_asks_0 hS.sh.1.1 ?_)⟩
  rw [← hM1]
  refine w_X12_isWord (by decide) s1.1 hS1.l3.1 l3.1 l3.2 (fun w hw => gX12_asks_10 s1.1 (fun c => absurd c (by decide)) (fun _ => ?_)) (fun hn => gX12_asks_10 s1.1 (fun _ => ⟨⟨_, rfl⟩, h2 M1 hS1 hn⟩) (fun c => absurd rfl c))
  have hw0 := hw
  obtain ⟨w1, w2, w3⟩ := hw
  rw [w3]
  obtain ⟨s, es, hi, ⟨i5, i14⟩, hg, hK⟩ := hS1.1.2.1
  have hn := hI.n hA
  have hsl := es.len
  refine hi.ask (by decide) (by omega) w1 w2 (fun M2 S2 F2 I2 => gX12_asks_19 ⟨⟨_, rfl⟩, h1 M2 w hw0 (hS1.fx F2.x ⟨_, es.a, I2, ⟨?_, ?_⟩, hg.fu F2 (S2.mono (by simp <;> omega)), fun c => (hK c).sm S2 (by simp)⟩ rfl)⟩)
  · rw [S2.I (by simp)]; exact i5
  · rw [S2.I (by simp)]; exact i14
theorem w_X12_known {x : Int64} (hd : 3 < d) (hS : MoS Mz M m X A st sp p R) (hI : PI A N p) (hN : N ≤ 4600) (h : ∀ M', MoS Mz M' m X A st sp p R → (∀ w, isW (pl A) x w → (w ∈ (qs p).1 → Q (some (.int (nI 1))) M') ∧ (w ∉ (qs p).1 → Q (some (.int (nI 0))) M')) ∧ ((¬ ∃ w, isW (pl A) x w) → Q (some (.int (-1 : Int32))) M')) : ClD d mdX12_known [.ref m, .long x] M Q := by
  have hA := hS.sh.2
  have l3 := hA.2.1
  obtain ⟨M1, hM1⟩ : ∃ M1, M1 = sI M m 0 (nI 0) := ⟨_, rfl⟩
  have hS1 : MoS Mz M1 m X A st sp p R := by rw [hM1]; exact hS.th
  have s1 := hS1.sh.1
  have h := h M1 hS1
  refine ⟨3, hd, Cl.of moX12_known (Nat.le_of_ble_eq_true rfl) (gX12_known_0 hS.sh.1.1 ?_)⟩
  rw [← hM1]
  refine w_X12_isWord (by decide) s1.1 hS1.l3.1 l3.1 l3.2 (fun w hw => gX12_known_10 s1.1 (fun c => absurd c (by decide)) (fun _ => ?_)) (fun hn => gX12_known_10 s1.1 (fun _ => ⟨⟨_, rfl⟩, h.2 hn⟩) (fun c => absurd rfl c))
  have hh := h.1 w hw
  obtain ⟨w1, w2, w3⟩ := hw
  rw [w3]
  obtain ⟨s, es, hi, -⟩ := hS1.1.2.1
  have hn := hI.n hA
  have hsl := es.len
  refine w_X12_wasAsked (by decide) s1 (by decide) hi.2.2.2.2.1 (by omega) (vw_mono w1 (by omega)) w2 (fun q => gX12_known_19 (w_X12_flag (by decide) (fun c => absurd c (by decide)) (fun _ => gX12_known_22 ⟨⟨_, rfl⟩, hh.1 ((es.2.1 w).mp q)⟩))) (fun q => gX12_known_19 (w_X12_flag (by decide) (fun _ => gX12_known_22 ⟨⟨_, rfl⟩, hh.2 (fun z => q ((es.2.1 w).mpr z))⟩) (fun c => absurd rfl c)))
/-- an int between bounds -/
theorem w_inI {x : Int32} {a b : Nat} (hd : 1 < d) (ha : a < 2 ^ 31) (hb : b < 2 ^ 31) (h1 : ∀ n, a ≤ n → n ≤ b → x = nI n → Q (some (.int (nI 1))) M) (h0 : (¬ ∃ n, a ≤ n ∧ n ≤ b ∧ x = nI n) → Q (some (.int (nI 0))) M) : ClD d mdX12_in [.long x.toInt64, .long (lN a), .long (lN b)] M Q := by
  refine w_X12_in hd (fun c1 c2 => ?_) (fun c => h0 ?_)
  · rw [Int32.toInt_toInt64, pk_lT (by omega)] at c1
    rw [Int32.toInt_toInt64, pk_lT (by omega)] at c2
    refine h1 x.toInt.toNat (by omega) (by omega) ?_
    rw [← Int32.toInt_inj, nI_toInt (by omega)]; omega
  · rintro ⟨n, n1, n2, n3⟩
    apply c
    rw [n3, Int32.toInt_toInt64, pk_lT (by omega), pk_lT (by omega), nI_toInt (by omega)]
    omega
theorem w_X12_prices {x y : Int32} (hd : 2 < d) (hS : MoS Mz M m X A st sp p R) (h2 : ∀ M', MoS Mz M' m X A st sp p R → (¬ ∃ a b, a ≤ 99 ∧ b ≤ 99 ∧ x = nI a ∧ y = nI b) → Q (some (.int (nI 0))) M') (h3 : ∀ a b, a ≤ 99 → b ≤ 99 → x = nI a → y = nI b → ∀ M', MoS Mz M' m X A a b p R → Q (some (.int (nI 1))) M') : ClD d mdX12_prices [.ref m, .int x, .int y] M Q := by
  obtain ⟨M1, hM1⟩ : ∃ M1, M1 = sI M m 0 (nI 0) := ⟨_, rfl⟩
  have hS1 : MoS Mz M1 m X A st sp p R := by rw [hM1]; exact hS.th
  have s1 := hS1.sh.1
  refine ⟨2, hd, Cl.of moX12_prices (Nat.le_of_ble_eq_true rfl) (gX12_prices_0 hS.sh.1.1 ?_)⟩
  rw [← hM1]
  refine w_inI (a := 0) (b := 99) (by decide) (by decide) (by decide) (fun a _ a2 ea => gX12_prices_14 (fun c => absurd c (by decide)) (fun _ => ?_)) (fun hn => gX12_prices_14 (fun _ => ⟨⟨_, rfl, by decide⟩, h2 M1 hS1 (fun ⟨a, b, a1, b1, e1, _⟩ => hn ⟨a, Nat.zero_le _, a1, e1⟩)⟩) (fun c => absurd rfl c))
  refine w_inI (a := 0) (b := 99) (by decide) (by decide) (by decide) (fun b _ b2 eb => gX12_prices_26 s1.1 (fun _ => ⟨⟨_, rfl, by decide⟩, ?_⟩) (fun c => absurd c (by decide))) (fun hn => gX12_prices_26 s1.1 (fun c => absurd rfl c) (fun _ => ⟨⟨_, rfl, by decide⟩, h2 M1 hS1 (fun ⟨a, b, a1, b1, _, e1⟩ => hn ⟨b, Nat.zero_le _, b1, e1⟩)⟩))
  refine h3 a b a2 b2 ea eb _ ?_
  rw [ea, eb]
  have S : Sm [m] M1 (sI (sI M1 m 8 (nI a)) m 9 (nI b)) := (Sm.sI (by simp) _ _ _).tr (Sm.sI (by simp) _ _ _)
  have hS0 := hS1
  obtain ⟨⟨⟨k1, k2⟩, ⟨s, es, ⟨⟨a1, a2'⟩, ⟨b1, -, -⟩, c, e, f, g, i, j, k⟩, ⟨i5, i14⟩, hg, hK⟩, k4, k5, k6, k7⟩, -⟩ := hS1
  have hI' : ∀ q, 2 ≤ q → mI (sI (sI M1 m 8 (nI a)) m 9 (nI b)) (m + q) = mI M1 (m + q) := fun q hq => S.I (by simp; omega)
  refine ⟨?_, hS0.fr S (fun q hq => by simp at hq; omega)⟩
  refine ⟨⟨k1.sm S (by simp), by rw [rI_nk (by decide), rI_nk (by decide)]; exact k2⟩, ⟨s, es, ⟨⟨a1.sm S, a2'⟩, ⟨by rw [rI_nk (by decide), rI_nk (by decide)]; exact b1, by rw [rI_nk (by decide), rI_at], rI_at _ _ _ _⟩, c.sm S (by simp) (by simp) (by simp), e, f.sm S (by simp) (by simp) (by simp), by rw [hI' 6 (by decide), hI' 7 (by decide)]; exact g, by rw [hI' 9 (by decide)]; exact i, j, k⟩, by rw [hI' 5 (by decide), hI' 14 (by decide)]; exact ⟨i5, i14⟩, ?_, fun c3 => (hK c3).sm S (by simp)⟩, by rw [rI_nk (by decide), rI_nk (by decide)]; exact k4, by rw [rI_nk (by decide), rI_nk (by decide)]; exact k5, k6, k7⟩
  cases hq : qg p with
  | none => rw [hq] at hg; show mI _ (m + 15) 0 = nI 0; rw [hI' 15 (by decide)]; exact hg
  | some g =>
    rw [hq] at hg
    obtain ⟨g1, g2, g3, g4, g5⟩ := hg
    exact ⟨by rw [hI' 15 (by decide)]; exact g1, g2, g3.sm S (by simp) (by simp) (by simp), g4, g5⟩
theorem w_X12_method {x : Int32} (hd : 6 < d) (hS : MoS Mz M m X A st sp p R) (hm3 : qm p ≤ 3) (h1 : ∀ M' k, k ≤ 3 → x = nI k → MoS Mz M' m X A st sp (newP A st sp k) R → Q (some (.int (nI (qm p)))) M') (h2 : ∀ M', MoS Mz M' m X A st sp p R → (¬ ∃ k, k ≤ 3 ∧ x = nI k) → Q (some (.int (-1 : Int32))) M') : ClD d mdX12_method [.ref m, .int x] M Q := by
  obtain ⟨M1, hM1⟩ : ∃ M1, M1 = sI M m 0 (nI 0) := ⟨_, rfl⟩
  have hS1 : MoS Mz M1 m X A st sp p R := by rw [hM1]; exact hS.th
  have s1 := hS1.sh.1
  have hA := hS1.sh.2
  refine ⟨6, hd, Cl.of moX12_method (Nat.le_of_ble_eq_true rfl) (gX12_method_0 hS.sh.1.1 ?_)⟩
  rw [← hM1]
  refine w_inI (a := 0) (b := 3) (by decide) (by decide) (by decide) (fun k _ k3 ek => gX12_method_14 s1.1 (fun _ => ?_) (fun c => absurd c (by decide))) (fun hn => gX12_method_14 s1.1 (fun c => absurd rfl c) (fun _ => ⟨⟨_, rfl⟩, h2 M1 hS1 (fun ⟨k, k1, e1⟩ => hn ⟨k, Nat.zero_le _, k1, e1⟩)⟩))
  rw [ek, hS1.1.2.2.1]
  have S : Sm [m] M1 (sI M1 m 7 (nI k)) := Sm.sI (by simp) _ _ _
  have hS0 := hS1
  obtain ⟨⟨⟨k1, k2⟩, ⟨s, es, i, -⟩, k4, k5, k6, k7⟩, -⟩ := hS1
  refine w_X12_fresh (A := A) (st := st) (sp := sp) (by decide) (s1.sm S) (by decide) k3 ⟨by rw [rI_nk (by decide)]; exact i.2.1.1, by rw [rI_nk (by decide)]; exact i.2.1.2.1, by rw [rI_nk (by decide)]; exact i.2.1.2.2⟩ (i.2.2.1.sm S (by simp) (by simp) (by simp)) hA (fun M2 F2 P2 => gX12_method_35 ⟨⟨_, rfl⟩, h1 M2 k k3 ek ⟨⟨⟨?_, ?_⟩, P2, ?_, ?_, k6, fun j hj => ?_⟩, (hS0.fr S (fun q hq => by simp at hq; omega)).tr (F2.1.mono (fun q hq => by rw [moL_mem] at hq; rw [moA_mem]; omega))⟩⟩)
  · exact (k1.sm S (by simp)).sm F2.1 (by rw [moL_mem]; omega)
  · rw [F2.2.1 30 (by decide) (by decide), rI_nk (by decide)]; exact k2
  · rw [F2.2.1 7 (by decide) (by decide), rI_at]; rfl
  · rw [F2.2.1 1 (by decide) (by decide), rI_nk (by decide)]; exact k5
  · rw [F2.1.J (by rw [moL_mem]; omega)]; exact k7 j hj
end MFd
