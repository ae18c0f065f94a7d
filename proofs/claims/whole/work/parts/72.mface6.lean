/-! the reference: its face, cells, knots, sifting -/
section MFi
variable {d m st sp N : Nat} {Q : Option Value → Mem → Prop} {Mz M M' : Mem} {A : PM} {p p' : PS} {X : List Nat} {R : List Int64}
theorem w_X12_parted {x y : Int32} (hd : 4 < d) (hS : MoS Mz M m X A st sp p R) (h : ∀ M', MoS Mz M' m X A st sp p R → ((¬ ∃ s t, s < 8 ∧ t < 8 ∧ x = nI s ∧ y = nI t) → Q (some (.long (-1 : Int64))) M') ∧ ∀ s t, s < 8 → t < 8 → x = nI s → y = nI t → (qg p = none → Q (some (.long (-2 : Int64))) M') ∧ ∀ g, qg p = some g → (¬ (s < pn g.2 ∧ t < pn g.2) → Q (some (.long (-1 : Int64))) M') ∧ (s < pn g.2 → t < pn g.2 → Q (some (.long (lN (fuC g.2 s g.2 t)))) M')) (hI : PI A N p) : ClD d mdX12_parted [.ref m, .int x, .int y] M Q := by
  have hA := hS.sh.2
  obtain ⟨M1, hM1⟩ : ∃ M1, M1 = sI M m 0 (nI 0) := ⟨_, rfl⟩
  have hS1 : MoS Mz M1 m X A st sp p R := by rw [hM1]; exact hS.th
  have s1 := hS1.sh.1
  have h1 := h M1 hS1
  have f20 := s1.f20
  have K : mK M1 (mR M1 m 20) = 3 := by rw [f20.1]; exact f20.2.1
  have V : vp_in (nI 0) (mN M1 (mR M1 m 20)) := by rw [f20.1, f20.2.2]; exact z_in (by decide) (by decide)
  refine ⟨4, hd, Cl.of moX12_parted (Nat.le_of_ble_eq_true rfl) (gX12_parted_0 hS.sh.1.1 ?_)⟩
  rw [← hM1]
  have BAD : Q (some (.long (-1 : Int64))) M1 → Wp 4 mdX12_parted 10 [(0, .ref m), (1, .int x), (2, .int y)] [.int (-1 : Int32)] M1 (fun r M' => ROK mdX12_parted r ∧ Q r M') := fun q => gX12_parted_10 s1.1 (fun _ => ⟨⟨_, rfl⟩, q⟩) (fun c => absurd rfl c)
  have BAD2 : Q (some (.long (-1 : Int64))) M1 → Wp 4 mdX12_parted 19 [(0, .ref m), (1, .int x), (2, .int y)] [.int (-1 : Int32)] M1 (fun r M' => ROK mdX12_parted r ∧ Q r M') := fun q => gX12_parted_19 s1.1 K (fun c => absurd rfl c) (fun c => absurd rfl c) (fun c => absurd rfl c) (fun _ => ⟨⟨_, rfl⟩, q⟩)
  refine w_X12_why (by decide) hS1 (fun hn => BAD (h1.1 (fun ⟨s, t, q1, _, q3, _⟩ => hn ⟨s, q1, q3⟩))) (fun s hs es hg => gX12_parted_10 s1.1 (fun c => absurd c (by decide)) (fun _ => ?_)) (fun s g es hg hs => gX12_parted_10 s1.1 (fun c => absurd c (by decide)) (fun _ => ?_)) (fun s g hs es hg hn => BAD ?_)
  · refine w_X12_why (by decide) hS1 (fun hn => BAD2 (h1.1 (fun ⟨s, t, _, q1, _, q3⟩ => hn ⟨t, q1, q3⟩))) (fun t ht et _ => gX12_parted_19 s1.1 K (fun _ => V) (fun _ _ => ⟨⟨_, rfl⟩, (h1.2 s t hs ht es et).1 hg⟩) (fun _ c => ?_) (fun c => absurd c (by decide))) (fun _ g _ hg' _ => by rw [hg] at hg'; cases hg') (fun _ g _ _ hg' _ => by rw [hg] at hg'; cases hg')
    rw [f20.1, nI_clamp (by decide), hS1.g0.1 hg] at c; exact absurd rfl c
  · have G := hS1.g0.2 g hg
    have g8 := G.2.2.2.1.1.2
    have hgu := hI.gu hA hg
    refine w_X12_why (by decide) hS1 (fun hn => BAD2 (h1.1 (fun ⟨s, t, _, q1, _, q3⟩ => hn ⟨t, q1, q3⟩))) (fun t ht et hg' => by rw [hg] at hg'; cases hg') (fun t g' et hg' ht => gX12_parted_19 s1.1 K (fun _ => V) (fun _ c => ?_) (fun _ c => ?_) (fun c => absurd c (by decide))) (fun t g' ht et hg' hn => BAD2 (((h1.2 s t (by omega) ht es et).2 g hg).1 ?_))
    · rw [f20.1, nI_clamp (by decide), G.1] at c; exact absurd c (by decide)
    · rw [hg] at hg'; cases hg'
      rw [es, et]
      exact w_X12_firstUnlike (by decide) s1 (by decide) (by decide) G.2.2.1 G.2.2.2.1 G.2.2.1 G.2.2.2.1 rfl (by rw [hgu.2.1]; exact hS1.l3.1) hs ht (fun M2 S2 => gX12_parted_44 ⟨⟨_, rfl⟩, (((h M2 (hS1.s3 S2)).2 s t (by omega) (by omega) es et).2 g hg).2 hs ht⟩)
    · rw [hg] at hg'; cases hg'
      exact fun q => hn q.2
  · have g8 := (hS1.g0.2 g hg).2.2.2.1.1.2
    by_cases z : ∃ t, t < 8 ∧ y = nI t
    · obtain ⟨t, t1, t2⟩ := z
      exact ((h1.2 s t hs t1 es t2).2 g hg).1 (fun q => hn q.1)
    · exact h1.1 (fun ⟨_, t, _, q1, _, q3⟩ => z ⟨t, q1, q3⟩)
theorem MoS.t (h : MoS Mz M m X A st sp p R) : ∃ s, eqS s (qs p) ∧ MoT M m 0 A st sp s (qH p) (qT p) := by
  obtain ⟨⟨-, ⟨s, es, i, -⟩, -⟩, -⟩ := h
  exact ⟨s, es, i⟩
theorem w_inX {x : Int32} {l : Nat} (hd : 1 < d) (hb : l ≤ 3) (h1 : ∀ o, (∀ z, o = some z → z < l) → x = eo o → Q (some (.int (nI 1))) M) (h0 : (¬ ∃ o, (∀ z, o = some z → z < l) ∧ x = eo o) → Q (some (.int (nI 0))) M) : ClD d mdX12_in [.long x.toInt64, .long (-1 : Int64), .long (nI l - nI 1).toInt64] M Q := by
  have e1 : (-1 : Int64).toInt = -1 := by decide
  have e2 : (-1 : Int32).toInt = -1 := by decide
  refine w_X12_in hd (fun c1 c2 => ?_) (fun c => h0 ?_)
  · rw [Int32.toInt_toInt64, e1] at c1
    rw [Int32.toInt_toInt64, Int32.toInt_toInt64, pk_sub_toInt (by omega) (by decide)] at c2
    by_cases z : x.toInt = -1
    · refine h1 none (fun _ q => by cases q) ?_
      rw [← Int32.toInt_inj, z]; exact e2.symm
    · refine h1 (some x.toInt.toNat) (fun z q => by cases q; omega) ?_
      show x = nI x.toInt.toNat
      rw [← Int32.toInt_inj, nI_toInt (by omega)]; omega
  · rintro ⟨o, o1, o2⟩
    apply c
    rw [Int32.toInt_toInt64, Int32.toInt_toInt64, e1, pk_sub_toInt (by omega) (by decide)]
    cases o with
    | none =>
      have : x = (-1 : Int32) := o2
      rw [this, e2]; omega
    | some z =>
      have : x = nI z := o2
      have hz := o1 z rfl
      rw [this, nI_toInt (by omega)]; omega
theorem w_X12_cell {x y z : Int32} (hd : 4 < d) (hS : MoS Mz M m X A st sp p R) (hI : PI A N p) (hN : N ≤ 4600) (h : ∀ M', MoS Mz M' m X A st sp p R → ((¬ ∃ k o e, k < (qH p).length ∧ (∀ i, o = some i → i < pl A) ∧ e < (qT p).length ∧ x = nI k ∧ y = eo o ∧ z = nI e) → Q (some (.int (-1 : Int32))) M') ∧ ∀ k o e, k < (qH p).length → (∀ i, o = some i → i < pl A) → e < (qT p).length → x = nI k → y = eo o → z = nI e → (qm p = 3 → Q (some (.int (-2 : Int32))) M') ∧ (qm p ≠ 3 → ((qH p).getD k [] ++ o.toList ++ (qT p).getD e [] ∉ (qs p).1 → Q (some (.int (-3 : Int32))) M') ∧ ((qH p).getD k [] ++ o.toList ++ (qT p).getD e [] ∈ (qs p).1 → Q (some (.int (nI (an A 0 ((qH p).getD k [] ++ o.toList ++ (qT p).getD e []))))) M'))) : ClD d mdX12_cell [.ref m, .int x, .int y, .int z] M Q := by
  have hA := hS.sh.2
  have l3 := hA.2.1
  obtain ⟨M1, hM1⟩ : ∃ M1, M1 = sI M m 0 (nI 0) := ⟨_, rfl⟩
  have hS1 : MoS Mz M1 m X A st sp p R := by rw [hM1]; exact hS.th
  have s1 := hS1.sh.1
  have h := h M1 hS1
  have f11 := s1.f11
  have f12 := s1.f12
  have n0 : vp_in (nI 0) 2 := z_in (by decide) (by decide)
  obtain ⟨s, es, hi⟩ := hS1.t
  have hn := hI.n hA
  have hsl := es.len
  have hl := hi.n
  have hlens := hI.lens hA
  have hm3 := hI.2.2.1
  refine ⟨4, hd, Cl.of moX12_cell (Nat.le_of_ble_eq_true rfl) (gX12_cell_0 hS.sh.1.1 ?_ ?_ ?_)⟩ <;> rw [← hM1, f11.1]
  · exact hS.sh.1.f11.2.1
  · rw [f11.2.2]; exact n0
  · rw [nI_clamp (by decide), hl.1.1]
    refine w_inM (by decide) (by omega) (fun k hk ek => gX12_cell_20 s1.1 (fun c => absurd c (by decide)) (fun _ => ?_)) (fun hno => gX12_cell_20 s1.1 (fun _ => ⟨⟨_, rfl⟩, h.1 (fun ⟨k, o, e, q1, _, _, q2, _⟩ => hno ⟨k, q1, q2⟩)⟩) (fun c => absurd rfl c))
    rw [hS1.l3.1]
    have K12 : mK M1 (mR M1 m 12) = 1 := by rw [f12.1]; exact f12.2.1
    refine w_inX (by decide) l3.2 (fun o ho eo' => gX12_cell_38 s1.1 K12 (fun c => absurd c (by decide)) (fun _ => by rw [f12.1, f12.2.2]; exact n0) (fun _ => ?_)) (fun hno => gX12_cell_38 s1.1 K12 (fun _ => ⟨⟨_, rfl⟩, h.1 (fun ⟨k, o, e, _, q1, _, _, q2, _⟩ => hno ⟨o, q1, q2⟩)⟩) (fun c => absurd rfl c) (fun c => absurd rfl c))
    rw [f12.1, nI_clamp (by decide), hl.1.2]
    refine w_inM (by decide) (by omega) (fun e he ee => ?_) (fun hno => gX12_cell_56 s1.1 (fun c => absurd rfl c) (fun c => absurd rfl c) (fun c => absurd rfl c) (fun _ => ⟨⟨_, rfl⟩, h.1 (fun ⟨k, o, e, _, _, q1, _, _, q2⟩ => hno ⟨e, q1, q2⟩)⟩))
    have h := h.2 k o e hk ho he ek eo' ee
    have hh := hi.2.2.2.2.2.2.2.1.1.get hk
    have ht := hi.2.2.2.2.2.2.2.1.2.get he
    have hle := hlens.2.2.1 _ _ (getD_mem hk) (getD_mem he)
    have FIN : ∀ w, w = (qH p).getD k [] ++ o.toList → vw (pl A) w → w.length + ((qT p).getD e []).length ≤ 30 → qm p ≠ 3 → Wp 4 mdX12_cell 96 [(0, .ref m), (3, .int z)] [.long (lN (cd w))] M1 (fun r M' => ROK mdX12_cell r ∧ Q r M') := by
      intro w hw wv wl c3
      rw [ee]
      have h := h.2 c3
      rw [← hw] at h
      have hwv := vw_app.mpr ⟨wv, ht.1⟩
      have hwl : (w ++ (qT p).getD e []).length ≤ 30 := by rw [List.length_append]; exact wl
      refine gX12_cell_96 s1.1 (w_X12_tailOf (by decide) hi he (gX12_cell_106 (w_X12_both (by decide) (vw_mono wv (by omega)) (vw_mono ht.1 (by omega)) wl (gX12_cell_109 s1.1 ?_))))
      refine w_X12_wasAsked (by decide) s1 (by decide) hi.2.2.2.2.1 (by omega) (vw_mono hwv (by omega)) hwl (fun q => gX12_cell_118 s1.1 (fun c => absurd c (by decide)) (fun _ => ?_)) (fun q => gX12_cell_118 s1.1 (fun _ => ⟨⟨_, rfl⟩, h.1 (fun z => q ((es.2.1 _).mpr z))⟩) (fun c => absurd rfl c))
      exact w_X12_answer (by decide) s1 (by decide) hS1.l3.2 hA hwv hwl (gX12_cell_128 ⟨⟨_, rfl⟩, h.2 ((es.2.1 _).mp q)⟩)
    have q7 := hS1.1.2.2.1
    refine gX12_cell_56 s1.1 (fun _ c c2 => ?_) (fun _ c c2 => ?_) (fun _ c => ⟨⟨_, rfl⟩, ?_⟩) (fun c => absurd c (by decide)) <;> rw [q7, nI_eq (by omega) (by decide)] at c
    · cases o with
      | none => exact absurd eo' c2
      | some i =>
        have hi3 := ho i rfl
        have ey : y = nI i := eo'
        rw [ek, ey]
        refine w_X12_headOf (by decide) hi hk (gX12_cell_92 (w_X12_longer (by decide) (by omega) ?_))
        exact FIN _ rfl (vw_app.mpr ⟨hh.1, fun v hv => by rw [List.mem_singleton] at hv; rw [hv]; exact hi3⟩) (by rw [List.length_append, List.length_singleton]; omega) c
    · cases o with
      | some i =>
        have hi3 := ho i rfl
        have ey : y = nI i := eo'
        exact absurd z_m1 (by rw [← c2, ey]; exact nI_pos (by omega))
      | none =>
        rw [ek]
        refine w_X12_headOf (by decide) hi hk (gX12_cell_83 (FIN _ (by simp) hh.1 (by omega) c))
    · exact h.1 c
theorem w_X12_knot {x y : Int32} (hd : 2 < d) (hS : MoS Mz M m X A st sp p R) (hI : PI A N p) (h : ∀ M', MoS Mz M' m X A st sp p R → ((¬ ∃ o, o < 4 ∧ y = nI o) → Q (some (.int (-1 : Int32))) M') ∧ ∀ o, o < 4 → y = nI o → (qm p ≠ 3 → Q (some (.int (-2 : Int32))) M') ∧ (qm p = 3 → ((¬ ∃ k, k < (qT p).length ∧ x = nI k) → Q (some (.int (-1 : Int32))) M') ∧ ∀ k, k < (qT p).length → x = nI k → (qK p (4 * k + o) = 0 → Q (some (.int (-3 : Int32))) M') ∧ (qK p (4 * k + o) ≠ 0 → Q (some (.int (kcI (qK p (4 * k + o))))) M'))) : ClD d mdX12_knot [.ref m, .int x, .int y] M Q := by
  have hA := hS.sh.2
  obtain ⟨M1, hM1⟩ : ∃ M1, M1 = sI M m 0 (nI 0) := ⟨_, rfl⟩
  have hS1 : MoS Mz M1 m X A st sp p R := by rw [hM1]; exact hS.th
  have s1 := hS1.sh.1
  have h := h M1 hS1
  have f12 := s1.f12
  have f22 := s1.f22
  have q7 := hS1.1.2.2.1
  have hm3 := hI.2.2.1
  have K12 : mK M1 (mR M1 m 12) = 1 := by rw [f12.1]; exact f12.2.1
  have K22 : mK M1 (mR M1 m 22) = 1 := by rw [f22.1]; exact f22.2.1
  obtain ⟨s, es, hi⟩ := hS1.t
  refine ⟨2, hd, Cl.of moX12_knot (Nat.le_of_ble_eq_true rfl) (gX12_knot_0 hS.sh.1.1 ?_)⟩
  rw [← hM1]
  refine w_inI (a := 0) (b := 3) (by decide) (by decide) (by decide) (fun o _ ho eo' => gX12_knot_14 s1.1 K12 (fun _ _ => by rw [f12.1, f12.2.2]; exact z_in (by decide) (by decide)) (fun _ c => ?_) (fun _ c => ⟨⟨_, rfl⟩, ?_⟩) (fun c => absurd c (by decide))) (fun hno => gX12_knot_14 s1.1 K12 (fun c => absurd rfl c) (fun c => absurd rfl c) (fun c => absurd rfl c) (fun _ => ⟨⟨_, rfl⟩, h.1 (fun ⟨o, q1, q2⟩ => hno ⟨o, Nat.zero_le _, by omega, q2⟩)⟩))
  · rw [q7, nI_eq (by omega) (by decide)] at c
    have h := (h.2 o (by omega) eo').2 c
    have hR := hI.2.2.2.2 c
    have hK : MoK M1 m 0 (qT p) (qK p) := by obtain ⟨⟨-, ⟨s, -, -, -, -, k⟩, -⟩, -⟩ := hS1; exact k c
    have hT8 := hR.1.1.2.1
    rw [f12.1, nI_clamp (by decide), hi.n.1.2]
    refine w_inM (by decide) (by omega) (fun k hk ek => ?_) (fun hno => gX12_knot_45 s1.1 K22 (fun c => absurd rfl c) (fun c => absurd rfl c) (fun c => absurd rfl c) (fun c => absurd rfl c) (fun _ => ⟨⟨_, rfl⟩, h.1 hno⟩))
    have h := h.2 k hk ek
    have hle := hR.1.le (4 * k + o)
    have hv := hK (4 * k + o) (by omega)
    rw [show 512 * 0 + (4 * k + o) = 4 * k + o by omega] at hv
    refine gX12_knot_45 s1.1 K22 (fun _ => ?_) (fun _ c1 c2 => ⟨⟨_, rfl⟩, ?_⟩) (fun _ c1 c2 => ⟨⟨_, rfl⟩, ?_⟩) (fun _ c1 => ⟨⟨_, rfl⟩, ?_⟩) (fun c => absurd c (by decide))
    · rw [ek, eo', pk_mul, nI_add, f22.1, f22.2.2]; exact z_in (by omega) (by decide)
    · rw [ek, eo', pk_mul, nI_add, f22.1, nI_clamp (by omega), hv] at c1 c2 ⊢
      rw [nI_leI (by decide) (by omega)] at c2
      have := h.2 (by omega)
      unfold kcI at this
      rw [if_neg (by omega), if_neg (by omega)] at this
      exact this
    · rw [ek, eo', pk_mul, nI_add, f22.1, nI_clamp (by omega), hv] at c1 c2 ⊢
      rw [nI_leI (by decide) (by omega)] at c2
      have hk0 : qK p (4 * k + o) ≠ 0 := fun q => c1 (by rw [q]; rfl)
      have := h.2 hk0
      unfold kcI at this
      rw [if_neg hk0, if_pos (by omega)] at this
      rw [z_sub (by omega)]; exact this
    · rw [ek, eo', pk_mul, nI_add, f22.1, nI_clamp (by omega), hv] at c1
      have c1 : nI (qK p (4 * k + o)) = nI 0 := c1
      rw [nI_eq (by omega) (by decide)] at c1
      exact h.1 c1
  · rw [q7, nI_eq (by omega) (by decide)] at c
    exact (h.2 o (by omega) eo').1 c
theorem w_X12_sift {x : Int64} (hd : 6 < d) (hS : MoS Mz M m X A st sp p R) (hI : PI A N p) (hN : N ≤ 4600) (h1 : ∀ M', MoS Mz M' m X A st sp p R → ((¬ ∃ w, isW (pl A) x w ∧ w.length ≤ 15) → Q (some (.int (-1 : Int32))) M') ∧ (∀ w, isW (pl A) x w → w.length ≤ 15 → qm p ≠ 3 → Q (some (.int (-2 : Int32))) M'))
    (h2 : ∀ M' w, isW (pl A) x w → w.length ≤ 15 → qm p = 3 → qK p (sfP A (qT p) (qK p) w) = 0 → MoS Mz M' m X A st sp (qm p, aSs st sp (qs p) (sw A (qT p) (qK p) w 8 0), ql p, qH p, qT p, qK p, qg p) R → Q (some (.int (-3 : Int32))) M')
    (h3 : ∀ M' w, isW (pl A) x w → w.length ≤ 15 → qm p = 3 → qK p (sfP A (qT p) (qK p) w) ≠ 0 → MoS Mz M' m X A st sp (qm p, aSs st sp (qs p) (sw A (qT p) (qK p) w 8 0), ql p, qH p, qT p, qK p, qg p) [(nI (sfM A (qT p) (qK p) w)).toInt64] → Q (some (.int (kcI (qK p (sfP A (qT p) (qK p) w))))) M') : ClD d mdX12_sift [.ref m, .long x] M Q := by
  have hA := hS.sh.2
  have l3 := hA.2.1
  obtain ⟨M1, hM1⟩ : ∃ M1, M1 = sI M m 0 (nI 0) := ⟨_, rfl⟩
  have hS1 : MoS Mz M1 m X A st sp p R := by rw [hM1]; exact hS.th
  have s1 := hS1.sh.1
  have h1 := h1 M1 hS1
  have q7 := hS1.1.2.2.1
  have hm3 := hI.2.2.1
  refine ⟨6, hd, Cl.of moX12_sift (Nat.le_of_ble_eq_true rfl) (gX12_sift_0 hS.sh.1.1 ?_)⟩
  rw [← hM1]
  refine w_X12_isWord (by decide) s1.1 hS1.l3.1 l3.1 l3.2 (fun w hw => gX12_sift_10 (fun c => absurd c (by decide)) (fun _ => ?_)) (fun hn => gX12_sift_10 (fun _ => ⟨⟨_, rfl⟩, h1.1 (fun ⟨w, q, _⟩ => hn ⟨w, q⟩)⟩) (fun c => absurd rfl c))
  have hw0 := hw
  obtain ⟨w1, w2, w3⟩ := hw
  have w4 := vw_mono w1 (show pl A ≤ 4 by omega)
  rw [w3]
  refine w_X12_lengthOf (by decide) w4 w2 (gX12_sift_17 s1.1 (fun c c2 => ?_) (fun c c2 => ⟨⟨_, rfl⟩, ?_⟩) (fun c => ⟨⟨_, rfl⟩, h1.1 ?_⟩)) <;> rw [nI_leI (by omega) (by decide)] at c
  · rw [q7, nI_eq (by omega) (by decide)] at c2
    have hR := hI.2.2.2.2 c2
    have hlens := hI.lens hA
    obtain ⟨Y, y1, y2, y3⟩ := hI.ask hA
    obtain ⟨s, es, hi, ⟨i5, i14⟩, hg, hK⟩ := hS1.1.2.1
    have hT8 := hR.1.1.2.1
    refine w_X12_sifts (X := Y ++ (qT p).map (fun e => w ++ e)) (by decide) hi (hK c2) hR.1 w1 (fun e he => by have := hlens.2.1 e he; omega) (fun v hv => List.mem_append.mpr (Or.inl (y1 v ((es.2.1 v).mp hv)))) (fun e he => List.mem_append.mpr (Or.inr (List.mem_map.mpr ⟨e, he, rfl⟩))) (by rw [List.length_append, List.length_map]; omega) (fun M2 S2 F2 I2 h97 => ?_)
    have hS2 : MoS Mz M2 m X A st sp (qm p, aSs st sp (qs p) (sw A (qT p) (qK p) w 8 0), ql p, qH p, qT p, qK p, qg p) R := by
      refine hS1.fx F2.x ⟨_, es.as, I2, ⟨?_, ?_⟩, ?_, fun _ => (hK c2).sm S2 (by simp)⟩ rfl
      · rw [S2.I (by simp)]; exact i5
      · rw [S2.I (by simp)]; exact i14
      · show MoG M2 m 0 (qg p)
        cases hq : qg p with
        | none => rw [hq] at hg; show mI M2 (m + 15) 0 = nI 0; rw [S2.I (by simp)]; exact hg
        | some g =>
          rw [hq] at hg
          obtain ⟨g1, g2, g3, g4, g5⟩ := hg
          exact ⟨by rw [S2.I (by simp)]; exact g1, fun j hj => by rw [S2.J (by simp)]; exact g2 j hj, g3.sm S2 (by simp) (by simp) (by simp), g4, g5⟩
    have hle := hR.1.le (sfP A (qT p) (qK p) w)
    have hkc : kcI (qK p (sfP A (qT p) (qK p) w)) = (-1 : Int32) ↔ qK p (sfP A (qT p) (qK p) w) = 0 := by
      constructor
      · intro q
        refine Classical.byContradiction fun z => ?_
        unfold kcI at q
        rw [if_neg z] at q
        refine absurd z_m1 ?_
        rw [← q]; split <;> exact nI_pos (by omega)
      · intro q; rw [q]; rfl
    refine gX12_sift_41 hS2.sh.1.1 (fun c3 => ?_) (fun c3 => ⟨⟨_, rfl⟩, h2 M2 w hw0 c c2 (hkc.mp c3) hS2⟩)
    have k0 : ¬ qK p (sfP A (qT p) (qK p) w) = 0 := fun q => c3 (hkc.mpr q)
    rw [rI_nk (by decide), h97.1]
    exact w_X12_enters (by decide) hS2.nil (by decide) (fun M3 S3 _ => gX12_sift_64 ⟨⟨_, rfl⟩, h3 M3 w hw0 c c2 k0 S3⟩)
  · rw [q7, nI_eq (by omega) (by decide)] at c2
    exact h1.2 w hw0 c c2
  · rintro ⟨w', q1, q2⟩
    rw [isW_inj (by omega) q1 hw0] at q2
    exact c q2
end MFi
