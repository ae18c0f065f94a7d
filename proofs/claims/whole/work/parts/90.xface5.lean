/-! the class's face: heads, tails, cells, knots, steps, lessons -/
section XFe
variable {z d r b P st sp N : Nat} {Q : Option Value → Mem → Prop} {Mz M M' M1 : Mem} {A A' : PM} {p p' : PS} {X : List Nat} {R : List Int64} {g : GU}
theorem ne_m1 {c : Nat} (h : c < 2 ^ 61) : ¬ lN c = (-1 : Int64) := fun e => by
  have e2 := congrArg Int64.toInt e
  rw [pk_lT (by omega), show (-1 : Int64).toInt = -1 by decide] at e2
  omega
/-- what can be read of a pupil -/
theorem CP.mn (hc : CP z M P A st sp p) : (mI M (P + 1 + 1) 0 = nI (qs p).1.length ∧ mI M (P + 1) 4 = nI (qs p).2) ∧ mI M (bP P p) 6 = nI (ql p) ∧ (mI M (bP P p + 1) 0 = nI (qH p).length ∧ mI M (bP P p + 3) 0 = nI (qT p).length) ∧ mI M P 4 = nI (qm p) ∧ (mK M P = 6 ∧ mR M P 0 = P + 1 ∧ mR M P 3 = bP P p ∧ mK M (P + 1) = 4 ∧ mR M (P + 1) 1 = P + 1 + 1 ∧ mK M (P + 1 + 1) = 12) ∧ ∃ cn, NotSh M (bP P p) (P + 1) cn ∧ NT cn ∧ mK M (bP P p) = cn + 4 ∧ (qm p = 3 → cn = 6) ∧ (qm p ≠ 3 → cn = 4) := by
  obtain ⟨s, es, ai⟩ := hc.ai
  obtain ⟨k, T, sa, -, -⟩ := ai.2.1.2.2
  have l := hc.lst
  obtain ⟨⟨cn, n1, c6, c4⟩, n2, n3⟩ := hc.gue
  exact ⟨⟨by rw [sa.1.2.2.2.1, es.len], by rw [ai.2.1.1.2.2, es.2.2]⟩, l.2.1, ⟨l.1.1.1, l.1.2.1⟩, hc.2.1.2, ⟨hc.1.1.1, hc.1.1.2.1, n3, ai.1.1, ai.1.2.2.1, ai.1.2.2.2⟩, cn, n1, n1.1.1, n1.1.2, c6, c4⟩
theorem CX.cp (hS : CX Mz M X A st sp p R) : CP 88 M 18 A st sp p := hS.1.2.2.1
theorem CX.n13 (hS : CX Mz M X A st sp p R) {S : List Nat} {M2 : Mem} (F : Fa 19 S M M2) (hS2 : ∀ q, q ∈ S → (17 < q ∧ q < 50)) : SeaSh M2 13 := by
  have l := hS.1.1.2.1
  refine SeaSh.fm F.1 (by have := l.2.2.2; omega) hS.1.1.2.2 (fun hm => ?_)
  have := l.1.1
  rcases List.mem_cons.mp hm with e | e
  · have e : 13 = slq M 19 := e
    omega
  · have := hS2 _ e; omega
theorem w_X11_head {x : Int32} (hd : 2 < d) (hS : CX Mz M X A st sp p R) (hI : PI A N p) (h : ∀ M', CX Mz M' X A st sp p R → (x = (-1 : Int32) → Q (some (.long (nI (qH p).length).toInt64)) M') ∧ (∀ k, k < (qH p).length → x = nI k → Q (some (.long (lN (cd ((qH p).getD k []))))) M') ∧ (x ≠ (-1 : Int32) → (¬ ∃ k, k < (qH p).length ∧ x = nI k) → Q (some (.long (-1 : Int64))) M')) : ClD d mdX11_head [.ref 2, .int x] M Q := by
  have h := h M hS
  have hl := (hI.lens hS.ok).2.2.2.1
  obtain ⟨-, -, ⟨m1, -⟩, -, -, -⟩ := hS.cp.mn
  have L := hS.cp.lst.1.1
  obtain ⟨cn, bb, ebb, nt, n0, n1, n2, n3, n4, n5, nb, k6, -⟩ := hS.gg
  have n21 : mR M bb 1 = bb + 1 := nt.2.1.2.1
  have ls := nt.2.2.1
  change mI M (bP 18 p + 1) 0 = _ at m1
  rw [← ebb] at m1 L
  refine ⟨2, hd, Cl.of moX11_head (Nat.le_of_ble_eq_true rfl) (gX11_head_0 hS.k k6 n0 (by rw [n2]; exact n1) (by rw [n2, n21]; exact ls.1) (fun c => ?_) (fun c => gX11_head_36 ⟨⟨_, rfl⟩, ?_⟩))⟩ <;> rw [n2, n21]
  · refine w_X9_get (by decide) ls L (by omega) (by decide) (fun k hk ek => gX11_head_36 ⟨⟨_, rfl⟩, h.2.1 k hk ek⟩) (fun q => gX11_head_36 ⟨⟨_, rfl⟩, h.2.2 c ?_⟩)
    rintro ⟨k, k1, k2⟩
    rw [k2] at q
    rcases q with q | q
    · exact nI_pos (by omega) q
    · rw [nI_leI (by omega) (by omega)] at q; omega
  · rw [m1]; exact h.1 c
theorem w_X11_tail {x : Int32} (hd : 2 < d) (hS : CX Mz M X A st sp p R) (hI : PI A N p) (h : ∀ M', CX Mz M' X A st sp p R → (x = (-1 : Int32) → Q (some (.long (nI (qT p).length).toInt64)) M') ∧ (∀ k, k < (qT p).length → x = nI k → Q (some (.long (lN (cd ((qT p).getD k []))))) M') ∧ (x ≠ (-1 : Int32) → (¬ ∃ k, k < (qT p).length ∧ x = nI k) → Q (some (.long (-1 : Int64))) M')) : ClD d mdX11_tail [.ref 2, .int x] M Q := by
  have h := h M hS
  have hl := (hI.lens hS.ok).2.2.2.1
  obtain ⟨-, -, ⟨-, m1⟩, -, -, -⟩ := hS.cp.mn
  have L := hS.cp.lst.1.2
  obtain ⟨cn, bb, ebb, nt, n0, n1, n2, n3, n4, n5, nb, k6, -⟩ := hS.gg
  have n21 : mR M bb 2 = bb + 3 := nt.2.1.2.2.1
  have ls := nt.2.2.2.1
  change mI M (bP 18 p + 3) 0 = _ at m1
  rw [← ebb] at m1 L
  refine ⟨2, hd, Cl.of moX11_tail (Nat.le_of_ble_eq_true rfl) (gX11_tail_0 hS.k k6 n0 (by rw [n2]; exact n1) (by rw [n2, n21]; exact ls.1) (fun c => ?_) (fun c => gX11_tail_36 ⟨⟨_, rfl⟩, ?_⟩))⟩ <;> rw [n2, n21]
  · refine w_X9_get (by decide) ls L (by omega) (by decide) (fun k hk ek => gX11_tail_36 ⟨⟨_, rfl⟩, h.2.1 k hk ek⟩) (fun q => gX11_tail_36 ⟨⟨_, rfl⟩, h.2.2 c ?_⟩)
    rintro ⟨k, k1, k2⟩
    rw [k2] at q
    rcases q with q | q
    · exact nI_pos (by omega) q
    · rw [nI_leI (by omega) (by omega)] at q; omega
  · rw [m1]; exact h.1 c
theorem w_X11_cell {x y z : Int32} (hd : 4 < d) (hS : CX Mz M X A st sp p R) (hI : PI A N p) (h : ∀ M', CX Mz M' X A st sp p R → ((¬ ∃ k o e, k < (qH p).length ∧ (∀ i, o = some i → i < pl A) ∧ e < (qT p).length ∧ x = nI k ∧ y = eo o ∧ z = nI e) → Q (some (.int (-1 : Int32))) M') ∧ ∀ k o e, k < (qH p).length → (∀ i, o = some i → i < pl A) → e < (qT p).length → x = nI k → y = eo o → z = nI e → (qm p = 3 → Q (some (.int (-2 : Int32))) M') ∧ (qm p ≠ 3 → ((qH p).getD k [] ++ o.toList ++ (qT p).getD e [] ∉ (qs p).1 → Q (some (.int (-3 : Int32))) M') ∧ ((qH p).getD k [] ++ o.toList ++ (qT p).getD e [] ∈ (qs p).1 → Q (some (.int (nI (an A 0 ((qH p).getD k [] ++ o.toList ++ (qT p).getD e []))))) M'))) : ClD d mdX11_cell [.ref 2, .int x, .int y, .int z] M Q := by
  have hA := hS.ok
  have l3 := hA.2.1.2
  have h := h M hS
  have m3 := hS.1.m3
  have r := hS.r
  have hlens := hI.lens hA
  have qm3 := hI.2.2.1
  obtain ⟨s, es, ai⟩ := hS.cp.ai
  obtain ⟨-, -, -, mm, ⟨-, e0, -, k4, e1, k12⟩, -⟩ := hS.cp.mn
  obtain ⟨⟨LH, LT⟩, -, oH, oT⟩ := hS.cp.lst
  obtain ⟨cn, bb, ebb, nt, n0, n1, n2, n3, n4, n5, nb, k6, e4⟩ := hS.gg
  have n21 : mR M bb 1 = bb + 1 := nt.2.1.2.1
  have n22 : mR M bb 2 = bb + 3 := nt.2.1.2.2.1
  have l1 := nt.2.2.1
  have l2 := nt.2.2.2.1
  rw [← ebb] at LH LT
  have el : mI M (mR M 2 0) 1 = nI (pl A) := by rw [r.1.1]; exact m3.2.1.2
  have eM : mI M (mR M 2 4) 4 = nI (qm p) := by rw [e4]; exact mm
  have K2 : mK M (mR M (mR M 2 4) 3) = cn + 4 := by rw [n2]; exact n1
  have KT : mK M (mR M (mR M (mR M 2 4) 3) 2) = 11 := by rw [n2, n22]; exact l2.1
  have K0 : mK M (mR M 2 0) = 5 := by rw [r.1.1]; exact m3.1.1.1
  refine ⟨4, hd, Cl.of moX11_cell (Nat.le_of_ble_eq_true rfl) (gX11_cell_0 hS.k k6 n0 K2 (by rw [n2, n21]; exact l1.1) ?_)⟩
  rw [n2, n21]
  have NO : ∀ {w : Int64}, (w = (-1 : Int64)) → (¬ ∃ k o e, k < (qH p).length ∧ (∀ i, o = some i → i < pl A) ∧ e < (qT p).length ∧ x = nI k ∧ y = eo o ∧ z = nI e) → ∀ v, Wp 4 mdX11_cell 30 [(0, .ref 2), (2, .int y), (4, .long w)] [.long v] M (fun r M' => ROK mdX11_cell r ∧ Q r M') := fun {w} e hn v =>
    gX11_cell_30 hS.k K0 k6 (fun _ => ⟨⟨_, rfl⟩, h.1 hn⟩) (fun c => absurd e c) (fun c => absurd e c) (fun c => absurd e c) (fun c => absurd e c) (fun c => absurd e c) (fun c => absurd e c)
  have nix : ∀ {v : Int32} {n : Nat}, n ≤ 128 → (v < 0 ∨ nI n ≤ v) → ¬ ∃ k, k < n ∧ v = nI k := fun {v n} hn q => by
    rintro ⟨k, k1, k2⟩
    rw [k2] at q
    rcases q with q | q
    · exact nI_pos (by omega) q
    · rw [nI_leI (by omega) (by omega)] at q; omega
  refine w_X9_get (by decide) l1 LH (by omega) (by decide) (fun k hk ek => gX11_cell_14 hS.k k6 n0 K2 KT ?_) (fun q => gX11_cell_14 hS.k k6 n0 K2 KT ?_)
  · have hh := oH.get hk
    have ch := cd30 (vw_mono hh.1 (show pl A ≤ 4 by omega)) hh.2
    rw [n2, n22]
    refine w_X9_get (by decide) l2 LT (by omega) (by decide) (fun e he ee => ?_) (fun q => gX11_cell_30 hS.k K0 k6 (fun c => absurd c (ne_m1 ch)) (fun _ _ => ⟨⟨_, rfl⟩, h.1 (fun ⟨_, _, e, _, _, e1, _, _, e2⟩ => nix (by omega) q ⟨e, e1, e2⟩)⟩) (fun _ c => absurd rfl c) (fun _ c => absurd rfl c) (fun _ c => absurd rfl c) (fun _ c => absurd rfl c) (fun _ c => absurd rfl c))
    have ht := oT.get he
    have ct := cd30 (vw_mono ht.1 (show pl A ≤ 4 by omega)) ht.2
    have hle := hlens.2.2.1 _ _ (getD_mem hk) (getD_mem he)
    have END : ∀ o : Option Nat, (∀ i, o = some i → i < pl A) → y = eo o → qm p ≠ 3 → Wp 4 mdX11_cell 98 [(0, .ref 2), (6, .long (lN (cd ((qT p).getD e []))))] [.long (lN (cd ((qH p).getD k [] ++ o.toList)))] M (fun r M' => ROK mdX11_cell r ∧ Q r M') := fun o ho eo' hq3 => by
      have hh2 := (h.2 k o e hk ho he ek eo' ee).2 hq3
      have hv : vw (pl A) ((qH p).getD k [] ++ o.toList) := vw_app.mpr ⟨hh.1, fun v hv => ho v (by cases o <;> simp at hv; rw [hv])⟩
      have hln : ((qH p).getD k [] ++ o.toList).length ≤ ((qH p).getD k []).length + 1 := by
        rw [List.length_append]
        cases o <;> simp
      have hva : vw (pl A) ((qH p).getD k [] ++ o.toList ++ (qT p).getD e []) := vw_app.mpr ⟨hv, ht.1⟩
      have hla : ((qH p).getD k [] ++ o.toList ++ (qT p).getD e []).length ≤ 30 := by rw [List.length_append]; omega
      refine gX11_cell_98 (w_X1_join (by decide) (vw_mono hv (by omega)) (vw_mono ht.1 (by omega)) (by omega) (gX11_cell_103 hS.k k6 (by rw [e4, e0]; exact k4) (by rw [e4, e0, e1]; exact k12) ?_))
      rw [e4, e0, e1]
      refine w_has (r := 19) (by decide) ai (vw_mono hva (by omega)) hla (fun q => gX11_cell_120 hS.k K0 (fun c => absurd c (by decide)) (fun _ => ?_)) (fun q => gX11_cell_120 hS.k K0 (fun _ => ⟨⟨_, rfl⟩, hh2.1 (fun y => q ((es.2.1 _).mpr y))⟩) (fun c => absurd rfl c))
      rw [r.1.1]
      refine w_X2_answer (by decide) m3.1 m3.2 hA.bd (vw_mono hva (by omega)) hla (gX11_cell_132 ⟨⟨_, rfl⟩, ?_⟩)
      rw [rnO_ok hA hA.1.1 hva, show ouO A (some (rn (pt A) 0 ((qH p).getD k [] ++ o.toList ++ (qT p).getD e []))) = some (an A 0 ((qH p).getD k [] ++ o.toList ++ (qT p).getD e [])) from if_pos (rn_lt hA hA.1.1 hva)]
      exact hh2.2 ((es.2.1 _).mp q)
    have ym : (-1 : Int32).toInt = -1 := by decide
    refine gX11_cell_30 hS.k K0 k6 (fun c => absurd c (ne_m1 ch)) (fun _ c => absurd c (ne_m1 ct)) (fun _ _ c => ⟨⟨_, rfl⟩, h.1 ?_⟩) (fun _ _ c c2 c3 c4 => ?_) (fun _ _ c c2 c3 c4 => ?_) (fun _ _ c c2 c3 => ⟨⟨_, rfl⟩, ?_⟩) (fun _ _ c c2 => ⟨⟨_, rfl⟩, h.1 ?_⟩)
    · rintro ⟨_, o, _, _, q2, _, _, q5, _⟩
      rw [q5] at c
      cases o with
      | none => exact absurd c (by decide)
      | some i =>
        have := q2 i rfl
        rw [Int32.lt_iff_toInt_lt, ym, show eo (some i) = nI i from rfl, nI_toInt (by omega)] at c; omega
    · rw [el] at c2
      have c0 : ¬ y < 0 := fun q => by
        rw [Int32.lt_iff_toInt_lt, ym] at c
        rw [Int32.lt_iff_toInt_lt, show (0 : Int32).toInt = 0 by decide] at q
        exact c4 (by rw [← Int32.toInt_inj, ym]; omega)
      obtain ⟨i, i1, i2⟩ := nI_of c0
      rw [i2, nI_ltI i1 (by omega)] at c2
      rw [eM, nI_eq (by omega) (by decide)] at c3
      rw [i2]
      exact w_X1_then (by decide) i1 (END (some i) (fun j e => by cases e; exact c2) i2 c3)
    · rw [eM, nI_eq (by omega) (by decide)] at c3
      have := END none (fun j e => by cases e) c4 c3
      rw [show (qH p).getD k [] ++ (none : Option Nat).toList = (qH p).getD k [] from List.append_nil _] at this
      exact this
    · rw [eM, nI_eq (by omega) (by decide)] at c3
      rw [el] at c2
      have ex : ∃ o : Option Nat, (∀ i, o = some i → i < pl A) ∧ y = eo o := by
        by_cases q : y = (-1 : Int32)
        · exact ⟨none, fun i e => (by cases e), q⟩
        · have c0 : ¬ y < 0 := fun q2 => by
            rw [Int32.lt_iff_toInt_lt, ym] at c
            rw [Int32.lt_iff_toInt_lt, show (0 : Int32).toInt = 0 by decide] at q2
            exact q (by rw [← Int32.toInt_inj, ym]; omega)
          obtain ⟨i, i1, i2⟩ := nI_of c0
          rw [i2, nI_ltI i1 (by omega)] at c2
          exact ⟨some i, fun j e => by cases e; exact c2, i2⟩
      obtain ⟨o, o1, o2⟩ := ex
      exact (h.2 k o e hk o1 he ek o2 ee).1 c3
    · rintro ⟨_, o, _, _, q2, _, _, q5, _⟩
      rw [q5, el] at c2
      cases o with
      | none =>
        apply c2
        rw [Int32.lt_iff_toInt_lt, show eo none = (-1 : Int32) from rfl, ym, nI_toInt (by omega)]; omega
      | some i =>
        have := q2 i rfl
        exact c2 ((nI_ltI (by omega) (by omega)).mpr this)
  · rw [n2, n22]
    have hn : ¬ ∃ k o e, k < (qH p).length ∧ (∀ i, o = some i → i < pl A) ∧ e < (qT p).length ∧ x = nI k ∧ y = eo o ∧ z = nI e := fun ⟨k, _, _, k1, _, _, k2, _⟩ => nix (by omega) q ⟨k, k1, k2⟩
    exact w_X9_get (by decide) l2 LT (by omega) (by decide) (fun e he ee => NO rfl hn _) (fun q => NO rfl hn _)
theorem w_X11_knot {x y : Int32} (hd : 2 < d) (hS : CX Mz M X A st sp p R) (hI : PI A N p) (h : ∀ M', CX Mz M' X A st sp p R → ((¬ ∃ o, o < 4 ∧ y = nI o) → Q (some (.int (-1 : Int32))) M') ∧ ∀ o, o < 4 → y = nI o → (qm p ≠ 3 → Q (some (.int (-2 : Int32))) M') ∧ (qm p = 3 → ((¬ ∃ k, k < (qT p).length ∧ x = nI k) → Q (some (.int (-1 : Int32))) M') ∧ ∀ k, k < (qT p).length → x = nI k → (qK p (4 * k + o) = 0 → Q (some (.int (-3 : Int32))) M') ∧ (qK p (4 * k + o) ≠ 0 → Q (some (.int (kcI (qK p (4 * k + o))))) M'))) : ClD d mdX11_knot [.ref 2, .int x, .int y] M Q := by
  have hA := hS.ok
  have h := h M hS
  have qm3 := hI.2.2.1
  obtain ⟨-, -, ⟨-, mT⟩, mm, -, -⟩ := hS.cp.mn
  obtain ⟨cn, bb, ebb, nt, n0, n1, n2, n3, n4, n5, nb, k6, e4⟩ := hS.gg
  have n22 : mR M bb 2 = bb + 3 := nt.2.1.2.2.1
  have l2 := nt.2.2.2.1
  change mI M (bP 18 p + 3) 0 = _ at mT
  rw [← ebb] at mT
  have eM : mI M (mR M 2 4) 4 = nI (qm p) := by rw [e4]; exact mm
  have e2 : mR M 18 2 = 38 := hS.cp.1.1.2.2.2.1
  have tr := hS.cp.1.2.2
  have K4 : mK M (mR M (mR M 2 4) 2) = 10 := by rw [e4, e2]; exact tr.1.1.2
  have eT : mI M (mR M (mR M (mR M 2 4) 3) 2) 0 = nI (qT p).length := by rw [n2, n22]; exact mT
  refine ⟨2, hd, Cl.of moX11_knot (Nat.le_of_ble_eq_true rfl) (gX11_knot_0 hS.k k6 n0 (by rw [n2]; exact n1) (by rw [n2, n22]; exact l2.1) K4 (fun c => ⟨⟨_, rfl⟩, h.1 ?_⟩) (fun c c2 c3 c4 => ⟨⟨_, rfl⟩, ?_⟩) (fun c c2 c3 c4 c5 => ?_) (fun c c2 c3 c4 c5 => ⟨⟨_, rfl⟩, ?_⟩) (fun c c2 c3 => ⟨⟨_, rfl⟩, ?_⟩) (fun c c2 => ⟨⟨_, rfl⟩, h.1 ?_⟩))⟩
  · rintro ⟨o, o1, o2⟩
    rw [o2] at c; exact nI_pos (by omega) c
  · obtain ⟨o, o1, o2⟩ := nI_of c
    rw [o2, nI_ltI o1 (by decide)] at c2
    rw [eM, nI_eq (by omega) (by decide)] at c3
    refine ((h.2 o c2 o2).2 c3).1 ?_
    rintro ⟨k, k1, k2⟩
    have := (hI.lens hA).2.2.2.1
    rw [k2] at c4; exact nI_pos (by omega) c4
  · obtain ⟨o, o1, o2⟩ := nI_of c
    rw [o2, nI_ltI o1 (by decide)] at c2
    rw [eM, nI_eq (by omega) (by decide)] at c3
    obtain ⟨k, k1, k2⟩ := nI_of c4
    have T8 := hI.t8 hA c3
    rw [k2, eT, nI_ltI k1 (by omega)] at c5
    have hh := ((h.2 o c2 o2).2 c3).2 k c5 k2
    obtain ⟨-, s, -, ri, -, -⟩ := hS.cp.2.2.2.1 c3
    have W := (hI.2.2.2.2 c3).1
    rw [e4, e2, o2, k2, pk_mul, nI_add]
    refine w_X8_linkAt (b := 38) (by decide) tr.1.1.2 tr.2.1 tr.2.2 (by omega) ?_
    rw [show k * 4 + o = 4 * k + o by omega]
    have ev : mI M (38 + 11) (4 * k + o) = kcI (qK p (4 * k + o)) := ri.2.2.2.2.1 (4 * k + o) (by omega)
    rw [ev]
    have kle := W.le (4 * k + o)
    by_cases z0 : qK p (4 * k + o) = 0
    · rw [z0]
      exact gX11_knot_63 (fun c => absurd rfl c) (fun _ => ⟨⟨_, rfl⟩, hh.1 z0⟩)
    · have nn : ¬ kcI (qK p (4 * k + o)) = (-1 : Int32) := by
        unfold kcI
        rw [if_neg z0]
        intro e
        have e2 := congrArg Int32.toInt e
        rw [show (-1 : Int32).toInt = -1 by decide] at e2
        split at e2 <;> rw [nI_toInt (by omega)] at e2 <;> omega
      exact gX11_knot_63 (fun _ => ⟨⟨_, rfl⟩, hh.2 z0⟩) (fun c => absurd c nn)
  · obtain ⟨o, o1, o2⟩ := nI_of c
    rw [o2, nI_ltI o1 (by decide)] at c2
    rw [eM, nI_eq (by omega) (by decide)] at c3
    have T8 := hI.t8 hA c3
    refine ((h.2 o c2 o2).2 c3).1 ?_
    rintro ⟨k, k1, k2⟩
    rw [k2, eT, nI_ltI (by omega) (by omega)] at c5; exact c5 k1
  · obtain ⟨o, o1, o2⟩ := nI_of c
    rw [o2, nI_ltI o1 (by decide)] at c2
    rw [eM, nI_eq (by omega) (by decide)] at c3
    exact (h.2 o c2 o2).1 c3
  · rintro ⟨o, o1, o2⟩
    rw [o2, nI_ltI (by omega) (by decide)] at c2; exact c2 o1
theorem w_X11_sift {x : Int64} (hd : 5 < d) (hS : CX Mz M X A st sp p R) (hI : PI A N p) (hN : N ≤ 4600) (h1 : ∀ M', CX Mz M' X A st sp p R → ((¬ ∃ w, isW (pl A) x w ∧ w.length ≤ 15) → Q (some (.int (-1 : Int32))) M') ∧ (∀ w, isW (pl A) x w → w.length ≤ 15 → qm p ≠ 3 → Q (some (.int (-2 : Int32))) M'))
    (h2 : ∀ M' w, isW (pl A) x w → w.length ≤ 15 → qm p = 3 → qK p (sfP A (qT p) (qK p) w) = 0 → CX Mz M' X A st sp (qm p, aSs st sp (qs p) (sw A (qT p) (qK p) w 8 0), ql p, qH p, qT p, qK p, qg p) R → Q (some (.int (-3 : Int32))) M')
    (h3 : ∀ M' w, isW (pl A) x w → w.length ≤ 15 → qm p = 3 → qK p (sfP A (qT p) (qK p) w) ≠ 0 → CX Mz M' X A st sp (qm p, aSs st sp (qs p) (sw A (qT p) (qK p) w 8 0), ql p, qH p, qT p, qK p, qg p) [(nI (sfM A (qT p) (qK p) w)).toInt64] → Q (some (.int (kcI (qK p (sfP A (qT p) (qK p) w))))) M') : ClD d mdX11_sift [.ref 2, .long x] M Q := by
  have hA := hS.ok
  have l3 := hA.2.1.2
  have m3 := hS.1.m3
  have r := hS.r
  have qm3 := hI.2.2.1
  have h1 := h1 M hS
  obtain ⟨-, -, -, mm, ⟨k6, -, -⟩, -⟩ := hS.cp.mn
  have e4 : mR M 2 4 = 18 := r.1.2.2.2.2
  have e2 : mR M 18 2 = 38 := hS.cp.1.1.2.2.2.1
  have tr := hS.cp.1.2.2
  have K6 : mK M (mR M 2 4) = 6 := by rw [e4]; exact k6
  have K4 : mK M (mR M (mR M 2 4) 2) = 10 := by rw [e4, e2]; exact tr.1.1.2
  have eM : mI M (mR M 2 4) 4 = nI (qm p) := by rw [e4]; exact mm
  refine ⟨5, hd, Cl.of moX11_sift (Nat.le_of_ble_eq_true rfl) (gX11_sift_0 hS.k (by rw [r.1.1]; exact m3.1.1.1) ?_)⟩
  rw [r.1.1, m3.2.1.2]
  refine w_X1_measure (by decide) l3 (fun w hw => ?_) (fun hn => gX11_sift_11 hS.k K6 K4 (fun _ => ⟨⟨_, rfl⟩, h1.1 (fun ⟨w, q, _⟩ => hn ⟨w, q⟩)⟩) (fun c => absurd (by decide) c) (fun c => absurd (by decide) c) (fun c => absurd (by decide) c))
  have hw0 := hw
  obtain ⟨w1, w2, w3⟩ := hw
  refine gX11_sift_11 hS.k K6 K4 (fun c => absurd c (nI_pos (by omega))) (fun _ c c2 => ?_) (fun _ c c2 => ⟨⟨_, rfl⟩, ?_⟩) (fun _ c => ⟨⟨_, rfl⟩, h1.1 ?_⟩) <;> rw [nI_leI (by omega) (by decide)] at c
  · rw [eM, nI_eq (by omega) (by decide)] at c2
    rw [e4, e2, w3]
    obtain ⟨q3, s, es, ri, i56, gg⟩ := hS.cp.2.2.2.1 c2
    have ri' : RI 88 M 38 19 A st sp s (qH p) (qT p) (qK p) := ri
    have W := (hI.2.2.2.2 c2).1
    have hlens := hI.lens hA
    have hn := hI.n hA
    have T8 := hI.t8 hA c2
    have hle : ∀ e, e ∈ qT p → w.length + e.length ≤ 30 := fun e he => by have := hlens.2.1 e he; omega
    refine w_X8_descend (X := s.1 ++ (qT p).map (fun e => w ++ e)) (by decide) ri' W w1 hle (fun v hv => List.mem_append.mpr (Or.inl hv)) (fun e he => List.mem_append.mpr (Or.inr (List.mem_map.mpr ⟨e, he, rfl⟩))) (by rw [List.length_append, List.length_map, es.len]; omega) (fun M1 F1 R1 f9 fo sl32 => ?_)
    have esx : eqS (aSs st sp s (sw A (qT p) (qK p) w 8 0)) (aSs st sp (qs p) (sw A (qT p) (qK p) w 8 0)) := es.as
    have rp := RPp.as (S2 := aSs st sp (qs p) (sw A (qT p) (qK p) w 8 0)) F1 (fun q hq => by simpa using hq) fo ⟨q3, s, es, ri, i56, gg⟩ R1.2.1 esx
    have up := (hS.cp.up (p' := (qm p, aSs st sp (qs p) (sw A (qT p) (qK p) w 8 0), ql p, qH p, qT p, qK p, qg p)) (S := [19, 20, 38]) F1 (fun q hq => by simp at hq; omega) rfl (fun c => absurd c2 c) (fun _ => rp)).1
    have hS1 := hS.pu F1 (fun q hq => by simp at hq; omega) up (hS.n13 F1 (fun q hq => by simp at hq; omega))
    have kle := W.le (sfP A (qT p) (qK p) w)
    by_cases z0 : qK p (sfP A (qT p) (qK p) w) = 0
    · rw [z0]
      exact gX11_sift_49 hS1.k (fun c => absurd rfl c) (fun _ => ⟨⟨_, rfl⟩, h2 M1 w hw0 c c2 z0 hS1⟩)
    · have nn : ¬ kcI (qK p (sfP A (qT p) (qK p) w)) = (-1 : Int32) := by
        unfold kcI
        rw [if_neg z0]
        intro e
        have e2 := congrArg Int32.toInt e
        rw [show (-1 : Int32).toInt = -1 by decide] at e2
        split at e2 <;> rw [nI_toInt (by omega)] at e2 <;> omega
      refine gX11_sift_49 hS1.k (fun _ => w_X11_clearNumbers (by decide) hS1 (fun M2 hS2 S2 => ?_)) (fun c => absurd c nn)
      have e42 : mR M2 2 4 = 18 := hS2.r.1.2.2.2.2
      have e22 : mR M2 18 2 = 38 := hS2.cp.1.1.2.2.2.1
      refine gX11_sift_64 hS2.k (by rw [e42]; exact hS2.cp.1.1.1) (by rw [e42, e22]; exact hS2.cp.1.2.2.1.1.2) ?_
      rw [e42, e22, S2.I (by simp), f9.2]
      exact w_X11_put (by decide) hS2 (by decide) (fun M3 hS3 _ => gX11_sift_79 ⟨⟨_, rfl⟩, h3 M3 w hw0 c c2 z0 hS3⟩)
  · rw [eM, nI_eq (by omega) (by decide)] at c2
    exact h1.2 w hw0 c c2
  · rintro ⟨v, v1, v2⟩
    rw [isW_inj (by omega) hw0 v1] at c; exact c v2
end XFe
