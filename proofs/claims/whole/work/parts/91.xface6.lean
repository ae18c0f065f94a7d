/-! the class's face: steps, learning, lines, counts, costs -/
section XFf
variable {z d r b P st sp N : Nat} {Q : Option Value → Mem → Prop} {Mz M M' M1 : Mem} {A A' : PM} {p p' : PS} {X : List Nat} {R : List Int64} {g : GU}
theorem bP_qm {P : Nat} {p p' : PS} (h : qm p' = qm p) : bP P p' = bP P p := by unfold bP; rw [h]
theorem w_X11_step (hd : 6 < d) (hS : CX Mz M X A st sp p R) (hI : PI A N p) (hN : N ≤ 4600) (h1 : ∀ M' g, qg p = some g → CX Mz M' X A st sp p R → Q (some (.int (-2 : Int32))) M') (h2 : ∀ M', qg p = none → CX Mz M' X A st sp (stepF A st sp p).2 (stR A st sp p) → Q (some (.int (nI (stepF A st sp p).1))) M') : ClD d mdX11_step [.ref 2] M Q := by
  have hA := hS.ok
  obtain ⟨⟨m1, -⟩, -, -, -, ⟨k6, e0, e3, k4, e1, k12⟩, cn, nt, n0, n1, c6, c4⟩ := hS.cp.mn
  have e4 : mR M 2 4 = 18 := hS.r.1.2.2.2.2
  have GU := hS.cp.gue.2.1
  have K6 : mK M (mR M 2 4) = 6 := by rw [e4]; exact k6
  refine ⟨6, hd, Cl.of moX11_step (Nat.le_of_ble_eq_true rfl) (gX11_step_0 hS.k K6 n0 (by rw [e4, e3]; exact n1) ?_)⟩
  rw [e4, e3]
  have K4 : mK M (mR M (mR M 2 4) 0) = 4 := by rw [e4, e0]; exact k4
  have K12 : mK M (mR M (mR M (mR M 2 4) 0) 1) = 12 := by rw [e4, e0, e1]; exact k12
  refine w_X3_hasGuess (by decide) nt GU (fun hg => ?_) (fun g hg => gX11_step_12 hS.k K6 K4 K12 n0 n1 (fun c => absurd c (by decide)) (fun c => absurd c (by decide)) (fun _ => ⟨⟨_, rfl⟩, h1 M g hg hS⟩))
  have hst := hI.step (st := st) (sp := sp) hA hg
  have h2 := fun M' => h2 M' hg
  obtain ⟨G, hG⟩ : ∃ G, G = stepF A st sp p := ⟨_, rfl⟩
  have eR : stR A st sp p = (nI (qs G.2).1.length - nI (qs p).1.length).toInt64 :: (if G.1 = 1 then [lN (lastC (qH G.2))] else if G.1 = 2 then [lN (lastC (qT G.2))] else []) := by rw [hG]; rfl
  rw [eR] at h2
  rw [← hG] at h2 hst
  have kont : ∀ M', Fa (18 + 1) (puS 18) M M' → CP 88 M' 18 A st sp G.2 → mI M' 18 = mI M 18 → Wp 6 mdX11_step 36 [(0, .ref 2), (1, .ref (bP 18 p)), (2, .int (mI M (mR M (mR M (mR M 2 4) 0) 1) 0))] [.int (nI G.1)] M' (fun r M' => ROK mdX11_step r ∧ Q r M') := by
    intro M1 F1 C1 _
    have hS1 := hS.pu F1 (fun q hq => by rw [puS_mem] at hq; omega) C1 (hS.n13 F1 (fun q hq => by rw [puS_mem] at hq; omega))
    rw [e4, e0, e1, m1]
    refine gX11_step_36 hS1.k (w_X11_clearNumbers (by decide) hS1 (fun M2 hS2 S2 => ?_))
    have B : ∀ {M3 R3}, CX Mz M3 X A st sp G.2 R3 → (mR M3 2 4 = 18 ∧ mR M3 18 0 = 19 ∧ mR M3 19 1 = 20 ∧ mK M3 18 = 6 ∧ mK M3 19 = 4 ∧ mK M3 20 = 12 ∧ mI M3 20 0 = nI (qs G.2).1.length) ∧ ∃ cn, NotSh M3 (bP 18 p) 19 cn ∧ NT cn ∧ mK M3 (bP 18 p) = cn + 4 ∧ LstAt M3 (bP 18 p + 1) (qH G.2) ∧ LstAt M3 (bP 18 p + 3) (qT G.2) := fun {M3 R3} hS3 => by
      obtain ⟨⟨m1, -⟩, -, -, -, ⟨k6, e0, e3, k4, e1, k12⟩, cn, nt, n0, n1, -, -⟩ := hS3.cp.mn
      have L := hS3.cp.lst.1
      rw [bP_qm hst.2.2.1] at nt n1 L
      exact ⟨⟨hS3.r.1.2.2.2.2, e0, e1, k6, k4, k12, m1⟩, cn, nt, n0, n1, L.1, L.2⟩
    obtain ⟨⟨b1, b2, b3, b4, b5, b6, b7⟩, -⟩ := B hS2
    refine gX11_step_41 hS2.k (by rw [b1]; exact b4) (by rw [b1, b2]; exact b5) (by rw [b1, b2, b3]; exact b6) ?_
    rw [b1, b2, b3, b7]
    refine w_X11_put (by decide) hS2 (by decide) (fun M3 hS3 S3 => ?_)
    obtain ⟨-, cn3, nt3, nn3, kk3, LH, -⟩ := B hS3
    have lens := hst.1.lens hA
    have n21 : mR M3 (bP 18 p) 1 = bP 18 p + 1 := nt3.2.1.2.1
    have TAILS : ∀ {M4 R4}, CX Mz M4 X A st sp G.2 R4 → R4.length < 8 → (G.1 ≠ 2 → ROK mdX11_step (some (.int (nI G.1))) ∧ Q (some (.int (nI G.1))) M4) → (G.1 = 2 → ∀ M5, CX Mz M5 X A st sp G.2 (R4 ++ [lN (lastC (qT G.2))]) → ROK mdX11_step (some (.int (nI G.1))) ∧ Q (some (.int (nI G.1))) M5) → Wp 6 mdX11_step 77 [(0, .ref 2), (1, .ref (bP 18 p)), (3, .int (nI G.1))] [] M4 (fun r M' => ROK mdX11_step r ∧ Q r M') := fun {M4 R4} hS4 hl4 g1 g2 => by
      obtain ⟨-, cn4, nt4, nn4, kk4, -, LT⟩ := B hS4
      have n22 : mR M4 (bP 18 p) 2 = bP 18 p + 3 := nt4.2.1.2.2.1
      refine gX11_step_77 nn4 kk4 (by rw [n22]; exact nt4.2.2.2.1.1) (fun c => gX11_step_93 ?_) (fun c => ?_) <;> rw [nI_eq (by have := hst.2.2.2.2.2.2; omega) (by decide)] at c
      · exact g1 c
      · rw [n22]
        have ne : 0 < (qT G.2).length := by
          obtain ⟨w, ew⟩ := hst.2.2.2.2.2.1 c
          rw [ew, List.length_append, List.length_singleton]; omega
        exact w_X9_last (by decide) nt4.2.2.2.1 LT (by omega) (by decide) ne (gX11_step_90 hS4.k (w_X11_put (by decide) hS4 hl4 (fun M5 hS5 _ => gX11_step_93 (g2 c M5 hS5))))
    refine gX11_step_61 nn3 kk3 (by rw [n21]; exact nt3.2.2.1.1) (fun c => TAILS hS3 (by show 1 < 8; decide) (fun c2 => ⟨⟨_, rfl⟩, ?_⟩) (fun c2 M5 hS5 => ⟨⟨_, rfl⟩, ?_⟩)) (fun c => ?_) <;> rw [nI_eq (by have := hst.2.2.2.2.2.2; omega) (by decide)] at c
    · rw [if_neg c, if_neg c2] at h2
      exact h2 M3 hS3
    · rw [if_neg c, if_pos c2] at h2
      exact h2 M5 hS5
    · rw [n21]
      have ne : 0 < (qH G.2).length := by
        obtain ⟨w, ew⟩ := hst.2.2.2.2.1 c
        rw [ew, List.length_append, List.length_singleton]; omega
      refine w_X9_last (by decide) nt3.2.2.1 LH (by omega) (by decide) ne (gX11_step_74 hS3.k (w_X11_put (by decide) hS3 (by show 1 < 8; decide) (fun M4 hS4 _ => TAILS hS4 (by show 2 < 8; decide) (fun c2 => ⟨⟨_, rfl⟩, ?_⟩) (fun c2 => ?_))))
      · rw [if_pos c] at h2
        exact h2 M4 hS4
      · omega
  have w := w_step (Q := fun r1 M' => Wp 6 mdX11_step 36 [(0, .ref 2), (1, .ref (bP 18 p)), (2, .int (mI M (mR M (mR M (mR M 2 4) 0) 1) 0))] (r1.toList ++ []) M' (fun r M' => ROK mdX11_step r ∧ Q r M')) (d' := 6) (by decide) hS.cp hI hN hg (by rw [← hG]; exact kont)
  refine gX11_step_12 hS.k K6 K4 K12 n0 n1 (fun _ hcn => ?_) (fun _ hcn => ?_) (fun c => absurd rfl c)
  · have q : qm p ≠ 3 := fun e => by have := c6 e; omega
    have eb : bP 18 p = 18 + 4 := by unfold bP; rw [if_neg q]
    have := w.2 q
    rw [← eb] at this; exact this
  · have q : qm p = 3 := Classical.byContradiction fun e => by have := c4 e; omega
    have eb : bP 18 p = 18 + 20 := by unfold bP; rw [if_pos q]
    have := w.1 q
    rw [← eb] at this; exact this
theorem w_X11_guess (hd : 6 < d) (hS : CX Mz M X A st sp p R) (hI : PI A N p) (hN : N ≤ 4600) (h : ∀ M' g, qg (gsF A st sp 40 p).2 = some g → CX Mz M' X A st sp (gsF A st sp 40 p).2 [(nI (gsF A st sp 40 p).1).toInt64] → Q (some (.int (nI (pn g.2)))) M') : ClD d mdX11_guess [.ref 2] M Q := by
  have hA := hS.ok
  have e4 : mR M 2 4 = 18 := hS.r.1.2.2.2.2
  refine ⟨6, hd, Cl.of moX11_guess (Nat.le_of_ble_eq_true rfl) (gX11_guess_0 hS.k (by rw [e4]; exact hS.cp.1.1.1) ?_)⟩
  rw [e4, hS.cp.gue.2.2]
  obtain ⟨bb, hbb⟩ : ∃ bb, bb = bP 18 p := ⟨_, rfl⟩
  rw [← hbb]
  suffices G : ∀ f n q M1, mu A q < f → n + f ≤ 100 → PI A N q → bP 18 q = bb → CX Mz M1 X A st sp q R → (∀ M' g, qg (gsF A st sp f q).2 = some g → CX Mz M' X A st sp (gsF A st sp f q).2 [(nI (n + (gsF A st sp f q).1)).toInt64] → Q (some (.int (nI (pn g.2)))) M') → Wp 6 mdX11_guess 10 [(0, .ref 2), (1, .ref bb), (2, .int (nI n))] [] M1 (fun r M' => ROK mdX11_guess r ∧ Q r M') from
    G 40 0 p M mu_lt (by decide) hI hbb.symm hS (fun M' g a b => h M' g a (by rw [Nat.zero_add] at b; exact b))
  clear h hS hI hbb e4
  intro f
  induction f with
  | zero => intro n q M1 h0; omega
  | succ f ih =>
    intro n q M1 h0 hn hIq hb hS1 hq
    obtain ⟨-, -, -, -, -, cn, nt, n0, n1, c6, c4⟩ := hS1.cp.mn
    have GU := hS1.cp.gue.2.1
    rw [hb] at nt n1 GU
    refine gX11_guess_10 n0 n1 (w_X3_hasGuess (by decide) nt GU (fun hg => ?_) (fun g hg => ?_))
    · have hst := hIq.step (st := st) (sp := sp) hA hg
      rw [gsF_n hg] at hq
      obtain ⟨G, hG⟩ : ∃ G, G = stepF A st sp q := ⟨_, rfl⟩
      rw [← hG] at hst hq
      have kont : ∀ M', Fa (18 + 1) (puS 18) M1 M' → CP 88 M' 18 A st sp G.2 → mI M' 18 = mI M1 18 → Wp 6 mdX11_guess 28 [(0, .ref 2), (1, .ref bb), (2, .int (nI n))] [.int (nI G.1)] M' (fun r M' => ROK mdX11_guess r ∧ Q r M') := by
        intro M2 F2 C2 _
        have hS2 := hS1.pu F2 (fun q hq => by rw [puS_mem] at hq; omega) C2 (hS1.n13 F2 (fun q hq => by rw [puS_mem] at hq; omega))
        refine gX11_guess_28 ?_
        rw [nI_add]
        refine ih (n + 1) G.2 M2 (by have := hst.2.1; omega) (by omega) hst.1 (by rw [bP_qm hst.2.2.1]; exact hb) hS2 (fun M' g a b => ?_)
        refine hq M' g a ?_
        rw [show n + ((gsF A st sp f G.2).1 + 1) = n + 1 + (gsF A st sp f G.2).1 by omega]
        exact b
      have w := w_step (Q := fun r1 M' => Wp 6 mdX11_guess 28 [(0, .ref 2), (1, .ref bb), (2, .int (nI n))] (r1.toList ++ []) M' (fun r M' => ROK mdX11_guess r ∧ Q r M')) (d' := 6) (by decide) hS1.cp hIq hN hg (by rw [← hG]; exact kont)
      refine gX11_guess_14 n0 n1 (fun c => absurd rfl c) (fun _ c => ?_) (fun _ _ hcn => ?_) (fun _ _ hcn => ?_)
      · rw [nI_leI (by decide) (by omega)] at c; omega
      · have q' : qm q ≠ 3 := fun e => by have := c6 e; omega
        have eb : bb = 18 + 4 := by rw [← hb]; unfold bP; rw [if_neg q']
        have := w.2 q'
        rw [eb] at this ⊢; exact this
      · have q' : qm q = 3 := Classical.byContradiction fun e => by have := c4 e; omega
        have eb : bb = 18 + 20 := by rw [← hb]; unfold bP; rw [if_pos q']
        have := w.1 q'
        rw [eb] at this ⊢; exact this
    · rw [gsF_s hg] at hq
      refine gX11_guess_14 n0 n1 (fun _ => gX11_guess_35 hS1.k (w_X11_clearNumbers (by decide) hS1 (fun M2 hS2 S2 => gX11_guess_39 hS2.k (w_X11_put (by decide) hS2 (by decide) (fun M3 hS3 S3 => ?_))))) (fun c => absurd c (by decide)) (fun c => absurd c (by decide)) (fun c => absurd c (by decide))
      obtain ⟨-, -, -, -, -, cn3, nt3, m0, m1, -, -⟩ := hS3.cp.mn
      have GU3 := hS3.cp.gue.2.1
      rw [hb] at nt3 m1 GU3
      rw [hg] at GU3
      have e44 : mR M3 bb 4 = bb + 7 := nt3.2.1.2.2.2.2
      refine gX11_guess_45 m0 m1 (by rw [e44]; exact nt3.2.2.2.2.2.1.1) ⟨⟨_, rfl⟩, ?_⟩
      rw [e44, GU3.1.2.1.1]
      exact hq M3 g hg hS3
theorem w_X11_tells {x : Int64} (hd : 6 < d) (hS : CX Mz M X A st sp p R) (hI : PI A N p) (hN : N ≤ 4600)
    (h : ∀ M', CX Mz M' X A st sp p R → ((¬ ∃ w, isW (pl A) x w ∧ w.length ≤ 14) → Q (some (.int (-1 : Int32))) M') ∧ ∀ w, isW (pl A) x w → w.length ≤ 14 → (qg p = none → Q (some (.int (-2 : Int32))) M') ∧ ∀ g, qg p = some g → an g.2 0 w = an A 0 w → Q (some (.int (-3 : Int32))) M')
    (h4 : ∀ M' w g, isW (pl A) x w → w.length ≤ 14 → qg p = some g → an g.2 0 w ≠ an A 0 w → CX Mz M' X A st sp (lesF A st sp p g w).2 R → Q (some (.int (nI (lesF A st sp p g w).1))) M') : ClD d mdX11_tells [.ref 2, .long x] M Q := by
  have hA := hS.ok
  have l3 := hA.2.1.2
  have m3 := hS.1.m3
  have r := hS.r
  have h := h M hS
  obtain ⟨-, -, -, -, ⟨k6, -, e3, -, -, -⟩, cn, nt, n0, n1, c6, c4⟩ := hS.cp.mn
  have e4 : mR M 2 4 = 18 := r.1.2.2.2.2
  have GU := hS.cp.gue.2.1
  have K6 : mK M (mR M 2 4) = 6 := by rw [e4]; exact k6
  have K3 : mK M (mR M (mR M 2 4) 3) = cn + 4 := by rw [e4, e3]; exact n1
  have e44 : mR M (bP 18 p) 4 = bP 18 p + 7 := nt.2.1.2.2.2.2
  refine ⟨6, hd, Cl.of moX11_tells (Nat.le_of_ble_eq_true rfl) (gX11_tells_0 hS.k (by rw [r.1.1]; exact m3.1.1.1) ?_)⟩
  rw [r.1.1, m3.2.1.2]
  refine w_X1_measure (by decide) l3 (fun w hw => ?_) (fun hn => gX11_tells_11 hS.k K6 n0 K3 (fun _ => ⟨⟨_, rfl⟩, h.1 (fun ⟨w, q, _⟩ => hn ⟨w, q⟩)⟩) (fun c => absurd (by decide) c) (fun c => absurd (by decide) c))
  have hw0 := hw
  obtain ⟨w1, w2, w3⟩ := hw
  refine gX11_tells_11 hS.k K6 n0 K3 (fun c => absurd c (nI_pos (by omega))) (fun _ c => ?_) (fun _ c => ⟨⟨_, rfl⟩, h.1 ?_⟩) <;> rw [nI_leI (by omega) (by decide)] at c
  · rw [e4, e3, w3]
    have hh := h.2 w hw0 c
    refine w_X3_hasGuess (by decide) nt GU (fun hg => gX11_tells_38 n0 n1 (by rw [e44]; exact nt.2.2.2.2.2.1.1) (fun c => absurd rfl c) (fun _ => ⟨⟨_, rfl⟩, hh.1 hg⟩)) (fun g hg => gX11_tells_38 n0 n1 (by rw [e44]; exact nt.2.2.2.2.2.1.1) (fun _ => ?_) (fun c => absurd c (by decide)))
    have hgu := hI.gu hA hg
    rw [hg] at GU
    have wg : vw (pl g.2) w := by rw [hgu.2.1]; exact w1
    have w4 := vw_mono w1 (show pl A ≤ 4 by omega)
    rw [e44]
    refine w_X2_answer (by decide) nt.2.2.2.2.2 GU.1.2 hgu.1.bd w4 w2 (gX11_tells_53 hS.k (by rw [r.1.1]; exact m3.1.1.1) ?_)
    rw [rnO_ok hgu.1 hgu.1.1.1 wg, show ouO g.2 (some (rn (pt g.2) 0 w)) = some (an g.2 0 w) from if_pos (rn_lt hgu.1 hgu.1.1.1 wg), r.1.1]
    refine w_X2_answer (by decide) m3.1 m3.2 hA.bd w4 w2 ?_
    rw [rnO_ok hA hA.1.1 w1, show ouO A (some (rn (pt A) 0 w)) = some (an A 0 w) from if_pos (rn_lt hA hA.1.1 w1)]
    have o1 := an_lt hA w1
    have o2 := an_lt hgu.1 wg
    have eqv' : (eo (some (an g.2 0 w)) = eo (some (an A 0 w))) ↔ an g.2 0 w = an A 0 w := nI_eq (by omega) (by omega)
    by_cases hne : an g.2 0 w = an A 0 w
    · exact gX11_tells_61 n0 n1 (fun c => absurd (eqv'.mpr hne) c) (fun c => absurd (eqv'.mpr hne) c) (fun _ => ⟨⟨_, rfl⟩, hh.2 g hg hne⟩)
    · have kont : ∀ M', Fa (18 + 1) (puS 18) M M' → CP 88 M' 18 A st sp (lesF A st sp p g w).2 → mI M' 18 = mI M 18 → Wp 6 mdX11_tells 73 [] [.int (nI (lesF A st sp p g w).1)] M' (fun r M' => ROK mdX11_tells r ∧ Q r M') := by
        intro M2 F2 C2 _
        have hS2 := hS.pu F2 (fun q hq => by rw [puS_mem] at hq; omega) C2 (hS.n13 F2 (fun q hq => by rw [puS_mem] at hq; omega))
        exact gX11_tells_73 ⟨⟨_, rfl⟩, h4 M2 w g hw0 c hg hne hS2⟩
      have ww := w_les (Q := fun r1 M' => Wp 6 mdX11_tells 73 [] (r1.toList ++ []) M' (fun r M' => ROK mdX11_tells r ∧ Q r M')) (d' := 6) (by decide) hS.cp hI hN hg w1 c hne kont
      refine gX11_tells_61 n0 n1 (fun _ hcn => ?_) (fun _ hcn => ?_) (fun c => absurd (eqv'.mp c) hne)
      · have q' : qm p ≠ 3 := fun e => by have := c6 e; omega
        have eb : bP 18 p = 18 + 4 := by unfold bP; rw [if_neg q']
        have := ww.2 q'
        rw [← eb] at this; exact this
      · have q' : qm p = 3 := Classical.byContradiction fun e => by have := c4 e; omega
        have eb : bP 18 p = 18 + 20 := by unfold bP; rw [if_pos q']
        have := ww.1 q'
        rw [← eb] at this; exact this
  · rintro ⟨v, v1, v2⟩
    rw [isW_inj (by omega) hw0 v1] at c; exact c v2
theorem w_X11_learns (hd : 7 < d) (hS : CX Mz M X A st sp p R) (hI : PI A N p) (hN : N ≤ 4600) (h : ∀ M' g, qg (learnF A st sp p).2 = some g → CX Mz M' X A st sp (learnF A st sp p).2 [(nI (learnF A st sp p).1).toInt64, (nI (ql (learnF A st sp p).2)).toInt64] → Q (some (.int (nI (pn g.2)))) M') : ClD d mdX11_learns [.ref 2] M Q := by
  have hA := hS.ok
  have e4 : mR M 2 4 = 18 := hS.r.1.2.2.2.2
  obtain ⟨G1, G2, g, G3, -⟩ := lnF_PI (N := N) (st := st) (sp := sp) hA 40 p hI mu_lt
  refine ⟨7, hd, Cl.of moX11_learns (Nat.le_of_ble_eq_true rfl) (gX11_learns_0 hS.k (by rw [e4]; exact hS.cp.1.1.1) ?_)⟩
  rw [e4]
  refine w_X4_learn (by decide) hS.cp hI hN hS.1.1.2.2 (fun M1 F1 C1 s1 sea => ?_)
  have eL : lnF A st sp 40 p = learnF A st sp p := rfl
  rw [eL] at G1 G2 G3
  obtain ⟨L, hL⟩ : ∃ L, L = learnF A st sp p := ⟨_, rfl⟩
  rw [← hL] at C1 s1 G1 G2 G3 h
  have hS1 := hS.pu F1 (fun q hq => by rw [puL_mem] at hq; unfold frL; omega) C1 sea
  refine gX11_learns_7 hS1.k (w_X11_clearNumbers (by decide) hS1 (fun M2 hS2 S2 => ?_))
  have e42 : mR M2 2 4 = 18 := hS2.r.1.2.2.2.2
  refine gX11_learns_11 hS2.k (by rw [e42]; exact hS2.cp.1.1.1) ?_
  rw [e42, S2.I (by simp), s1]
  refine w_X11_put (by decide) hS2 (by decide) (fun M3 hS3 S3 => ?_)
  have e43 : mR M3 2 4 = 18 := hS3.r.1.2.2.2.2
  obtain ⟨-, m6, -, -, ⟨k6, -, e3, -, -, -⟩, cn, nt, n0, n1, -, -⟩ := hS3.cp.mn
  refine gX11_learns_23 hS3.k (by rw [e43]; exact k6) n0 (by rw [e43, e3]; exact n1) ?_
  rw [e43, e3, m6]
  refine w_X11_put (by decide) hS3 (by show 1 < 8; decide) (fun M4 hS4 S4 => ?_)
  have e44 : mR M4 2 4 = 18 := hS4.r.1.2.2.2.2
  obtain ⟨-, -, -, -, ⟨k6', -, e3', -, -, -⟩, cn', nt', n0', n1', -, -⟩ := hS4.cp.mn
  have GU := hS4.cp.gue.2.1
  rw [G3] at GU
  have e47 : mR M4 (bP 18 L.2) 4 = bP 18 L.2 + 7 := nt'.2.1.2.2.2.2
  refine gX11_learns_38 hS4.k (by rw [e44]; exact k6') n0' (by rw [e44, e3']; exact n1') (by rw [e44, e3', e47]; exact nt'.2.2.2.2.2.1.1) ⟨⟨_, rfl⟩, ?_⟩
  rw [e44, e3', e47, GU.1.2.1.1]
  exact h M4 g G3 hS4
end XFf
