/-! the reference: its face, the pupil -/
def lastC (L : List (List Nat)) : Nat := cd (L.getD (L.length - 1) [])
theorem lastC_snoc (L : List (List Nat)) (w : List Nat) : lastC (L ++ [w]) = cd w := by
  unfold lastC
  rw [List.length_append, List.length_singleton, Nat.add_sub_cancel]
  rw [show (L ++ [w]).getD L.length [] = w from qk_new _ _]
noncomputable def stR (A : PM) (st sp : Nat) (p : PS) : List Int64 := (nI (qs (stepF A st sp p).2).1.length - nI (qs p).1.length).toInt64 :: (if (stepF A st sp p).1 = 1 then [lN (lastC (qH (stepF A st sp p).2))] else if (stepF A st sp p).1 = 2 then [lN (lastC (qT (stepF A st sp p).2))] else [])
section MFe
variable {d m st sp N : Nat} {Q : Option Value → Mem → Prop} {Mz M M' : Mem} {A : PM} {p p' : PS} {X : List Nat} {R : List Int64}
theorem MoS.as (h : MoS Mz M m X A st sp p R) : mI M (m + 12) 0 = nI (qs p).1.length ∧ mI M (m + 14) 0 = nI (ql p) ∧ (mI M (m + 6) 0 = nI (qH p).length ∧ mI M (m + 7) 0 = nI (qT p).length) := by
  obtain ⟨⟨-, ⟨s, es, i, ⟨-, i14⟩, -⟩, -⟩, -⟩ := h
  obtain ⟨T, -, -, -, -, ⟨t5, -⟩, -⟩ := i.2.2.2.2.1
  exact ⟨by rw [t5, es.len], i14, i.n.1⟩
theorem w_X12_step (hd : 8 < d) (hS : MoS Mz M m X A st sp p R) (hI : PI A N p) (hN : N ≤ 4600) (h1 : ∀ M' g, qg p = some g → MoS Mz M' m X A st sp p R → Q (some (.int (-2 : Int32))) M') (h2 : ∀ M', qg p = none → MoS Mz M' m X A st sp (stepF A st sp p).2 (stR A st sp p) → Q (some (.int (nI (stepF A st sp p).1))) M') : ClD d mdX12_step [.ref m] M Q := by
  obtain ⟨M1, hM1⟩ : ∃ M1, M1 = sI M m 0 (nI 0) := ⟨_, rfl⟩
  have hS1 : MoS Mz M1 m X A st sp p R := by rw [hM1]; exact hS.th
  have s1 := hS1.sh.1
  have hA := hS1.sh.2
  have f20 := s1.f20
  have f17 := s1.f17
  have n0 : vp_in (nI 0) 2 := z_in (by decide) (by decide)
  refine ⟨8, hd, Cl.of moX12_step (Nat.le_of_ble_eq_true rfl) (gX12_step_0 hS.sh.1.1 ?_ ?_ ?_ ?_ ?_ ?_)⟩ <;> rw [← hM1]
  · rw [f20.1]; exact hS.sh.1.f20.2.1
  · rw [f17.1]; exact hS.sh.1.f17.2.1
  · rw [f20.1, f20.2.2]; exact n0
  · intro _; rw [f17.1, f17.2.2]; exact n0
  · rw [f20.1, f17.1, nI_clamp (by decide), hS1.as.1]
    intro c
    cases hg : qg p with
    | some g =>
      have hg1 := (hS1.1.2.1.gf.2 g hg).1
      rw [hg1] at c; exact absurd c (by decide)
    | none =>
      have h2 := fun M' => h2 M' hg
      refine w_X12_steps (by decide) hS1.1.2.1 hI hN hg (fun M2 F2 P2 k1 k2 => ?_)
      have hst := hI.step (st := st) (sp := sp) hA hg
      have hS2 : MoS Mz M2 m X A st sp (stepF A st sp p).2 R := hS1.fx F2.x P2 hst.2.2.1
      have f17 := hS2.sh.1.f17
      obtain ⟨M3, hM3⟩ : ∃ M3, M3 = sI M2 m 1 (nI 0) := ⟨_, rfl⟩
      have hS3 : MoS Mz M3 m X A st sp (stepF A st sp p).2 [] := by rw [hM3]; exact hS2.nil
      have f17 := hS3.sh.1.f17
      have j3 : mJ M3 m 23 = mJ M2 m 23 := by rw [hM3, rJ_I]
      refine gX12_step_29 hS2.sh.1.1 ?_ ?_ ?_ <;> rw [← hM3]
      · rw [f17.1]; exact hS2.sh.1.f17.2.1
      · rw [f17.1, f17.2.2]; exact n0
      · rw [f17.1, nI_clamp (by decide), hS3.as.1]
        refine w_X12_enters (by decide) hS3 (by decide) (fun M4 S4 e4 => ?_)
        have hle := hst.2.2.2.2.2.2
        have hq : ∀ R', R' = stR A st sp p → ∀ M5, MoS Mz M5 m X A st sp (stepF A st sp p).2 R' → Q (some (.int (nI (stepF A st sp p).1))) M5 := fun R' e M5 h5 => h2 M5 (by rw [← e]; exact h5)
        refine gX12_step_48 S4.sh.1.1 (fun c2 => ?_) (fun c2 => ?_)
        · have c2 : nI (stepF A st sp p).1 ≤ nI 0 := c2
          rw [nI_leI (by omega) (by decide)] at c2
          refine gX12_step_60 ⟨⟨_, rfl⟩, hq _ ?_ M4 S4⟩
          unfold stR
          rw [if_neg (by omega), if_neg (by omega)]
          rfl
        · have c2 : ¬ nI (stepF A st sp p).1 ≤ nI 0 := c2
          rw [nI_leI (by omega) (by decide)] at c2
          refine w_X12_enters (by decide) S4 (by show 1 < 16; decide) (fun M5 S5 _ => gX12_step_60 ⟨⟨_, rfl⟩, hq _ ?_ M5 S5⟩)
          rw [e4, j3]
          unfold stR
          by_cases z : (stepF A st sp p).1 = 1
          · obtain ⟨w, w1, w2⟩ := k1 z
            rw [if_pos z, w2, w1, lastC_snoc]; rfl
          · obtain ⟨w, w1, w2⟩ := k2 (by omega)
            rw [if_neg z, if_pos (by omega), w2, w1, lastC_snoc]; rfl
  · rw [f20.1, nI_clamp (by decide)]
    intro c
    cases hg : qg p with
    | none => rw [hS1.1.2.1.gf.1 hg] at c; exact absurd rfl c
    | some g => exact ⟨⟨_, rfl⟩, h1 M1 g hg hS1⟩
theorem w_X12_guess (hd : 9 < d) (hS : MoS Mz M m X A st sp p R) (hI : PI A N p) (hN : N ≤ 4600) (h : ∀ M' g, qg (gsF A st sp 40 p).2 = some g → MoS Mz M' m X A st sp (gsF A st sp 40 p).2 [(nI (gsF A st sp 40 p).1).toInt64] → Q (some (.int (nI (pn g.2)))) M') : ClD d mdX12_guess [.ref m] M Q := by
  obtain ⟨M1, hM1⟩ : ∃ M1, M1 = sI M m 0 (nI 0) := ⟨_, rfl⟩
  have hS1 : MoS Mz M1 m X A st sp p R := by rw [hM1]; exact hS.th
  have hA := hS1.sh.2
  have G40 := gsF_PI (st := st) (sp := sp) hA 40 _ hI mu_lt
  obtain ⟨G, hG⟩ : ∃ G, G = gsF A st sp 40 p := ⟨_, rfl⟩
  refine ⟨9, hd, Cl.of moX12_guess (Nat.le_of_ble_eq_true rfl) (gX12_guess_0 hS.sh.1.1 ?_)⟩
  rw [← hM1]
  refine w_X12_stepsTillGuess (by decide) hS1.1.2.1 hI hN (fun M2 F2 P2 => gX12_guess_10 P2.sh.1.1 ?_)
  rw [← hG] at h G40 P2 ⊢
  obtain ⟨G1, G2, ⟨g, G3⟩, -⟩ := G40
  have hS2 : MoS Mz M2 m X A st sp G.2 R := hS1.fx F2.x P2 G2
  refine w_X12_enters (by decide) hS2.nil (by decide) (fun M3 S3 _ => ?_)
  have f4 := S3.sh.1.f4
  have hg := (S3.1.2.1.gf.2 g G3).2.2.1.1
  refine gX12_guess_22 S3.sh.1.1 (by rw [f4.1]; exact f4.2.1) (by rw [f4.1, f4.2.2]; exact z_in (by decide) (by decide)) ⟨⟨_, rfl⟩, ?_⟩
  rw [f4.1, nI_clamp (by decide)]
  have hg : mI M3 (m + 2) 1 = nI (pn g.2) := hg
  rw [hg]
  exact h M3 g G3 S3
theorem w_X12_learns (hd : 10 < d) (hS : MoS Mz M m X A st sp p R) (hI : PI A N p) (hN : N ≤ 4600) (h : ∀ M' g, qg (learnF A st sp p).2 = some g → MoS Mz M' m X A st sp (learnF A st sp p).2 [(nI (learnF A st sp p).1).toInt64, (nI (ql (learnF A st sp p).2)).toInt64] → Q (some (.int (nI (pn g.2)))) M') : ClD d mdX12_learns [.ref m] M Q := by
  obtain ⟨M1, hM1⟩ : ∃ M1, M1 = sI M m 0 (nI 0) := ⟨_, rfl⟩
  have hS1 : MoS Mz M1 m X A st sp p R := by rw [hM1]; exact hS.th
  have hA := hS1.sh.2
  have G40 : PI A N (learnF A st sp p).2 ∧ qm (learnF A st sp p).2 = qm p ∧ ∃ g, qg (learnF A st sp p).2 = some g ∧ fuC g.2 0 A 0 = 0 := lnF_PI (st := st) (sp := sp) hA 40 _ hI mu_lt
  refine ⟨10, hd, Cl.of moX12_learns (Nat.le_of_ble_eq_true rfl) (gX12_learns_0 hS.sh.1.1 ?_)⟩
  rw [← hM1]
  refine w_X12_learnsAll (by decide) hS1.1.2.1 hI hN (fun M2 F2 P2 => gX12_learns_10 P2.sh.1.1 ?_)
  obtain ⟨G, hG⟩ : ∃ G, G = learnF A st sp p := ⟨_, rfl⟩
  rw [← hG] at h G40 P2 ⊢
  obtain ⟨G1, G2, g, G3, -⟩ := G40
  have hS2 : MoS Mz M2 m X A st sp G.2 R := hS1.fx F2 P2 G2
  refine w_X12_enters (by decide) hS2.nil (by decide) (fun M3 S3 _ => ?_)
  have f19 := S3.sh.1.f19
  refine gX12_learns_22 S3.sh.1.1 (by rw [f19.1]; exact f19.2.1) (by rw [f19.1, f19.2.2]; exact z_in (by decide) (by decide)) ?_
  rw [f19.1, nI_clamp (by decide), S3.as.2.1]
  refine w_X12_enters (by decide) S3 (by show 1 < 16; decide) (fun M4 S4 _ => ?_)
  have f4 := S4.sh.1.f4
  have hg := (S4.1.2.1.gf.2 g G3).2.2.1.1
  refine gX12_learns_33 S4.sh.1.1 (by rw [f4.1]; exact f4.2.1) (by rw [f4.1, f4.2.2]; exact z_in (by decide) (by decide)) ⟨⟨_, rfl⟩, ?_⟩
  rw [f4.1, nI_clamp (by decide)]
  have hg : mI M4 (m + 2) 1 = nI (pn g.2) := hg
  rw [hg]
  exact h M4 g G3 S4
theorem w_X12_tells {x : Int64} (hd : 7 < d) (hS : MoS Mz M m X A st sp p R) (hI : PI A N p) (hN : N ≤ 4600)
    (h : ∀ M', MoS Mz M' m X A st sp p R → ((¬ ∃ w, isW (pl A) x w ∧ w.length ≤ 14) → Q (some (.int (-1 : Int32))) M') ∧ ∀ w, isW (pl A) x w → w.length ≤ 14 → (qg p = none → Q (some (.int (-2 : Int32))) M') ∧ ∀ g, qg p = some g → an g.2 0 w = an A 0 w → Q (some (.int (-3 : Int32))) M')
    (h4 : ∀ M' w g, isW (pl A) x w → w.length ≤ 14 → qg p = some g → an g.2 0 w ≠ an A 0 w → MoS Mz M' m X A st sp (lesF A st sp p g w).2 R → Q (some (.int (nI (lesF A st sp p g w).1))) M') : ClD d mdX12_tells [.ref m, .long x] M Q := by
  obtain ⟨M1, hM1⟩ : ∃ M1, M1 = sI M m 0 (nI 0) := ⟨_, rfl⟩
  have hS1 : MoS Mz M1 m X A st sp p R := by rw [hM1]; exact hS.th
  have s1 := hS1.sh.1
  have hA := hS1.sh.2
  have l3 := hA.2.1
  have h := h M1 hS1
  have f20 := s1.f20
  refine ⟨7, hd, Cl.of moX12_tells (Nat.le_of_ble_eq_true rfl) (gX12_tells_0 hS.sh.1.1 ?_)⟩
  rw [← hM1]
  refine w_X12_isWord (by decide) s1.1 hS1.l3.1 l3.1 l3.2 (fun w hw => gX12_tells_10 (fun c => absurd c (by decide)) (fun _ => ?_)) (fun hn => gX12_tells_10 (fun _ => ⟨⟨_, rfl⟩, h.1 (fun ⟨w, q, _⟩ => hn ⟨w, q⟩)⟩) (fun c => absurd rfl c))
  have hw0 := hw
  obtain ⟨w1, w2, w3⟩ := hw
  have w4 := vw_mono w1 (show pl A ≤ 4 by omega)
  rw [w3]
  refine w_X12_lengthOf (by decide) w4 w2 (gX12_tells_17 s1.1 (by rw [f20.1]; exact f20.2.1) (fun _ => by rw [f20.1, f20.2.2]; exact z_in (by decide) (by decide)) (fun c c2 => ?_) (fun c c2 => ⟨⟨_, rfl⟩, ?_⟩) (fun c => ⟨⟨_, rfl⟩, h.1 ?_⟩)) <;> rw [nI_leI (by omega) (by decide)] at c
  · rw [f20.1, nI_clamp (by decide)] at c2
    cases hg : qg p with
    | none => rw [hS1.1.2.1.gf.1 hg] at c2; exact absurd rfl c2
    | some g =>
      have G := hS1.1.2.1.gf.2 g hg
      have hgu := hI.gu hA hg
      have b1 : an g.2 0 w < 4 := an_lt hgu.1 (by rw [hgu.2.1]; exact w1)
      have b2 : an A 0 w < 4 := an_lt hA w1
      refine w_X12_answer (by decide) s1 (by decide) G.2.2.1 hgu.1 (by rw [hgu.2.1]; exact w1) w2 (gX12_tells_42 s1.1 (w_X12_answer (by decide) s1 (by decide) hS1.l3.2 hA w1 w2 (gX12_tells_48 s1.1 (fun c3 => ?_) (fun c3 => ⟨⟨_, rfl⟩, ?_⟩)))) <;> rw [nI_eq (by omega) (by omega)] at c3
      · have L := hI.les (st := st) (sp := sp) hA hg w1 c c3
        exact w_X12_lesson (by decide) hS1.1.2.1 hI hN hg w1 c c3 (fun M2 F2 P2 => gX12_tells_60 ⟨⟨_, rfl⟩, h4 M2 w g hw0 c hg c3 (hS1.fx F2.x P2 L.2.2.1.1)⟩)
      · exact (h.2 w hw0 c).2 g hg c3
  · rw [f20.1, nI_clamp (by decide)] at c2
    cases hg : qg p with
    | none => exact (h.2 w hw0 c).1 hg
    | some g => rw [(hS1.1.2.1.gf.2 g hg).1] at c2; exact absurd c2 (by decide)
  · rintro ⟨w', q1, q2⟩
    rw [isW_inj (by omega) q1 hw0] at q2
    exact c q2
theorem w_X12_head {x : Int32} (hd : 2 < d) (hS : MoS Mz M m X A st sp p R) (hH : 0 < (qH p).length) (h : ∀ M', MoS Mz M' m X A st sp p R → (x = (-1 : Int32) → Q (some (.long (nI (qH p).length).toInt64)) M') ∧ (∀ k, k < (qH p).length → x = nI k → Q (some (.long (lN (cd ((qH p).getD k []))))) M') ∧ (x ≠ (-1 : Int32) → (¬ ∃ k, k < (qH p).length ∧ x = nI k) → Q (some (.long (-1 : Int64))) M')) : ClD d mdX12_head [.ref m, .int x] M Q := by
  obtain ⟨M1, hM1⟩ : ∃ M1, M1 = sI M m 0 (nI 0) := ⟨_, rfl⟩
  have hS1 : MoS Mz M1 m X A st sp p R := by rw [hM1]; exact hS.th
  have s1 := hS1.sh.1
  have h := h M1 hS1
  have f := s1.f11
  have n0 : vp_in (nI 0) 2 := z_in (by decide) (by decide)
  have hi : ∃ s, MoT M1 m 0 A st sp s (qH p) (qT p) := by obtain ⟨s, -, i, -⟩ := hS1.1.2.1; exact ⟨s, i⟩
  obtain ⟨s, hi⟩ := hi
  have hl := hi.n.2.1
  refine ⟨2, hd, Cl.of moX12_head (Nat.le_of_ble_eq_true rfl) (gX12_head_0 hS.sh.1.1 ?_ ?_ ?_ ?_ ?_)⟩ <;> rw [← hM1, f.1]
  · exact hS.sh.1.f11.2.1
  · intro _; rw [f.2.2]; exact n0
  · intro c
    rw [nI_clamp (by decide), hi.n.1.1, z_sub (by omega), nI_l (by omega)]
    refine w_inI (a := 0) (by decide) (by decide) (by omega) (fun k _ k2 ek => gX12_head_33 s1.1 (fun c => absurd c (by decide)) (fun _ => ?_)) (fun hn => gX12_head_33 s1.1 (fun _ => ⟨⟨_, rfl⟩, h.2.2 c (fun ⟨k, k1, k2⟩ => hn ⟨k, Nat.zero_le _, by omega, k2⟩)⟩) (fun c => absurd rfl c))
    have hh := h.2.1 k (by omega) ek
    rw [ek]
    exact w_X12_headOf (by decide) hi (by omega) (gX12_head_42 ⟨⟨_, rfl⟩, hh⟩)
  · intro _; rw [f.2.2]; exact n0
  · intro c
    rw [nI_clamp (by decide), hi.n.1.1]
    exact ⟨⟨_, rfl⟩, h.1 c⟩
theorem w_X12_tail {x : Int32} (hd : 2 < d) (hS : MoS Mz M m X A st sp p R) (hH : 0 < (qT p).length) (h : ∀ M', MoS Mz M' m X A st sp p R → (x = (-1 : Int32) → Q (some (.long (nI (qT p).length).toInt64)) M') ∧ (∀ k, k < (qT p).length → x = nI k → Q (some (.long (lN (cd ((qT p).getD k []))))) M') ∧ (x ≠ (-1 : Int32) → (¬ ∃ k, k < (qT p).length ∧ x = nI k) → Q (some (.long (-1 : Int64))) M')) : ClD d mdX12_tail [.ref m, .int x] M Q := by
  obtain ⟨M1, hM1⟩ : ∃ M1, M1 = sI M m 0 (nI 0) := ⟨_, rfl⟩
  have hS1 : MoS Mz M1 m X A st sp p R := by rw [hM1]; exact hS.th
  have s1 := hS1.sh.1
  have h := h M1 hS1
  have f := s1.f12
  have n0 : vp_in (nI 0) 2 := z_in (by decide) (by decide)
  have hi : ∃ s, MoT M1 m 0 A st sp s (qH p) (qT p) := by obtain ⟨s, -, i, -⟩ := hS1.1.2.1; exact ⟨s, i⟩
  obtain ⟨s, hi⟩ := hi
  have hl := hi.n.2.2.1
  refine ⟨2, hd, Cl.of moX12_tail (Nat.le_of_ble_eq_true rfl) (gX12_tail_0 hS.sh.1.1 ?_ ?_ ?_ ?_ ?_)⟩ <;> rw [← hM1, f.1]
  · exact hS.sh.1.f12.2.1
  · intro _; rw [f.2.2]; exact n0
  · intro c
    rw [nI_clamp (by decide), hi.n.1.2, z_sub (by omega), nI_l (by omega)]
    refine w_inI (a := 0) (by decide) (by decide) (by omega) (fun k _ k2 ek => gX12_tail_33 s1.1 (fun c => absurd c (by decide)) (fun _ => ?_)) (fun hn => gX12_tail_33 s1.1 (fun _ => ⟨⟨_, rfl⟩, h.2.2 c (fun ⟨k, k1, k2⟩ => hn ⟨k, Nat.zero_le _, by omega, k2⟩)⟩) (fun c => absurd rfl c))
    have hh := h.2.1 k (by omega) ek
    rw [ek]
    exact w_X12_tailOf (by decide) hi (by omega) (gX12_tail_42 ⟨⟨_, rfl⟩, hh⟩)
  · intro _; rw [f.2.2]; exact n0
  · intro c
    rw [nI_clamp (by decide), hi.n.1.2]
    exact ⟨⟨_, rfl⟩, h.1 c⟩
end MFe
