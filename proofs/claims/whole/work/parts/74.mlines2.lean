/-! the reference: its face, the table's lines told -/
section MLj
variable {d m st sp N : Nat} {Q : Option Value → Mem → Prop} {Mz M M' : Mem} {A : PM} {p p' : PS} {X : List Nat} {R : List Int64}
theorem w_X12_lines (hd : 5 < d) (hS : MoS Mz M m X A st sp p R) (hI : PI A N p) (hN : N ≤ 4600) (h1 : ∀ M', MoS Mz M' m X A st sp p R → (qm p = 3 → Q (some (.int (-2 : Int32))) M') ∧ (qm p ≠ 3 → (¬ ∀ w, w ∈ rwW (pl A) (qH p) (qT p) → w ∈ (qs p).1) → Q (some (.int (-3 : Int32))) M'))
    (h2 : ∀ M', qm p ≠ 3 → (∀ w, w ∈ rwW (pl A) (qH p) (qT p) → w ∈ (qs p).1) → MoS Mz M' m X A st sp p [(nI (qH p).length - nI (cR (lkH A (qT p) (qH p)) (qH p).length)).toInt64, (nI (cP (opn A (qH p) (qT p)) ((qH p).length * pl A))).toInt64] → Q (some (.int (nI (cR (lkH A (qT p) (qH p)) (qH p).length)))) M') : ClD d mdX12_lines [.ref m] M Q := by
  have hA := hS.sh.2
  have l3 := hA.2.1.2
  obtain ⟨M1, hM1⟩ : ∃ M1, M1 = sI M m 0 (nI 0) := ⟨_, rfl⟩
  have hS1 : MoS Mz M1 m X A st sp p R := by rw [hM1]; exact hS.th
  have s1 := hS1.sh.1
  have h1 := h1 M1 hS1
  have q7 := hS1.1.2.2.1
  have hm3 := hI.2.2.1
  have hlens := hI.lens hA
  have hn := hI.n hA
  have hnil := hI.nil
  obtain ⟨s, es, hi⟩ := hS1.t
  have hsl := es.len
  have f11 := s1.f11
  have f14 := s1.f14
  have nn := hi.n
  have n0 : vp_in (nI 0) 2 := z_in (by decide) (by decide)
  have K11 : mK M1 (mR M1 m 11) = 1 := by rw [f11.1]; exact f11.2.1
  have K14 : mK M1 (mR M1 m 14) = 1 := by rw [f14.1]; exact f14.2.1
  have V11 : vp_in (nI 0) (mN M1 (mR M1 m 11)) := by rw [f11.1, f11.2.2]; exact n0
  have e11 : mI M1 (mR M1 m 11) (nI 0).toNatClampNeg = nI (qH p).length := by rw [f11.1, nI_clamp (by decide)]; exact nn.1.1
  have E14 : ∀ k, k < (qH p).length → mI M1 (mR M1 m 14) (nI k).toNatClampNeg = nI (en A (qH p) k) := fun k hk => by
    have := (hi.2.2.2.2.2.2.1.1 k hk).2
    rw [show 160 * 0 + k = k by omega] at this
    rw [f14.1, nI_clamp (by omega)]; exact this
  have V14 : ∀ k, k < (qH p).length → vp_in (nI k) (mN M1 (mR M1 m 14)) := fun k hk => by rw [f14.1, f14.2.2]; exact z_in (by omega) (by decide)
  have vh := hI.1.2.1.1
  have one : ¬ (nI 1 : Int32) = 0 := by decide
  refine ⟨5, hd, Cl.of moX12_lines (Nat.le_of_ble_eq_true rfl) (gX12_lines_0 hS.sh.1.1 (fun c => ?_) (fun c => ⟨⟨_, rfl⟩, ?_⟩))⟩ <;> rw [← hM1] at c ⊢ <;> rw [q7, nI_eq (by omega) (by decide)] at c
  · refine w_X12_areAllAsked (by decide) hi (by omega) hlens.2.2.1 (fun hf => gX12_lines_20 (fun _ => ?_) (fun c => absurd c one)) (fun hf => gX12_lines_20 (fun c => absurd rfl c) (fun _ => ⟨⟨_, rfl⟩, h1.2 c (fun q => hf (fun w hw => (es.2.1 w).mpr (q w hw)))⟩))
    have hfull : ∀ w, w ∈ rwW (pl A) (qH p) (qT p) → w ∈ (qs p).1 := fun w hw => (es.2.1 w).mp (hf w hw)
    suffices G : ∀ k, k ≤ (qH p).length → Wp 5 mdX12_lines 32 [(0, .ref m), (1, .int (nI (cR (lkH A (qT p) (qH p)) k))), (2, .int (nI (cP (opn A (qH p) (qT p)) (k * pl A)))), (3, .int (nI k))] [] M1 (fun r M' => ROK mdX12_lines r ∧ Q r M') by
      have g := G 0 (Nat.zero_le _)
      rw [Nat.zero_mul] at g
      exact g
    refine upto (qH p).length _ (fun k hk ih => ?_)
    · have s1' := hS1.nil.sh.1
      have f11' := s1'.f11
      refine gX12_lines_32 s1.1 K11 ?_ K14 V11 (fun c2 => ?_) (fun c2 => ?_) (fun c2 => ?_) (fun c2 => ?_)
      · rw [f11'.1]; exact f11.2.1
      · rw [f11'.1, f11'.2.2]; exact n0
      · rw [e11, nI_leI (by omega) (by omega)] at c2
        have ek : k = (qH p).length := by omega
        rw [f11'.1, nI_clamp (by decide), rI_np (by omega), nn.1.1]
        refine w_X12_enters (by decide) hS1.nil (by decide) (fun M2 S2 _ => gX12_lines_174 S2.sh.1.1 (w_X12_enters (by decide) S2 (by show 1 < 16; decide) (fun M3 S3 _ => gX12_lines_180 ⟨⟨_, rfl⟩, ?_⟩)))
        rw [ek] at S3 ⊢
        exact h2 M3 c hfull S3
      · rw [e11, nI_leI (by omega) (by omega)] at c2
        exact V14 k (by omega)
      · rw [e11, nI_leI (by omega) (by omega)] at c2
        have hkl : k < (qH p).length := by omega
        have hen := enl hA vh hkl
        rw [E14 k hkl]
        have hw := hi.2.2.2.2.2.2.2.1.1.get hkl
        -- the letters
        have LET : Wp 5 mdX12_lines 71 [(0, .ref m), (1, .int (nI (cR (lkH A (qT p) (qH p)) (k + 1)))), (2, .int (nI (cP (opn A (qH p) (qT p)) (k * pl A)))), (3, .int (nI k)), (4, .int (nI 0))] [] M1 (fun r M' => ROK mdX12_lines r ∧ Q r M') := by
          refine upto (pl A) (fun x => Wp 5 mdX12_lines 71 [(0, .ref m), (1, .int (nI (cR (lkH A (qT p) (qH p)) (k + 1)))), (2, .int (nI (cP (opn A (qH p) (qT p)) (k * pl A + x)))), (3, .int (nI k)), (4, .int (nI x))] [] M1 (fun r M' => ROK mdX12_lines r ∧ Q r M')) ?_ 0 (Nat.zero_le _)
          intro x hx ih2
          refine gX12_lines_71 s1.1 K14 (fun c3 => ?_) (fun _ => V14 k hkl) (fun c3 => ?_) <;> rw [nn.2.2.2, nI_leI (by omega) (by omega)] at c3
          · have ex : x = pl A := by omega
            rw [nI_add, ex, show k * pl A + pl A = (k + 1) * pl A by rw [Nat.add_mul, Nat.one_mul]]
            exact ih hkl
          · have hxl : x < pl A := by omega
            rw [E14 k hkl]
            refine w_X12_comes (by decide) s1 (by decide) hi.2.2.1 hA hen hxl (gX12_lines_95 s1.1 (w_X12_headLike (by decide) hi (hA.2.2.2 _ hen x hxl) (fun o ho => ?_)))
            have hop := isF_opn hxl ho
            have hb := isF_b ho (by omega)
            have eN : eo o = (-1 : Int32) ↔ o = none := eo_m1 hb
            refine gX12_lines_98 (fun c4 => gX12_lines_107 s1.1 (fun _ => gX12_lines_138 (gX12_lines_139 (w_X12_flag (by decide) (fun _ => gX12_lines_142 ?_) (fun c => absurd rfl c)))) (fun c => absurd rfl c)) (fun c4 => gX12_lines_107 s1.1 (fun c => absurd c one) (fun _ => ?_))
            · rw [nI_add, nI_add, Nat.add_zero]
              have hno : ¬ opn A (qH p) (qT p) (k * pl A + x) := fun q => c4 (eN.mpr (hop.mpr q))
              have := ih2 hxl
              rw [show k * pl A + (x + 1) = k * pl A + x + 1 by omega, cP_no hno] at this
              exact this
            · have hyes : opn A (qH p) (qT p) (k * pl A + x) := hop.mp (eN.mp c4)
              have hwx : vw (pl A) ((qH p).getD k [] ++ [x]) := vw_app.mpr ⟨hw.1, fun v hv => by rw [List.mem_singleton] at hv; rw [hv]; exact hxl⟩
              have hlx := hlens.1 _ (getD_mem hkl)
              refine w_X12_headOf (by decide) hi hkl (gX12_lines_123 (w_X12_longer (by decide) (by omega) (gX12_lines_128 s1.1 ?_)))
              refine w_X12_isHead (by decide) hi (vw_mono hwx (by omega)) (by rw [List.length_append, List.length_singleton]; omega) (fun hin => ?_) (fun hin => gX12_lines_131 (fun c => absurd rfl c) (fun _ => gX12_lines_139 (w_X12_flag (by decide) (fun c => absurd c one) (fun _ => gX12_lines_142 ?_))))
              · exfalso
                obtain ⟨j, j1, j2⟩ := mem_getD hin
                obtain ⟨i1, i2⟩ : (k * pl A + x) / pl A = k ∧ (k * pl A + x) % pl A = x := ⟨ix_div hxl, ix_mod hxl⟩
                have h9 := hyes j j1
                rw [i1, i2] at h9
                apply h9
                have e9 : en A (qH p) j = pt A (en A (qH p) k) x := by
                  unfold en; rw [j2, rn_snoc]
                rw [e9]
                exact (lk_eqv A (qT p)).1 _
              · rw [nI_add, nI_add]
                have := ih2 hxl
                rw [show k * pl A + (x + 1) = k * pl A + x + 1 by omega, cP_yes hyes] at this
                exact this
        refine w_X12_headLike (by decide) hi hen (fun o ho => ?_)
        have hq : eo o = nI k ↔ ¬ ∃ t, t < k ∧ lkH A (qT p) (qH p) t k := by
          rw [show nI k = eo (some k) from rfl, eo_inj (fun j e => by have := isF_b ho (by omega) j e; omega) (fun j e => by cases e; omega)]
          constructor
          · intro e
            rw [e] at ho
            rintro ⟨t, t1, t2⟩
            exact ho.2.2 t t1 t2
          · intro hno
            exact isF_un ho ⟨hkl, (lk_eqv A (qT p)).1 _, fun j hj q => hno ⟨j, hj, q⟩⟩
        refine gX12_lines_54 (fun c3 => gX12_lines_63 (w_X12_flag (by decide) (fun _ => gX12_lines_66 ?_) (fun c => absurd rfl c))) (fun c3 => gX12_lines_63 (w_X12_flag (by decide) (fun c => absurd c one) (fun _ => gX12_lines_66 ?_))) <;> rw [nI_add]
        · have hyes : ∃ t, t < k ∧ lkH A (qT p) (qH p) t k := Classical.byContradiction fun q => c3 (hq.mpr q)
          rw [cR_yes hyes] at LET
          exact LET
        · rw [cR_no (hq.mp c3)] at LET
          exact LET
  · exact h1.1 c
end MLj
