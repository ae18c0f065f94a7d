/-! the reference: the first word to each state; which states are like -/
/-- the code of the first word that ends at a state -/
noncomputable def reC (A : PM) (s : Nat) : Nat := @dite _ (∃ c, isRe (pl A) A s c) (Classical.propDecidable _) (fun h => Classical.choose h) (fun _ => 0)
theorem reC_of {A : PM} {s c : Nat} (h : isRe (pl A) A s c) : reC A s = c := by
  have e : ∃ c, isRe (pl A) A s c := ⟨c, h⟩
  have e2 : reC A s = Classical.choose e := dif_pos e
  rw [e2]; exact isRe_un (Classical.choose_spec e) h
def BT1 (M : Mem) (m : Nat) (A : PM) (q : List (List Nat)) : Prop := (∀ k, k < q.length → mI M (m + 19) k = nI (nd (pt A) 0 q k) ∧ mJ M (m + 26) (nd (pt A) 0 q k) = lN (cd (qk q k))) ∧ ∀ e, e < 8 → (∀ k, k < q.length → nd (pt A) 0 q k ≠ e) → mJ M (m + 26) e = lN 0
section MRe
variable {d m : Nat} {Q : Option Value → Mem → Prop} {Mz M M' : Mem}
theorem w_X12_laysReaching {A : PM} {a : Nat} (hd : 2 < d) (hs : MoSh M m) (ha3 : a < 3) (hA0 : MoM M m a A) (hA : okM A) (hm3 : mI M m 3 = nI (pl A))
    (h : ∀ M', Sm [m + 19, m + 26] M M' → (∀ s, s < 8 → mJ M' (m + 26) s = lN (reC A s) ∧ isRe (pl A) A s (reC A s)) → Q none M') : ClD d mdX12_laysReaching [.ref m, .int (nI a)] M Q := by
  have a8 := hA.1.2
  have a0 := hA.1.1
  have l3 := hA.2.1.2
  have Fd : dcl (fun _ : Nat => True) := fun _ _ _ _ => trivial
  have tS : ∀ {M1}, Sm [m + 19, m + 26] M M1 → MoSh M1 m ∧ MoM M1 m a A ∧ mI M1 m 3 = nI (pl A) := fun S => ⟨hs.sm S, hA0.sm S (by simp) (by simp) (by simp), by rw [S.I (by simp)]; exact hm3⟩
  refine ⟨2, hd, Cl.of moX12_laysReaching (Nat.le_of_ble_eq_true rfl) (gX12_laysReaching_0 ?_)⟩
  refine upto 8 (fun k => ∀ M1, Sm [m + 19, m + 26] M M1 → (∀ e, e < k → mJ M1 (m + 26) e = lN 0) → Wp 2 mdX12_laysReaching 2 [(0, .ref m), (1, .int (nI a)), (2, .int (nI k))] [] M1 (fun r M' => ROK mdX12_laysReaching r ∧ Q r M')) ?_ 0 (Nat.zero_le _) M (Sm.rf _ _) (fun e h => by omega)
  intro k hk ih M1 S hz
  obtain ⟨s1, -, -⟩ := tS S
  have f27 := s1.f27
  have f40 := s1.f40
  refine gX12_laysReaching_2 s1.1 (by rw [f40.1]; exact f40.2.1) (by simp only [eRJ, eKJ]; rw [f27.1]; exact f27.2.1) (fun _ => by rw [f40.1, f40.2.2]; exact z_in (by decide) (by decide)) (fun _ => by simp only [eRJ, eNJ]; rw [f27.1, f27.2.2]; exact z_in (by decide) (by decide)) (fun c => ?_) (fun c => ?_) (fun c => ?_) <;> rw [nI_leI (by decide) (by omega)] at c
  · have ek : k = 8 := by omega
    subst ek
    simp only [eRJ]
    rw [f40.1, f27.1, nI_clamp (by decide)]
    obtain ⟨M2, hM2⟩ : ∃ M2, M2 = sI (sJ M1 (m + 26) 0 (lN 1)) (m + 19) 0 (nI 0) := ⟨_, rfl⟩
    rw [← hM2]
    have S2 : Sm [m + 19, m + 26] M1 M2 := by rw [hM2]; exact (Sm.sJ (by simp) _ _ _).tr (Sm.sI (by simp) _ _ _)
    have hn0 : nd (pt A) 0 [[]] 0 = 0 := rfl
    have BM0 : BT1 M2 m A [[]] := by
      refine ⟨fun k hk => ?_, fun e he hno => ?_⟩
      · have : k = 0 := by rw [List.length_singleton] at hk; omega
        subst this
        rw [hn0, hM2]
        exact ⟨rI_at _ _ _ _, by rw [rJ_I]; exact rJ_at _ _ _ _⟩
      · have h0 := hno 0 (by decide)
        rw [hn0] at h0
        rw [hM2, rJ_I, rJ_nk (Ne.symm h0)]
        exact hz e he
    have ndl : ∀ {q : List (List Nat)} {i x : Nat}, BI (pt A) 0 (pl A) (fun _ => True) q i x → ∀ k, k < q.length → nd (pt A) 0 q k < pn A := fun hI k hk => rn_lt hA a0 (hI.2.1 k hk).1
    have lenl : ∀ {q : List (List Nat)} {i x : Nat}, BI (pt A) 0 (pl A) (fun _ => True) q i x → q.length ≤ 8 := fun hI => hI.len (fun k hk => by have := ndl hI k hk; omega)
    refine upto 8 (fun i => ∀ M1 q, Sm [m + 19, m + 26] M M1 → BT1 M1 m A q → BI (pt A) 0 (pl A) (fun _ => True) q i 0 → i ≤ q.length → Wp 2 mdX12_laysReaching 39 [(0, .ref m), (1, .int (nI a)), (2, .int (nI q.length)), (3, .int (nI i))] [] M1 (fun r M' => ROK mdX12_laysReaching r ∧ Q r M')) ?_ 0 (Nat.zero_le _) M2 [[]] (S.tr S2) BM0 (BI.init l3) (by simp)
    clear hM2 BM0 S2 M2 hz S s1 f27 f40 M1 ih
    intro i hi ih M1 q S hBM hBI hiq
    obtain ⟨s1, A1, -⟩ := tS S
    have f27 := s1.f27
    have f40 := s1.f40
    have hlen := lenl hBI
    refine gX12_laysReaching_39 s1.1 (by rw [f27.1]; exact f27.2.1) (fun c => ⟨rfl, ?_⟩) (fun c => ?_) (fun c => ?_) <;> rw [nI_leI (by omega) (by omega)] at c
    · have ei : i = q.length := by omega
      subst ei
      refine h M1 S (fun s hs8 => ?_)
      have hR : ∃ c, mJ M1 (m + 26) s = lN c ∧ isRe (pl A) A s c := by
        by_cases hex : ∃ k, k < q.length ∧ nd (pt A) 0 q k = s
        · obtain ⟨k, k1, k2⟩ := hex
          have g := hBI.2.1 k k1
          exact ⟨cd (qk q k), by rw [← k2]; exact (hBM.1 k k1).2, Or.inr ⟨qk q k, g.1, by omega, rfl, k2, fun u hu he => hBI.2.2.2.2.1 k k1 u hu (by rw [he, k2])⟩⟩
        · refine ⟨0, hBM.2 s hs8 (fun k hk e => hex ⟨k, hk, e⟩), Or.inl ⟨rfl, fun u hu he => ?_⟩⟩
          obtain ⟨k, k1, k2, -⟩ := hBI.all (by omega) Fd (Nat.le_refl _) u hu (fun _ _ _ => trivial)
          exact hex ⟨k, k1, by rw [k2, he]⟩
      obtain ⟨c, c1, c2⟩ := hR
      rw [reC_of c2]; exact ⟨c1, c2⟩
    · rw [f27.1, f27.2.2]; exact z_in (by omega) (by decide)
    · have hiq : i < q.length := by omega
      have n1 := ndl hBI i hiq
      obtain ⟨cc, hcc⟩ : ∃ cc, cc = nd (pt A) 0 q i := ⟨_, rfl⟩
      have v1 := (hBI.2.1 i hiq).1
      rw [f27.1, nI_clamp (by omega), (hBM.1 i hiq).1, ← hcc]
      rw [← hcc] at n1
      obtain ⟨w, hww⟩ : ∃ w, w = qk q i := ⟨_, rfl⟩
      refine upto (pl A) (fun x => ∀ M2 q', Sm [m + 19, m + 26] M M2 → BT1 M2 m A q' → BI (pt A) 0 (pl A) (fun _ => True) q' i x → i < q'.length → qk q' i = w → Wp 2 mdX12_laysReaching 55 [(0, .ref m), (1, .int (nI a)), (2, .int (nI q'.length)), (3, .int (nI i)), (4, .int (nI cc)), (5, .int (nI x))] [] M2 (fun r M' => ROK mdX12_laysReaching r ∧ Q r M')) ?_ 0 (Nat.zero_le _) M1 q S hBM hBI hiq hww.symm
      intro x hx ih2 M2 q' S' hBM' hBI' hiq' hwq'
      obtain ⟨s2, A2, m3⟩ := tS S'
      have g27 := s2.f27
      have g40 := s2.f40
      have hlen' := lenl hBI'
      refine gX12_laysReaching_55 s2.1 (fun c5 => ?_) (fun c5 => ?_) <;> rw [m3, nI_leI (by omega) (by omega)] at c5
      · rw [nI_add]
        exact ih (by omega) M2 q' S' hBM' (hBI'.next (by omega) hiq' (Or.inl c5)) (by omega)
      · have hxl : x < pl A := by omega
        have t1 := hA.2.2.2 _ n1 x hxl
        have e5 : nd (pt A) 0 q' i = cc := by rw [hcc]; unfold nd; rw [hwq', hww]
        obtain ⟨e, he⟩ : ∃ e, e = pt A cc x := ⟨_, rfl⟩
        have e6 : pt A (nd (pt A) 0 q' i) x = e := by rw [e5, he]
        have e7 : rn (pt A) 0 (w ++ [x]) = e := by rw [rn_snoc, ← hwq']; exact e6
        rw [← he] at t1
        have hv : vp_in (nI e) 8 := z_in (by omega) (by decide)
        refine w_X12_comes (by decide) s2 ha3 A2 hA n1 hxl ?_
        rw [← he]
        have hnew : (∀ k, k < q'.length → nd (pt A) 0 q' k ≠ e) → BI (pt A) 0 (pl A) (fun _ => True) (q' ++ [w ++ [x]]) i (x + 1) ∧ q'.length < 8 := fun hno => by
          have g := hBI'.new l3 Fd hiq' hxl trivial (fun k hk => by rw [e6]; exact hno k hk)
          have := lenl g
          rw [List.length_append, List.length_singleton] at this
          rw [hwq'] at g
          exact ⟨g, by omega⟩
        have cpos : ∀ k, k < q'.length → mJ M2 (m + 26) (nd (pt A) 0 q' k) ≠ lN 0 := fun k hk z => by
          have g := hBI'.2.1 k hk
          have := cd30 (vw_mono g.1 (show pl A ≤ 4 by omega)) (by omega)
          have p1 := cd_pos (qk q' k)
          rw [(hBM'.1 k hk).2, pk_lEQ (by omega) (by decide)] at z
          omega
        have key : mJ M2 (m + 26) e = lN 0 → ∀ k, k < q'.length → nd (pt A) 0 q' k ≠ e := fun z k hk q => cpos k hk (by rw [q]; exact z)
        refine gX12_laysReaching_73 s2.1 (by rw [g40.1]; exact g40.2.1) (by rw [g40.1, g40.2.2]; exact hv) (fun _ => by rw [g40.1, g40.2.2]; exact z_in (by omega) (by decide)) (fun c6 => ?_) (fun c6 => ?_) <;> rw [g40.1, nI_clamp (by omega)] at c6
        · have hno := key c6
          obtain ⟨hB', h64⟩ := hnew hno
          have ew : mJ M2 (m + 26) cc = lN (cd w) := by rw [← e5, ← hwq']; exact (hBM'.1 i hiq').2
          rw [g40.1, nI_clamp (by omega), ew]
          refine w_X12_longer (by decide) (by omega) (gX12_laysReaching_108 g40.2.1 s2.1 (by simp only [eRJ, eKJ]; rw [g27.1]; exact g27.2.1) (by rw [g40.2.2]; exact hv) (by simp only [eRJ, eNJ]; rw [g27.1, g27.2.2]; exact z_in (by omega) (by decide)) ?_)
          simp only [eRJ]
          rw [g27.1, nI_clamp (by omega), nI_clamp (by omega), nI_add, nI_add]
          obtain ⟨M3, hM3⟩ : ∃ M3, M3 = sI (sJ M2 (m + 26) e (lN (cd (w ++ [x])))) (m + 19) q'.length (nI e) := ⟨_, rfl⟩
          rw [← hM3]
          have S3 : Sm [m + 19, m + 26] M2 M3 := by rw [hM3]; exact (Sm.sJ (by simp) _ _ _).tr (Sm.sI (by simp) _ _ _)
          have := ih2 hxl M3 (q' ++ [w ++ [x]]) (S'.tr S3) ⟨fun k hk => ?_, fun e' he' hno' => ?_⟩ hB' (by rw [List.length_append]; omega) (by rw [qk_old hiq']; exact hwq')
          · rw [List.length_append, List.length_singleton] at this; exact this
          · rw [List.length_append, List.length_singleton] at hk
            by_cases ek : k = q'.length
            · subst ek
              unfold nd; rw [qk_new, e7, hM3]
              exact ⟨rI_at _ _ _ _, by rw [rJ_I]; exact rJ_at _ _ _ _⟩
            · have hk' : k < q'.length := by omega
              have e1 : nd (pt A) 0 (q' ++ [w ++ [x]]) k = nd (pt A) 0 q' k := by unfold nd; rw [qk_old hk']
              rw [e1, qk_old hk', hM3, rI_nk ek, rJ_I, rJ_nk (hno k hk'), rI_J]
              exact hBM'.1 k hk'
          · rw [List.length_append, List.length_singleton] at hno'
            have e1 := hno' q'.length (by omega)
            unfold nd at e1; rw [qk_new, e7] at e1
            rw [hM3, rJ_I, rJ_nk (Ne.symm e1)]
            refine hBM'.2 e' he' (fun k hk => ?_)
            have e2 := hno' k (by omega)
            unfold nd at e2 ⊢; rw [qk_old hk] at e2; exact e2
        · rw [nI_add]
          refine ih2 hxl M2 q' S' hBM' (hBI'.old (by
            rw [e6]
            refine Classical.byContradiction fun hno => c6 (hBM'.2 e (by omega) (fun k hk q => hno ⟨k, hk, q⟩)))) hiq' hwq'
  · rw [f40.1, f40.2.2]; exact z_in (by omega) (by decide)
  · rw [f40.1, nI_clamp (by omega), nI_add]
    refine ih (by omega) _ (S.tr (Sm.sJ (by simp) _ _ _)) (fun e he => ?_)
    by_cases ee : e = k
    · subst ee; exact rJ_at _ _ _ _
    · rw [rJ_nk ee]; exact hz e (by omega)
end MRe
