/-! the reference: the first word by which two answer unlike -/
def BM (M : Mem) (m : Nat) (t : Nat → Nat → Nat) (c : Nat) (q : List (List Nat)) : Prop := (∀ k, k < q.length → mI M (m + 19) k = nI (nd t c q k) ∧ mJ M (m + 20) k = lN (cd (qk q k))) ∧ (∀ k, k < q.length → mI M (m + 18) (nd t c q k) = nI 1) ∧ ∀ e, e < 64 → (∀ k, k < q.length → nd t c q k ≠ e) → mI M (m + 18) e = nI 0
section MUn
variable {d m : Nat} {Q : Option Value → Mem → Prop} {M M' : Mem}
theorem w_X12_firstUnlike {A B : PM} {a b p q0 : Nat} (hd : 2 < d) (hs : MoSh M m) (ha3 : a < 3) (hb3 : b < 3) (hA0 : MoM M m a A) (hA : okM A) (hB0 : MoM M m b B) (hB : okM B) (hl : pl B = pl A) (hm3 : mI M m 3 = nI (pl A)) (hp : p < pn A) (hq : q0 < pn B)
    (h : ∀ M', Sm [m + 18, m + 19, m + 20] M M' → Q (some (.long (lN (fuC A p B q0)))) M') : ClD d mdX12_firstUnlike [.ref m, .int (nI a), .int (nI p), .int (nI b), .int (nI q0)] M Q := by
  have a8 := hA.1.2
  have b8 := hB.1.2
  have l3 := hA.2.1.2
  have Fd : dcl (fun _ : Nat => True) := fun _ _ _ _ => trivial
  have f26 := hs.f26
  have f27 := hs.f27
  have f28 := hs.f28
  have tS : ∀ {M1}, Sm [m + 18, m + 19, m + 20] M M1 → MoSh M1 m ∧ MoM M1 m a A ∧ MoM M1 m b B ∧ mI M1 m 3 = nI (pl A) := fun S => ⟨hs.sm S, hA0.sm S (by simp) (by simp) (by simp), hB0.sm S (by simp) (by simp) (by simp), by rw [S.I (by simp)]; exact hm3⟩
  refine ⟨2, hd, Cl.of moX12_firstUnlike (Nat.le_of_ble_eq_true rfl) (gX12_firstUnlike_0 ?_)⟩
  refine upto 64 (fun k => ∀ M1, Sm [m + 18, m + 19, m + 20] M M1 → (∀ e, e < k → mI M1 (m + 18) e = nI 0) → Wp 2 mdX12_firstUnlike 3 [(0, .ref m), (1, .int (nI a)), (2, .int (nI p)), (3, .int (nI b)), (4, .int (nI q0)), (5, .int (nI k))] [] M1 (fun r M' => ROK mdX12_firstUnlike r ∧ Q r M')) ?_ 0 (Nat.zero_le _) M (Sm.rf _ _) (fun e h => by omega)
  intro k hk ih M1 S hz
  obtain ⟨s1, -, -, -⟩ := tS S
  have f26 := s1.f26
  have f27 := s1.f27
  have f28 := s1.f28
  have n0 : vp_in (nI 0) 64 := z_in (by decide) (by decide)
  have e8 : (nI 8) * (nI p) + nI q0 = nI (8 * p + q0) := by rw [pk_mul, nI_add]
  refine gX12_firstUnlike_3 s1.1 (by rw [f27.1]; exact f27.2.1) (by simp only [eRI, eKI]; rw [f28.1]; exact f28.2.1) (by simp only [eRI, eKI, eRJ, eKJ]; rw [f27.1]; exact f27.2.1) (by simp only [eRI, eKI, eRJ, eKJ]; rw [f26.1]; exact f26.2.1) (by rw [f26.1]; exact f26.2.1) (fun _ => by rw [f27.1, f27.2.2]; exact n0) (fun _ => by simp only [eRI, eNI]; rw [f28.1, f28.2.2]; exact n0) (fun _ => by simp only [eRI, eNI, eRJ, eNJ]; rw [f27.1, f27.2.2]; exact n0) (fun _ => ?_) (fun c => ?_) (fun c => ?_) (fun c => ?_)
  · simp only [eRI, eNI, eRJ, eNJ, rI_J]; rw [f26.1, f27.1, f26.2.2, rI_at, e8]; exact z_in (by omega) (by decide)
  · rw [nI_leI (by decide) (by omega)] at c
    have ek : k = 64 := by omega
    subst ek
    simp only [eRI, eRJ, rI_J]
    rw [f26.1, f27.1, f28.1, rI_at, e8, nI_clamp (by decide), nI_clamp (by omega)]
    obtain ⟨M2, hM2⟩ : ∃ M2, M2 = sI (sJ (sI M1 (m + 19) 0 (nI (8 * p + q0))) (m + 20) 0 (lN 1)) (m + 18) (8 * p + q0) (nI 1) := ⟨_, rfl⟩
    rw [← hM2]
    have S2 : Sm [m + 18, m + 19, m + 20] M1 M2 := by rw [hM2]; exact ((Sm.sI (by simp) _ _ _).tr (Sm.sJ (by simp) _ _ _)).tr (Sm.sI (by simp) _ _ _)
    have hn0 : nd (stP A B) (8 * p + q0) [[]] 0 = 8 * p + q0 := rfl
    have BM0 : BM M2 m (stP A B) (8 * p + q0) [[]] := by
      refine ⟨fun k hk => ?_, fun k hk => ?_, fun e he hno => ?_⟩
      · have : k = 0 := by rw [List.length_singleton] at hk; omega
        subst this
        rw [hn0, hM2]
        constructor
        · rw [rI_np (by omega), rI_J]; exact rI_at _ _ _ _
        · rw [rJ_I]; exact rJ_at _ _ _ _
      · have : k = 0 := by rw [List.length_singleton] at hk; omega
        subst this
        rw [hn0, hM2]; exact rI_at _ _ _ _
      · have h0 := hno 0 (by decide)
        rw [hn0] at h0
        rw [hM2, rI_nk (Ne.symm h0), rI_J, rI_np (by omega)]
        exact hz e he
    have ndl : ∀ {q : List (List Nat)} {i x : Nat}, BI (stP A B) (8 * p + q0) (pl A) (fun _ => True) q i x → ∀ k, k < q.length → nd (stP A B) (8 * p + q0) q k / 8 < pn A ∧ nd (stP A B) (8 * p + q0) q k % 8 < pn B ∧ nd (stP A B) (8 * p + q0) q k < 64 ∧ nd (stP A B) (8 * p + q0) q k / 8 = rn (pt A) p (qk q k) ∧ nd (stP A B) (8 * p + q0) q k % 8 = rn (pt B) q0 (qk q k) := fun hI k hk => stP_lt hA hB hl hp hq (hI.2.1 k hk).1
    have lenl : ∀ {q : List (List Nat)} {i x : Nat}, BI (stP A B) (8 * p + q0) (pl A) (fun _ => True) q i x → q.length ≤ 64 := fun hI => hI.len (fun k hk => (ndl hI k hk).2.2.1)
    refine upto 64 (fun i => ∀ M1 q, Sm [m + 18, m + 19, m + 20] M M1 → BM M1 m (stP A B) (8 * p + q0) q → BI (stP A B) (8 * p + q0) (pl A) (fun _ => True) q i 0 → i ≤ q.length → (∀ k, k < i → an A p (qk q k) = an B q0 (qk q k)) → Wp 2 mdX12_firstUnlike 62 [(0, .ref m), (1, .int (nI a)), (3, .int (nI b)), (5, .int (nI q.length)), (6, .int (nI i))] [] M1 (fun r M' => ROK mdX12_firstUnlike r ∧ Q r M')) ?_ 0 (Nat.zero_le _) M2 [[]] (S.tr S2) BM0 (BI.init l3) (by simp) (fun k hk => by omega)
    clear hM2 BM0 S2 M2 hz S s1 f26 f27 f28 M1 ih
    intro i hi ih M1 q S hBM hBI hiq heq
    obtain ⟨s1, A1, B1, -⟩ := tS S
    have f27 := s1.f27
    have f28 := s1.f28
    have hlen := lenl hBI
    refine gX12_firstUnlike_62 s1.1 (by rw [f27.1]; exact f27.2.1) (fun c => ⟨⟨_, rfl⟩, ?_⟩) (fun c => ?_) (fun c => ?_) <;> rw [nI_leI (by omega) (by omega)] at c
    · have ei : i = q.length := by omega
      subst ei
      have := fuC_of (A := A) (B := B) (p := p) (q := q0) (c := 0) (Or.inl ⟨rfl, fun u hu => by
        obtain ⟨k, k1, k2, -⟩ := hBI.all (by omega) Fd (Nat.le_refl _) u hu (fun _ _ _ => trivial)
        have g := heq k k1
        obtain ⟨-, -, -, m4, m5⟩ := ndl hBI k k1
        obtain ⟨-, -, -, m4', m5'⟩ := stP_lt hA hB hl hp hq hu
        unfold an at g ⊢
        rw [← m4, ← m5, k2, m4', m5'] at g
        exact g⟩)
      rw [this] at h
      exact h M1 S
    · rw [f27.1, f27.2.2]; exact z_in (by omega) (by decide)
    · have hiq : i < q.length := by omega
      obtain ⟨n1, n2, n3, n4, n5⟩ := ndl hBI i hiq
      obtain ⟨cc, hcc⟩ : ∃ cc, cc = nd (stP A B) (8 * p + q0) q i := ⟨_, rfl⟩
      have v1 := (hBI.2.1 i hiq).1
      rw [f27.1, nI_clamp (by omega), (hBM.1 i hiq).1, z_d8 n3, z_r8 n3, ← hcc]
      rw [← hcc] at n1 n2 n3 n4 n5
      have o1 := hA.2.2.1 _ n1
      have o2 := hB.2.2.1 _ n2
      have an1 : an A p (qk q i) = po A (cc / 8) := by unfold an; rw [n4]
      have an2 : an B q0 (qk q i) = po B (cc % 8) := by unfold an; rw [n5]
      refine w_X12_shown (by decide) s1 ha3 A1 hA n1 (gX12_firstUnlike_100 s1.1 (w_X12_shown (by decide) s1 hb3 B1 hB n2 (gX12_firstUnlike_107 s1.1 (by rw [f28.1]; exact f28.2.1) (fun c4 => ?_) (fun c4 => ?_) (fun c4 => ⟨⟨_, rfl⟩, ?_⟩)))) <;> rw [nI_eq (by omega) (by omega)] at c4
      · have heq' : ∀ k, k < i + 1 → an A p (qk q k) = an B q0 (qk q k) := by
          intro k hk
          by_cases ek : k = i
          · subst ek; rw [an1, an2]; exact c4
          · exact heq k (by omega)
        obtain ⟨w, hww⟩ : ∃ w, w = qk q i := ⟨_, rfl⟩
        rw [← hww] at v1 n4 n5
        refine upto (pl A) (fun x => ∀ M2 q', Sm [m + 18, m + 19, m + 20] M M2 → BM M2 m (stP A B) (8 * p + q0) q' → BI (stP A B) (8 * p + q0) (pl A) (fun _ => True) q' i x → i < q'.length → qk q' i = w → (∀ k, k < i + 1 → an A p (qk q' k) = an B q0 (qk q' k)) → Wp 2 mdX12_firstUnlike 121 [(0, .ref m), (1, .int (nI a)), (3, .int (nI b)), (5, .int (nI q'.length)), (6, .int (nI i)), (7, .int (nI (cc / 8))), (8, .int (nI (cc % 8))), (9, .int (nI x))] [] M2 (fun r M' => ROK mdX12_firstUnlike r ∧ Q r M')) ?_ 0 (Nat.zero_le _) M1 q S hBM hBI hiq hww.symm heq'
        intro x hx ih2 M2 q' S' hBM' hBI' hiq' hwq' heq2
        obtain ⟨s2, A2, B2, m3⟩ := tS S'
        have g26 := s2.f26
        have g27 := s2.f27
        have g28 := s2.f28
        have hlen' := lenl hBI'
        refine gX12_firstUnlike_121 s2.1 (fun c5 => ?_) (fun c5 => ?_) <;> rw [m3, nI_leI (by omega) (by omega)] at c5
        · rw [nI_add]
          exact ih (by omega) M2 q' S' hBM' (hBI'.next (by omega) hiq' (Or.inl c5)) (by omega) heq2
        · have hxl : x < pl A := by omega
          have t1 := hA.2.2.2 _ n1 x hxl
          have t2 := hB.2.2.2 _ n2 x (by omega)
          refine w_X12_comes (by decide) s2 ha3 A2 hA n1 hxl (gX12_firstUnlike_141 s2.1 (w_X12_comes (by decide) s2 hb3 B2 hB n2 (by omega) ?_))
          have e5 : nd (stP A B) (8 * p + q0) q' i = cc := by rw [hcc]; unfold nd; rw [hwq', hww]
          have e6 : stP A B (nd (stP A B) (8 * p + q0) q' i) x = 8 * pt A (cc / 8) x + pt B (cc % 8) x := by rw [e5]; rfl
          have e7 : rn (stP A B) (8 * p + q0) (w ++ [x]) = 8 * pt A (cc / 8) x + pt B (cc % 8) x := by rw [rn_snoc, ← hwq']; exact e6
          obtain ⟨e, he⟩ : ∃ e, e = 8 * pt A (cc / 8) x + pt B (cc % 8) x := ⟨_, rfl⟩
          rw [← he] at e6 e7
          have he64 : e < 64 := by omega
          have hadd : nI 8 * nI (pt A (cc / 8) x) + nI (pt B (cc % 8) x) = nI e := by rw [pk_mul, nI_add, he]
          have hv : vp_in (nI e) 64 := z_in he64 (by decide)
          have hnew : (∀ k, k < q'.length → nd (stP A B) (8 * p + q0) q' k ≠ e) → BI (stP A B) (8 * p + q0) (pl A) (fun _ => True) (q' ++ [w ++ [x]]) i (x + 1) ∧ q'.length < 64 := fun hno => by
            have g := hBI'.new l3 Fd hiq' hxl trivial (fun k hk => by rw [e6]; exact hno k hk)
            have := lenl g
            rw [List.length_append, List.length_singleton] at this
            rw [hwq'] at g
            exact ⟨g, by omega⟩
          have key : mI M2 (m + 18) e = 0 → ∀ k, k < q'.length → nd (stP A B) (8 * p + q0) q' k ≠ e := fun z k hk q => by
            have := hBM'.2.1 k hk
            rw [q, z] at this
            exact absurd this (by decide)
          refine gX12_firstUnlike_151 s2.1 (by rw [g26.1]; exact g26.2.1) ?_ ?_ ?_ ?_ ?_ ?_ ?_ ?_ <;> rw [hadd]
          · simp only [eRI, eKI]; rw [g27.1]; exact g27.2.1
          · simp only [eRI, eKI]; rw [g28.1]; exact g28.2.1
          · rw [g26.1, g26.2.2]; exact hv
          · intro _; rw [g26.1, g26.2.2]; exact hv
          · intro c6
            simp only [eRI, eNI]
            rw [g26.1, nI_clamp (by omega)] at c6
            rw [g27.1, g27.2.2]; exact z_in (hnew (key c6)).2 (by decide)
          · intro c6
            simp only [eRI, eNI]
            rw [g28.1, g28.2.2]; exact z_in (by omega) (by decide)
          · intro c6
            rw [g26.1, nI_clamp (by omega)] at c6
            have hno := key c6
            obtain ⟨hB', h64⟩ := hnew hno
            simp only [eRI, rJ_I]
            rw [g26.1, g27.1, g28.1, nI_clamp (by omega), nI_clamp (by omega), nI_clamp (by omega), (hBM'.1 i hiq').2, hwq']
            obtain ⟨M3, hM3⟩ : ∃ M3, M3 = sI (sI M2 (m + 18) e (nI 1)) (m + 19) q'.length (nI e) := ⟨_, rfl⟩
            rw [← hM3]
            have S3 : Sm [m + 18, m + 19, m + 20] M2 M3 := by rw [hM3]; exact (Sm.sI (by simp) _ _ _).tr (Sm.sI (by simp) _ _ _)
            refine w_X12_longer (by decide) (by omega) (gX12_firstUnlike_202 (by rw [hM3]; exact g28.2.1) (by rw [hM3]; show vp_in _ (mN M2 (m + 20)); rw [g28.2.2]; exact z_in h64 (by decide)) ?_)
            rw [nI_add, nI_add, nI_clamp (by omega)]
            have := ih2 hxl (sJ M3 (m + 20) q'.length (lN (cd (w ++ [x])))) (q' ++ [w ++ [x]]) ((S'.tr S3).tr (Sm.sJ (by simp) _ _ _)) ⟨fun k hk => ?_, fun k hk => ?_, fun e' he' hno' => ?_⟩ hB' (by rw [List.length_append]; omega) (by rw [qk_old hiq']; exact hwq') (fun k hk => by rw [qk_old (by omega)]; exact heq2 k hk)
            · rw [List.length_append, List.length_singleton] at this; exact this
            · rw [List.length_append, List.length_singleton] at hk
              by_cases ek : k = q'.length
              · subst ek
                unfold nd; rw [qk_new, e7]
                exact ⟨by rw [rI_J, hM3]; exact rI_at _ _ _ _, rJ_at _ _ _ _⟩
              · have hk' : k < q'.length := by omega
                have e1 : nd (stP A B) (8 * p + q0) (q' ++ [w ++ [x]]) k = nd (stP A B) (8 * p + q0) q' k := by unfold nd; rw [qk_old hk']
                rw [e1, qk_old hk', rI_J, rJ_nk ek, hM3, rI_nk ek, rI_np (by omega), rJ_I, rJ_I]
                exact hBM'.1 k hk'
            · rw [List.length_append, List.length_singleton] at hk
              rw [rI_J, hM3, rI_np (by omega)]
              by_cases ek : k = q'.length
              · subst ek
                unfold nd; rw [qk_new, e7]
                exact rI_at _ _ _ _
              · have hk' : k < q'.length := by omega
                have e1 : nd (stP A B) (8 * p + q0) (q' ++ [w ++ [x]]) k = nd (stP A B) (8 * p + q0) q' k := by unfold nd; rw [qk_old hk']
                rw [e1, rI_nk (hno k hk')]
                exact hBM'.2.1 k hk'
            · rw [List.length_append, List.length_singleton] at hno'
              have e1 := hno' q'.length (by omega)
              unfold nd at e1; rw [qk_new, e7] at e1
              rw [rI_J, hM3, rI_np (by omega), rI_nk (Ne.symm e1)]
              refine hBM'.2.2 e' he' (fun k hk => ?_)
              have e2 := hno' k (by omega)
              unfold nd at e2 ⊢; rw [qk_old hk] at e2; exact e2
          · intro c6
            rw [g26.1, nI_clamp (by omega)] at c6
            rw [nI_add]
            refine ih2 hxl M2 q' S' hBM' (hBI'.old (by
              rw [e6]
              refine Classical.byContradiction fun hno => c6 (hBM'.2.2 e he64 (fun k hk q => hno ⟨k, hk, q⟩)))) hiq' hwq' heq2
      · rw [f28.1, f28.2.2]; exact z_in (by omega) (by decide)
      · rw [f28.1, nI_clamp (by omega), (hBM.1 i hiq).2]
        have hne : an A p (qk q i) ≠ an B q0 (qk q i) := by rw [an1, an2]; exact c4
        have hle : ∀ u, vw (pl A) u → cd u < cd (qk q i) → an A p u = an B q0 u := fun u hu hlt => by
          obtain ⟨k, k1, k2⟩ := hBI.ahead l3 Fd hiq u hu hlt
          have g := heq k k1
          obtain ⟨-, -, -, m4, m5⟩ := ndl hBI k (by omega)
          obtain ⟨-, -, -, m4', m5'⟩ := stP_lt hA hB hl hp hq hu
          unfold an at g ⊢
          rw [← m4, ← m5, k2, m4', m5'] at g
          exact g
        have := fuC_of (A := A) (B := B) (p := p) (q := q0) (c := cd (qk q i)) (Or.inr ⟨qk q i, v1, least_un hA hB hl hp hq v1 hne hle, rfl, hne, hle⟩)
        rw [this] at h
        exact h M1 S
  · rw [f26.1, f26.2.2]; rw [nI_leI (by decide) (by omega)] at c; exact z_in (by omega) (by decide)
  · rw [nI_leI (by decide) (by omega)] at c
    rw [f26.1, nI_clamp (by omega), nI_add]
    refine ih (by omega) _ (S.tr (Sm.sI (by simp) _ _ _)) (fun e he => ?_)
    by_cases ee : e = k
    · subst ee; exact rI_at _ _ _ _
    · rw [rI_nk ee]; exact hz e (by omega)
end MUn
