/-! the class's Pupil -/
theorem ClD.mono {d : Nat} {k : MD} {args : List Value} {M : Mem} {Q Q' : Option Value → Mem → Prop} (h : ClD d k args M Q) (hq : ∀ r M', Q r M' → Q' r M') : ClD d k args M Q' := by
  obtain ⟨e, h1, h2⟩ := h
  exact ⟨e, h1, h2.mono hq⟩
theorem Fe.sR {M : Mem} {P j x : Nat} (h : vR (mK M P) j) : Fe [P] M (sR M P j x) := by
  refine ⟨⟨fun p _ hn => ⟨rfl, rfl, up2_ne (fun e => hn (by simp [e]))⟩, fun _ _ => ⟨rfl, rfl⟩, fun p i _ hv => ?_, Nat.le_refl _, Nat.le_refl _⟩, rfl, rfl⟩
  by_cases e : p = P
  · subst e
    exact up2_nk (fun e => hv (by rw [e]; exact h))
  · show up2 M.2.2.1 P j x p i = _
    rw [up2_ne e]; rfl
/-- a code's word -/
noncomputable def wdC (c : Nat) : List Nat := @dite _ (∃ w, vw 4 w ∧ cd w = c) (Classical.propDecidable _) (fun h => Classical.choose h) (fun _ => [])
theorem wdC_of {w : List Nat} (h : vw 4 w) : wdC (cd w) = w := by
  have hex : ∃ v, vw 4 v ∧ cd v = cd w := ⟨w, h, rfl⟩
  unfold wdC
  rw [dif_pos hex]
  have := Classical.choose_spec hex
  exact cd_inj this.1 h this.2
/-- the code of the first word by which two answer unlike -/
noncomputable def fuC (A : PM) (p : Nat) (B : PM) (q : Nat) : Nat := @dite _ (∃ c, isFU (pl A) A p B q c) (Classical.propDecidable _) (fun h => Classical.choose h) (fun _ => 0)
theorem fuC_of {A B : PM} {p q c : Nat} (h : isFU (pl A) A p B q c) : fuC A p B q = c := by
  have hex : ∃ c, isFU (pl A) A p B q c := ⟨c, h⟩
  unfold fuC
  rw [dif_pos hex]
  exact isFU_un (Classical.choose_spec hex) h
theorem isFU_ex {A B : PM} (hA : okM A) (hB : okM B) (hl : pl B = pl A) {p q : Nat} (hp : p < pn A) (hq : q < pn B) : ∃ c, isFU (pl A) A p B q c := by
  by_cases h : ∃ c, ∃ w, vw (pl A) w ∧ cd w = c ∧ an A p w ≠ an B q w
  · obtain ⟨c, ⟨w, w1, w2, w3⟩, h2⟩ := pk_least (fun c => ∃ w, vw (pl A) w ∧ cd w = c ∧ an A p w ≠ an B q w) h
    have h3 : ∀ u, vw (pl A) u → cd u < cd w → an A p u = an B q u := fun u hu hlt => Classical.byContradiction fun hne => h2 (cd u) (by omega) ⟨u, hu, rfl, hne⟩
    exact ⟨c, Or.inr ⟨w, w1, least_un hA hB hl hp hq w1 w3 h3, w2.symm, w3, h3⟩⟩
  · exact ⟨0, Or.inl ⟨rfl, fun u hu => Classical.byContradiction fun hne => h ⟨cd u, u, hu, rfl, hne⟩⟩⟩
/-- what is learnt, move by move: how many steps -/
noncomputable def lnF (A : PM) (st sp : Nat) : Nat → PS → Nat × PS
  | 0, p => (0, p)
  | f + 1, p => match qg p with
    | none => ((lnF A st sp f (stepF A st sp p).2).1 + 1, (lnF A st sp f (stepF A st sp p).2).2)
    | some g => if fuC g.2 0 A 0 = 0 then (0, p) else lnF A st sp f (lesF A st sp p g (wdC (fuC g.2 0 A 0))).2
theorem lnF_n {A : PM} {st sp f : Nat} {p : PS} (h : qg p = none) : lnF A st sp (f + 1) p = ((lnF A st sp f (stepF A st sp p).2).1 + 1, (lnF A st sp f (stepF A st sp p).2).2) := by
  show (match qg p with | none => _ | some g => _) = _
  rw [h]
theorem lnF_0 {A : PM} {st sp f : Nat} {p : PS} {g : GU} (h : qg p = some g) (h0 : fuC g.2 0 A 0 = 0) : lnF A st sp (f + 1) p = (0, p) := by
  show (match qg p with | none => _ | some g => _) = _
  rw [h]; exact if_pos h0
theorem lnF_1 {A : PM} {st sp f : Nat} {p : PS} {g : GU} (h : qg p = some g) (h0 : ¬ fuC g.2 0 A 0 = 0) : lnF A st sp (f + 1) p = lnF A st sp f (lesF A st sp p g (wdC (fuC g.2 0 A 0))).2 := by
  show (match qg p with | none => _ | some g => _) = _
  rw [h]; exact if_neg h0
/-- the first wrong word -/
theorem PI.fu {A : PM} {N : Nat} {p : PS} {g : GU} (hA : okM A) (h : PI A N p) (hg : qg p = some g) (h0 : ¬ fuC g.2 0 A 0 = 0) : vw (pl A) (wdC (fuC g.2 0 A 0)) ∧ (wdC (fuC g.2 0 A 0)).length ≤ 14 ∧ an g.2 0 (wdC (fuC g.2 0 A 0)) ≠ an A 0 (wdC (fuC g.2 0 A 0)) ∧ fuC g.2 0 A 0 = cd (wdC (fuC g.2 0 A 0)) := by
  have hgu := h.gu hA hg
  obtain ⟨c, hc⟩ := isFU_ex hgu.1 hA hgu.2.1.symm hgu.1.1.1 hA.1.1
  have e := fuC_of hc
  rw [e] at h0 ⊢
  rcases hc with ⟨q, -⟩ | ⟨w, w1, w2, w3, w4, -⟩
  · exact absurd q h0
  · rw [hgu.2.1] at w1
    rw [w3, wdC_of (vw_mono w1 (by have := hA.2.1.2; omega))]
    exact ⟨w1, w2, w4, rfl⟩
theorem lnF_all {A : PM} {N st sp : Nat} (hA : okM A) : ∀ f f' p, PI A N p → mu A p < f → mu A p < f' → lnF A st sp f p = lnF A st sp f' p := by
  intro f
  induction f with
  | zero => intro f' p _ h; omega
  | succ f ih =>
    intro f' p hp h h'
    obtain ⟨f', rfl⟩ : ∃ g, f' = g + 1 := ⟨f' - 1, by omega⟩
    cases hg : qg p with
    | none =>
      have g := hp.step (st := st) (sp := sp) hA hg
      rw [lnF_n hg, lnF_n hg, ih f' _ g.1 (by have := g.2.1; omega) (by have := g.2.1; omega)]
    | some g =>
      by_cases h0 : fuC g.2 0 A 0 = 0
      · rw [lnF_0 hg h0, lnF_0 hg h0]
      · have q := hp.fu hA hg h0
        have k := hp.les (st := st) (sp := sp) hA hg q.1 q.2.1 q.2.2.1
        rw [lnF_1 hg h0, lnF_1 hg h0, ih f' _ k.1 (by have := k.2.1; omega) (by have := k.2.1; omega)]
theorem lnF_PI {A : PM} {N st sp : Nat} (hA : okM A) : ∀ f p, PI A N p → mu A p < f → PI A N (lnF A st sp f p).2 ∧ qm (lnF A st sp f p).2 = qm p ∧ ∃ g, qg (lnF A st sp f p).2 = some g ∧ fuC g.2 0 A 0 = 0 := by
  intro f
  induction f with
  | zero => intro p _ h; omega
  | succ f ih =>
    intro p hp h
    cases hg : qg p with
    | none =>
      have g := hp.step (st := st) (sp := sp) hA hg
      rw [lnF_n hg]
      have k := ih _ g.1 (by have := g.2.1; omega)
      exact ⟨k.1, k.2.1.trans g.2.2.1, k.2.2⟩
    | some g =>
      by_cases h0 : fuC g.2 0 A 0 = 0
      · rw [lnF_0 hg h0]; exact ⟨hp, rfl, g, hg, h0⟩
      · have q := hp.fu hA hg h0
        have k := hp.les (st := st) (sp := sp) hA hg q.1 q.2.1 q.2.2.1
        rw [lnF_1 hg h0]
        have k2 := ih _ k.1 (by have := k.2.1; omega)
        exact ⟨k2.1, k2.2.1.trans k.2.2.1.1, k2.2.2⟩
theorem mu_lt {A : PM} {p : PS} : mu A p < 40 := by
  unfold mu
  split <;> omega
noncomputable def learnF (A : PM) (st sp : Nat) (p : PS) : Nat × PS := lnF A st sp 40 p
theorem learn_of {A : PM} {N st sp f : Nat} {p : PS} (hA : okM A) (h : PI A N p) (hf : mu A p < f) : lnF A st sp f p = learnF A st sp p := lnF_all hA _ _ p h hf mu_lt
-- the labels of a pupil
def puS (P : Nat) : List Nat := (List.range 32).map (fun i => P + i)
theorem puS_mem {P p : Nat} : p ∈ puS P ↔ P ≤ p ∧ p < P + 32 := by
  unfold puS
  simp only [List.mem_map, List.mem_range]
  constructor
  · rintro ⟨i, i1, i2⟩; omega
  · intro h; exact ⟨p - P, by omega, by omega⟩
def TrSh (M : Mem) (b r : Nat) : Prop := NotSh M b r 6 ∧ mR M b 8 = b + 11 ∧ mK M (b + 11) = 1 ∧ mN M (b + 11) = 32
def PuSh (M : Mem) (P : Nat) : Prop := (mK M P = 6 ∧ mR M P 0 = P + 1 ∧ mR M P 1 = P + 4 ∧ mR M P 2 = P + 20 ∧ mR M P 6 = 13) ∧ TabSh M (P + 4) (P + 1) ∧ TrSh M (P + 20) (P + 1)
theorem PuSh.fm {S : List Nat} {M M' : Mem} {P : Nat} (h : Fm S M M') (hl : P + 31 < mC M + 2) (hs : PuSh M P) : PuSh M' P := by
  obtain ⟨⟨a1, a2, a3, a4, a5⟩, b, c⟩ := hs
  have nv : ∀ j, j ≠ 3 → ¬ vR (mK M P) j := fun j hj q => by rw [a1] at q; unfold vR at q; omega
  refine ⟨⟨by rw [h.K (by omega)]; exact a1, ?_, ?_, ?_, ?_⟩, b.fm h (by omega), TrSh.fm h (by omega) c⟩
  · rw [h.2.2.1 P 0 (by omega) (nv 0 (by decide))]; exact a2
  · rw [h.2.2.1 P 1 (by omega) (nv 1 (by decide))]; exact a3
  · rw [h.2.2.1 P 2 (by omega) (nv 2 (by decide))]; exact a4
  · rw [h.2.2.1 P 6 (by omega) (nv 6 (by decide))]; exact a5
def CP (z : Nat) (M : Mem) (P : Nat) (A : PM) (st sp : Nat) (p : PS) : Prop := PuSh M P ∧ (mR M P 3 = (if qm p = 3 then P + 20 else P + 4) ∧ mI M P 4 = nI (qm p)) ∧ (qm p ≠ 3 → TPp z M (P + 4) (P + 1) A st sp p) ∧ (qm p = 3 → RPp z M (P + 20) (P + 1) A st sp p) ∧ (P + 36 ≤ z ∧ 17 < P)
/-- the Asking of a pupil -/
theorem CP.ai {z : Nat} {M : Mem} {P : Nat} {A : PM} {st sp : Nat} {p : PS} (h : CP z M P A st sp p) : ∃ s, eqS s (qs p) ∧ AI z M (P + 1) A st sp s := by
  obtain ⟨-, -, ht, hr, -⟩ := h
  by_cases c : qm p = 3
  · obtain ⟨-, s, s1, s2, -⟩ := hr c
    exact ⟨s, s1, s2.2.1⟩
  · obtain ⟨-, s, s1, s2, -⟩ := ht c
    exact ⟨s, s1, s2.2.1⟩
section Pupil
variable {z d r b P st sp : Nat} {Q : Option Value → Mem → Prop} {M : Mem} {A : PM} {p : PS}
theorem w_X3_renew {cn m : Nat} (hd : 5 < d) (hs : NotSh M b r cn)
    (h : ∀ M', Sm [b, b + 1, b + 2, b + 3, b + 4, b + 5, b + 7] M M' → (mI M' b 5 = nI m ∧ mI M' b 6 = nI 0) → (LstAt M' (b + 1) [[]] ∧ LstAt M' (b + 3) [[]]) → GueAt M' b none → (cn = 4 → ClD 5 mdX6_begin [.ref b] M' (fun r1 M1 => r1 = none ∧ Q none M1)) ∧ (cn = 6 → ClD 5 mdX8_begin [.ref b] M' (fun r1 M1 => r1 = none ∧ Q none M1))) : ClD d mdX3_renew [.ref b, .int (nI m)] M Q := by
  have hs0 := hs
  obtain ⟨⟨n1, a1⟩, ⟨b0, b1, b2, b3, b4⟩, c1, c2, c3, c4⟩ := hs
  have S0 : Sm [b, b + 1, b + 2, b + 3, b + 4, b + 5, b + 7] M (sI (sI M b 5 (nI m)) b 6 (nI 0)) := (Sm.sI (by simp) _ _ _).tr (Sm.sI (by simp) _ _ _)
  refine ⟨5, hd, Cl.of moX3_renew (Nat.le_of_ble_eq_true rfl) (gX3_renew_0 n1 a1 (by show mK M (mR M b 1) = 11; rw [b1]; exact c1.1) ?_)⟩
  show ClD 5 mdX9_clear [.ref (mR M b 1)] _ _
  rw [b1]
  have s1 := hs0.sm S0
  refine w_X9_clear (cap := 128) (by decide) s1.2.2.1 ?_
  have S1 := S0.tr (Sm.sI (S := [b, b + 1, b + 2, b + 3, b + 4, b + 5, b + 7]) (p := b + 1) (by simp) (sI (sI M b 5 (nI m)) b 6 (nI 0)) 0 0)
  have s2 := hs0.sm S1
  refine gX3_renew_17 n1 s2.1.2 (by rw [s2.2.1.2.1]; exact s2.2.2.1.1) ?_
  rw [s2.2.1.2.1]
  refine w_X9_add (cap := 128) (L := []) (w := []) (by decide) s2.2.2.1 LstAt.nil (by decide) (by decide) ?_
  have S2 := S1.tr (Sm.lAdd (S := [b, b + 1, b + 2, b + 3, b + 4, b + 5, b + 7]) (r := b + 1) (by simp) (by simp) (sI (sI (sI M b 5 (nI m)) b 6 (nI 0)) (b + 1) 0 0) 0 [])
  have l1 : LstAt (lAdd (sI (sI (sI M b 5 (nI m)) b 6 (nI 0)) (b + 1) 0 0) (b + 1) 0 []) (b + 1) [[]] := (LstAt.nil (M := sI (sI M b 5 (nI m)) b 6 (nI 0)) (r := b + 1)).add []
  obtain ⟨M2, hM2⟩ : ∃ M2, M2 = lAdd (sI (sI (sI M b 5 (nI m)) b 6 (nI 0)) (b + 1) 0 0) (b + 1) 0 [] := ⟨_, rfl⟩
  have i5 : mI M2 b 5 = nI m ∧ mI M2 b 6 = nI 0 := by
    rw [hM2]
    unfold lAdd
    rw [rI_J, rI_np (by omega), rI_np (by omega)]
    exact ⟨(rI_nk (by decide)).trans (rI_at _ _ _ _), rI_at _ _ _ _⟩
  show Wp 5 mdX3_renew 25 _ _ (lAdd (sI (sI (sI M b 5 (nI m)) b 6 (nI 0)) (b + 1) 0 0) (b + 1) 0 []) _
  rw [← hM2] at S2 l1 ⊢
  have s3 := hs0.sm S2
  refine gX3_renew_25 n1 s3.1.2 (by rw [s3.2.1.2.2.1]; exact s3.2.2.2.1.1) ?_
  rw [s3.2.1.2.2.1]
  refine w_X9_clear (cap := 128) (by decide) s3.2.2.2.1 ?_
  have S3' : Sm [b + 3, b + 4] M2 (sI M2 (b + 3) 0 0) := Sm.sI (by simp) _ _ _
  have s4 := s3.sm S3'
  refine gX3_renew_32 n1 s4.1.2 (by rw [s4.2.1.2.2.1]; exact s4.2.2.2.1.1) ?_
  rw [s4.2.1.2.2.1]
  refine w_X9_add (cap := 128) (L := []) (w := []) (by decide) s4.2.2.2.1 LstAt.nil (by decide) (by decide) ?_
  have S4' := S3'.tr (Sm.lAdd (S := [b + 3, b + 4]) (r := b + 3) (by simp) (by simp) (sI M2 (b + 3) 0 0) 0 [])
  have l2 : LstAt (lAdd (sI M2 (b + 3) 0 0) (b + 3) 0 []) (b + 3) [[]] := (LstAt.nil (M := M2) (r := b + 3)).add []
  show Wp 5 mdX3_renew 40 _ _ (lAdd (sI M2 (b + 3) 0 0) (b + 3) 0 []) _
  obtain ⟨M3, hM3⟩ : ∃ M3, M3 = lAdd (sI M2 (b + 3) 0 0) (b + 3) 0 [] := ⟨_, rfl⟩
  rw [← hM3] at S4' l2 ⊢
  have s5 := s3.sm S4'
  refine gX3_renew_40 n1 s5.1.2 (w_X3_dropGuess (by decide) s5 (fun M4 S5 G5 => ?_))
  have nb : ∀ p, p ∈ [b + 3, b + 4] → p ∈ [b, b + 1, b + 2, b + 3, b + 4, b + 5, b + 7] := fun p hp => by simp at hp ⊢; omega
  have S6 : Sm [b, b + 1, b + 2, b + 3, b + 4, b + 5, b + 7] M M4 := (S2.tr (S4'.mono nb)).tr (S5.mono (by simp))
  have ib : mI M4 b = mI M2 b := (S5.I (by simp)).trans (S4'.I (by simp))
  have hh := h M4 S6 (by rw [ib]; exact i5) ⟨(l1.sm S4' (by simp) (by simp)).sm S5 (by simp) (by simp), l2.sm S5 (by simp) (by simp)⟩ G5
  have s6 := s5.sm S5
  refine gX3_renew_44 n1 s6.1.2 (fun c => (hh.1 c).mono (fun r1 M1 q => ?_)) (fun c => (hh.2 c).mono (fun r1 M1 q => ?_)) <;> (obtain ⟨rfl, q⟩ := q; exact gX3_renew_48 ⟨rfl, q⟩)
theorem w_X4_renew {m : Nat} {s : List (List Nat) × Nat} (hd : 6 < d) (hm : m ≤ 3) (hs : PuSh M P) (hi : AI z M (P + 1) A st sp s) (hz : P + 36 ≤ z ∧ 17 < P)
    (h : ∀ M', Fa (P + 1) (puS P) M M' → CP z M' P A st sp (newP A st sp m) → Q none M') : ClD d mdX4_renew [.ref P, .int (nI m)] M Q := by
  have hs0 := hs
  have hA := hi.2.2.2.2.1
  obtain ⟨⟨a1, a2, a3, a4, a5⟩, -, -⟩ := hs
  have q0 := hi.2.2.2.2.2
  obtain ⟨bb, hbb⟩ : ∃ bb, bb = (if m = 3 then P + 20 else P + 4) := ⟨_, rfl⟩
  have S0 : Sm [P] M (sI M P 4 (nI m)) := Sm.sI (by simp) _ _ _
  have F1 : Fm [P] M (sR (sI M P 4 (nI m)) P 3 bb) := by
    have := (Fe.sR (M := sI M P 4 (nI m)) (P := P) (j := 3) (x := bb) (Or.inr (Or.inr ⟨a1, rfl⟩))).1
    exact S0.fm.tr this (fun p hp => Or.inl hp)
  have hC1 : mC (sR (sI M P 4 (nI m)) P 3 bb) = mC M := rfl
  have HX : ∀ x, x = bb → Wp 6 mdX4_renew 25 [(0, .ref P)] [.ref x, .ref P] (sI M P 4 (nI m)) (fun r M' => ROK mdX4_renew r ∧ Q r M') := by
    intro x hx
    subst hx
    obtain ⟨M1, hM1⟩ : ∃ M1, M1 = sR (sI M P 4 (nI m)) P 3 x := ⟨_, rfl⟩
    have hs1 : PuSh M1 P := by rw [hM1]; exact hs0.fm F1 (by omega)
    have hi1 : AI z M1 (P + 1) A st sp s := by
      rw [hM1]; exact hi.fm F1 (by simp) (by simp <;> omega) (by simp <;> omega) (by simp; omega) (by simp; omega) (by simp; omega)
    refine gX4_renew_25 a1 a1 (by rw [← hM1, hs1.1.2.1]; rw [hM1] at hi1; exact hi1.1.1) ?_
    rw [← hM1, hs1.1.2.1]
    have q1 := hi1.2.2.2.2.2
    refine w_X0_forget (by decide) hi1.1 hi1.2.1 (by omega) (by omega) (by omega) (fun M2 S2 k2 => ?_)
    have hs2 : PuSh M2 P := hs1.fm S2.fm (by omega)
    have n2 : ∀ p, p < P ∨ (P + 3 < p ∧ p < z) → p ∉ [P + 1, P + 1 + 1, slq M1 (P + 1)] := fun p hp q => by simp at q; omega
    have hi2 : AI z M2 (P + 1) A st sp ([], 0) := by
      obtain ⟨i1, i2, i3, i4, i5, i6, i7, i8, i9⟩ := hi1
      have e : slq M2 (P + 1) = slq M1 (P + 1) := by unfold slq; rw [S2.2.1]
      exact ⟨i1.fm S2.fm (by omega), k2, i3.sm S2, i4.sm S2 (n2 _ (by omega)) (n2 _ (by omega)) (n2 _ (by omega)), i5, by rw [e]; exact i6, by rw [S2.2.2.2.2.1]; exact i7, i8, i9⟩
    have hP3 : mR M2 P 3 = x := by rw [S2.2.1, hM1]; exact up2_at _ _ _ _
    have hP4 : mI M2 P 4 = nI m := by
      rw [S2.I (by simp; omega), hM1]; exact rI_at _ _ _ _
    have F2 : Fa (P + 1) (puS P) M M2 := by
      have hq1 : slq M1 (P + 1) = slq M (P + 1) := by rw [hM1]; unfold slq; rw [show mR (sR (sI M P 4 (nI m)) P 3 x) (P + 1 + 1) = mR M (P + 1 + 1) from up2_ne (by omega)]
      have hq2 : slq M2 (P + 1) = slq M (P + 1) := by rw [← hq1]; unfold slq; rw [S2.2.1]
      refine ⟨?_, Or.inl hq2, ?_, ?_⟩
      · refine (F1.mono (T := slq M (P + 1) :: puS P) (fun p hp => ?_)).tr (M2 := M2) (T := [P + 1, P + 1 + 1, slq M1 (P + 1)]) (by rw [← hM1]; exact S2.fm) (fun p hp => Or.inl ?_)
        · simp only [List.mem_singleton] at hp
          rw [hp]; exact List.mem_cons.mpr (Or.inr (puS_mem.mpr (by omega)))
        · simp only [List.mem_cons, List.not_mem_nil, or_false] at hp
          rcases hp with e | e | e
          · rw [e]; exact List.mem_cons.mpr (Or.inr (puS_mem.mpr (by omega)))
          · rw [e]; exact List.mem_cons.mpr (Or.inr (puS_mem.mpr (by omega)))
          · rw [e, hq1]; exact List.mem_cons_self
      · rw [hq2, S2.2.2.2.1, S2.2.2.2.2.1, hM1]; exact Nat.le_refl _
      · rw [hq2, S2.2.2.2.1, S2.2.2.2.2.2, hM1]; exact Nat.le_refl _
    by_cases c3 : m = 3
    · have hxx : x = P + 20 := by rw [hbb, if_pos c3]
      refine gX4_renew_35 (cnk1 := 6) hs2.1.1 (Or.inr rfl) (by rw [hP3, hxx]; exact hs2.2.2.1.1.2) ?_
      rw [hP3, hP4, hxx]
      refine w_X3_renew (by decide) hs2.2.2.1 (fun M3 S3 j5 l3 G3 => ⟨fun c => (by cases c), fun _ => ?_⟩)
      have n3 : ∀ p, p < P + 20 ∨ P + 27 < p → p ∉ [P + 20, P + 20 + 1, P + 20 + 2, P + 20 + 3, P + 20 + 4, P + 20 + 5, P + 20 + 7] := fun p hp q => by simp at q; omega
      have q2 := hi2.2.2.2.2.2
      have hi3 := hi2.fm S3.fm (n3 _ (by omega)) (n3 _ (by omega)) (n3 _ (by omega)) (n3 _ (by omega)) (n3 _ (by omega)) (n3 _ (by omega))
      refine w_X8_begin (by decide) (TrSh.fm S3.fm (by omega) hs2.2.2) hi3 l3 (by omega) (by omega) (by decide) (fun M4 F4 I4 => ⟨rfl, gX4_renew_46 ⟨rfl, ?_⟩⟩)
      have FF : Fa (P + 1) (puS P) M M4 := (F2.tr ((S3.mono (fun p hp => by rw [puS_mem]; simp at hp; omega)).fa)).tr (F4.mono (fun p hp => by rw [puS_mem]; simp at hp; omega))
      have n4 : ∀ p, p < z → p ≠ P + 3 → p ≠ P + 1 → p ≠ P + 2 → p ≠ P + 31 → p ∉ slq M3 (P + 1) :: [P + 1, P + 1 + 1, P + 20 + 11] := fun p g1 g2 g3 g4 g5 => nq hi3.2.2.2.2.2.1 g1 g2 (fun q => by simp at q; omega)
      have z3 := hi3.2.2.2.2.2
      refine h M4 FF ⟨hs0.fm FF.1 (by omega), ⟨?_, ?_⟩, fun c => absurd c3 c, fun _ => ⟨c3, aS st sp ([], 0) [], ?_, ?_, ⟨?_, ?_⟩, ⟨?_, ?_⟩⟩, hz⟩
      · rw [(F4.1.1 P (by omega) (n4 _ (by omega) (by omega) (by omega) (by omega) (by omega))).2.2, S3.2.1, hP3, hxx]
        show P + 20 = if m = 3 then _ else _
        rw [if_pos c3]
      · rw [F4.1.I (by omega) (n4 _ (by omega) (by omega) (by omega) (by omega) (by omega)), S3.I (n3 _ (by omega))]; exact hP4
      · show eqS _ (if m = 3 then aS st sp ([], 0) [] else ([], 0))
        rw [if_pos c3]; exact eqS.rf I4.nd
      · show RI z M4 (P + 20) (P + 1) A st sp (aS st sp ([], 0) []) [[]] [[]] (if m = 3 then upN (fun _ => 0) (an A 0 []) 1 else fun _ => 0)
        rw [if_pos c3]; exact I4
      · rw [F4.1.I (by omega) (n4 _ (by omega) (by omega) (by omega) (by omega) (by omega))]
        have := j5.1; rw [c3] at this; exact this
      · rw [F4.1.I (by omega) (n4 _ (by omega) (by omega) (by omega) (by omega) (by omega))]; exact j5.2
      · rw [F4.1.I (by omega) (n4 _ (by omega) (by omega) (by omega) (by omega) (by omega))]; exact G3.1
      · exact G3.2.fm F4.1 (by omega) (n4 _ (by omega) (by omega) (by omega) (by omega) (by omega)) (n4 _ (by omega) (by omega) (by omega) (by omega) (by omega))
    · have hxx : x = P + 4 := by rw [hbb, if_neg c3]
      refine gX4_renew_35 (cnk1 := 4) hs2.1.1 (Or.inl rfl) (by rw [hP3, hxx]; exact hs2.2.1.1.1.2) ?_
      rw [hP3, hP4, hxx]
      refine w_X3_renew (by decide) hs2.2.1.1 (fun M3 S3 j5 l3 G3 => ⟨fun _ => ?_, fun c => (by cases c)⟩)
      have n3 : ∀ p, p < P + 4 ∨ P + 11 < p → p ∉ [P + 4, P + 4 + 1, P + 4 + 2, P + 4 + 3, P + 4 + 4, P + 4 + 5, P + 4 + 7] := fun p hp q => by simp at q; omega
      have q2 := hi2.2.2.2.2.2
      have hi3 := hi2.fm S3.fm (n3 _ (by omega)) (n3 _ (by omega)) (n3 _ (by omega)) (n3 _ (by omega)) (n3 _ (by omega)) (n3 _ (by omega))
      have hs3 : TabSh M3 (P + 4) (P + 1) := hs2.2.1.sm S3
      refine w_X6_begin (by decide) hs3.1.1.2 ⟨rfl, gX4_renew_46 ⟨rfl, ?_⟩⟩
      have S4 : Sm [P + 4] M3 (sI (sI M3 (P + 4) 7 (nI 0)) (P + 4) 8 (nI 0)) := (Sm.sI (by simp) _ _ _).tr (Sm.sI (by simp) _ _ _)
      have FF : Fa (P + 1) (puS P) M (sI (sI M3 (P + 4) 7 (nI 0)) (P + 4) 8 (nI 0)) := (F2.tr ((S3.mono (fun p hp => by rw [puS_mem]; simp at hp; omega)).fa)).tr ((S4.mono (fun p hp => by rw [puS_mem]; simp at hp; omega)).fa)
      have z3 := hi3.2.2.2.2.2
      have i4 := hi3.fm S4.fm (by simp) (by simp) (by simp <;> omega) (by simp <;> omega) (by simp <;> omega) (by simp <;> omega)
      have vv : okV A [[]] := fun w hw => by rw [List.mem_singleton] at hw; rw [hw]; exact ⟨vw_nil _, by decide⟩
      refine h _ FF ⟨hs0.fm FF.1 (by omega), ⟨?_, ?_⟩, fun _ => ⟨?_, ([], 0), ?_, ⟨hs3.sm S4, i4, ⟨l3.1.sm S4 (by simp) (by simp), l3.2.sm S4 (by simp) (by simp)⟩, ⟨vv, vv⟩, ⟨by show 1 ≤ 128; decide, by show 1 ≤ 128; decide⟩, by omega, by omega⟩, ⟨?_, ?_⟩, ⟨?_, ?_⟩, 0, 0, ⟨?_, rI_at _ _ _ _⟩, ⟨Nat.zero_le _, Nat.zero_le _⟩, fun _ _ _ hk => by omega⟩, fun c => absurd c c3, hz⟩
      · show mR M3 P 3 = if m = 3 then _ else _
        rw [S3.2.1, hP3, hxx, if_neg c3]
      · rw [S4.I (by simp), S3.I (n3 _ (by omega))]; exact hP4
      · show m < 3; omega
      · show eqS ([], 0) (if m = 3 then aS st sp ([], 0) [] else ([], 0))
        rw [if_neg c3]; exact eqS.rf List.nodup_nil
      · rw [rI_nk (by decide), rI_nk (by decide)]; exact j5.1
      · rw [rI_nk (by decide), rI_nk (by decide)]; exact j5.2
      · rw [S4.I (by simp)]; exact G3.1
      · exact G3.2.sm S4 (by simp) (by simp)
      · rw [rI_nk (by decide)]; exact rI_at _ _ _ _
  refine ⟨6, hd, Cl.of moX4_renew (Nat.le_of_ble_eq_true rfl) (gX4_renew_0 a1 (fun c => HX _ ?_) (fun c => HX _ ?_))⟩ <;> rw [rI_at] at c
  · show mR M P 1 = bb
    rw [a3, hbb, if_neg (fun e => c (by rw [e]))]
  · show mR M P 2 = bb
    rw [a4, hbb, if_pos ((nI_eq (by omega) (by omega)).mp c)]
end Pupil
