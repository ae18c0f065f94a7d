/-! the reference: steps -/
/-- steps till there is a guess: how many -/
noncomputable def gsF (A : PM) (st sp : Nat) : Nat → PS → Nat × PS
  | 0, p => (0, p)
  | f + 1, p => match qg p with
    | none => ((gsF A st sp f (stepF A st sp p).2).1 + 1, (gsF A st sp f (stepF A st sp p).2).2)
    | some _ => (0, p)
theorem gsF_n {A : PM} {st sp f : Nat} {p : PS} (h : qg p = none) : gsF A st sp (f + 1) p = ((gsF A st sp f (stepF A st sp p).2).1 + 1, (gsF A st sp f (stepF A st sp p).2).2) := by
  show (match qg p with | none => _ | some _ => _) = _
  rw [h]
theorem gsF_s {A : PM} {st sp f : Nat} {p : PS} {g : GU} (h : qg p = some g) : gsF A st sp f p = (0, p) := by
  cases f with
  | zero => rfl
  | succ f =>
    show (match qg p with | none => _ | some _ => _) = _
    rw [h]
theorem gsF_PI {A : PM} {N st sp : Nat} (hA : okM A) : ∀ f p, PI A N p → mu A p < f → PI A N (gsF A st sp f p).2 ∧ qm (gsF A st sp f p).2 = qm p ∧ (∃ g, qg (gsF A st sp f p).2 = some g) ∧ (gsF A st sp f p).1 + mu A (gsF A st sp f p).2 ≤ mu A p := by
  intro f
  induction f with
  | zero => intro p _ h; omega
  | succ f ih =>
    intro p hp h
    cases hg : qg p with
    | none =>
      have g := hp.step (st := st) (sp := sp) hA hg
      rw [gsF_n hg]
      have k := ih _ g.1 (by have := g.2.1; omega)
      exact ⟨k.1, k.2.1.trans g.2.2.1, k.2.2.1, by have := k.2.2.2; have := g.2.1; show (gsF A st sp f (stepF A st sp p).2).1 + 1 + mu A (gsF A st sp f (stepF A st sp p).2).2 ≤ mu A p; omega⟩
    | some g =>
      rw [gsF_s hg]
      exact ⟨hp, rfl, ⟨g, hg⟩, by show 0 + mu A p ≤ mu A p; omega⟩
theorem gsF_all {A : PM} {N st sp : Nat} (hA : okM A) : ∀ f f' p, PI A N p → mu A p < f → mu A p < f' → gsF A st sp f p = gsF A st sp f' p := by
  intro f
  induction f with
  | zero => intro f' p _ h; omega
  | succ f ih =>
    intro f' p hp h h'
    obtain ⟨f', rfl⟩ : ∃ g, f' = g + 1 := ⟨f' - 1, by omega⟩
    cases hg : qg p with
    | none =>
      have g := hp.step (st := st) (sp := sp) hA hg
      rw [gsF_n hg, gsF_n hg, ih f' _ g.1 (by have := g.2.1; omega) (by have := g.2.1; omega)]
    | some g => rw [gsF_s hg, gsF_s hg]
/-- learning begins with steps till there is a guess -/
theorem lnF_gs {A : PM} {N st sp : Nat} (hA : okM A) : ∀ f p, PI A N p → mu A p < f → learnF A st sp p = ((gsF A st sp f p).1 + (learnF A st sp (gsF A st sp f p).2).1, (learnF A st sp (gsF A st sp f p).2).2) := by
  intro f
  induction f with
  | zero => intro p _ h; omega
  | succ f ih =>
    intro p hp h
    cases hg : qg p with
    | none =>
      have g := hp.step (st := st) (sp := sp) hA hg
      have k := ih _ g.1 (by have := g.2.1; omega)
      have e : learnF A st sp p = ((learnF A st sp (stepF A st sp p).2).1 + 1, (learnF A st sp (stepF A st sp p).2).2) := by
        rw [← learn_of (f := mu A p + 1) hA hp (by omega), lnF_n hg, learn_of hA g.1 (by have := g.2.1; omega)]
      rw [gsF_n hg]
      obtain ⟨G, hG⟩ : ∃ G, G = gsF A st sp f (stepF A st sp p).2 := ⟨_, rfl⟩
      rw [← hG] at k ⊢
      obtain ⟨L, hL⟩ : ∃ L, L = learnF A st sp G.2 := ⟨_, rfl⟩
      rw [← hL] at k
      rw [e, k]
      dsimp only
      rw [← hL, Nat.add_right_comm]
    | some g =>
      rw [gsF_s hg]
      dsimp only
      obtain ⟨L, hL⟩ : ∃ L, L = learnF A st sp p := ⟨_, rfl⟩
      rw [← hL, Nat.zero_add]
section MSt
variable {d m u st sp N : Nat} {Q : Option Value → Mem → Prop} {M M' : Mem} {A : PM} {p : PS}
theorem MoP.sh (h : MoP M m u A st sp p) : MoSh M m ∧ u < 2 ∧ okM A := by
  obtain ⟨s, -, i, -⟩ := h
  exact ⟨i.sh, i.1.2, i.ok⟩
theorem MoP.gf (h : MoP M m u A st sp p) : (qg p = none → mI M (m + 15) u = nI 0) ∧ ∀ g, qg p = some g → MoG M m u (some g) := by
  obtain ⟨s, -, i, -, g, -⟩ := h
  constructor
  · intro e; rw [e] at g; exact g
  · intro g' e; rw [e] at g; exact g
theorem w_X12_steps (hd : 7 < d) (hP : MoP M m u A st sp p) (hI : PI A N p) (hN : N ≤ 4600) (hgn : qg p = none)
    (h : ∀ M', Fu m u M M' → MoP M' m u A st sp (stepF A st sp p).2 → ((stepF A st sp p).1 = 1 → ∃ w, qH (stepF A st sp p).2 = qH p ++ [w] ∧ mJ M' m 23 = lN (cd w)) → ((stepF A st sp p).1 = 2 → ∃ w, qT (stepF A st sp p).2 = qT p ++ [w] ∧ mJ M' m 23 = lN (cd w)) → Q (some (.int (nI (stepF A st sp p).1))) M') : ClD d mdX12_steps [.ref m, .int (nI u)] M Q := by
  obtain ⟨s, es, hi, ⟨i5, i14⟩, hg, hK⟩ := hP
  rw [hgn] at hg
  have hg : mI M (m + 15) u = nI 0 := hg
  have hA := hi.ok
  have l3 := hA.2.1.2
  have a8 := hA.1.2
  have a2 := hi.1.2
  have hlens := hI.lens hA
  obtain ⟨X, x1, x2, x3⟩ := hI.ask hA
  have h3 := hI.2.2.1
  have hnil := hI.nil
  have vu : vp_in (nI u) 2 := z_in a2 (by omega)
  have xs : ∀ v, v ∈ s.1 → v ∈ X := fun v hv => x1 v ((es.2.1 v).mp hv)
  have f10 := hi.sh.f10
  have hst := hI.step (st := st) (sp := sp) hA hgn
  refine ⟨7, hd, Cl.of moX12_steps (Nat.le_of_ble_eq_true rfl) (gX12_steps_0 hi.sh.1 (by rw [f10.1]; exact f10.2.1) (by rw [f10.1, f10.2.2]; exact vu) (fun c => ?_) (fun c => ?_))⟩ <;> rw [f10.1, nI_clamp (by omega), i5, nI_eq (by omega) (by decide)] at c
  · have hH0 : 0 < (qH p).length := List.length_pos_of_mem hnil.1
    have eF : stepF A st sp p = stepT A st sp p := if_neg c
    rw [eF] at h
    refine w_X12_asksAll (by decide) hi hlens.2.2.1 xs x2 (by omega) (fun M1 s1 S1 F1 I1 e1 => gX12_steps_32 I1.sh.1 ?_)
    have e2 : eqS s1 (aSs st sp (qs p) (rwW (pl A) (qH p) (qT p))) := e1.tr es.as
    have k5 : ∀ {M2 : Mem} {S : List Nat}, Sm S M1 M2 → m + 5 ∉ S → m + 14 ∉ S → mI M2 (m + 5) u = nI (qm p) ∧ mI M2 (m + 14) u = nI (ql p) := fun S h1 h2 => by
      rw [S.I h1, S.I h2, S1.I (by simp), S1.I (by simp)]; exact ⟨i5, i14⟩
    have k15 : ∀ {M2 : Mem} {S : List Nat}, Sm S M1 M2 → m + 15 ∉ S → mI M2 (m + 15) u = nI 0 := fun S h1 => by
      rw [S.I h1, S1.I (by simp)]; exact hg
    refine w_X12_closes (by decide) I1 (by have := hlens.2.2.2.1.1; omega) (fun v hv => by have := hlens.1 v hv; omega) (fun i M2 ho S2 F2 I2 hc => gX12_steps_37 I2.sh.1 (by have := I2.sh.f10; rw [this.1]; exact this.2.1) (fun c0 => absurd c0 (by decide)) (fun c0 => absurd c0 (by decide)) (fun c0 => absurd c0 (by decide)) (fun _ => ⟨⟨_, rfl⟩, ?_⟩)) (fun ho => ?_)
    · have e : fO A (qH p) (qT p) = some i := isF_un (ff_is _ _) ho
      have es' : stepT A st sp p = (1, qm p, aSs st sp (qs p) (rwW (pl A) (qH p) (qT p)), ql p, qH p ++ [hx A (qH p) i], qT p, qK p, none) := by
        unfold stepT; rw [e]; rfl
      rw [es'] at h
      exact h M2 (F1.tr F2) ⟨s1, e2, I2, k5 S2 (by simp) (by simp), k15 S2 (by simp), fun q => absurd q c⟩ (fun _ => ⟨_, rfl, hc⟩) (fun q => absurd q (show ¬ (1 : Nat) = 2 by decide))
    · have e : fO A (qH p) (qT p) = none := isF_un (ff_is _ _) ho
      have f10 := I1.sh.f10
      have i51 := (k5 (Sm.rf [] M1) (by simp) (by simp)).1
      have GT : ∀ M2 : Mem, M2 = M1 → (if qm p = 0 then fPt A (qH p) (qT p) else none) = none → Wp 7 mdX12_steps 61 [(0, .ref m), (1, .int (nI u))] [] M2 (fun r M' => ROK mdX12_steps r ∧ Q r M') := by
        intro M2 hM2 hp
        subst hM2
        refine gX12_steps_61 I1.sh.1 (w_X12_guessesByTable (by decide) I1 hH0 ho (fun M3 S3 F3 I3 G3 => gX12_steps_66 ⟨⟨_, rfl⟩, ?_⟩))
        have es' : stepT A st sp p = (0, qm p, aSs st sp (qs p) (rwW (pl A) (qH p) (qT p)), ql p, qH p, qT p, qK p, some (aT A (qH p) (qT p), gT A (qH p) (qT p))) := by
          unfold stepT; rw [e]; dsimp only; rw [hp]
        rw [es'] at h
        exact h M3 (F1.tr F3) ⟨s1, e2, I3, k5 S3 (by simp) (by simp), G3, fun q => absurd q c⟩ (fun q => absurd q (show ¬ (0 : Nat) = 1 by decide)) (fun q => absurd q (show ¬ (0 : Nat) = 2 by decide))
      refine gX12_steps_37 I1.sh.1 (by rw [f10.1]; exact f10.2.1) (fun _ => by rw [f10.1, f10.2.2]; exact vu) (fun _ c1 => ?_) (fun _ c1 => ?_) (fun c0 => absurd rfl c0)
      · rw [f10.1, nI_clamp (by omega), i51] at c1
        exact GT M1 rfl (if_neg (fun q => c1 (by rw [q]; rfl)))
      · rw [f10.1, nI_clamp (by omega), i51] at c1
        have c1 : nI (qm p) = nI 0 := c1
        rw [nI_eq (by omega) (by decide)] at c1
        refine w_X12_agrees (by decide) I1 (by have := hlens.2.2.2.1.2; omega) (fun v hv => by have := hlens.2.1 v hv; omega) (fun i M2 ho2 S2 F2 I2 hc => gX12_steps_56 (fun c0 => absurd c0 (by decide)) (fun _ => ⟨⟨_, rfl⟩, ?_⟩)) (fun ho2 => gX12_steps_56 (fun _ => GT M1 rfl ?_) (fun c0 => absurd rfl c0))
        · have ep : fPt A (qH p) (qT p) = some i := isF_un (ff_is _ _) ho2
          have es' : stepT A st sp p = (2, qm p, aSs st sp (qs p) (rwW (pl A) (qH p) (qT p)), ql p, qH p, qT p ++ [nTl A (qH p) (qT p) i], qK p, none) := by
            unfold stepT; rw [e]; dsimp only; rw [if_pos c1, ep]
          rw [es'] at h
          exact h M2 (F1.tr F2) ⟨s1, e2, I2, k5 S2 (by simp) (by simp), k15 S2 (by simp), fun q => absurd q c⟩ (fun q => absurd q (show ¬ (2 : Nat) = 1 by decide)) (fun _ => ⟨_, rfl, hc⟩)
        · rw [if_pos c1]; exact isF_un (ff_is _ _) ho2
  · have hR := hI.2.2.2.2 c
    obtain ⟨r1, -, -, -, -⟩ := hR
    have hK := hK c
    have eF : stepF A st sp p = stepR A st sp p := if_pos c
    refine w_X12_growsLeaf (by decide) hi hK r1 hlens.2.2.1 hnil.2 xs x2 (by omega) (fun i M1 ho S1 F1 I1 K1 hc => gX12_steps_15 I1.sh.1 (fun c0 => absurd c0 (by decide)) (fun _ => ⟨⟨_, rfl⟩, ?_⟩)) (fun M1 ho S1 F1 I1 => gX12_steps_15 I1.sh.1 (fun _ => ?_) (fun c0 => absurd rfl c0))
    · have e : fL A (qH p) (qT p) (qK p) = some i := isF_un (ff_is _ _) ho
      have es' : stepF A st sp p = (1, qm p, aSs st sp (qs p) (swN A (qH p) (qT p) (qK p) (i + 1)), ql p, qH p ++ [hx A (qH p) i], qT p, upN (qK p) (sfP A (qT p) (qK p) (hx A (qH p) i)) (1 + (qH p).length), none) := by
        rw [eF]; unfold stepR; rw [e]
      rw [es'] at h
      refine h M1 F1 ⟨_, es.as, I1, ⟨?_, ?_⟩, ?_, fun _ => K1⟩ (fun _ => ⟨_, rfl, hc⟩) (fun q => absurd q (show ¬ (1 : Nat) = 2 by decide))
      · rw [S1.I (by simp)]; exact i5
      · rw [S1.I (by simp)]; exact i14
      · show mI M1 (m + 15) u = nI 0
        rw [S1.I (by simp)]; exact hg
    · have e : fL A (qH p) (qT p) (qK p) = none := isF_un (ff_is _ _) ho
      have es' : stepF A st sp p = (0, qm p, aSs st sp (qs p) (swN A (qH p) (qT p) (qK p) ((qH p).length * pl A)), ql p, qH p, qT p, qK p, some (qH p, gR A (qH p) (qT p) (qK p))) := by
        rw [eF]; unfold stepR; rw [e]
      rw [es'] at h hst
      have hgo := (hst.1.gu hA (show qg _ = some (qH p, gR A (qH p) (qT p) (qK p)) from rfl)).1
      refine w_X12_guessesByTree (X := X) (by decide) I1 (hK.sm S1 (by simp)) r1 hlens.2.2.1 (List.length_pos_of_mem hnil.1) ho (fun v hv => (aSs_mem _ _ _ _ _).mpr (Or.inr hv)) (fun v hv => ?_) x2 (by omega) hgo (fun M2 S2 F2 I2 G2 => gX12_steps_25 ⟨⟨_, rfl⟩, ?_⟩)
      · rcases (aSs_mem _ _ _ _ _).mp hv with q | q
        · exact xs v q
        · exact hx_cov r1 x2 _ v q (Nat.le_refl _)
      · refine h M2 (F1.tr F2) ⟨_, es.as, I2, ⟨?_, ?_⟩, G2, fun _ => (hK.sm S1 (by simp)).sm S2 (by simp)⟩ (fun q => absurd q (show ¬ (0 : Nat) = 1 by decide)) (fun q => absurd q (show ¬ (0 : Nat) = 2 by decide))
        · rw [S2.I (by simp), S1.I (by simp)]; exact i5
        · rw [S2.I (by simp), S1.I (by simp)]; exact i14
theorem w_X12_stepsTillGuess (hd : 8 < d) (hP : MoP M m u A st sp p) (hI : PI A N p) (hN : N ≤ 4600)
    (h : ∀ M', Fu m u M M' → MoP M' m u A st sp (gsF A st sp 40 p).2 → Q (some (.int (nI (gsF A st sp 40 p).1))) M') : ClD d mdX12_stepsTillGuess [.ref m, .int (nI u)] M Q := by
  obtain ⟨-, a2, hA⟩ := hP.sh
  refine ⟨8, hd, Cl.of moX12_stepsTillGuess (Nat.le_of_ble_eq_true rfl) (gX12_stepsTillGuess_0 ?_)⟩
  have vu : vp_in (nI u) 2 := z_in a2 (by omega)
  have hmu : mu A p < 40 := mu_lt
  suffices G : ∀ f n q M1, mu A q < f → n + f ≤ 100 → PI A N q → MoP M1 m u A st sp q → Fu m u M M1 → (∀ M', Fu m u M M' → MoP M' m u A st sp (gsF A st sp f q).2 → Q (some (.int (nI (n + (gsF A st sp f q).1)))) M') → Wp 8 mdX12_stepsTillGuess 2 [(0, .ref m), (1, .int (nI u)), (2, .int (nI n))] [] M1 (fun r M' => ROK mdX12_stepsTillGuess r ∧ Q r M') from
    G 40 0 p M hmu (by decide) hI hP (Fu.rf _ _ _) (fun M' a b => by rw [Nat.zero_add]; exact h M' a b)
  intro f
  induction f with
  | zero => intro n q M1 h0; omega
  | succ f ih =>
    intro n q M1 h0 hn hIq hPq F hq
    have f20 := hPq.sh.1.f20
    cases hg : qg q with
    | none =>
      have hg0 := hPq.gf.1 hg
      have hst := hIq.step (st := st) (sp := sp) hA hg
      rw [gsF_n hg] at hq
      refine gX12_stepsTillGuess_2 hPq.sh.1.1 (by rw [f20.1]; exact f20.2.1) (by rw [f20.1, f20.2.2]; exact vu) (fun c => ?_) (fun _ => ?_)
      · rw [f20.1, nI_clamp (by omega), hg0] at c; exact absurd rfl c
      · refine w_X12_steps (by decide) hPq hIq hN hg (fun M2 F2 P2 _ _ => gX12_stepsTillGuess_16 ?_)
        rw [nI_add]
        refine ih (n + 1) _ M2 (by have := hst.2.1; omega) (by omega) hst.1 P2 (F.tr F2) (fun M' a b => ?_)
        have := hq M' a b
        rw [show n + ((gsF A st sp f (stepF A st sp q).2).1 + 1) = n + 1 + (gsF A st sp f (stepF A st sp q).2).1 by omega] at this
        exact this
    | some g =>
      have hg1 := (hPq.gf.2 g hg).1
      rw [gsF_s hg] at hq
      refine gX12_stepsTillGuess_2 hPq.sh.1.1 (by rw [f20.1]; exact f20.2.1) (by rw [f20.1, f20.2.2]; exact vu) (fun _ => ⟨⟨_, rfl⟩, hq M1 F hPq⟩) (fun c => ?_)
      rw [f20.1, nI_clamp (by omega), hg1] at c
      exact absurd c (by decide)
end MSt
