/-! the reference: all is learnt -/
/-- what a pupil's learning may change -/
def fxL (m : Nat) : List Nat := m :: (List.range 19).map (fun i => m + 2 + i)
theorem fxL_mem {m p : Nat} : p ∈ fxL m ↔ p = m ∨ (m + 2 ≤ p ∧ p < m + 21) := by
  unfold fxL
  simp only [List.mem_cons, List.mem_map, List.mem_range]
  constructor
  · rintro (h | ⟨i, i1, i2⟩)
    · exact Or.inl h
    · exact Or.inr (by omega)
  · rintro (h | h)
    · exact Or.inl h
    · exact Or.inr ⟨p - m - 2, by omega, by omega⟩
def Fx (m u : Nat) (M M' : Mem) : Prop := Sm (fxL m) M M' ∧ (∀ j, j ≠ 24 → j ≠ 25 → mI M' m j = mI M m j) ∧ ∀ p j, 2 ≤ p → p ≤ 17 → ¬ ow u p j → mI M' (m + p) j = mI M (m + p) j ∧ mJ M' (m + p) j = mJ M (m + p) j
theorem Fx.rf (m u : Nat) (M : Mem) : Fx m u M M := ⟨Sm.rf _ _, fun _ _ _ => rfl, fun _ _ _ _ _ => ⟨rfl, rfl⟩⟩
theorem Fx.tr {m u : Nat} {M M1 M2 : Mem} (h : Fx m u M M1) (k : Fx m u M1 M2) : Fx m u M M2 :=
  ⟨h.1.tr k.1, fun j a b => (k.2.1 j a b).trans (h.2.1 j a b), fun p j a b c => ⟨((k.2.2 p j a b c).1).trans (h.2.2 p j a b c).1, ((k.2.2 p j a b c).2).trans (h.2.2 p j a b c).2⟩⟩
theorem Fu.x {m u : Nat} {M M' : Mem} (h : Fu m u M M') : Fx m u M M' := ⟨h.1.mono (fun p hp => by rw [moL_mem] at hp; rw [fxL_mem]; omega), h.2⟩
theorem Sm.x {m u : Nat} {M M' : Mem} (h : Sm [m + 18, m + 19, m + 20] M M') : Fx m u M M' := by
  refine ⟨h.mono (fun p hp => by rw [fxL_mem]; simp at hp; omega), fun j _ _ => by rw [h.I (by simp)], fun p j a b _ => ⟨?_, ?_⟩⟩
  · rw [h.I (fun q => by simp at q; omega)]
  · rw [h.J (fun q => by simp at q; omega)]
theorem ow_ne {u v p j : Nat} (h : u ≠ v) (hp : 5 ≤ p) (hq : ow v p j) : ¬ ow u p j := by
  unfold ow at *
  split at hq <;> omega
section MLa
variable {d m u st sp N : Nat} {Q : Option Value → Mem → Prop} {M M' : Mem} {A : PM} {p : PS}
/-- a pupil under changes elsewhere -/
theorem MoP.sm {S : List Nat} (h : Sm S M M') (hS : ∀ q, q ∈ S → ¬ (m ≤ q ∧ q < m + 18)) (hP : MoP M m u A st sp p) : MoP M' m u A st sp p := by
  obtain ⟨s, es, ⟨⟨a1, a2⟩, ⟨b1, b2, b3⟩, c, e, f, ⟨g1, g2⟩, ⟨i1, i2⟩, j, k⟩, ⟨i5, i14⟩, hg, hK⟩ := hP
  have nI' : ∀ q, q < 18 → mI M' (m + q) = mI M (m + q) := fun q hq => h.I (fun z => hS _ z (by omega))
  have nJ' : ∀ q, q < 18 → mJ M' (m + q) = mJ M (m + q) := fun q hq => h.J (fun z => hS _ z (by omega))
  have n0 : mI M' m = mI M m := nI' 0 (by decide)
  have nn : ∀ q, q < 18 → m + q ∉ S := fun q hq z => hS _ z (by omega)
  refine ⟨s, es, ⟨⟨a1.sm h, a2⟩, ⟨by rw [n0]; exact b1, by rw [n0]; exact b2, by rw [n0]; exact b3⟩, c.sm h (nn 2 (by decide)) (nn 3 (by decide)) (nn 4 (by decide)), e, f.sm h (nn 11 (by decide)) (nn 12 (by decide)) (nn 13 (by decide)), ⟨by rw [nI' 6 (by decide)]; exact g1, by rw [nI' 7 (by decide)]; exact g2⟩, ⟨fun q hq => by rw [nJ' 8 (by decide), nI' 9 (by decide)]; exact i1 q hq, fun q hq => by rw [nJ' 10 (by decide)]; exact i2 q hq⟩, j, k⟩, ⟨by rw [nI' 5 (by decide)]; exact i5, by rw [nI' 14 (by decide)]; exact i14⟩, ?_, fun c3 => (hK c3).sm h (nn 17 (by decide))⟩
  cases hq : qg p with
  | none => rw [hq] at hg; show mI M' (m + 15) u = nI 0; rw [nI' 15 (by decide)]; exact hg
  | some g =>
    rw [hq] at hg
    obtain ⟨g1, g2, g3, g4, g5⟩ := hg
    exact ⟨by rw [nI' 15 (by decide)]; exact g1, fun j hj => by rw [nJ' 16 (by decide)]; exact g2 j hj, g3.sm h (nn 2 (by decide)) (nn 3 (by decide)) (nn 4 (by decide)), g4, g5⟩
/-- the other pupil stays -/
theorem MoP.oth {v : Nat} (F : Fx m u M M') (huv : u ≠ v) (hu2 : u < 2) (hT : qm p = 3 → (qT p).length ≤ 8) (hP : MoP M m v A st sp p) : MoP M' m v A st sp p := by
  obtain ⟨s, es, ⟨⟨a1, a2⟩, ⟨b1, b2, b3⟩, c, e, f, ⟨g1, g2⟩, ⟨i1, i2⟩, j, k1, k2⟩, ⟨i5, i14⟩, hg, hK⟩ := hP
  have o : ∀ p j, 5 ≤ p → p ≤ 17 → ow v p j → mI M' (m + p) j = mI M (m + p) j ∧ mJ M' (m + p) j = mJ M (m + p) j := fun p j h1 h2 h3 => F.2.2 p j (by omega) h2 (ow_ne huv h1 h3)
  have mm : ∀ (k : Nat) (B : PM), k ≠ 1 + u → pn B ≤ 8 → pl B ≤ 3 → MoM M m k B → MoM M' m k B := fun k B hk hB hl ⟨h1, h2, h3⟩ => by
    refine ⟨?_, fun s hs => ?_, fun s hs x hx => ?_⟩
    · rw [(F.2.2 2 k (by decide) (by decide) (by show ¬ k = 1 + u; exact hk)).1]; exact h1
    · rw [(F.2.2 3 (8 * k + s) (by decide) (by decide) (by show ¬ (8 * (1 + u) ≤ _ ∧ _); omega)).1]; exact h2 s hs
    · rw [(F.2.2 4 (3 * (8 * k + s) + x) (by decide) (by decide) (by show ¬ (24 * (1 + u) ≤ _ ∧ _); omega)).1]; exact h3 s hs x hx
  refine ⟨s, es, ⟨⟨a1.sm F.1, a2⟩, ⟨?_, ?_, ?_⟩, mm 0 A (by omega) e.1.2 e.2.1.2 c, e, ?_, ⟨?_, ?_⟩, ⟨fun q hq => ?_, fun q hq => ?_⟩, j, k1, k2⟩, ⟨?_, ?_⟩, ?_, fun c3 c hc => ?_⟩
  · rw [F.2.1 3 (by decide) (by decide)]; exact b1
  · rw [F.2.1 8 (by decide) (by decide)]; exact b2
  · rw [F.2.1 9 (by decide) (by decide)]; exact b3
  · obtain ⟨T, t1, t2, t3, t4, ⟨t5, t6⟩, t7⟩ := f
    refine ⟨T, fun c hc => ?_, t2, t3, t4, ⟨?_, ?_⟩, t7⟩
    · rw [(o 11 (16384 * v + c) (by decide) (by decide) (by show 16384 * v ≤ _ ∧ _; omega)).2]; exact t1 c hc
    · rw [(o 12 v (by decide) (by decide) rfl).1]; exact t5
    · rw [(o 13 v (by decide) (by decide) rfl).1]; exact t6
  · rw [(o 6 v (by decide) (by decide) rfl).1]; exact g1
  · rw [(o 7 v (by decide) (by decide) rfl).1]; exact g2
  · rw [(o 8 (160 * v + q) (by decide) (by decide) (by show 160 * v ≤ _ ∧ _; omega)).2, (o 9 (160 * v + q) (by decide) (by decide) (by show 160 * v ≤ _ ∧ _; omega)).1]; exact i1 q hq
  · rw [(o 10 (128 * v + q) (by decide) (by decide) (by show 128 * v ≤ _ ∧ _; omega)).2]; exact i2 q hq
  · rw [(o 5 v (by decide) (by decide) rfl).1]; exact i5
  · rw [(o 14 v (by decide) (by decide) rfl).1]; exact i14
  · cases hq : qg p with
    | none => rw [hq] at hg; show mI M' (m + 15) v = nI 0; rw [(o 15 v (by decide) (by decide) rfl).1]; exact hg
    | some g =>
      rw [hq] at hg
      obtain ⟨g1, g2, g3, g4, g5⟩ := hg
      have g8 := g4.1.2
      refine ⟨?_, fun j hj => ?_, mm (1 + v) g.2 (by omega) g8 g4.2.1.2 g3, g4, g5⟩
      · rw [(o 15 v (by decide) (by decide) rfl).1]; exact g1
      · rw [(o 16 (8 * v + j) (by decide) (by decide) (by show 8 * v ≤ _ ∧ _; omega)).2]; exact g2 j hj
  · have := hT c3
    rw [(o 17 (512 * v + c) (by decide) (by decide) (by show 512 * v ≤ _ ∧ _; omega)).1]; exact hK c3 c hc
theorem w_X12_wrongFirst {g : GU} (hd : 3 < d) (hP : MoP M m u A st sp p) (hI : PI A N p) (hg : qg p = some g) (h : ∀ M', Sm [m + 18, m + 19, m + 20] M M' → MoP M' m u A st sp p → Q (some (.long (lN (fuC g.2 0 A 0)))) M') : ClD d mdX12_wrongFirst [.ref m, .int (nI u)] M Q := by
  obtain ⟨-, a2, hA⟩ := hP.sh
  have hgu := hI.gu hA hg
  have G := hP.gf.2 g hg
  have hP' := hP
  obtain ⟨s, es, hi, -⟩ := hP
  refine ⟨3, hd, Cl.of moX12_wrongFirst (Nat.le_of_ble_eq_true rfl) (gX12_wrongFirst_0 hi.sh.1 ?_)⟩
  rw [nI_add]
  refine w_X12_firstUnlike (by decide) hi.sh (by omega) (by decide) G.2.2.1 hgu.1 hi.2.2.1 hA hgu.2.1.symm (by rw [hgu.2.1]; exact hi.2.1.1) hgu.1.1.1 hA.1.1 (fun M1 S1 => gX12_wrongFirst_10 ⟨⟨_, rfl⟩, h M1 S1 (hP'.sm S1 (fun q hq => by simp at hq; omega))⟩)
theorem w_X12_learnsAll (hd : 9 < d) (hP : MoP M m u A st sp p) (hI : PI A N p) (hN : N ≤ 4600)
    (h : ∀ M', Fx m u M M' → MoP M' m u A st sp (learnF A st sp p).2 → Q (some (.int (nI (learnF A st sp p).1))) M') : ClD d mdX12_learnsAll [.ref m, .int (nI u)] M Q := by
  obtain ⟨s0, a2, hA⟩ := hP.sh
  have key : ∀ f n q g M1, mu A q < f → PI A N q → qg q = some g → MoP M1 m u A st sp q → Fx m u M M1 → (∀ M', Fx m u M M' → MoP M' m u A st sp (learnF A st sp q).2 → Q (some (.int (nI (n + (learnF A st sp q).1)))) M') → Wp 9 mdX12_learnsAll 12 [(0, .ref m), (1, .int (nI u)), (2, .int (nI n)), (3, .long (lN (fuC g.2 0 A 0)))] [] M1 (fun r M' => ROK mdX12_learnsAll r ∧ Q r M') := by
    intro f
    induction f with
    | zero => intro n q g M1 h0; omega
    | succ f ih =>
      intro n q g M1 h0 hIq hg hPq F hq
      by_cases c0 : fuC g.2 0 A 0 = 0
      · have e : learnF A st sp q = (0, q) := (learn_of (f := mu A q + 1) hA hIq (by omega)).symm.trans (lnF_0 hg c0)
        rw [e] at hq
        rw [c0]
        exact gX12_learnsAll_12 hPq.sh.1.1 (fun _ => ⟨⟨_, rfl⟩, hq M1 F hPq⟩) (fun c => absurd rfl c)
      · obtain ⟨w1, w2, w3, w4⟩ := hIq.fu hA hg c0
        obtain ⟨w, hw⟩ : ∃ w, w = wdC (fuC g.2 0 A 0) := ⟨_, rfl⟩
        have k := hIq.les (st := st) (sp := sp) hA hg w1 w2 w3
        have e : learnF A st sp q = learnF A st sp (lesF A st sp q g w).2 := by
          have := (learn_of (f := mu A q + 1) (st := st) (sp := sp) hA hIq (by omega)).symm.trans (lnF_1 hg c0)
          rw [this, hw]
          exact learn_of hA k.1 (by have := k.2.1; omega)
        rw [← hw] at w1 w2 w3 w4 k
        have hb := cd30 (vw_mono w1 (show pl A ≤ 4 by have := hA.2.1.2; omega)) (by omega)
        have hb2 := cd_pos w
        rw [e, lnF_gs hA 40 _ k.1 mu_lt] at hq
        rw [w4]
        refine gX12_learnsAll_12 hPq.sh.1.1 (fun c => ?_) (fun _ => ?_)
        · exfalso; rw [pk_lEQ (by omega) (by decide)] at c; omega
        · refine w_X12_lesson (by decide) hPq hIq hN hg w1 w2 w3 (fun M2 F2 P2 => gX12_learnsAll_24 P2.sh.1.1 ?_)
          have G40 := gsF_PI (st := st) (sp := sp) hA 40 _ k.1 mu_lt
          refine w_X12_stepsTillGuess (by decide) P2 k.1 hN (fun M3 F3 P3 => gX12_learnsAll_31 P3.sh.1.1 ?_)
          obtain ⟨R, hR⟩ : ∃ R, R = gsF A st sp 40 (lesF A st sp q g w).2 := ⟨_, rfl⟩
          rw [← hR] at G40 P3 hq
          obtain ⟨G1, -, ⟨g', G3⟩, G4⟩ := G40
          rw [← hR]
          refine w_X12_wrongFirst (by decide) P3 G1 G3 (fun M4 S4 P4 => gX12_learnsAll_38 ?_)
          rw [nI_add]
          refine ih (n + R.1) R.2 g' M4 (by have := k.2.1; omega) G1 G3 P4 (((F.tr F2.x).tr F3.x).tr S4.x) (fun M' a b => ?_)
          rw [Nat.add_assoc]
          exact hq M' a b
  refine ⟨9, hd, Cl.of moX12_learnsAll (Nat.le_of_ble_eq_true rfl) (gX12_learnsAll_0 s0.1 ?_)⟩
  have G40 := gsF_PI (st := st) (sp := sp) hA 40 _ hI mu_lt
  rw [lnF_gs hA 40 _ hI mu_lt] at h
  refine w_X12_stepsTillGuess (by decide) hP hI hN (fun M3 F3 P3 => gX12_learnsAll_5 P3.sh.1.1 ?_)
  obtain ⟨R, hR⟩ : ∃ R, R = gsF A st sp 40 p := ⟨_, rfl⟩
  rw [← hR] at G40 P3 h
  obtain ⟨G1, -, ⟨g', G3⟩, G4⟩ := G40
  rw [← hR]
  refine w_X12_wrongFirst (by decide) P3 G1 G3 (fun M4 S4 P4 => gX12_learnsAll_11 ?_)
  exact key (mu A R.2 + 1) R.1 R.2 g' M4 (by omega) G1 G3 P4 (F3.x.tr S4.x) h
end MLa
