/-! the class's Pupil learns -/
section Learn
variable {z d r b P st sp : Nat} {Q : Option Value → Mem → Prop} {M : Mem} {A : PM} {p : PS}
theorem TI.fm2 {s : List (List Nat) × Nat} {H T : List (List Nat)} {S : List Nat} {M' : Mem} (h : Fm S M M') (hS : ∀ q, q ∈ S → (q ≠ r ∧ q ≠ r + 1 ∧ q ≠ slq M r) ∧ (q ≠ 3 ∧ q ≠ 4 ∧ q ≠ 5) ∧ ¬ (b < q ∧ q < b + 5)) (hi : TI z M b r A st sp s H T) : TI z M' b r A st sp s H T := by
  obtain ⟨a, c, ⟨e1, e2⟩, f, g, k, l⟩ := hi
  have q0 := c.2.2.2.2.2
  exact ⟨a.fm h (by omega), c.fm h (fun q => (hS _ q).1.1 rfl) (fun q => (hS _ q).1.2.1 rfl) (fun q => (hS _ q).1.2.2 rfl) (fun q => (hS _ q).2.1.1 rfl) (fun q => (hS _ q).2.1.2.1 rfl) (fun q => (hS _ q).2.1.2.2 rfl), ⟨e1.fm h (by omega) (fun q => (hS _ q).2.2 (by omega)) (fun q => (hS _ q).2.2 (by omega)), e2.fm h (by omega) (fun q => (hS _ q).2.2 (by omega)) (fun q => (hS _ q).2.2 (by omega))⟩, f, g, k, l⟩
theorem RI.fm2 {s : List (List Nat) × Nat} {H T : List (List Nat)} {K : Nat → Nat} {S : List Nat} {M' : Mem} (h : Fm S M M') (hS : ∀ q, q ∈ S → (q ≠ r ∧ q ≠ r + 1 ∧ q ≠ slq M r) ∧ (q ≠ 3 ∧ q ≠ 4 ∧ q ≠ 5) ∧ ¬ (b < q ∧ q < b + 12)) (hi : RI z M b r A st sp s H T K) : RI z M' b r A st sp s H T K := by
  obtain ⟨a, c, ⟨e1, e2⟩, f, g, k, l⟩ := hi
  have q0 := c.2.2.2.2.2
  exact ⟨TrSh.fm h (by omega) a, c.fm h (fun q => (hS _ q).1.1 rfl) (fun q => (hS _ q).1.2.1 rfl) (fun q => (hS _ q).1.2.2 rfl) (fun q => (hS _ q).2.1.1 rfl) (fun q => (hS _ q).2.1.2.1 rfl) (fun q => (hS _ q).2.1.2.2 rfl), ⟨e1.fm h (by omega) (fun q => (hS _ q).2.2 (by omega)) (fun q => (hS _ q).2.2 (by omega)), e2.fm h (by omega) (fun q => (hS _ q).2.2 (by omega)) (fun q => (hS _ q).2.2 (by omega))⟩, f, fun c hc => by rw [h.I (by omega) (fun q => (hS _ q).2.2 (by omega))]; exact g c hc, k, l⟩
theorem TPp.fm {S : List Nat} {M' : Mem} (h : Fm S M M') (hS : ∀ q, q ∈ S → (q ≠ r ∧ q ≠ r + 1 ∧ q ≠ slq M r) ∧ (q ≠ 3 ∧ q ≠ 4 ∧ q ≠ 5) ∧ ¬ (b ≤ q ∧ q < b + 16)) (hi : TPp z M b r A st sp p) : TPp z M' b r A st sp p := by
  obtain ⟨h3, s, s1, t1, ⟨t2, t3⟩, t4, fh, ft, ⟨t5, t6⟩, t7, t8⟩ := hi
  have q0 := t1.2.1.2.2.2.2.2
  have hz := t1.2.2.2.2.2.1
  have eb : mI M' b = mI M b := h.I (by omega) (fun q => (hS _ q).2.2 (by omega))
  have nn : ∀ p, b ≤ p → p < b + 16 → p ∉ S := fun p g1 g2 q => (hS _ q).2.2 ⟨g1, g2⟩
  exact ⟨h3, s, s1, t1.fm2 h (fun q hq => ⟨(hS q hq).1, (hS q hq).2.1, fun z => (hS q hq).2.2 (by omega)⟩), ⟨by rw [eb]; exact t2, by rw [eb]; exact t3⟩, t4.fm h (by omega) (nn _ (by omega) (by omega)) (nn _ (by omega) (by omega)) (nn _ (by omega) (by omega)) (nn _ (by omega) (by omega)) (nn _ (by omega) (by omega)), fh, ft, ⟨by rw [eb]; exact t5, by rw [eb]; exact t6⟩, t7, t8⟩
theorem RPp.fm {S : List Nat} {M' : Mem} (h : Fm S M M') (hS : ∀ q, q ∈ S → (q ≠ r ∧ q ≠ r + 1 ∧ q ≠ slq M r) ∧ (q ≠ 3 ∧ q ≠ 4 ∧ q ≠ 5) ∧ ¬ (b ≤ q ∧ q < b + 12)) (hi : RPp z M b r A st sp p) : RPp z M' b r A st sp p := by
  obtain ⟨h3, s, s1, t1, ⟨t2, t3⟩, t4⟩ := hi
  have q0 := t1.2.1.2.2.2.2.2
  have hz := t1.2.2.2.2.2.1
  have eb : mI M' b = mI M b := h.I (by omega) (fun q => (hS _ q).2.2 (by omega))
  have nn : ∀ p, b ≤ p → p < b + 12 → p ∉ S := fun p g1 g2 q => (hS _ q).2.2 ⟨g1, g2⟩
  exact ⟨h3, s, s1, t1.fm2 h (fun q hq => ⟨(hS q hq).1, (hS q hq).2.1, fun z => (hS q hq).2.2 (by omega)⟩), ⟨by rw [eb]; exact t2, by rw [eb]; exact t3⟩, t4.fm h (by omega) (nn _ (by omega) (by omega)) (nn _ (by omega) (by omega)) (nn _ (by omega) (by omega)) (nn _ (by omega) (by omega)) (nn _ (by omega) (by omega))⟩
theorem CP.hz (hc : CP z M P A st sp p) : (slq M (P + 1) = P + 3 ∨ z ≤ slq M (P + 1)) ∧ z ≤ mC M + 2 ∧ okM A ∧ MacSh M 3 ∧ MacAt M 3 A := by
  obtain ⟨s, -, i⟩ := hc.ai
  exact ⟨i.2.2.2.2.2.1, i.2.2.2.2.2.2.1, i.2.2.2.2.1, i.2.2.1, i.2.2.2.1⟩
/-- what does not touch a pupil -/
theorem CP.fm {S : List Nat} {M' : Mem} (h : Fm S M M') (hS : ∀ q, q ∈ S → q ≠ slq M (P + 1) ∧ (q ≠ 3 ∧ q ≠ 4 ∧ q ≠ 5) ∧ ¬ (P ≤ q ∧ q < P + 32)) (hc : CP z M P A st sp p) : CP z M' P A st sp p := by
  have hzz := hc.hz
  obtain ⟨a, ⟨b1, b2⟩, c, d, e⟩ := hc
  have hP : P ∉ S := fun q => (hS _ q).2.2 (by omega)
  have e1 := h.1 P (by omega) hP
  refine ⟨a.fm h (by omega), ⟨by rw [e1.2.2]; exact b1, by rw [e1.1]; exact b2⟩, fun q => (c q).fm h (fun x hx => ?_), fun q => (d q).fm h (fun x hx => ?_), e⟩ <;> (have := hS x hx; refine ⟨⟨by omega, by omega, this.1⟩, this.2.1, by omega⟩)
/-- the pupil behind a step or a lesson -/
theorem CP.up {S : List Nat} {M' : Mem} {p' : PS} (hc : CP z M P A st sp p) (F : Fa (P + 1) S M M') (hS : ∀ q, q ∈ S → P < q) (hm : qm p' = qm p) (ht : qm p ≠ 3 → TPp z M' (P + 4) (P + 1) A st sp p') (hr : qm p = 3 → RPp z M' (P + 20) (P + 1) A st sp p') : CP z M' P A st sp p' ∧ mI M' P = mI M P := by
  have hzz := hc.hz
  obtain ⟨a, ⟨b1, b2⟩, c, d, e⟩ := hc
  have hP : P ∉ slq M (P + 1) :: S := fun q => by
    rcases List.mem_cons.mp q with g | g
    · omega
    · have := hS _ g; omega
  have e1 := F.1.1 P (by omega) hP
  refine ⟨⟨a.fm F.1 (by omega), ⟨by rw [e1.2.2, hm]; exact b1, by rw [e1.1, hm]; exact b2⟩, fun q => ht (by rw [← hm]; exact q), fun q => hr (by rw [← hm]; exact q), e⟩, e1.1⟩
def puL (P : Nat) : List Nat := 13 :: 14 :: 15 :: puS P
theorem puL_mem {P p : Nat} : p ∈ puL P ↔ p = 13 ∨ p = 14 ∨ p = 15 ∨ (P ≤ p ∧ p < P + 32) := by
  unfold puL
  simp only [List.mem_cons, puS_mem]
/-- the guess of a pupil, where it lies -/
def bP (P : Nat) (p : PS) : Nat := if qm p = 3 then P + 20 else P + 4
theorem CP.gue (hc : CP z M P A st sp p) : (∃ cn, NotSh M (bP P p) (P + 1) cn ∧ (qm p = 3 → cn = 6) ∧ (qm p ≠ 3 → cn = 4)) ∧ GueAt M (bP P p) (qg p) ∧ mR M P 3 = bP P p := by
  obtain ⟨a, ⟨b1, b2⟩, c, d, e⟩ := hc
  unfold bP
  by_cases q : qm p = 3
  · rw [if_pos q] at b1 ⊢
    obtain ⟨-, s, -, t1, -, t4⟩ := d q
    exact ⟨⟨6, t1.1.1, fun _ => rfl, fun z => absurd q z⟩, t4, b1⟩
  · rw [if_neg q] at b1 ⊢
    obtain ⟨-, s, -, t1, -, t4, -⟩ := c q
    exact ⟨⟨4, t1.1.1, fun z => absurd z q, fun _ => rfl⟩, t4, b1⟩
theorem SeaSh.fm {S : List Nat} {M' : Mem} {r : Nat} (h : Fm S M M') (hl : r + 4 < mC M + 2) (hs : SeaSh M r) (hr : r ∉ S) : SeaSh M' r := by
  obtain ⟨⟨a1, a2, a3⟩, b, ⟨c1, c2⟩, ⟨d1, d2⟩, ⟨e1, e2⟩, f1, f2⟩ := hs
  have e := (h.1 r (by omega) hr).2.2
  refine ⟨⟨by rw [h.K (by omega)]; exact a1, by rw [e]; exact a2, by rw [e]; exact a3⟩, by rw [e]; exact b, ⟨by rw [h.K (by omega)]; exact c1, by rw [h.N (by omega)]; exact c2⟩, ⟨by rw [h.K (by omega)]; exact d1, by rw [h.N (by omega)]; exact d2⟩, ⟨by rw [h.K (by omega)]; exact e1, by rw [h.N (by omega)]; exact e2⟩, by rw [h.K (by omega)]; exact f1, by rw [h.N (by omega)]; exact f2⟩
theorem CP.s5 {j : Nat} {x : Int32} (hj : j ≠ 4) (hc : CP z M P A st sp p) : CP z (sI M P j x) P A st sp p := by
  have hzz := hc.hz
  obtain ⟨a, ⟨b1, b2⟩, c, d, e⟩ := hc
  have S : Sm [P] M (sI M P j x) := Sm.sI (by simp) _ _ _
  refine ⟨a.fm S.fm (by omega), ⟨b1, by rw [rI_nk (Ne.symm hj)]; exact b2⟩, fun q => (c q).fm S.fm (fun y hy => ?_), fun q => (d q).fm S.fm (fun y hy => ?_), e⟩ <;> (simp at hy; subst hy; refine ⟨⟨by omega, by omega, by omega⟩, ⟨by omega, by omega, by omega⟩, by omega⟩)
theorem w_step {N : Nat} {d' : Nat} (hd : 5 < d') (hc : CP z M P A st sp p) (hp : PI A N p) (hN : N ≤ 4600) (hg : qg p = none) (h : ∀ M', Fa (P + 1) (puS P) M M' → CP z M' P A st sp (stepF A st sp p).2 → mI M' P = mI M P → Q (some (.int (nI (stepF A st sp p).1))) M') : (qm p = 3 → ClD d' mdX8_advance [.ref (P + 20)] M Q) ∧ (qm p ≠ 3 → ClD d' mdX6_advance [.ref (P + 4)] M Q) := by
  have hA := hc.hz.2.2.1
  have hcc := hc
  obtain ⟨a, ⟨b1, b2⟩, c, e, f⟩ := hc
  constructor
  · intro q
    refine w_X8_advance hd (e q) hg (hp.br hA hN q) (fun M' F k => ?_)
    have es : stepF A st sp p = stepR A st sp p := if_pos q
    rw [es] at h
    have hk : qm (stepR A st sp p).2 = qm p := k.1.trans q.symm
    have u := hcc.up F (fun x hx => by rw [tabS_mem] at hx; omega) hk (fun z => absurd q z) (fun _ => k)
    exact h M' (F.mono (fun x hx => by rw [puS_mem]; rw [tabS_mem] at hx; omega)) u.1 u.2
  · intro q
    refine w_X6_advance hd (c q) hg (hp.bt hA hN) (fun M' F k => ?_)
    have es : stepF A st sp p = stepT A st sp p := if_neg q
    rw [es] at h
    have hk : qm (stepT A st sp p).2 = qm p := by
      have := (hp.sT (st := st) (sp := sp) hA q hg).2.2.1
      exact this
    have u := hcc.up F (fun x hx => by rw [tabS_mem] at hx; omega) hk (fun _ => k) (fun z => absurd z q)
    exact h M' (F.mono (fun x hx => by rw [puS_mem]; rw [tabS_mem] at hx; omega)) u.1 u.2
theorem w_les {N : Nat} {d' : Nat} {g : GU} {w : List Nat} (hd : 5 < d') (hc : CP z M P A st sp p) (hp : PI A N p) (hN : N ≤ 4600) (hg : qg p = some g) (hw : vw (pl A) w) (hwl : w.length ≤ 14) (hwr : an g.2 0 w ≠ an A 0 w) (h : ∀ M', Fa (P + 1) (puS P) M M' → CP z M' P A st sp (lesF A st sp p g w).2 → mI M' P = mI M P → Q (some (.int (nI (lesF A st sp p g w).1))) M') : (qm p = 3 → ClD d' mdX8_lesson [.ref (P + 20), .long (lN (cd w))] M Q) ∧ (qm p ≠ 3 → ClD d' mdX6_lesson [.ref (P + 4), .long (lN (cd w))] M Q) := by
  have hA := hc.hz.2.2.1
  have hcc := hc
  have hgu := hp.gu hA hg
  have hl := hp.lens hA
  have hn := hp.n hA
  have k := hp.les (st := st) (sp := sp) hA hg hw hwl hwr
  obtain ⟨a, ⟨b1, b2⟩, c, e, f⟩ := hc
  have hac : qm p ≠ 0 → ∀ u, u ∈ g.1 → vw (pl A) u ∧ u.length ≤ 14 := fun q u hu => ⟨hp.1.2.1.1 u (hgu.2.2.2.1 u hu), by have := hl.2.2.2.2.2 q u (hgu.2.2.2.1 u hu); omega⟩
  constructor
  · intro q
    have es : lesF A st sp p g w = lesR A st sp p g w := if_pos q
    rw [es] at h k
    have hR := hp.2.2.2.2 q
    refine w_X8_lesson hd (e q) hg ⟨⟨hw, hwl, k.2.2.2.1⟩, ⟨hgu.2.1, ?_, hac (by omega)⟩, by omega, ⟨hR.1, k.2.2.2.2.1 q⟩, fun u hu => by have := hl.2.2.2.2.2 (by omega) u hu; omega⟩ (fun M' F kk => ?_)
    · rw [← hgu.2.2.1, (hR.2.2.2.2 g hg).1]
    have u := hcc.up F (fun x hx => by rw [tabS_mem] at hx; omega) k.2.2.1.1 (fun z => absurd q z) (fun _ => kk)
    exact h M' (F.mono (fun x hx => by rw [puS_mem]; rw [tabS_mem] at hx; omega)) u.1 u.2
  · intro q
    have es : lesF A st sp p g w = lesT A st sp p g w := if_neg q
    rw [es] at h k
    refine w_X6_lesson hd (c q) hg ⟨⟨hw, by omega⟩, ⟨hgu.2.1, fun q0 u hu => ⟨(hac q0 u hu).1, by have := (hac q0 u hu).2; omega⟩⟩, by omega, k.2.2.2.2.2.1, k.2.2.2.2.2.2, by omega, by omega⟩ (fun M' F kk => ?_)
    have u := hcc.up F (fun x hx => by rw [tabS_mem] at hx; omega) k.2.2.1.1 (fun _ => kk) (fun z => absurd z q)
    exact h M' (F.mono (fun x hx => by rw [puS_mem]; rw [tabS_mem] at hx; omega)) u.1 u.2
/-- the first wrong word, by the class's search -/
theorem w_wrong {N d' : Nat} {g : GU} (hd : 3 < d') (hc : CP z M P A st sp p) (hp : PI A N p) (hg : qg p = some g) (hs : SeaSh M 13) (h : ∀ M', Sm [13, 14, 15] M M' → Q (some (.long (lN (fuC g.2 0 A 0)))) M') : ClD d' mdX5_firstUnlike [.ref 13, .ref (bP P p + 7), .int (nI 0), .ref 3, .int (nI 0)] M Q := by
  have hA := hc.hz.2.2.1
  have hgu := hp.gu hA hg
  obtain ⟨⟨cn, n1, -, -⟩, n2, -⟩ := hc.gue
  rw [hg] at n2
  have hP := hc.2.2.2.2
  have hb : P + 4 ≤ bP P p := by unfold bP; split <;> omega
  refine w_X5_firstUnlike (r := 13) hd hs n1.2.2.2.2.2 n2.1.2 hgu.1 hc.hz.2.2.2.1 hc.hz.2.2.2.2 hA hgu.2.1.symm hgu.1.1.1 hA.1.1 (fun i hi => by simp; omega) (fun i hi => by simp; omega) (fun M' c S k => ?_)
  rw [fuC_of k] at h
  exact h M' S
theorem w_X4_learn {N : Nat} (hd : 6 < d) (hc : CP z M P A st sp p) (hp : PI A N p) (hN : N ≤ 4600) (hs : SeaSh M 13)
    (h : ∀ M', Fa (P + 1) (puL P) M M' → CP z M' P A st sp (learnF A st sp p).2 → mI M' P 5 = nI (learnF A st sp p).1 → SeaSh M' 13 → Q none M') : ClD d mdX4_learn [.ref P] M Q := by
  have hA := hc.hz.2.2.1
  have hP := hc.2.2.2.2
  refine ⟨6, hd, Cl.of moX4_learn (Nat.le_of_ble_eq_true rfl) (gX4_learn_0 hc.1.1.1 ?_)⟩
  have S0 : Sm [P] M (sI M P 5 (nI 0)) := Sm.sI (by simp) _ _ _
  suffices G : ∀ f p M1 i n, PI A N p → mu A p < f → i + f ≤ 9000 → CP z M1 P A st sp p → SeaSh M1 13 → Fa (P + 1) (puL P) M M1 → mI M1 P 5 = nI n → (∀ M', Fa (P + 1) (puL P) M M' → CP z M' P A st sp (lnF A st sp f p).2 → mI M' P 5 = nI (n + (lnF A st sp f p).1) → SeaSh M' 13 → Q none M') → Wp 6 mdX4_learn 7 [(0, .ref P), (1, .int (nI i))] [] M1 (fun r M' => ROK mdX4_learn r ∧ Q r M') by
    refine G 40 p _ 0 0 hp mu_lt (by decide) (hc.s5 (by decide)) (hs.sm S0) ((S0.mono (fun x hx => by simp at hx; rw [hx]; exact puL_mem.mpr (by omega))).fa) (rI_at _ _ _ _) (fun M' a1 a2 a3 a4 => h M' a1 a2 ?_ a4)
    rw [Nat.zero_add] at a3; exact a3
  intro f
  induction f with
  | zero => intro p M1 i n _ h1; omega
  | succ f ih =>
    intro p M1 i n hp1 hmu hif hc1 hs1 F hn hq
    have hz1 := hc1.hz
    obtain ⟨⟨cn, n1, nc6, nc4⟩, n2, n3⟩ := hc1.gue
    refine gX4_learn_7 (cnk1 := cn) hc1.1.1.1 n1.1.1 (by rw [n3]; exact n1.1.2) (fun c => ?_) (fun _ => ?_)
    · rw [nI_leI (by decide) (by omega)] at c; omega
    · rw [n3]
      have e6 : mR M1 P 6 = 13 := hc1.1.1.2.2.2.2
      have e0 : mR M1 P 0 = P + 1 := hc1.1.1.2.1
      obtain ⟨s, -, ai⟩ := hc1.ai
      have em : mR M1 (P + 1) 0 = 3 := ai.1.2.1
      refine w_X3_hasGuess (by decide) n1 n2 (fun hg => ?_) (fun g hg => ?_)
      · -- a step
        refine gX4_learn_21 (cnk1 := cn) hc1.1.1.1 n1.1.1 (by rw [n3]; exact n1.1.2) (by rw [e0]; exact ai.1.1) (by rw [e6]; exact hs1.1.1) ?_ ?_ (fun c => absurd rfl c)
        all_goals rw [n3]
        all_goals
          intro _ hcn
          have kont : ∀ M', Fa (P + 1) (puS P) M1 M' → CP z M' P A st sp (stepF A st sp p).2 → mI M' P = mI M1 P → Wp 6 mdX4_learn 74 [(0, .ref P), (1, .int (nI i))] [.int (nI (stepF A st sp p).1)] M' (fun r M' => ROK mdX4_learn r ∧ Q r M') := by
            intro M2 F2 hc2 hb2
            have g := hp1.step (st := st) (sp := sp) hA hg
            refine gX4_learn_74 hc2.1.1.1 ?_
            rw [hb2, hn, nI_add, nI_add]
            have S3 : Sm [P] M2 (sI M2 P 5 (nI (n + 1))) := Sm.sI (by simp) _ _ _
            have F3 : Fa (P + 1) (puL P) M (sI M2 P 5 (nI (n + 1))) := (F.tr (F2.mono (fun x hx => by rw [puL_mem]; rw [puS_mem] at hx; omega))).tr ((S3.mono (fun x hx => by simp at hx; rw [hx]; exact puL_mem.mpr (by omega))).fa)
            have hs2 : SeaSh M2 13 := hs1.fm F2.1 (by omega) (nq hz1.1 (by omega) (by omega) (fun q => by rw [puS_mem] at q; omega))
            refine ih _ _ (i + 1) (n + 1) g.1 (by have := g.2.1; omega) (by omega) (hc2.s5 (by decide)) (hs2.sm S3) F3 (rI_at _ _ _ _) (fun M' a1 a2 a3 a4 => hq M' a1 ?_ ?_ a4)
            · rw [lnF_n hg]; exact a2
            · rw [lnF_n hg, a3]
              show nI (n + 1 + _) = nI (n + (_ + 1))
              rw [Nat.add_assoc, Nat.add_comm 1]
          have w := w_step (Q := fun r1 M' => Wp 6 mdX4_learn 74 [(0, .ref P), (1, .int (nI i))] (r1.toList ++ []) M' (fun r M' => ROK mdX4_learn r ∧ Q r M')) (d' := 6) (by decide) hc1 hp1 hN hg kont
          unfold bP
        · have q : qm p ≠ 3 := fun e => by have := nc6 e; omega
          rw [if_neg q]; exact w.2 q
        · have q : qm p = 3 := Classical.byContradiction fun e => by have := nc4 e; omega
          rw [if_pos q]; exact w.1 q
      · -- a lesson, or the end
        refine gX4_learn_21 (cnk1 := cn) hc1.1.1.1 n1.1.1 (by rw [n3]; exact n1.1.2) (by rw [e0]; exact ai.1.1) (by rw [e6]; exact hs1.1.1) (fun c => absurd c (by decide)) (fun c => absurd c (by decide)) (fun _ => ?_)
        rw [e6, n3, e0, em, n1.2.1.2.2.2.2]
        refine w_wrong (by decide) hc1 hp1 hg hs1 (fun M2 S2 => ?_)
        have hc2 : CP z M2 P A st sp p := hc1.fm S2.fm (fun x hx => by simp at hx; omega)
        have hs2 := hs1.sm S2
        have F2 : Fa (P + 1) (puL P) M M2 := F.tr ((S2.mono (fun x hx => by rw [puL_mem]; simp at hx; omega)).fa)
        have hb2 : mI M2 P = mI M1 P := S2.I (by simp; omega)
        obtain ⟨⟨cn2, n12, nc62, nc42⟩, n22, n32⟩ := hc2.gue
        by_cases h0 : fuC g.2 0 A 0 = 0
        · rw [h0]
          refine gX4_learn_47 (cnk1 := cn2) hc2.1.1.1 n12.1.1 (by rw [n32]; exact n12.1.2) (fun c => absurd rfl c) (fun c => absurd rfl c) (fun _ => ⟨rfl, ?_⟩)
          rw [lnF_0 hg h0] at hq
          exact hq M2 F2 hc2 (by rw [hb2, hn]; rfl) hs2
        · have q := hp1.fu hA hg h0
          have k := hp1.les (st := st) (sp := sp) hA hg q.1 q.2.1 q.2.2.1
          have q4 := q.2.2.2
          obtain ⟨w, hw⟩ : ∃ w, w = wdC (fuC g.2 0 A 0) := ⟨_, rfl⟩
          have hl1 := lnF_1 (A := A) (st := st) (sp := sp) (f := f) hg h0
          rw [← hw] at q k q4 hl1
          rw [q4]
          have hne : ¬ lN (cd w) = lN 0 := by
            have := cd30 (vw_mono q.1 (show pl A ≤ 4 by have := hA.2.1.2; omega)) (by have := q.2.1; omega)
            have := cd_pos w
            rw [pk_lEQ (by omega) (by decide)]; omega
          rw [hl1] at hq
          refine gX4_learn_47 (cnk1 := cn2) hc2.1.1.1 n12.1.1 (by rw [n32]; exact n12.1.2) ?_ ?_ (fun c => absurd c hne)
          all_goals rw [n32]
          all_goals
            intro _ hcn
            have kont : ∀ M', Fa (P + 1) (puS P) M2 M' → CP z M' P A st sp (lesF A st sp p g w).2 → mI M' P = mI M2 P → Wp 6 mdX4_learn 63 [(0, .ref P), (1, .int (nI i))] [.int (nI (lesF A st sp p g w).1)] M' (fun r M' => ROK mdX4_learn r ∧ Q r M') := by
              intro M3 F3 hc3 hb3
              refine gX4_learn_63 ?_
              rw [nI_add]
              have hz2 := hc2.hz
              have hs3 : SeaSh M3 13 := hs2.fm F3.1 (by omega) (nq hz2.1 (by omega) (by omega) (fun q => by rw [puS_mem] at q; omega))
              exact ih _ _ (i + 1) n k.1 (by have := k.2.1; omega) (by omega) hc3 hs3 (F2.tr (F3.mono (fun x hx => by rw [puL_mem]; rw [puS_mem] at hx; omega))) (by rw [hb3, hb2]; exact hn) hq
            have ww := w_les (Q := fun r1 M' => Wp 6 mdX4_learn 63 [(0, .ref P), (1, .int (nI i))] (r1.toList ++ []) M' (fun r M' => ROK mdX4_learn r ∧ Q r M')) (d' := 6) (by decide) hc2 hp1 hN hg q.1 q.2.1 q.2.2.1 kont
            unfold bP
          · have q' : qm p ≠ 3 := fun e => by have := nc62 e; omega
            rw [if_neg q']; exact ww.2 q'
          · have q' : qm p = 3 := Classical.byContradiction fun e => by have := nc42 e; omega
            rw [if_pos q']; exact ww.1 q'
end Learn
