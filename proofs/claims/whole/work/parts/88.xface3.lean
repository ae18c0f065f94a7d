/-! the class's face: prices, machines drawn, states looked into -/
section XFc
variable {z d r b P st sp N a' b' : Nat} {Q : Option Value → Mem → Prop} {Mz M M' M1 : Mem} {A A' : PM} {p p' : PS} {X : List Nat} {R : List Int64} {s : List (List Nat) × Nat} {H T : List (List Nat)} {K : Nat → Nat} {L : List Nat}
theorem AI.pr (hi : AI z M r A st sp s) (F : Sm L M M') (hL : r + 1 ∉ L ∧ slq M r ∉ L ∧ 3 ∉ L ∧ 4 ∉ L ∧ 5 ∉ L) (h2 : mI M' r 2 = nI a' ∧ mI M' r 3 = nI b' ∧ mI M' r 4 = mI M r 4) : AI z M' r A a' b' s := by
  obtain ⟨i1, ⟨⟨a1, a2, a3⟩, i2, k, T, i3, i4⟩, i5, i6, i7, i8, i9, i10⟩ := hi
  refine ⟨⟨by rw [F.2.2.1]; exact i1.1, by rw [F.2.1]; exact i1.2.1, by rw [F.2.1]; exact i1.2.2.1, by rw [F.2.2.1]; exact i1.2.2.2⟩, ⟨⟨h2.1, h2.2.1, by rw [h2.2.2]; exact a3⟩, i2, k, T, i3.fm F.fm (by omega) hL.1 hL.2.1, i4⟩, i5.sm F, i6.sm F hL.2.2.1 hL.2.2.2.1 hL.2.2.2.2, i7, by unfold slq at i8 ⊢; rw [F.2.1]; exact i8, by rw [F.2.2.2.2.1]; exact i9, i10⟩
theorem TPp.pr (hi : TPp z M b r A st sp p) (F : Sm L M M') (hL : r + 1 ∉ L ∧ slq M r ∉ L ∧ 3 ∉ L ∧ 4 ∉ L ∧ 5 ∉ L) (hb : ∀ q, q ∈ L → q < b ∨ b + 16 ≤ q) (h2 : mI M' r 2 = nI a' ∧ mI M' r 3 = nI b' ∧ mI M' r 4 = mI M r 4) : TPp z M' b r A a' b' p := by
  obtain ⟨h1, s, es, ⟨t1, t2, ⟨t3, t4⟩, t5⟩, ⟨i5, i6⟩, g, fh, ft, ⟨a1, a2⟩, a3⟩ := hi
  have n : ∀ q, b ≤ q → q < b + 16 → q ∉ L := fun q a c hm => by have := hb q hm; omega
  have q9 := t2.2.2.2.2.2.2.1
  refine ⟨h1, s, es, ⟨t1.sm F, t2.pr F hL h2, ⟨t3.sm F (n _ (by omega) (by omega)) (n _ (by omega) (by omega)), t4.sm F (n _ (by omega) (by omega)) (n _ (by omega) (by omega))⟩, t5⟩, ⟨by rw [F.I (n _ (by omega) (by omega))]; exact i5, by rw [F.I (n _ (by omega) (by omega))]; exact i6⟩, g.fm F.fm (by omega) (n _ (by omega) (by omega)) (n _ (by omega) (by omega)) (n _ (by omega) (by omega)) (n _ (by omega) (by omega)) (n _ (by omega) (by omega)), fh, ft, ⟨by rw [F.I (n _ (by omega) (by omega))]; exact a1, by rw [F.I (n _ (by omega) (by omega))]; exact a2⟩, a3⟩
theorem RPp.pr (hi : RPp z M b r A st sp p) (F : Sm L M M') (hL : r + 1 ∉ L ∧ slq M r ∉ L ∧ 3 ∉ L ∧ 4 ∉ L ∧ 5 ∉ L) (hb : ∀ q, q ∈ L → q < b ∨ b + 12 ≤ q) (h2 : mI M' r 2 = nI a' ∧ mI M' r 3 = nI b' ∧ mI M' r 4 = mI M r 4) : RPp z M' b r A a' b' p := by
  obtain ⟨h1, s, es, ⟨t1, t2, ⟨t3, t4⟩, t5, t6, t7⟩, ⟨i5, i6⟩, g⟩ := hi
  have n : ∀ q, b ≤ q → q < b + 12 → q ∉ L := fun q a c hm => by have := hb q hm; omega
  have q9 := t2.2.2.2.2.2.2.1
  refine ⟨h1, s, es, ⟨TrSh.fm F.fm (by omega) t1, t2.pr F hL h2, ⟨t3.sm F (n _ (by omega) (by omega)) (n _ (by omega) (by omega)), t4.sm F (n _ (by omega) (by omega)) (n _ (by omega) (by omega))⟩, t5, fun c hc => by rw [F.I (n _ (by omega) (by omega))]; exact t6 c hc, t7⟩, ⟨by rw [F.I (n _ (by omega) (by omega))]; exact i5, by rw [F.I (n _ (by omega) (by omega))]; exact i6⟩, g.fm F.fm (by omega) (n _ (by omega) (by omega)) (n _ (by omega) (by omega)) (n _ (by omega) (by omega)) (n _ (by omega) (by omega)) (n _ (by omega) (by omega))⟩
theorem w_X11_prices {x y : Int32} (hd : 2 < d) (hS : CX Mz M X A st sp p R) (h2 : ∀ M', CX Mz M' X A st sp p R → (¬ ∃ a b, a ≤ 99 ∧ b ≤ 99 ∧ x = nI a ∧ y = nI b) → Q (some (.int (nI 0))) M') (h3 : ∀ a b, a ≤ 99 → b ≤ 99 → x = nI a → y = nI b → ∀ M', CX Mz M' X A a b p R → Q (some (.int (nI 1))) M') : ClD d mdX11_prices [.ref 2, .int x, .int y] M Q := by
  have r := hS.r
  have hc := hS.1.2.2.1
  have p50 := hS.1.1.1.2.2.2.2.2
  obtain ⟨s, es, ai⟩ := hc.ai
  obtain ⟨s5, ai5⟩ := hS.1.2.2.2.1
  have e4 : mR M 2 4 = 18 := r.1.2.2.2.2
  have e5 : mR M 2 5 = 50 := r.2.1
  have e0 : mR M 18 0 = 19 := hc.1.1.2.1
  have e50 : mR M 50 0 = 51 := p50.1.2.1
  refine ⟨2, hd, Cl.of moX11_prices (Nat.le_of_ble_eq_true rfl) (gX11_prices_0 hS.k (by rw [e4]; exact hc.1.1.1) (by rw [e4, e0]; exact ai.1.1) (fun c => ⟨⟨_, rfl, by decide⟩, h2 M hS ?_⟩) (fun c c2 => ⟨⟨_, rfl, by decide⟩, h2 M hS ?_⟩) (fun c c2 c3 => ⟨⟨_, rfl, by decide⟩, h2 M hS ?_⟩) (fun c c2 c3 c4 => ?_) (fun c c2 c3 c4 => ⟨⟨_, rfl, by decide⟩, h2 M hS ?_⟩))⟩
  · rintro ⟨a, b, q1, q2, q3, q4⟩
    rw [q3] at c; exact nI_pos (by omega) c
  · rintro ⟨a, b, q1, q2, q3, q4⟩
    rw [q3, nI_ltI (by decide) (by omega)] at c2; omega
  · rintro ⟨a, b, q1, q2, q3, q4⟩
    rw [q4] at c3; exact nI_pos (by omega) c3
  · obtain ⟨a, a1, a2⟩ := nI_of c
    obtain ⟨b, b1, b2⟩ := nI_of c3
    rw [a2, nI_ltI (by decide) a1] at c2
    rw [b2, nI_leI b1 (by decide)] at c4
    have h3 := h3 a b (by omega) c4 a2 b2
    rw [e4, e0, a2, b2]
    have ai19 : AI 88 M 19 A st sp s := ai
    refine w_X0_charge (by decide) ai19.1 ?_
    obtain ⟨M1, hM1⟩ : ∃ M1, M1 = sI (sI M 19 2 (nI a)) 19 3 (nI b) := ⟨_, rfl⟩
    rw [← hM1]
    have S1 : Sm [19, 51] M M1 := by rw [hM1]; exact (Sm.sI (by simp) _ _ _).tr (Sm.sI (by simp) _ _ _)
    refine gX11_prices_34 (by rw [S1.2.2.1]; exact hS.k) (by rw [S1.2.1, S1.2.2.1, e5]; exact p50.1.1) (by rw [S1.2.1, S1.2.2.1, e5, e50]; exact ai5.1.1) ?_
    rw [S1.2.1, e5, e50]
    refine w_X0_charge (m := 3) (by decide) ⟨by rw [S1.2.2.1]; exact ai5.1.1, by rw [S1.2.1]; exact ai5.1.2.1, by rw [S1.2.1]; exact ai5.1.2.2.1, by rw [S1.2.2.1]; exact ai5.1.2.2.2⟩ ?_
    obtain ⟨M2, hM2⟩ : ∃ M2, M2 = sI (sI M1 51 2 (nI a)) 51 3 (nI b) := ⟨_, rfl⟩
    rw [← hM2]
    have S2 : Sm [19, 51] M M2 := by rw [hM2]; exact S1.tr ((Sm.sI (by simp) _ _ _).tr (Sm.sI (by simp) _ _ _))
    have f19 : mI M2 19 2 = nI a ∧ mI M2 19 3 = nI b ∧ mI M2 19 4 = mI M 19 4 := by
      rw [hM2, rI_np (by decide), rI_np (by decide), hM1]
      exact ⟨by rw [rI_nk (by decide)]; exact rI_at _ _ _ _, rI_at _ _ _ _, by rw [rI_nk (by decide), rI_nk (by decide)]⟩
    have f51 : mI M2 51 2 = nI a ∧ mI M2 51 3 = nI b ∧ mI M2 51 4 = mI M 51 4 := by
      rw [hM2]
      exact ⟨by rw [rI_nk (by decide)]; exact rI_at _ _ _ _, rI_at _ _ _ _, by rw [rI_nk (by decide), rI_nk (by decide), hM1, rI_np (by decide), rI_np (by decide)]⟩
    clear hM1 hM2
    have sl := hS.1.1.2.1
    obtain ⟨⟨l1, l2, l3⟩, ⟨q1, q2, q3⟩, -, l8⟩ := hS.1.1.2.1
    have hL : ∀ q, q ∈ [19, 51] → q = 19 ∨ q = 51 := fun q hq => by simpa using hq
    have nf : ∀ q, q ≠ 19 → q ≠ 51 → q ∉ [19, 51] := fun q a b hm => by have := hL q hm; omega
    have hS2 : ∀ q, q ∈ [19, 51] → (2 ≤ q ∧ q < 88) ∧ q ≠ 20 ∧ q ≠ 52 ∧ q ≠ 82 := fun q hq => by have := hL q hq; omega
    have g19 : 19 + 1 ∉ [19, 51] ∧ slq M 19 ∉ [19, 51] ∧ 3 ∉ [19, 51] ∧ 4 ∉ [19, 51] ∧ 5 ∉ [19, 51] := ⟨nf _ (by omega) (by omega), nf _ (by omega) (by omega), nf _ (by omega) (by omega), nf _ (by omega) (by omega), nf _ (by omega) (by omega)⟩
    have g51 : 51 + 1 ∉ [19, 51] ∧ slq M 51 ∉ [19, 51] ∧ 3 ∉ [19, 51] ∧ 4 ∉ [19, 51] ∧ 5 ∉ [19, 51] := ⟨nf _ (by omega) (by omega), nf _ (by omega) (by omega), nf _ (by omega) (by omega), nf _ (by omega) (by omega), nf _ (by omega) (by omega)⟩
    have e3 : mR M 82 1 = slq M 81 := rfl
    have F := S2.fe
    obtain ⟨⟨⟨k1, k2, k3⟩, k4, k5, -, ⟨kk, T, n, k7⟩, k8⟩, hx⟩ := hS
    have cp : CP 88 M2 18 A a b p := by
      obtain ⟨c1, ⟨c2, c3⟩, c4, c5, c6⟩ := k5
      exact ⟨c1.fm F.1 (by omega), ⟨by rw [S2.2.1]; exact c2, by rw [S2.I (nf _ (by omega) (by omega))]; exact c3⟩, fun q => TPp.pr (c4 q) S2 g19 (fun q hq => by have := hL q hq; omega) f19, fun q => RPp.pr (c5 q) S2 g19 (fun q hq => by have := hL q hq; omega) f19, c6⟩
    refine gX11_prices_46 ⟨⟨_, rfl, by decide⟩, h3 M2 ⟨⟨⟨k1.fm F.1 l8, sl.fe F hS2, k3.sm S2⟩, k4.fm F.1 (by omega) (nf _ (by omega) (by omega)) (nf _ (by omega) (by omega)), cp, ⟨s5, ai5.pr S2 g51 f51⟩, ⟨kk, T, n, k7.fm F.1 (by omega) (nf _ (by omega) (by omega)) (nf _ (by omega) (by omega))⟩, k8.fm F.1 l8 (nf _ (by omega) (by omega)) (nf _ (by omega) (by omega))⟩, hx.tr (XF.fe sl F hS2)⟩⟩
  · rintro ⟨a, b, q1, q2, q3, q4⟩
    rw [q4, nI_leI (by omega) (by decide)] at c4; omega
/-- whether a group is reached -/
theorem w_X11_isGroupReached {i : Nat} (hd : 3 < d) (hS : CX Mz M X A st sp p R) (hg : ∀ s, s < pn A → mI M 86 s = nI (lsG A 7 s)) (hr : reOK M 13 A) (hi : i < 8) (h1 : (∃ s, s < pn A ∧ reC A s ≠ 0 ∧ lsG A 7 s = i) → Q (some (.int (nI 1))) M) (h0 : (¬ ∃ s, s < pn A ∧ reC A s ≠ 0 ∧ lsG A 7 s = i) → Q (some (.int (nI 0))) M) : ClD d mdX11_isGroupReached [.ref 2, .int (nI i)] M Q := by
  have hA := hS.ok
  have a8 := hA.1.2
  have m3 := hS.1.m3
  have r := hS.r
  have sea := hS.1.1.2.2
  have n86 := hS.1.1.1.2.1.1
  have e0 : mR M 2 0 = 3 := r.1.1
  have e3 : mR M 2 3 = 13 := r.1.2.2.2.1
  have e8 : mR M 2 8 = 86 := r.2.2.2.2.1
  refine ⟨3, hd, Cl.of moX11_isGroupReached (Nat.le_of_ble_eq_true rfl) (gX11_isGroupReached_0 ?_)⟩
  refine upto (pn A) (fun s => (∀ t, t < s → ¬ (reC A t ≠ 0 ∧ lsG A 7 t = i)) → Wp 3 mdX11_isGroupReached 2 [(0, .ref 2), (1, .int (nI i)), (2, .int (nI s))] [] M (fun r M' => ROK mdX11_isGroupReached r ∧ Q r M')) ?_ 0 (Nat.zero_le _) (fun t ht => by omega)
  intro s hs ih hno
  have ll := fun h : s < pn A => lsG_lt (k := 7) h
  refine gX11_isGroupReached_2 hS.k (by rw [e0]; exact m3.1.1.1) (by rw [e8]; exact n86.1) (by rw [e3]; exact sea.1.1) (fun c => ⟨⟨_, rfl, by decide⟩, h0 ?_⟩) (fun c c2 => ?_) (fun c c2 => ?_) (fun c c2 c3 => ?_) (fun c c2 c3 => ?_) <;> rw [e0, m3.2.1.1, nI_leI (by omega) (by omega)] at c
  · rintro ⟨t, t1, t2⟩
    exact hno t (by omega) t2
  · exfalso; rw [e8, n86.2, nI_leI (by decide) (by omega)] at c2; omega
  · rw [e8, n86.2]; exact z_in (by omega) (by decide)
  · have := ll (by omega)
    rw [e8, nI_clamp (by omega), hg s (by omega), nI_eq (by omega) (by omega)] at c3
    rw [nI_add]
    refine ih (by omega) (fun t ht q => ?_)
    by_cases z : t = s
    · subst z; exact c3 q.2
    · exact hno t (by omega) q
  · have := ll (by omega)
    rw [e8, nI_clamp (by omega), hg s (by omega), nI_eq (by omega) (by omega)] at c3
    rw [e3]
    obtain ⟨c', q1, q2⟩ := hr s (by omega)
    have q3 := reC_of q2
    have hlt : c' < 2 ^ 61 := by
      rcases q2 with ⟨e, _⟩ | ⟨w, g1, g2, e, _⟩
      · rw [e]; decide
      · rw [e]; exact cd30 (vw_mono g1 (by have := hA.2.1.2; omega)) (by omega)
    refine w_X5_firstTo (by decide) sea (by omega) (by omega) (gX11_isGroupReached_41 (fun c4 => ?_) (fun c4 => ⟨⟨_, rfl, by decide⟩, h1 ⟨s, by omega, ?_, c3⟩⟩)) <;> rw [q1, pk_lEQ (by omega) (by decide)] at c4
    · rw [nI_add]
      refine ih (by omega) (fun t ht q => ?_)
      by_cases z : t = s
      · subst z; exact q.1 (by rw [q3]; exact c4)
      · exact hno t (by omega) q
    · rw [q3]; exact c4
theorem w_X11_unlikeReached (hd : 5 < d) (hS : CX Mz M X A st sp p R) (h : ∀ M', CX Mz M' X A st sp p R → (∀ s, s < pn A → mI M' 86 s = nI (lsG A 7 s)) → Q (some (.int (nI (uN A)))) M') : ClD d mdX11_unlikeReached [.ref 2] M Q := by
  have hA := hS.ok
  have a8 := hA.1.2
  have m3 := hS.1.m3
  have r := hS.r
  have n86 := hS.1.1.1.2.1.1
  refine ⟨5, hd, Cl.of moX11_unlikeReached (Nat.le_of_ble_eq_true rfl) (gX11_unlikeReached_0 hS.k (by rw [r.1.1]; exact m3.1.1.1) ?_)⟩
  rw [r.1.1, r.2.2.2.2.1]
  refine w_X2_part (by decide) m3.1 m3.2 hA n86.1 n86.2 (fun i hi => by omega) (by decide) (fun g M1 S1 g1 g2 => ?_)
  have hS1 : CX Mz M1 X A st sp p R := hS.fs S1 (fun q hq => by simp at hq; unfold frL; omega)
  have hg : ∀ s, s < pn A → mI M1 86 s = nI (lsG A 7 s) := fun s hs => by rw [g2 s hs, lsG_eq (g1 s hs)]
  have r1 := hS1.r
  have m31 := hS1.1.m3
  have sea := hS1.1.1.2.2
  refine gX11_unlikeReached_13 hS1.k (by rw [r1.1.2.2.2.1]; exact sea.1.1) ?_
  rw [r1.1.1, r1.1.2.2.2.1]
  refine w_X5_walk (by decide) sea m31.1 m31.2 hA (fun i hi hm => by simp at hm; omega) (fun M2 S2 hr => gX11_unlikeReached_25 ?_)
  have hS2 : CX Mz M2 X A st sp p R := hS1.fs S2 (fun q hq => by simp at hq; unfold frL; omega)
  have hg2 : ∀ s, s < pn A → mI M2 86 s = nI (lsG A 7 s) := fun s hs => by rw [S2.I (by simp)]; exact hg s hs
  have r2 := hS2.r
  have m32 := hS2.1.m3
  let Pg : Nat → Prop := fun i => ∃ s, s < pn A ∧ reC A s ≠ 0 ∧ lsG A 7 s = i
  refine upto (pn A) (fun i => Wp 5 mdX11_unlikeReached 29 [(0, .ref 2), (1, .int (nI (cP Pg i))), (2, .int (nI i))] [] M2 (fun r M' => ROK mdX11_unlikeReached r ∧ Q r M')) ?_ 0 (Nat.zero_le _)
  intro i hi ih
  refine gX11_unlikeReached_29 hS2.k (by rw [r2.1.1]; exact m32.1.1.1) (fun c => ⟨⟨_, rfl⟩, ?_⟩) (fun c => ?_) <;> rw [r2.1.1, m32.2.1.1, nI_leI (by omega) (by omega)] at c
  · have e : i = pn A := by omega
    subst e
    rw [uN_groups (fun s hs => lsG_is A 7 s)]
    exact h M2 hS2 hg2
  · refine w_X11_isGroupReached (by decide) hS2 hg2 hr (by omega) (fun y => gX11_unlikeReached_45 (fun c => absurd c (by decide)) (fun _ => ?_)) (fun y => gX11_unlikeReached_45 (fun _ => ?_) (fun c => absurd rfl c))
    · rw [nI_add, nI_add]
      have := ih (by omega)
      rw [cP_yes (P := Pg) y] at this; exact this
    · rw [nI_add]
      have := ih (by omega)
      rw [cP_no (P := Pg) y] at this; exact this
theorem w_X11_putGroups {k : Nat} (hd : 2 < d) (hS : CX Mz M X A st sp p R) (hg : ∀ s, s < pn A → mI M 86 s = nI (lsG A k s)) (h : ∀ M', CX Mz M' X A st sp p (lsR A k (pn A)) → Q none M') : ClD d mdX11_putGroups [.ref 2] M Q := by
  have hA := hS.ok
  have a8 := hA.1.2
  refine ⟨2, hd, Cl.of moX11_putGroups (Nat.le_of_ble_eq_true rfl) (gX11_putGroups_0 hS.k (w_X11_clearNumbers (by decide) hS (fun M1 hS1 S1 => gX11_putGroups_4 ?_)))⟩
  refine upto (pn A) (fun s => ∀ M1, CX Mz M1 X A st sp p (lsR A k s) → mI M1 86 = mI M 86 → Wp 2 mdX11_putGroups 6 [(0, .ref 2), (1, .int (nI s))] [] M1 (fun r M' => ROK mdX11_putGroups r ∧ Q r M')) ?_ 0 (Nat.zero_le _) M1 hS1 (S1.I (by simp))
  clear hS1 S1 M1
  intro s hs ih M1 hS1 e1
  have m3 := hS1.1.m3
  have r := hS1.r
  have n86 := hS1.1.1.1.2.1.1
  have e0 : mR M1 2 0 = 3 := r.1.1
  have e8 : mR M1 2 8 = 86 := r.2.2.2.2.1
  refine gX11_putGroups_6 hS1.k (by rw [e0]; exact m3.1.1.1) (by rw [e8]; exact n86.1) (fun c => ⟨rfl, ?_⟩) (fun c c2 => ?_) (fun c c2 => ?_) (fun c c2 => ?_) <;> rw [e0, m3.2.1.1, nI_leI (by omega) (by omega)] at c
  · have e : s = pn A := by omega
    subst e
    exact h M1 hS1
  · exfalso; rw [e8, n86.2, nI_leI (by decide) (by omega)] at c2; omega
  · rw [e8, n86.2]; exact z_in (by omega) (by decide)
  · rw [e8, nI_clamp (by omega), e1, hg s (by omega)]
    refine w_X11_put (by decide) hS1 (by rw [lsR_len]; omega) (fun M2 hS2 S2 => gX11_putGroups_37 ?_)
    rw [nI_add]
    exact ih (by omega) M2 (by rw [lsR_s]; exact hS2) ((S2.I (by simp)).trans e1)
theorem w_X11_least (hd : 6 < d) (hS : CX Mz M X A st sp p R) (h : ∀ M', CX Mz M' X A st sp p (lsR A 7 (pn A)) → Q (some (.int (nI (uN A)))) M') : ClD d mdX11_least [.ref 2] M Q :=
  ⟨6, hd, Cl.of moX11_least (Nat.le_of_ble_eq_true rfl) (gX11_least_0 hS.k (w_X11_unlikeReached (by decide) hS (fun M1 hS1 hg => gX11_least_4 hS1.k (w_X11_putGroups (by decide) hS1 hg (fun M2 hS2 => gX11_least_9 ⟨⟨_, rfl⟩, h M2 hS2⟩)))))⟩
theorem w_X11_groups {x : Int32} (hd : 5 < d) (hS : CX Mz M X A st sp p R) (h1 : ∀ M', CX Mz M' X A st sp p R → (¬ ∃ k, k ≤ 7 ∧ x = nI k) → Q (some (.int (-1 : Int32))) M')
    (h2 : ∀ M' k, k ≤ 7 → x = nI k → CX Mz M' X A st sp p (lsR A k (pn A)) → Q (some (.int (nI (cG (lsG A k) (pn A))))) M') : ClD d mdX11_groups [.ref 2, .int x] M Q := by
  have hA := hS.ok
  have m3 := hS.1.m3
  have r := hS.r
  have n86 := hS.1.1.1.2.1.1
  refine ⟨5, hd, Cl.of moX11_groups (Nat.le_of_ble_eq_true rfl) (gX11_groups_0 hS.k (by rw [r.1.1]; exact m3.1.1.1) (fun c => ⟨⟨_, rfl⟩, h1 M hS ?_⟩) (fun c c2 => ?_) (fun c c2 => ⟨⟨_, rfl⟩, h1 M hS ?_⟩))⟩
  · rintro ⟨i, i1, i2⟩
    rw [i2] at c; exact nI_pos (by omega) c
  · obtain ⟨k, k1, k2⟩ := nI_of c
    rw [k2, nI_leI k1 (by decide)] at c2
    have h2 := fun M' => h2 M' k c2 k2
    rw [r.1.1, r.2.2.2.2.1, k2]
    refine w_X2_part (by decide) m3.1 m3.2 hA n86.1 n86.2 (fun i hi => by omega) c2 (fun g M1 S1 g1 g2 => ?_)
    have hS1 : CX Mz M1 X A st sp p R := hS.fs S1 (fun q hq => by simp at hq; unfold frL; omega)
    have eg : ∀ s, s < pn A → g s = lsG A k s := fun s hs => (lsG_eq (g1 s hs)).symm
    rw [cG_cg eg]
    exact gX11_groups_24 hS1.k (w_X11_putGroups (k := k) (by decide) hS1 (fun s hs => by rw [g2 s hs, eg s hs]) (fun M2 hS2 => gX11_groups_29 ⟨⟨_, rfl⟩, h2 M2 hS2⟩))
  · rintro ⟨i, i1, i2⟩
    rw [i2, nI_leI (by omega) (by decide)] at c2; omega
theorem w_X11_reach {x : Int32} (hd : 5 < d) (hS : CX Mz M X A st sp p R) (h : ∀ M', CX Mz M' X A st sp p R → (∀ s, s < pn A → x = nI s → Q (some (.long (lN (reC A s)))) M') ∧ ((¬ ∃ s, s < pn A ∧ x = nI s) → Q (some (.long (-1 : Int64))) M')) : ClD d mdX11_reach [.ref 2, .int x] M Q := by
  have hA := hS.ok
  have a8 := hA.1.2
  have m3 := hS.1.m3
  have r := hS.r
  have sea := hS.1.1.2.2
  refine ⟨5, hd, Cl.of moX11_reach (Nat.le_of_ble_eq_true rfl) (gX11_reach_0 hS.k (by rw [r.1.1]; exact m3.1.1.1) (by rw [r.1.2.2.2.1]; exact sea.1.1) (fun c => ⟨⟨_, rfl⟩, (h M hS).2 ?_⟩) (fun c c2 => ?_) (fun c c2 => ⟨⟨_, rfl⟩, (h M hS).2 ?_⟩))⟩
  · rintro ⟨i, i1, i2⟩
    rw [i2] at c; exact nI_pos (by omega) c
  · obtain ⟨s, s1, s2⟩ := nI_of c
    rw [s2, r.1.1, m3.2.1.1, nI_ltI s1 (by omega)] at c2
    rw [r.1.1, r.1.2.2.2.1]
    refine w_X5_walk (by decide) sea m3.1 m3.2 hA (fun i hi hm => by simp at hm; omega) (fun M2 S2 hr => ?_)
    have hS2 : CX Mz M2 X A st sp p R := hS.fs S2 (fun q hq => by simp at hq; unfold frL; omega)
    have hh := (h M2 hS2).1 s c2 s2
    refine gX11_reach_30 hS2.k (by rw [hS2.r.1.2.2.2.1]; exact hS2.1.1.2.2.1.1) ?_
    rw [hS2.r.1.2.2.2.1, s2]
    obtain ⟨c', q1, q2⟩ := hr s c2
    refine w_X5_firstTo (by decide) hS2.1.1.2.2 (by omega) (by omega) (gX11_reach_39 ⟨⟨_, rfl⟩, ?_⟩)
    rw [q1, ← reC_of q2]; exact hh
  · rintro ⟨i, i1, i2⟩
    rw [i2, r.1.1, m3.2.1.1, nI_ltI (by omega) (by omega)] at c2; exact c2 i1
theorem w_X11_draws {seed x y z : Int32} (hd : 8 < d) (hS : CX Mz M X A st sp p R) (hm3 : qm p ≤ 3)
    (h1 : ∀ M' n l k, (1 ≤ n ∧ n ≤ 8) → (1 ≤ l ∧ l ≤ 3) → (1 ≤ k ∧ k ≤ 4) → x = nI n → y = nI l → z = nI k → CX Mz M' X (drM seed n l k) st sp (newP (drM seed n l k) st sp (qm p)) R → Q (some (.int (nI (uN (drM seed n l k))))) M')
    (h2 : ∀ M', CX Mz M' X A st sp p R → (¬ ∃ n l k, (1 ≤ n ∧ n ≤ 8) ∧ (1 ≤ l ∧ l ≤ 3) ∧ (1 ≤ k ∧ k ≤ 4) ∧ x = nI n ∧ y = nI l ∧ z = nI k) → Q (some (.int (-1 : Int32))) M') : ClD d mdX11_draws [.ref 2, .int seed, .int x, .int y, .int z] M Q := by
  have m3 := hS.1.m3
  have r := hS.r
  have lt1 : ∀ {x : Int32}, x < nI 1 → ¬ ∃ n, 1 ≤ n ∧ n ≤ 8 ∧ x = nI n := fun {x} c => by
    rintro ⟨n, n1, n2, n3⟩
    rw [n3, nI_ltI (by omega) (by decide)] at c; omega
  have ge1 : ∀ {x : Int32}, ¬ x < nI 1 → ∃ n, 1 ≤ n ∧ n < 2 ^ 31 ∧ x = nI n := fun {x} c => by
    have c0 : ¬ x < 0 := fun q => c (by
      rw [Int32.lt_iff_toInt_lt] at q ⊢
      rw [nI_toInt (by decide)]
      rw [show (0 : Int32).toInt = 0 by decide] at q
      omega)
    obtain ⟨n, n1, n2⟩ := nI_of c0
    rw [n2, nI_ltI n1 (by decide)] at c
    exact ⟨n, by omega, n1, n2⟩
  refine ⟨8, hd, Cl.of moX11_draws (Nat.le_of_ble_eq_true rfl) (gX11_draws_0 hS.k (by rw [r.1.1]; exact m3.1.1.1) (fun c => ⟨⟨_, rfl⟩, h2 M hS ?_⟩) (fun c c2 => ⟨⟨_, rfl⟩, h2 M hS ?_⟩) (fun c c2 c3 => ⟨⟨_, rfl⟩, h2 M hS ?_⟩) (fun c c2 c3 c4 c5 => ⟨⟨_, rfl⟩, h2 M hS ?_⟩) (fun c c2 c3 c4 c5 c6 => ?_) (fun c c2 c3 c4 c5 c6 => ⟨⟨_, rfl⟩, h2 M hS ?_⟩) (fun c c2 c3 c4 => ⟨⟨_, rfl⟩, h2 M hS ?_⟩))⟩
  · rintro ⟨n, l, k, q1, q2, q3, e1, e2, e3⟩; exact lt1 c ⟨n, q1.1, q1.2, e1⟩
  · rintro ⟨n, l, k, q1, q2, q3, e1, e2, e3⟩
    rw [e1, nI_ltI (by decide) (by omega)] at c2; omega
  · rintro ⟨n, l, k, q1, q2, q3, e1, e2, e3⟩; exact lt1 c3 ⟨l, q2.1, by omega, e2⟩
  · rintro ⟨n, l, k, q1, q2, q3, e1, e2, e3⟩; exact lt1 c5 ⟨k, q3.1, by omega, e3⟩
  · obtain ⟨n, n1, n2, n3⟩ := ge1 c
    obtain ⟨l, l1, l2, l3⟩ := ge1 c3
    obtain ⟨k, k1, k2, k3⟩ := ge1 c5
    rw [n3, nI_ltI (by decide) n2] at c2
    rw [l3, nI_leI l2 (by decide)] at c4
    rw [k3, nI_leI k2 (by decide)] at c6
    have h1 := fun M' => h1 M' n l k ⟨n1, by omega⟩ ⟨l1, c4⟩ ⟨k1, c6⟩ n3 l3 k3
    have okA := drM_ok (seed := seed) ⟨n1, show n ≤ 8 by omega⟩ ⟨l1, c4⟩ ⟨k1, c6⟩
    rw [n3, l3, k3, r.1.1]
    refine w_X2_draw (by decide) m3.1 ⟨n1, by omega⟩ ⟨l1, c4⟩ ⟨k1, c6⟩ (fun M1 S1 ha => ?_)
    obtain ⟨B, hB⟩ : ∃ B, B = drM seed n l k := ⟨_, rfl⟩
    rw [← hB] at h1 okA ha
    obtain ⟨⟨s, ai⟩, pu, e4, er, ek, fin⟩ := hS.nm (p' := newP B st sp (qm p)) S1 okA ha
    refine gX11_draws_49 ek (by rw [er]; exact pu.1.1) ?_
    rw [er, e4]
    refine w_X4_renew (P := 18) (by decide) hm3 pu ai ⟨by decide, by decide⟩ (fun M2 F2 C2 => ?_)
    have hS2 := fin M2 F2 C2
    exact gX11_draws_63 hS2.k (w_X11_unlikeReached (by decide) hS2 (fun M3 hS3 _ => gX11_draws_67 ⟨⟨_, rfl⟩, h1 M3 hS3⟩))
  · rintro ⟨n, l, k, q1, q2, q3, e1, e2, e3⟩
    rw [e3, nI_leI (by omega) (by decide)] at c6; omega
  · rintro ⟨n, l, k, q1, q2, q3, e1, e2, e3⟩
    rw [e2, nI_leI (by omega) (by decide)] at c4; omega
end XFc
