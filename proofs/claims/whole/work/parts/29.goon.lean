/-! Search's goOn and countUnlike -/
theorem SeaSh.sw {M : Mem} {r : Nat} (hs : SeaSh M r) : SeaSh (sR (sR M r 3 (mR M r 4)) r 4 (mR M r 3)) r := by
  obtain ⟨⟨a1, a2, a3⟩, h, r1⟩ := hs
  have e0 : mR (sR (sR M r 3 (mR M r 4)) r 4 (mR M r 3)) r 0 = mR M r 0 := (up2_nk (by decide)).trans (up2_nk (by decide))
  have e1 : mR (sR (sR M r 3 (mR M r 4)) r 4 (mR M r 3)) r 1 = mR M r 1 := (up2_nk (by decide)).trans (up2_nk (by decide))
  have e3 : mR (sR (sR M r 3 (mR M r 4)) r 4 (mR M r 3)) r 3 = mR M r 4 := (up2_nk (by decide)).trans (up2_at _ _ _ _)
  have e4 : mR (sR (sR M r 3 (mR M r 4)) r 4 (mR M r 3)) r 4 = mR M r 3 := up2_at _ _ _ _
  refine ⟨⟨a1, by rw [e0]; exact a2, by rw [e1]; exact a3⟩, ?_, r1⟩
  rw [e3, e4]
  rcases h with ⟨h1, h2⟩ | ⟨h1, h2⟩
  · exact Or.inr ⟨h2, h1⟩
  · exact Or.inl ⟨h2, h1⟩
section GoOn
variable {d r : Nat} {Q : Option Value → Mem → Prop} {M : Mem} {A B : PM} {a b : Nat} {W : Nat → Nat}
theorem w_X5_goOn (hd : 2 < d) (hs : SeaSh M r) (hrl : r + 4 < mC M + 2) (hw : WysAt M r W) (hv : vW A B W) (hb20 : ∀ c, c < 64 → W c ≤ 19683) (ha : MacSh M a) (hA0 : MacAt M a A) (hA : okM A) (hb : MacSh M b) (hB0 : MacAt M b B) (hB : okM B) (hl : pl B = pl A) (na : ∀ i, i < 3 → a + i ≠ r + 3 ∧ a + i ≠ r + 4) (nb : ∀ i, i < 3 → b + i ≠ r + 3 ∧ b + i ≠ r + 4)
    (h : ∀ M', Fe [r, r + 3, r + 4] M M' → SeaSh M' r → WysAt M' r (fun c => gN (pl A) W (stP A B) c 64) → Q none M') : ClD d mdX5_goOn [.ref r, .ref a, .ref b] M Q := by
  have w := hs.w
  have a8 := hA.1.2
  have b8 := hB.1.2
  have l3 := hA.2.1.2
  obtain ⟨u, hu⟩ : ∃ u, u = mR M r 3 := ⟨_, rfl⟩
  obtain ⟨v, hv'⟩ : ∃ v, v = mR M r 4 := ⟨_, rfl⟩
  have w' := w
  rw [← hu, ← hv'] at w'
  obtain ⟨w1, w2, w3, w4, w5, w6, w7⟩ := w'
  have hnv : ∀ i, i < 3 → a + i ∉ [v] ∧ b + i ∉ [v] := fun i hi => by
    have := na i hi; have := nb i hi
    constructor <;> (intro q; simp only [List.mem_singleton] at q; omega)
  refine ⟨2, hd, Cl.of moX5_goOn (Nat.le_of_ble_eq_true rfl) (gX5_goOn_0 hs.1.1 ?_)⟩
  rw [← hv']
  refine w_fillI (by decide) w3 (by rw [w4]; decide) (fun M1 S1 hz => ?_)
  rw [w4] at hz
  refine gX5_goOn_8 (upto 64 (fun i => ∀ M1, Sm [v] M M1 → (∀ c, c < 64 → mI M1 v c = nI (gN (pl A) W (stP A B) c i)) → Wp 2 mdX5_goOn 10 [(0, .ref r), (1, .ref a), (2, .ref b), (3, .int (nI i))] [] M1 (fun r M' => ROK mdX5_goOn r ∧ Q r M')) ?_ 0 (Nat.zero_le _) M1 S1 hz)
  intro i hi ih M1 S hm
  have hs1 := hs.sm S
  have e3 : mR M1 r 3 = u := by rw [S.2.1, hu]
  have e4 : mR M1 r 4 = v := by rw [S.2.1, hv']
  have k1 : mK M1 u = 1 := by rw [S.2.2.1]; exact w1
  have k2 : mK M1 v = 1 := by rw [S.2.2.1]; exact w3
  have n1 : mN M1 u = 64 := by rw [S.2.2.2.1]; exact w2
  have n2 : mN M1 v = 64 := by rw [S.2.2.2.1]; exact w4
  have nu : u ∉ [v] := fun q => by simp only [List.mem_singleton] at q; omega
  have hwu : ∀ c, c < 64 → mI M1 u c = nI (W c) := fun c hc => by rw [S.I nu, hu]; exact hw c hc
  refine gX5_goOn_10 hs1.1.1 (by rw [e3]; exact k1) (fun c => ⟨rfl, ?_⟩) (fun c => ?_)
  · rw [e3, n1, nI_leI (by omega) (by omega)] at c
    have e : i = 64 := by omega
    subst e
    have F : Fe [r, r + 3, r + 4] M (sR (sR M1 r 3 (mR M1 r 4)) r 4 (mR M1 r 3)) := by
      have S' : Fm [r, r + 3, r + 4] M M1 := (S.mono (fun p hp => by simp only [List.mem_singleton] at hp; subst hp; simp; omega)).fm
      refine ⟨⟨fun p hp hn => ?_, fun p hp => S'.2.1 p hp, fun p j hp hvr => ?_, S'.2.2.2.1, S'.2.2.2.2⟩, S.2.2.2.2.1, S.2.2.2.2.2⟩
      · have g := S'.1 p hp hn
        have hpr : p ≠ r := fun e => hn (by simp [e])
        exact ⟨g.1, g.2.1, by rw [show mR (sR (sR M1 r 3 (mR M1 r 4)) r 4 (mR M1 r 3)) p = mR M1 p from (up2_ne hpr).trans (up2_ne hpr)]; exact g.2.2⟩
      · have g := S'.2.2.1 p j hp hvr
        rw [← g]
        by_cases e : p = r
        · subst e
          have nj : j ≠ 3 ∧ j ≠ 4 := by
            constructor <;> (intro e; subst e; exact hvr (Or.inr (Or.inl ⟨hs.1.1, by omega⟩)))
          exact (up2_nk nj.2).trans (up2_nk nj.1)
        · rw [show mR (sR (sR M1 r 3 (mR M1 r 4)) r 4 (mR M1 r 3)) p = mR M1 p from (up2_ne e).trans (up2_ne e)]
    refine h _ F hs1.sw (fun c hc => ?_)
    rw [show mR (sR (sR M1 r 3 (mR M1 r 4)) r 4 (mR M1 r 3)) r 3 = mR M1 r 4 from (up2_nk (by decide)).trans (up2_at _ _ _ _), e4]
    exact hm c hc
  · have hi6 : i < 64 := Nat.lt_of_not_le fun z => c (by rw [e3, n1]; exact nI_le z (by omega))
    refine upto (pl A) (fun x => ∀ M2, Sm [v] M M2 → (∀ c, c < 64 → mI M2 v c = nI (gN (pl A) W (stP A B) c i + gX W (stP A B) c i x)) → Wp 2 mdX5_goOn 22 [(0, .ref r), (1, .ref a), (2, .ref b), (3, .int (nI i)), (4, .int (nI x))] [] M2 (fun r M' => ROK mdX5_goOn r ∧ Q r M')) ?_ 0 (Nat.zero_le _) M1 S hm
    intro x hx ih2 M2 S2 hm2
    have hs2 := hs.sm S2
    have ha2 := ha.sm S2
    have hb2 := hb.sm S2
    have hA2 := hA0.sm S2 (hnv 0 (by omega)).1 (hnv 1 (by omega)).1 (hnv 2 (by omega)).1
    have hB2 := hB0.sm S2 (hnv 0 (by omega)).2 (hnv 1 (by omega)).2 (hnv 2 (by omega)).2
    have f3 : mR M2 r 3 = u := by rw [S2.2.1, hu]
    have f4 : mR M2 r 4 = v := by rw [S2.2.1, hv']
    have g1 : mK M2 u = 1 := by rw [S2.2.2.1]; exact w1
    have g2 : mK M2 v = 1 := by rw [S2.2.2.1]; exact w3
    have m1 : mN M2 u = 64 := by rw [S2.2.2.2.1]; exact w2
    have m2 : mN M2 v = 64 := by rw [S2.2.2.2.1]; exact w4
    have hwu2 : ∀ c, c < 64 → mI M2 u c = nI (W c) := fun c hc => by rw [S2.I nu, hu]; exact hw c hc
    have hWi := hb20 i hi6
    refine gX5_goOn_22 ha2.1.1 hs2.1.1 (by rw [f3]; exact g1) (fun c1 => ?_) (fun c1 => ?_) (fun c1 c2 => ?_) (fun c1 c2 => ?_)
    · rw [hA2.1.2, nI_leI (by omega) (by omega)] at c1
      have e : x = pl A := by omega
      subst e
      rw [nI_add]
      exact ih hi6 M2 S2 hm2
    · rw [f3, m1]; exact z_in hi6 (by omega)
    · rw [f3, nI_clamp (by omega), hwu2 i hi6] at c2
      have hz : W i = 0 := by
        rw [show (0 : Int32) = nI 0 from rfl, nI_leI (by omega) (by omega)] at c2
        omega
      rw [nI_add]
      refine ih hi6 M2 S2 (fun c hc => ?_)
      rw [hm2 c hc]
      show _ = nI (gN (pl A) W (stP A B) c i + gX W (stP A B) c i (pl A))
      rw [gX_0 hz, gX_0 hz]
    · have hxl : x < pl A := Nat.lt_of_not_le fun z => c1 (by rw [hA2.1.2]; exact nI_le z (by omega))
      rw [f3, nI_clamp (by omega), hwu2 i hi6] at c2
      have hz : W i ≠ 0 := fun e => c2 (by rw [e]; decide)
      obtain ⟨v1, v2⟩ := hv i hi6 hz
      have t1 := hA.2.2.2 _ v1 x hxl
      have t2 := hB.2.2.2 _ v2 x (by omega)
      rw [z_d8 hi6]
      refine w_nextO (s := some (i / 8)) (by decide) ha2 hA2 hA.bd (fun j e => by cases e; omega) (by omega) ?_
      rw [show nx A (some (i / 8)) x = some (pt A (i / 8) x) from if_pos ⟨v1, hxl⟩]
      refine gX5_goOn_50 hb2.1.1 ?_
      rw [z_d8 hi6, z_r8 hi6]
      refine w_nextO (s := some (i % 8)) (by decide) hb2 hB2 hB.bd (fun j e => by cases e; omega) (by omega) ?_
      rw [show nx B (some (i % 8)) x = some (pt B (i % 8) x) from if_pos ⟨v2, by omega⟩]
      refine gX5_goOn_60 (w_X5_pairOf (by decide) (by omega) (by omega) ?_)
      have hst : 8 * pt A (i / 8) x + pt B (i % 8) x = stP A B i x := rfl
      rw [hst]
      have hlt : stP A B i x < 64 := by rw [← hst]; omega
      refine gX5_goOn_63 hs2.1.1 (by rw [f4]; exact g2) (by rw [f3]; exact g1) (fun c3 => absurd c3 (nI_pos (by omega))) (fun _ c3 => ?_) (fun _ _ => ?_) (fun _ _ => ?_) (fun _ _ => ?_)
      · exfalso; rw [f4, m2] at c3; exact nI_ge hlt (by omega) c3
      · rw [f4, m2]; exact z_in hlt (by omega)
      · rw [f3, m1]; exact z_in hi6 (by omega)
      · rw [f3, f4, nI_clamp (by omega), nI_clamp (by omega), hwu2 i hi6, hm2 _ hlt, nI_add, nI_add]
        refine ih2 hxl _ (S2.tr (Sm.sI (by simp) _ _ _)) (fun c hc => ?_)
        by_cases e : c = stP A B i x
        · subst e
          rw [rI_at]
          show _ = nI (gN (pl A) W (stP A B) (stP A B i x) i + (gX W (stP A B) (stP A B i x) i x + if stP A B i x = stP A B i x then W i else 0))
          rw [if_pos rfl, Nat.add_assoc]
        · rw [rI_nk e, hm2 c hc]
          show _ = nI (gN (pl A) W (stP A B) c i + (gX W (stP A B) c i x + if stP A B i x = c then W i else 0))
          rw [if_neg (Ne.symm e)]; rfl
theorem SeaSh.fe_w (hs : SeaSh M r) : SeaSh M r := hs
theorem w_X5_countUnlike {k : Nat} (hd : 3 < d) (hk : k ≤ 8) (hs : SeaSh M r) (hrl : r + 4 < mC M + 2) (ha : MacSh M a) (hA0 : MacAt M a A) (hA : okM A) (hb : MacSh M b) (hB0 : MacAt M b B) (hB : okM B) (hl : pl B = pl A) (hal : a + 3 < mC M + 2) (hbl : b + 3 < mC M + 2) (na : ∀ i, i < 3 → a + i ∉ [r, r + 3, r + 4]) (nb : ∀ i, i < 3 → b + i ∉ [r, r + 3, r + 4])
    (h : ∀ M', Fe [r, r + 3, r + 4] M M' → SeaSh M' r → Q (some (.int (nI (uT A B (k + 1))))) M') : ClD d mdX5_countUnlike [.ref r, .ref a, .ref b, .int (nI k)] M Q := by
  have w := hs.w
  have ne : ∀ {c : Nat}, (∀ i, i < 3 → c + i ∉ [r, r + 3, r + 4]) → ∀ i, i < 3 → c + i ≠ r + 3 ∧ c + i ≠ r + 4 := fun hc i hi => by
    have := hc i hi
    simp only [List.mem_cons, List.not_mem_nil, or_false, not_or] at this
    exact ⟨this.2.1, this.2.2⟩
  refine ⟨3, hd, Cl.of moX5_countUnlike (Nat.le_of_ble_eq_true rfl) (gX5_countUnlike_0 ?_)⟩
  have big : ∀ n, n ≤ k + 1 → ∀ M1, Fe [r, r + 3, r + 4] M M1 → SeaSh M1 r → WysAt M1 r (wy (pl A) (stP A B) n) → Wp 3 mdX5_countUnlike 42 [(0, .ref r), (1, .ref a), (2, .ref b), (3, .int (nI k)), (4, .int (nI (uT A B n))), (5, .int (nI n))] [] M1 (fun r M' => ROK mdX5_countUnlike r ∧ Q r M') := by
    refine upto (k + 1) (fun n => ∀ M1, Fe [r, r + 3, r + 4] M M1 → SeaSh M1 r → WysAt M1 r (wy (pl A) (stP A B) n) → Wp 3 mdX5_countUnlike 42 [(0, .ref r), (1, .ref a), (2, .ref b), (3, .int (nI k)), (4, .int (nI (uT A B n))), (5, .int (nI n))] [] M1 (fun r M' => ROK mdX5_countUnlike r ∧ Q r M')) ?_
    intro n hn ih M3 F hs3 hw3
    have ha3 := ha.fm F.1 hal
    have hb3 := hb.fm F.1 hbl
    have hA3 := hA0.fm F.1 hal (na 0 (by omega)) (na 1 (by omega)) (na 2 (by omega))
    have hB3 := hB0.fm F.1 hbl (nb 0 (by omega)) (nb 1 (by omega)) (nb 2 (by omega))
    refine gX5_countUnlike_42 hs3.1.1 (fun c => ⟨⟨_, rfl⟩, ?_⟩) (fun c => ?_)
    · rw [nI_ltI (by omega) (by omega)] at c
      have e : n = k + 1 := by omega
      subst e
      exact h M3 F hs3
    · have hnk : n ≤ k := Nat.le_of_not_lt fun z => c (nI_lt z (by omega))
      refine w_X5_unlikeWays (by decide) hs3 hw3 (wy_v hA hB hl n) (fun c hc => wy_le hA hB hl (by omega) hc) ha3 hA3 hA hb3 hB3 hB (gX5_countUnlike_56 hs3.1.1 ?_)
      refine w_X5_goOn (by decide) hs3 (by rw [F.2.1]; exact hrl) hw3 (wy_v hA hB hl n) (fun c hc => wy_le hA hB hl (by omega) hc) ha3 hA3 hA hb3 hB3 hB hl (ne na) (ne nb) (fun M4 F4 hs4 hw4 => gX5_countUnlike_65 ?_)
      rw [nI_add, nI_add]
      exact ih (by omega) M4 (F.tr F4) hs4 hw4
  have m3 : mR M r 3 ∈ [r, r + 3, r + 4] := by simp; omega
  refine upto 64 (fun n => ∀ M1, Sm [r, r + 3, r + 4] M M1 → (∀ c, c < n → mI M1 (mR M r 3) c = nI (if c = 0 then 1 else 0)) → Wp 3 mdX5_countUnlike 3 [(0, .ref r), (1, .ref a), (2, .ref b), (3, .int (nI k)), (4, .int (nI n))] [] M1 (fun r M' => ROK mdX5_countUnlike r ∧ Q r M')) ?_ 0 (Nat.zero_le _) M (Sm.rf _ _) (fun _ h => by omega)
  intro n hn ih M1 S1 hj
  have hs1 := hs.sm S1
  have w1 := hs1.w
  have e2 : mR M1 r 3 = mR M r 3 := by rw [S1.2.1]
  have put : ∀ v, n < 64 → v = (if n = 0 then 1 else 0) → Wp 3 mdX5_countUnlike 29 [(0, .ref r), (1, .ref a), (2, .ref b), (3, .int (nI k)), (4, .int (nI n))] [.int (nI v), .int (nI n), .ref (mR M1 r 3)] M1 (fun r M' => ROK mdX5_countUnlike r ∧ Q r M') := by
    intro v hlt hv
    refine gX5_countUnlike_29 w1.1 (by rw [w1.2.1]; exact z_in hlt (by omega)) ?_
    rw [nI_add, nI_clamp (by omega), e2]
    refine ih hlt _ (S1.tr (Sm.sI m3 _ _ _)) (fun c hc => ?_)
    by_cases ec : c = n
    · rw [ec, rI_at, hv]
    · rw [rI_nk ec]; exact hj c (by omega)
  refine gX5_countUnlike_3 hs1.1.1 w1.1 (fun c => ?_) (fun c c0 => ?_) (fun c c0 => ?_)
  · rw [w1.2.1, nI_leI (by omega) (by omega)] at c
    refine big 0 (Nat.zero_le _) M1 S1.fe hs1 (fun x hx => ?_)
    rw [e2]
    exact hj x (by omega)
  · have hlt : n < 64 := Nat.lt_of_not_le fun z => c (by rw [w1.2.1]; exact nI_le z (by omega))
    refine put 0 hlt ?_
    rw [if_neg]
    intro z; subst z; exact c0 rfl
  · have hlt : n < 64 := Nat.lt_of_not_le fun z => c (by rw [w1.2.1]; exact nI_le z (by omega))
    refine put 1 hlt ?_
    have c3 : nI n = nI 0 := c0
    rw [nI_eq (by omega) (by omega)] at c3
    rw [if_pos c3]
end GoOn
