/-! the reference: how many words are answered wrongly -/
/-- how many words have less than n letters -/
def aU (l : Nat) : Nat → Nat
  | 0 => 0
  | n + 1 => aU l n + l ^ n
theorem aU_cU (l : Nat) : ∀ k, aU l (k + 1) = cU l k
  | 0 => by show 0 + l ^ 0 = 1; rw [Nat.pow_zero]
  | k + 1 => by show aU l (k + 1) + l ^ (k + 1) = cU l k + l ^ (k + 1); rw [aU_cU l k]
theorem smN_mono {f : Nat → Nat} : ∀ {n m}, n ≤ m → smN f n ≤ smN f m
  | n, 0, h => by rw [show n = 0 by omega]; exact Nat.le_refl _
  | n, m + 1, h => by
    by_cases e : n = m + 1
    · rw [e]; exact Nat.le_refl _
    · exact Nat.le_trans (smN_mono (n := n) (m := m) (by omega)) (Nat.le_add_right _ _)
def MoW (M : Mem) (m : Nat) (W : Nat → Nat) : Prop := ∀ c, c < 64 → mI M (m + 24) c = nI (W c)
section MWr
variable {d m st sp N : Nat} {Q : Option Value → Mem → Prop} {Mz M M' : Mem} {A G : PM} {p p' : PS} {X : List Nat} {R : List Int64} {W : Nat → Nat}
theorem w_X12_goesOn (hd : 2 < d) (hs : MoSh M m) (hw : MoW M m W) (hv : vW G A W) (hb20 : ∀ c, c < 64 → W c ≤ 19683) (hG0 : MoM M m 1 G) (hG : okM G) (hA0 : MoM M m 0 A) (hA : okM A) (hl : pl A = pl G) (hm3 : mI M m 3 = nI (pl A))
    (h : ∀ M', Sm [m + 24, m + 25] M M' → MoW M' m (fun c => gN (pl G) W (stP G A) c 64) → Q none M') : ClD d mdX12_goesOn [.ref m] M Q := by
  have a8 := hA.1.2
  have g8 := hG.1.2
  have l3 := hA.2.1.2
  have tS : ∀ {M1}, Sm [m + 24, m + 25] M M1 → MoSh M1 m ∧ MoM M1 m 1 G ∧ MoM M1 m 0 A ∧ mI M1 m 3 = nI (pl A) := fun S => ⟨hs.sm S, hG0.sm S (by simp) (by simp) (by simp), hA0.sm S (by simp) (by simp) (by simp), by rw [S.I (by simp)]; exact hm3⟩
  refine ⟨2, hd, Cl.of moX12_goesOn (Nat.le_of_ble_eq_true rfl) (gX12_goesOn_0 ?_)⟩
  refine upto 64 (fun k => ∀ M1, Sm [m + 25] M M1 → (∀ e, e < k → mI M1 (m + 25) e = nI 0) → Wp 2 mdX12_goesOn 2 [(0, .ref m), (1, .int (nI k))] [] M1 (fun r M' => ROK mdX12_goesOn r ∧ Q r M')) ?_ 0 (Nat.zero_le _) M (Sm.rf _ _) (fun e h => by omega)
  intro k hk ih M1 S hz
  have up : ∀ {M1}, Sm [m + 25] M M1 → Sm [m + 24, m + 25] M M1 := fun S => S.mono (fun p hp => by simp at hp ⊢; omega)
  obtain ⟨s1, -, -, -⟩ := tS (up S)
  have f39 := s1.f39
  refine gX12_goesOn_2 s1.1 (by rw [f39.1]; exact f39.2.1) (fun c => ?_) (fun c => ?_) (fun c => ?_) <;> rw [nI_leI (by decide) (by omega)] at c
  · have ek : k = 64 := by omega
    subst ek
    -- the pairs
    refine upto 64 (fun i => ∀ M1, Sm [m + 25] M M1 → (∀ c, c < 64 → mI M1 (m + 25) c = nI (gN (pl G) W (stP G A) c i)) → Wp 2 mdX12_goesOn 23 [(0, .ref m), (1, .int (nI i))] [] M1 (fun r M' => ROK mdX12_goesOn r ∧ Q r M')) ?_ 0 (Nat.zero_le _) M1 S hz
    clear s1 f39 hz S ih M1 c
    intro i hi ih M1 S hm
    refine gX12_goesOn_23 (fun c => ?_) (fun c => ?_) <;> rw [nI_leI (by decide) (by omega)] at c
    · have e : i = 64 := by omega
      subst e
      refine upto 64 (fun c => ∀ M2, Sm [m + 24, m + 25] M M2 → mI M2 (m + 25) = mI M1 (m + 25) → (∀ e, e < c → mI M2 (m + 24) e = mI M1 (m + 25) e) → Wp 2 mdX12_goesOn 100 [(0, .ref m), (1, .int (nI c))] [] M2 (fun r M' => ROK mdX12_goesOn r ∧ Q r M')) ?_ 0 (Nat.zero_le _) M1 (up S) rfl (fun e h => by omega)
      intro c hc ih3 M2 S2 h25 h24
      obtain ⟨s2, -, -, -⟩ := tS S2
      have f39 := s2.f39
      have f38 := s2.f38
      refine gX12_goesOn_100 s2.1 (by rw [f39.1]; exact f39.2.1) (by rw [f38.1]; exact f38.2.1) (fun c5 => ⟨rfl, ?_⟩) (fun c5 => ?_) (fun c5 => ?_) (fun c5 => ?_) <;> rw [nI_leI (by decide) (by omega)] at c5
      · have e : c = 64 := by omega
        subst e
        exact h M2 S2 (fun e he => by rw [h24 e he]; exact hm e he)
      · rw [f39.1, f39.2.2]; exact z_in (by omega) (by decide)
      · rw [f38.1, f38.2.2]; exact z_in (by omega) (by decide)
      · rw [f38.1, f39.1, nI_clamp (by omega), nI_add, h25]
        refine ih3 (by omega) _ (S2.tr (Sm.sI (by simp) _ _ _)) (by rw [rI_np (by omega)]; exact h25) (fun e he => ?_)
        by_cases z : e = c
        · subst z; exact rI_at _ _ _ _
        · rw [rI_nk z]; exact h24 e (by omega)
    · have hi6 : i < 64 := by omega
      refine upto (pl G) (fun x => ∀ M2, Sm [m + 25] M M2 → (∀ c, c < 64 → mI M2 (m + 25) c = nI (gN (pl G) W (stP G A) c i + gX W (stP G A) c i x)) → Wp 2 mdX12_goesOn 31 [(0, .ref m), (1, .int (nI i)), (2, .int (nI x))] [] M2 (fun r M' => ROK mdX12_goesOn r ∧ Q r M')) ?_ 0 (Nat.zero_le _) M1 S hm
      intro x hx ih2 M2 S2 hm2
      obtain ⟨s2, G2, A2, m3⟩ := tS (up S2)
      have f38 := s2.f38
      have f39 := s2.f39
      have ew : mI M2 (mR M2 m 38) (nI i).toNatClampNeg = nI (W i) := by rw [f38.1, nI_clamp (by omega), S2.I (by simp)]; exact hw i hi6
      have hWi := hb20 i hi6
      refine gX12_goesOn_31 s2.1 (by rw [f38.1]; exact f38.2.1) (fun c1 => ?_) (fun c1 => ?_) (fun c1 c2 => ?_) (fun c1 c2 => ?_) <;> rw [m3, nI_leI (by omega) (by omega)] at c1
      · have e : x = pl G := by omega
        subst e
        rw [nI_add]
        exact ih hi6 M2 S2 hm2
      · rw [f38.1, f38.2.2]; exact z_in hi6 (by decide)
      · rw [ew, show (0 : Int32) = nI 0 from rfl, nI_leI (by omega) (by omega)] at c2
        have hz : W i = 0 := by omega
        rw [nI_add]
        refine ih hi6 M2 S2 (fun c hc => ?_)
        rw [hm2 c hc]
        show _ = nI (gN (pl G) W (stP G A) c i + gX W (stP G A) c i (pl G))
        rw [gX_0 hz, gX_0 hz]
      · have hxl : x < pl G := by omega
        rw [ew] at c2
        have hz : W i ≠ 0 := fun e => c2 (by rw [e]; decide)
        obtain ⟨v1, v2⟩ := hv i hi6 hz
        have t1 := hG.2.2.2 _ v1 x hxl
        have t2 := hA.2.2.2 _ v2 x (by omega)
        rw [z_d8 hi6]
        refine w_X12_comes (by decide) s2 (by decide) G2 hG v1 hxl ?_
        refine gX12_goesOn_64 s2.1 ?_
        rw [z_d8 hi6, z_r8 hi6]
        refine w_X12_comes (by decide) s2 (by decide) A2 hA v2 (by omega) ?_
        have hst : 8 * pt G (i / 8) x + pt A (i % 8) x = stP G A i x := rfl
        have hlt : stP G A i x < 64 := by rw [← hst]; omega
        have hadd : nI 8 * nI (pt G (i / 8) x) + nI (pt A (i % 8) x) = nI (stP G A i x) := by rw [pk_mul, nI_add, hst]
        rw [f39.1]
        refine gX12_goesOn_75 f39.2.1 s2.1 (by rw [f38.1]; exact f38.2.1) (by rw [hadd, f39.2.2]; exact z_in hlt (by decide)) (by rw [f38.1, f38.2.2]; exact z_in hi6 (by decide)) ?_
        rw [hadd, ew, nI_clamp (by omega), hm2 _ hlt, nI_add, nI_add]
        refine ih2 hxl _ (S2.tr (Sm.sI (by simp) _ _ _)) (fun c hc => ?_)
        by_cases e : c = stP G A i x
        · subst e
          rw [rI_at]
          show _ = nI (gN (pl G) W (stP G A) (stP G A i x) i + (gX W (stP G A) (stP G A i x) i x + if stP G A i x = stP G A i x then W i else 0))
          rw [if_pos rfl, Nat.add_assoc]
        · rw [rI_nk e, hm2 c hc]
          show _ = nI (gN (pl G) W (stP G A) c i + (gX W (stP G A) c i x + if stP G A i x = c then W i else 0))
          rw [if_neg (Ne.symm e)]; rfl
  · rw [f39.1, f39.2.2]; exact z_in (by omega) (by decide)
  · rw [f39.1, nI_clamp (by omega), nI_add]
    refine ih (by omega) _ (S.tr (Sm.sI (by simp) _ _ _)) (fun e he => ?_)
    by_cases ee : e = k
    · subst ee; exact rI_at _ _ _ _
    · rw [rI_nk ee]; exact hz e (by omega)
theorem w_X12_wrong {x : Int32} (hd : 3 < d) (hS : MoS Mz M m X A st sp p R) (hI : PI A N p) (h1 : ∀ M', MoS Mz M' m X A st sp p R → ((¬ ∃ k, k ≤ 8 ∧ x = nI k) → Q (some (.int (-1 : Int32))) M') ∧ ∀ k, k ≤ 8 → x = nI k → qg p = none → Q (some (.int (-2 : Int32))) M')
    (h2 : ∀ M' k g, k ≤ 8 → x = nI k → qg p = some g → MoS Mz M' m X A st sp p [(nI (cU (pl A) k)).toInt64] → Q (some (.int (nI (uT g.2 A (k + 1))))) M') : ClD d mdX12_wrong [.ref m, .int x] M Q := by
  have hA := hS.sh.2
  have a8 := hA.1.2
  have l3 := hA.2.1
  obtain ⟨M1, hM1⟩ : ∃ M1, M1 = sI M m 0 (nI 0) := ⟨_, rfl⟩
  have hS1 : MoS Mz M1 m X A st sp p R := by rw [hM1]; exact hS.th
  have s1 := hS1.sh.1
  have h1 := h1 M1 hS1
  have f20 := s1.f20
  have K : mK M1 (mR M1 m 20) = 3 := by rw [f20.1]; exact f20.2.1
  have one : ¬ (nI 1 : Int32) = 0 := by decide
  refine ⟨3, hd, Cl.of moX12_wrong (Nat.le_of_ble_eq_true rfl) (gX12_wrong_0 hS.sh.1.1 ?_)⟩
  rw [← hM1]
  refine w_inI (a := 0) (b := 8) (by decide) (by decide) (by decide) (fun k _ hk ek => gX12_wrong_14 s1.1 K (fun _ => by rw [f20.1, f20.2.2]; exact z_in (by decide) (by decide)) (fun _ c => ?_) (fun _ c => ⟨⟨_, rfl⟩, ?_⟩) (fun c => absurd c one)) (fun hn => gX12_wrong_14 s1.1 K (fun c => absurd rfl c) (fun c => absurd rfl c) (fun c => absurd rfl c) (fun _ => ⟨⟨_, rfl⟩, h1.1 (fun ⟨k, k1, k2⟩ => hn ⟨k, Nat.zero_le _, k1, k2⟩)⟩))
  · rw [f20.1, nI_clamp (by decide)] at c
    cases hg : qg p with
    | none => rw [hS1.g0.1 hg] at c; exact absurd rfl c
    | some g =>
      have hgu := hI.gu hA hg
      have hG := hgu.1
      have hl : pl A = pl g.2 := hgu.2.1.symm
      have g8 := hG.1.2
      rw [ek]
      have h2 := fun M' => h2 M' k g hk ek hg
      have tS : ∀ {M2}, Sm [m + 24, m + 25] M1 M2 → MoS Mz M2 m X A st sp p R := fun S => hS1.sm S (fun q hq => by simp at hq; omega)
      -- the first row of ways
      refine upto 64 (fun c => ∀ M2, Sm [m + 24, m + 25] M1 M2 → (∀ e, e < c → mI M2 (m + 24) e = nI (wy (pl g.2) (stP g.2 A) 0 e)) → Wp 3 mdX12_wrong 33 [(0, .ref m), (1, .int (nI k)), (2, .int (nI c))] [] M2 (fun r M' => ROK mdX12_wrong r ∧ Q r M')) ?_ 0 (Nat.zero_le _) M1 (Sm.rf _ _) (fun e h => by omega)
      intro c hc ih M2 S2 hw
      have hS2 := tS S2
      have s2 := hS2.sh.1
      have f38 := s2.f38
      have NX : ∀ v : Nat, v ≤ 1 → c < 64 → wy (pl g.2) (stP g.2 A) 0 c = v → Wp 3 mdX12_wrong 53 [(0, .ref m), (1, .int (nI k)), (2, .int (nI c))] [.int (nI v), .int (nI c), .ref (m + 24)] M2 (fun r M' => ROK mdX12_wrong r ∧ Q r M') := fun v hv hc6 ev => by
        have nx : Wp 3 mdX12_wrong 33 [(0, .ref m), (1, .int (nI k)), (2, .int (nI (c + 1)))] [] (sI M2 (m + 24) c (nI v)) (fun r M' => ROK mdX12_wrong r ∧ Q r M') := ih hc6 _ (S2.tr (Sm.sI (by simp) _ _ _)) (fun e he => by
          by_cases z : e = c
          · rw [z, rI_at, ev]
          · rw [rI_nk z]; exact hw e (by omega))
        refine gX12_wrong_53 (w_X12_flag (by decide) (fun c9 => gX12_wrong_56 f38.2.1 (by rw [f38.2.2]; exact z_in hc6 (by decide)) ?_) (fun c9 => gX12_wrong_56 f38.2.1 (by rw [f38.2.2]; exact z_in hc6 (by decide)) ?_)) <;> rw [nI_clamp (by omega), nI_add]
        · have c9 : nI v = nI 0 := c9
          rw [nI_eq (by omega) (by decide)] at c9
          rw [c9] at nx; exact nx
        · have : v = 1 := by
            apply Classical.byContradiction; intro q
            exact c9 (by rw [show v = 0 by omega]; rfl)
          rw [this] at nx; exact nx
      refine gX12_wrong_33 s2.1 (fun c1 => ?_) (fun c1 c2 => ?_) (fun c1 c2 => ?_) <;> rw [nI_leI (by decide) (by omega)] at c1
      · have e : c = 64 := by omega
        subst e
        -- by length
        have z0 : (nI 0 : Int32) = nI (aU (pl g.2) 0) := rfl
        refine upto (k + 1) (fun n => ∀ M2, Sm [m + 24, m + 25] M1 M2 → MoW M2 m (wy (pl g.2) (stP g.2 A) n) → Wp 3 mdX12_wrong 70 [(0, .ref m), (1, .int (nI k)), (2, .int (nI (uT g.2 A n))), (3, .int (nI (aU (pl g.2) n))), (4, .int (nI n))] [] M2 (fun r M' => ROK mdX12_wrong r ∧ Q r M')) ?_ 0 (Nat.zero_le _) M2 S2 hw
        clear f38 s2 hS2 hw S2 NX ih M2 c1
        intro n hn ih M2 S2 hw
        have hS2 := tS S2
        have s2 := hS2.sh.1
        refine gX12_wrong_70 s2.1 (fun c1 => ?_) (fun c1 => ?_) <;> rw [nI_ltI (by omega) (by omega)] at c1
        · have e : n = k + 1 := by omega
          subst e
          refine w_X12_enters (by decide) hS2.nil (by decide) (fun M3 S3 _ => gX12_wrong_166 ⟨⟨_, rfl⟩, h2 M3 ?_⟩)
          rw [aU_cU, ← hl] at S3
          exact S3
        · have hnk : n ≤ k := by omega
          have hv := wy_v hG hA hl n
          have hsum := wy_sum hG hA hl n
          have hb := fun c (hc : c < 64) => wy_le hG hA hl (k := n) (c := c) (by omega) hc
          have hgm : MoM M2 m 1 g.2 := (hS2.g0.2 g hg).2.2.1
          have l3' := hS2.l3
          have f38 := s2.f38
          refine upto 64 (fun c => Wp 3 mdX12_wrong 79 [(0, .ref m), (1, .int (nI k)), (2, .int (nI (uT g.2 A n + uW g.2 A (wy (pl g.2) (stP g.2 A) n) c))), (3, .int (nI (aU (pl g.2) n + smN (wy (pl g.2) (stP g.2 A) n) c))), (4, .int (nI n)), (5, .int (nI c))] [] M2 (fun r M' => ROK mdX12_wrong r ∧ Q r M')) ?_ 0 (Nat.zero_le _)
          intro c hc ih2
          have hu : uW g.2 A (wy (pl g.2) (stP g.2 A) n) (c + 1) = uW g.2 A (wy (pl g.2) (stP g.2 A) n) c + if po g.2 (c / 8) = po A (c % 8) then 0 else wy (pl g.2) (stP g.2 A) n c := rfl
          have ha : smN (wy (pl g.2) (stP g.2 A) n) (c + 1) = smN (wy (pl g.2) (stP g.2 A) n) c + wy (pl g.2) (stP g.2 A) n c := rfl
          refine gX12_wrong_79 s2.1 (by rw [f38.1]; exact f38.2.1) (fun c2 => ?_) (fun c2 => ?_) (fun c2 c3 => ?_) (fun c2 c3 => ?_) <;> rw [nI_leI (by decide) (by omega)] at c2
          · have e : c = 64 := by omega
            subst e
            rw [hsum]
            refine w_X12_goesOn (by decide) s2 hw hv hb hgm hG l3'.2 hA hl l3'.1 (fun M3 S3 hw3 => gX12_wrong_149 ?_)
            rw [nI_add]
            exact ih (by omega) M3 (S2.tr S3) hw3
          · rw [f38.1, f38.2.2]; exact z_in (by omega) (by decide)
          · rw [f38.1, nI_clamp (by omega), hw c (by omega)] at c3 ⊢
            rw [show (0 : Int32) = nI 0 from rfl, nI_leI (by have := hb c (by omega); omega) (by omega)] at c3
            have hz : wy (pl g.2) (stP g.2 A) n c = 0 := by omega
            have e : uW g.2 A (wy (pl g.2) (stP g.2 A) n) (c + 1) = uW g.2 A (wy (pl g.2) (stP g.2 A) n) c := by rw [hu, hz]; split <;> rfl
            rw [nI_add, nI_add, Nat.add_assoc, ← ha]
            have := ih2 (by omega)
            rw [e] at this; exact this
          · rw [f38.1, nI_clamp (by omega), hw c (by omega)] at c3 ⊢
            have hz : wy (pl g.2) (stP g.2 A) n c ≠ 0 := fun e => c3 (by rw [e]; decide)
            obtain ⟨v1, v2⟩ := hv c (by omega) hz
            have o1 := hG.2.2.1 _ v1
            have o2 := hA.2.2.1 _ v2
            rw [z_d8 (by omega), nI_add, Nat.add_assoc, ← ha]
            refine w_X12_shown (by decide) s2 (by decide) hgm hG v1 (gX12_wrong_116 s2.1 ?_)
            rw [z_d8 (by omega), z_r8 (by omega)]
            have nx := ih2 (by omega)
            refine w_X12_shown (by decide) s2 (by decide) l3'.2 hA v2 (gX12_wrong_126 s2.1 (by rw [f38.1]; exact f38.2.1) (fun c4 => ?_) (fun c4 => ?_) (fun c4 => ?_))
            · rw [nI_eq (by omega) (by omega)] at c4
              rw [hu, if_pos c4, Nat.add_zero] at nx
              rw [nI_add]; exact nx
            · rw [f38.1, f38.2.2]; exact z_in (by omega) (by decide)
            · rw [nI_eq (by omega) (by omega)] at c4
              rw [hu, if_neg c4, ← Nat.add_assoc] at nx
              rw [f38.1, nI_clamp (by omega), hw c (by omega), nI_add, nI_add]; exact nx
      · have c2 : ¬ nI c = nI 0 := c2
        rw [nI_eq (by omega) (by decide)] at c2
        rw [f38.1]
        exact NX 0 (by decide) (by omega) (if_neg c2)
      · have c2 : nI c = nI 0 := c2
        rw [nI_eq (by omega) (by decide)] at c2
        rw [f38.1]
        exact NX 1 (by decide) (by omega) (if_pos c2)
  · rw [f20.1, nI_clamp (by decide)] at c
    cases hg : qg p with
    | none => exact h1.2 k hk ek hg
    | some g => rw [(hS1.g0.2 g hg).1] at c; exact absurd c (by decide)
end MWr
