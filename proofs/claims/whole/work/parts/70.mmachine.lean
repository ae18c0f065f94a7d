/-! the reference: its face, a machine is read -/
section MMa
variable {d m st sp N : Nat} {Q : Option Value → Mem → Prop} {Mz M M' : Mem} {A : PM} {p p' : PS} {X : List Nat} {R : List Int64}
theorem MoS.rm (h : MoS Mz M m [] A st sp p R) (F : Rm0 m M M') : MoS Mz M' m [] A st sp p R := by
  have h0 := h
  obtain ⟨⟨⟨h1, h2⟩, h3, h4, h5, h6, h7⟩, -⟩ := h
  obtain ⟨S, f⟩ := F
  refine ⟨?_, h0.fr S (fun q hq => by simp at hq; omega)⟩
  exact ⟨⟨h1.sm S (by simp), by rw [f 30 (by decide) (by decide) (by decide)]; exact h2⟩, h3.cg (h3.sh.1.sm S) (fun q a b => ⟨S.I (by simp; omega), S.J (by simp; omega)⟩) ⟨f 3 (by decide) (by decide) (by decide), f 8 (by decide) (by decide) (by decide), f 9 (by decide) (by decide) (by decide)⟩, by rw [f 7 (by decide) (by decide) (by decide)]; exact h4, by rw [f 1 (by decide) (by decide) (by decide)]; exact h5, h6, fun j hj => by rw [S.J (by simp)]; exact h7 j hj⟩
theorem gUp_le {l q : Nat} (h : gUp X l q) : q ≤ X.length := by
  by_cases c : q = 0
  · omega
  · have := gp_lt (h (q - 1) (by omega)); omega
theorem w_X12_machine (hd : 6 < d) (hS : MoS Mz M m X A st sp p R) (hm3 : qm p ≤ 3)
    (h1 : ∀ M' n, prK X n → clM (tA X n) → MoS Mz M' m [] (tA X n) st sp (newP (tA X n) st sp (qm p)) R → Q (some (.int (nI n))) M')
    (h2 : ∀ M' n, prK X n → ¬ clM (tA X n) → MoS Mz M' m [] A st sp p R → Q (some (.int (-100 : Int32))) M')
    (h3 : ∀ M' q, prE X q → MoS Mz M' m [] A st sp p R → Q (some (.int ((-21 : Int32) - nI q))) M') : ClD d mdX12_machine [.ref m] M Q := by
  have hl := l0_b X
  have hs := hS.sh.1
  have hX := hS.1.1.1
  have t30 := hS.1.1.2
  obtain ⟨M1, hM1⟩ : ∃ M1, M1 = sI (sI (sI (sI M m 0 (nI 0)) m 32 (nI X.length)) m 30 (nI 0)) m 31 (nI 0) := ⟨_, rfl⟩
  have S1 : Sm [m] M M1 := by rw [hM1]; exact (((Sm.sI (by simp) _ _ _).tr (Sm.sI (by simp) _ _ _)).tr (Sm.sI (by simp) _ _ _)).tr (Sm.sI (by simp) _ _ _)
  have j1 : ∀ j, j ≠ 0 → j ≠ 30 → j ≠ 31 → j ≠ 32 → mI M1 m j = mI M m j := fun j a b c e => by
    rw [hM1, rI_nk c, rI_nk b, rI_nk e, rI_nk a]
  have hs0 : MoSh M1 m := hs.sm S1
  have hx0 : MoX M1 m X := hX.sm S1 (by simp)
  have h320 : mI M1 m 32 = nI X.length := by rw [hM1, rI_nk (by decide), rI_nk (by decide)]; exact rI_at _ _ _ _
  have h310 : mI M1 m 31 = nI 0 := by rw [hM1]; exact rI_at _ _ _ _
  have hS1 : MoS Mz M1 m [] A st sp p R := by
    refine ⟨?_, hS.fr S1 (fun q hq => by simp at hq; omega)⟩
    obtain ⟨⟨-, k3, k4, k5, k6, k7⟩, -⟩ := hS
    refine ⟨⟨⟨Nat.zero_le _, fun j hj => by rw [List.length_nil] at hj; omega, fun j => by rw [show ([] : List Nat).getD j 0 = 0 by simp]; decide⟩, ?_⟩, k3.cg hs0 (fun q a b => ⟨S1.I (by simp; omega), S1.J (by simp; omega)⟩) ⟨j1 3 (by decide) (by decide) (by decide) (by decide), j1 8 (by decide) (by decide) (by decide) (by decide), j1 9 (by decide) (by decide) (by decide) (by decide)⟩, by rw [j1 7 (by decide) (by decide) (by decide) (by decide)]; exact k4, by rw [j1 1 (by decide) (by decide) (by decide) (by decide)]; exact k5, k6, fun j hj => by rw [S1.J (by simp)]; exact k7 j hj⟩
    rw [hM1, rI_nk (by decide)]; exact rI_at _ _ _ _
  refine ⟨6, hd, Cl.of moX12_machine (Nat.le_of_ble_eq_true rfl) (gX12_machine_0 hs.1 ?_)⟩
  rw [rI_nk (by decide), t30, ← hM1]
  have hXl := hX.1
  -- all is read
  have DONE : ∀ M3 s, s < 8 → RmI M1 m X (s * (2 * l0 X + 2) + 2 * l0 X + 1) M3 → mI M3 m 36 = nI (l0 X) → (s + 1 < 8 → ¬ sg X (s * (2 * l0 X + 2) + 2 * l0 X + 1) = some 59) → Wp 6 mdX12_machine 27 [(0, .ref m), (1, .int (nI (s + 1))), (2, .int (nI 0))] [] M3 (fun r M' => ROK mdX12_machine r ∧ Q r M') := by
    intro M3 s hs8 ⟨R3, P3, G3, D3⟩ hl3 hno
    obtain ⟨s3, x3, y3⟩ := R3.k hs0 hx0 h320
    have hS3 := hS1.rm R3
    have hle := gUp_le G3
    refine gX12_machine_27 s3.1 (fun _ c => ?_) (fun _ c => ⟨⟨_, rfl⟩, ?_⟩) (fun c => absurd rfl c) <;> rw [y3, P3, nI_leI (by omega) (by omega)] at c
    · have el : s * (2 * l0 X + 2) + 2 * l0 X + 1 = X.length := by omega
      have hpk : prK X (s + 1) := ⟨⟨by omega, by omega⟩, by rw [← el, Nat.add_mul, Nat.one_mul]; omega, by rw [← el]; exact G3⟩
      have hbd := tA_bd hpk
      obtain ⟨n, hn⟩ : ∃ n, n = s + 1 := ⟨_, rfl⟩
      rw [← hn] at hpk hbd ⊢
      have hn8 : 1 ≤ n ∧ n ≤ 8 := hpk.1
      have eO : ∀ s', s' < n → mI M3 (m + 22) s' = nI (po (tA X n) s') := fun s' hs' => by
        rw [tA_o]
        have h4 := mul_lt (k := 2 * l0 X + 2) (j := 1) hs' (by omega)
        rw [hn, Nat.add_mul, Nat.one_mul] at h4
        exact D3.1 s' (by omega) (by omega)
      have eN : ∀ s' x, s' < n → x < l0 X → mI M3 (m + 23) (s' * 3 + x) = nI (pt (tA X n) s' x) := fun s' x hs' hx => by
        rw [tA_t]
        have h4 := mul_lt (k := 2 * l0 X + 2) (j := 2 + 2 * x + 1) hs' (by omega)
        rw [hn, Nat.add_mul, Nat.one_mul] at h4
        exact D3.2 s' x (by omega) hx (by omega)
      have b8 : ∀ s' x, s' < n → x < l0 X → pt (tA X n) s' x < 8 := fun s' x h1 h2 => hbd.2.2.2 s' h1 x h2
      have b4 : ∀ s', s' < n → po (tA X n) s' < 4 := fun s' h1 => hbd.2.2.1 s' h1
      have f35 := s3.f35
      have f34 := s3.f34
      have f4 := s3.f4
      have v24 : ∀ s' x, s' < n → x < 3 → vp_in (nI (s' * 3 + x)) 24 := fun s' x h1 h2 => z_in (by omega) (by decide)
      have ix : ∀ s' x : Nat, nI 3 * nI s' + nI x = nI (s' * 3 + x) := fun s' x => by rw [pk_mul, nI_add, Nat.mul_comm]
      refine upto n (fun k => (∀ s' x, s' < k → x < l0 X → pt (tA X n) s' x < n) → Wp 6 mdX12_machine 95 [(0, .ref m), (1, .int (nI n)), (3, .int (nI k))] [] M3 (fun r M' => ROK mdX12_machine r ∧ Q r M')) ?_ 0 (Nat.zero_le _) (fun _ _ h => by omega)
      intro k hk ih hcl
      refine gX12_machine_95 s3.1 (by simp only [eRI]; rw [f4.1]; exact f4.2.1) (fun _ => by simp only [eRI, eNI]; rw [f4.1, f4.2.2]; exact z_in (by decide) (by decide)) (fun c => ?_) (fun c => ?_) <;> rw [nI_leI (by omega) (by omega)] at c
      · -- closed: it is told
        have ek : k = n := by omega
        subst ek
        have hclM : clM (tA X k) := fun s' h1 x h2 => hcl s' x h1 h2
        have okA : okM (tA X k) := ⟨hn8, hl, fun s' h => b4 s' h, fun s' h1 x h2 => hcl s' x h1 h2⟩
        simp only [eRI]
        rw [f4.1, nI_clamp (by decide), hl3]
        obtain ⟨M4, hM4⟩ : ∃ M4, M4 = sI (sI M3 m 3 (nI (l0 X))) (m + 2) 0 (nI k) := ⟨_, rfl⟩
        rw [← hM4]
        have S4 : Sm [m, m + 2, m + 3, m + 4] M3 M4 := by rw [hM4]; exact (Sm.sI (by simp) _ _ _).tr (Sm.sI (by simp) _ _ _)
        have k4 : ∀ j, mI M4 m j = if j = 3 then nI (l0 X) else mI M3 m j := fun j => by
          rw [hM4, rI_np (by omega)]
          by_cases z : j = 3
          · rw [z, rI_at, if_pos rfl]
          · rw [rI_nk z, if_neg z]
        have k2 : mI M4 (m + 2) 0 = nI k := by rw [hM4]; exact rI_at _ _ _ _
        clear hM4
        refine upto k (fun c => ∀ M5, Sm [m, m + 2, m + 3, m + 4] M3 M5 → mI M5 m = mI M4 m → mI M5 (m + 2) 0 = nI k → (∀ s', s' < c → mI M5 (m + 3) s' = nI (po (tA X k) s')) → (∀ s' x, s' < c → x < l0 X → mI M5 (m + 4) (s' * 3 + x) = nI (pt (tA X k) s' x)) → Wp 6 mdX12_machine 159 [(0, .ref m), (1, .int (nI k)), (3, .int (nI c))] [] M5 (fun r M' => ROK mdX12_machine r ∧ Q r M')) ?_ 0 (Nat.zero_le _) M4 S4 rfl k2 (fun _ h => by omega) (fun _ _ h => by omega)
        intro c hc ih2 M5 S5 e5 k25 o5 n5
        have s5 := s3.sm S5
        have f5 := s5.f5
        have f34 := s5.f34
        refine gX12_machine_159 s5.1 (by rw [f34.1]; exact f34.2.1) (by rw [f5.1]; exact f5.2.1) (fun c1 => ?_) (fun c1 => ?_) (fun c1 => ?_) (fun c1 => ?_) <;> rw [nI_leI (by omega) (by omega)] at c1
        · have ec : c = k := by omega
          rw [ec] at o5 n5
          have q7 : mI M5 m 7 = nI (qm p) := by rw [e5, k4, if_neg (by decide)]; exact hS3.1.2.2.1
          rw [q7]
          have pr : mI M5 m 8 = nI st ∧ mI M5 m 9 = nI sp := by
            rw [e5, k4, if_neg (by decide), k4, if_neg (by decide)]
            obtain ⟨s', -, i, -⟩ := hS3.1.2.1
            exact i.2.1.2
          refine w_X12_fresh (A := tA X k) (st := st) (sp := sp) (by decide) s5 (by decide) hm3 ⟨by rw [e5, k4, if_pos rfl]; rfl, pr⟩ ⟨k25, fun s' hs' => ?_, fun s' hs' x hx => ?_⟩ okA (fun M6 F6 P6 => gX12_machine_241 ⟨⟨_, rfl⟩, ?_⟩)
          · rw [show 8 * 0 + s' = s' by omega]; exact o5 s' hs'
          · rw [show 3 * (8 * 0 + s') + x = s' * 3 + x by omega]; exact n5 s' x hs' hx
          · refine h1 M6 k hpk hclM ⟨?_, (hS3.fr S5 (fun q hq => by simp at hq; omega)).tr (F6.1.mono (fun q hq => by rw [moL_mem] at hq; rw [moA_mem]; omega))⟩
            refine ⟨⟨⟨Nat.zero_le _, fun j hj => by rw [List.length_nil] at hj; omega, fun j => by rw [show ([] : List Nat).getD j 0 = 0 by simp]; decide⟩, ?_⟩, P6, ?_, ?_, hS3.1.2.2.2.2.1, fun j hj => ?_⟩
            · rw [F6.2.1 30 (by decide) (by decide), e5, k4, if_neg (by decide)]; exact hS3.1.1.2
            · rw [F6.2.1 7 (by decide) (by decide), q7]; rfl
            · rw [F6.2.1 1 (by decide) (by decide), e5, k4, if_neg (by decide)]; exact hS3.1.2.2.2.1
            · rw [F6.1.J (by rw [moL_mem]; omega), S5.J (by simp)]; exact hS3.1.2.2.2.2.2 j hj
        · rw [f34.1, f34.2.2]; exact z_in (by omega) (by decide)
        · rw [f5.1, f5.2.2]; exact z_in (by omega) (by decide)
        · have hck : c < k := by omega
          rw [f34.1, f5.1, nI_clamp (by omega), S5.I (by simp), eO c hck]
          obtain ⟨M6, hM6⟩ : ∃ M6, M6 = sI M5 (m + 3) c (nI (po (tA X k) c)) := ⟨_, rfl⟩
          rw [← hM6]
          have S6 : Sm [m + 3] M5 M6 := by rw [hM6]; exact Sm.sI (by simp) _ _ _
          have o6 : ∀ s', s' < c + 1 → mI M6 (m + 3) s' = nI (po (tA X k) s') := fun s' h => by
            rw [hM6]
            by_cases z : s' = c
            · rw [z, rI_at]
            · rw [rI_nk z]; exact o5 s' (by omega)
          have n6 : ∀ s' x, s' < c → x < l0 X → mI M6 (m + 4) (s' * 3 + x) = nI (pt (tA X k) s' x) := fun s' x h1 h2 => by
            rw [S6.I (by simp)]; exact n5 s' x h1 h2
          have e6 : mI M6 m = mI M4 m := (S6.I (by simp)).trans e5
          have k26 : mI M6 (m + 2) 0 = nI k := by rw [S6.I (by simp)]; exact k25
          have S6' : Sm [m, m + 2, m + 3, m + 4] M3 M6 := S5.tr (S6.mono (by simp))
          refine upto 3 (fun x => ∀ M7, Sm [m, m + 2, m + 3, m + 4] M3 M7 → mI M7 m = mI M4 m → mI M7 (m + 2) 0 = nI k → (∀ s', s' < c + 1 → mI M7 (m + 3) s' = nI (po (tA X k) s')) → (∀ s' y, (s' < c ∨ s' = c ∧ y < x) → y < l0 X → mI M7 (m + 4) (s' * 3 + y) = nI (pt (tA X k) s' y)) → Wp 6 mdX12_machine 179 [(0, .ref m), (1, .int (nI k)), (3, .int (nI c)), (4, .int (nI x))] [] M7 (fun r M' => ROK mdX12_machine r ∧ Q r M')) ?_ 0 (Nat.zero_le _) M6 S6' e6 k26 o6 (fun s' y h => n6 s' y (by omega))
          intro x hx ih3 M7 S7 e7 k27 o7 n7
          have s7 := s3.sm S7
          have f6 := s7.f6
          have f35 := s7.f35
          have l7 : mI M7 m 3 = nI (l0 X) := by rw [e7, k4, if_pos rfl]
          have NX : ∀ v : Int32, (x < 3) → (x < l0 X → v = nI (pt (tA X k) c x)) → Wp 6 mdX12_machine 219 [(0, .ref m), (1, .int (nI k)), (3, .int (nI c)), (4, .int (nI x))] [.int v, .int (nI (c * 3 + x)), .ref (m + 4)] M7 (fun r M' => ROK mdX12_machine r ∧ Q r M') := by
            intro v hx3 hv
            refine gX12_machine_219 f6.2.1 (by rw [f6.2.2]; exact z_in (by omega) (by decide)) ?_
            rw [nI_add, nI_clamp (by omega)]
            refine ih3 hx3 _ (S7.tr (Sm.sI (by simp) _ _ _)) (by rw [rI_np (by omega)]; exact e7) (by rw [rI_np (by omega)]; exact k27) (fun s' h => by rw [rI_np (by omega)]; exact o7 s' h) (fun s' y hc hy => ?_)
            by_cases z : s' = c ∧ y = x
            · obtain ⟨rfl, rfl⟩ := z
              rw [rI_at]; exact hv hy
            · rw [rI_nk (by omega)]
              refine n7 s' y ?_ hy
              rcases hc with q | q
              · exact Or.inl q
              · refine Or.inr ⟨q.1, ?_⟩
                have : ¬ y = x := fun e => z ⟨q.1, e⟩
                omega
          refine gX12_machine_179 s7.1 (by rw [f35.1]; exact f35.2.1) (fun c2 => ?_) (fun c2 c3 => ?_) (fun c2 c3 => ?_) (fun c2 c3 => ?_) <;> rw [nI_leI (by decide) (by omega)] at c2
          · rw [nI_add]
            exact ih2 hck M7 S7 e7 k27 o7 (fun s' y h1 h2 => n7 s' y (by omega) h2)
          · rw [l7, nI_leI (by omega) (by omega)] at c3
            rw [ix, f6.1]
            exact NX _ (by omega) (fun q => by omega)
          · rw [ix, f35.1, f35.2.2]; exact v24 c x hck (by omega)
          · rw [l7, nI_leI (by omega) (by omega)] at c3
            rw [ix, f6.1, f35.1, nI_clamp (by omega), S7.I (by simp), eN c x hck (by omega)]
            exact NX _ (by omega) (fun _ => rfl)
      · have hkn : k < n := by omega
        refine upto (l0 X) (fun x => (∀ y, y < x → pt (tA X n) k y < n) → Wp 6 mdX12_machine 103 [(0, .ref m), (1, .int (nI n)), (3, .int (nI k)), (4, .int (nI x))] [] M3 (fun r M' => ROK mdX12_machine r ∧ Q r M')) ?_ 0 (Nat.zero_le _) (fun _ h => by omega)
        intro x hx ih2 hx2
        refine gX12_machine_103 s3.1 (by rw [f35.1]; exact f35.2.1) (fun c2 => ?_) (fun c2 => ?_) (fun c2 c3 => ?_) (fun c2 c3 => ⟨⟨_, rfl⟩, ?_⟩) <;> rw [hl3, nI_leI (by omega) (by omega)] at c2
        · rw [nI_add]
          refine ih hkn (fun s' y h1 h2 => ?_)
          by_cases z : s' = k
          · rw [z]; exact hx2 y (by omega)
          · exact hcl s' y (by omega) h2
        · rw [ix, f35.1, f35.2.2]; exact v24 k x hkn (by omega)
        · have := b8 k x hkn (by omega)
          rw [ix, f35.1, nI_clamp (by omega), eN k x hkn (by omega), nI_ltI (by omega) (by omega)] at c3
          rw [nI_add]
          refine ih2 (by omega) (fun y hy => ?_)
          by_cases z : y = x
          · rw [z]; exact c3
          · exact hx2 y (by omega)
        · have := b8 k x hkn (by omega)
          rw [ix, f35.1, nI_clamp (by omega), eN k x hkn (by omega), nI_ltI (by omega) (by omega)] at c3
          exact h2 M3 n hpk (fun q => c3 (q k hkn x (by show x < l0 X; omega))) hS3
    · rw [P3]
      refine h3 M3 _ ⟨G3, fun hg => ?_, fun q => by omega⟩ hS3
      rw [show s * (2 * l0 X + 2) + 2 * l0 X + 1 = s * (2 * l0 X + 2) + (2 * l0 X + 1) by omega, gp_j (by omega)] at hg
      unfold gj at hg
      rw [if_neg (by omega), if_neg (by omega), if_pos rfl] at hg
      exact hno hg.2 (by rw [show s * (2 * l0 X + 2) + 2 * l0 X + 1 = s * (2 * l0 X + 2) + (2 * l0 X + 1) by omega]; exact hg.1)
  have I0 : RmI M1 m X (0 * (2 * l0 X + 2)) M1 := by
    rw [Nat.zero_mul]
    exact ⟨Rm0.rf _ _, h310, fun q hq => by omega, fun s _ hp => by omega, fun s x _ _ hp => by omega⟩
  refine upto 7 (fun s => ∀ M2, RmI M1 m X (s * (2 * l0 X + 2)) M2 → (s ≠ 0 → mI M2 m 36 = nI (l0 X)) → Wp 6 mdX12_machine 27 [(0, .ref m), (1, .int (nI s)), (2, .int (nI 1))] [] M2 (fun r M' => ROK mdX12_machine r ∧ Q r M')) ?_ 0 (Nat.zero_le _) M1 I0 (fun h => absurd rfl h)
  intro s hs7 ih M2 I2 hlt
  have hk : s * (2 * l0 X + 2) + 10 < 1000 := by
    have : s * (2 * l0 X + 2) ≤ 7 * 8 := Nat.mul_le_mul (by omega) (by omega)
    omega
  obtain ⟨s2, -, -⟩ := I2.1.k hs0 hx0 h320
  refine gX12_machine_27 s2.1 (fun c => absurd c (by decide)) (fun c => absurd c (by decide)) (fun _ => ?_)
  refine w_X12_readsState (by decide) hs0 hx0 h320 (by omega) I2 hlt (fun M3 I3 hl3 => ?_) (fun M3 q hq R3 P3 e3 => ?_)
  · obtain ⟨s3, x3, y3⟩ := I3.1.k hs0 hx0 h320
    refine gX12_machine_36 s3.1 (fun _ c => ?_) (fun _ c => ?_) (fun c => absurd c (by decide)) <;> rw [nI_add, nI_leI (by decide) (by omega)] at c <;> rw [nI_add]
    · exact DONE M3 s (by omega) I3 hl3 (fun q => by omega)
    · refine w_X12_takes (by decide) s3 x3 y3 I3.2.1 (by omega) (by decide) (fun e => gX12_machine_62 (fun c => absurd c (by decide)) (fun _ => ?_)) (fun e => gX12_machine_62 (fun _ => DONE M3 s (by omega) I3 hl3 (fun _ => e)) (fun c => absurd rfl c))
      obtain ⟨R3, P3, G3, D3⟩ := I3
      have g : gp X (l0 X) (s * (2 * l0 X + 2) + 2 * l0 X + 1) := by
        rw [show s * (2 * l0 X + 2) + 2 * l0 X + 1 = s * (2 * l0 X + 2) + (2 * l0 X + 1) by omega, gp_j (by omega)]
        unfold gj
        rw [if_neg (by omega), if_neg (by omega), if_pos rfl]
        exact ⟨by rw [show s * (2 * l0 X + 2) + (2 * l0 X + 1) = s * (2 * l0 X + 2) + 2 * l0 X + 1 by omega]; exact e, by omega⟩
      have hn : (s + 1) * (2 * l0 X + 2) = s * (2 * l0 X + 2) + 2 * l0 X + 1 + 1 := by rw [Nat.add_mul, Nat.one_mul]; omega
      refine ih (by omega) _ ⟨R3.tr (Rm0.f (by simp)), ?_, ?_, ?_⟩ (fun _ => by rw [rI_nk (by decide)]; exact hl3)
      · rw [hn]; exact rI_at _ _ _ _
      · rw [hn]; exact G3.snoc g
      · rw [hn]
        have := DrU.skip (s := s) (j := 2 * l0 X + 1) (by rw [show s * (2 * l0 X + 2) + (2 * l0 X + 1) = s * (2 * l0 X + 2) + 2 * l0 X + 1 by omega]; exact D3) (by omega) (by omega)
        rw [show s * (2 * l0 X + 2) + (2 * l0 X + 1) + 1 = s * (2 * l0 X + 2) + 2 * l0 X + 1 + 1 by omega] at this
        exact DrU.np (by omega) (by omega) this
  · have hs3 := R3.k hs0 hx0 h320
    refine gX12_machine_36 hs3.1.1 (fun c => absurd rfl c) (fun c => absurd rfl c) (fun _ => ⟨⟨_, rfl⟩, ?_⟩)
    rw [P3]
    exact h3 M3 q e3 (hS1.rm R3)
end MMa
