/-! the reference: text -/
def MoX (M : Mem) (m : Nat) (X : List Nat) : Prop := X.length ≤ 64 ∧ (∀ j, j < X.length → mI M (m + 21) j = nI (X.getD j 0)) ∧ ∀ j, X.getD j 0 < 256
theorem MoX.sm {S : List Nat} {M M' : Mem} {m : Nat} {X : List Nat} (h : Sm S M M') (hs : MoX M m X) (h1 : m + 21 ∉ S) : MoX M' m X := by
  unfold MoX at hs ⊢
  rw [h.I h1]; exact hs
section MTx
variable {d m : Nat} {Q : Option Value → Mem → Prop} {M M' : Mem} {X : List Nat}
theorem w_X12_takes {p v : Nat} (hd : 1 < d) (hs : MoSh M m) (hx : MoX M m X) (h32 : mI M m 32 = nI X.length) (hp : mI M m 31 = nI p) (hp2 : p < 1000) (hv : v < 256) (h1 : sg X p = some v → Q (some (.int (nI 1))) (sI M m 31 (nI (p + 1)))) (h2 : ¬ sg X p = some v → Q (some (.int (nI 0))) M) : ClD d mdX12_takes [.ref m, .int (nI v)] M Q := by
  have f := hs.f29
  obtain ⟨x1, x2, x3⟩ := hx
  refine ⟨1, hd, Cl.of moX12_takes (Nat.le_of_ble_eq_true rfl) (gX12_takes_0 hs.1 (by rw [f.1]; exact f.2.1) (fun c => ⟨⟨_, rfl, by decide⟩, h2 ?_⟩) (fun c => ?_) (fun c c2 => ⟨⟨_, rfl, by decide⟩, ?_⟩) (fun c c2 => ⟨⟨_, rfl, by decide⟩, h2 ?_⟩))⟩ <;> rw [h32, hp, nI_leI (by omega) (by omega)] at c
  · rw [show sg X p = none from if_neg (by omega)]; intro q; cases q
  · rw [f.1, f.2.2, hp]; exact z_in (by omega) (by omega)
  · rw [f.1, hp, nI_clamp (by omega), x2 p (by omega), nI_eq (by have := x3 p; omega) (by omega)] at c2
    rw [hp, nI_add]; exact h1 (by rw [← c2]; exact if_pos (by omega))
  · rw [f.1, hp, nI_clamp (by omega), x2 p (by omega), nI_eq (by have := x3 p; omega) (by omega)] at c2
    rw [show sg X p = some (X.getD p 0) from if_pos (by omega)]
    intro q; cases q; exact c2 rfl
theorem w_X12_takesDigit {p b : Nat} (hd : 2 < d) (hs : MoSh M m) (hx : MoX M m X) (h32 : mI M m 32 = nI X.length) (hp : mI M m 31 = nI p) (hp2 : p < 1000) (hb : b < 100) (h1 : dgk X p (b + 1) → Q (some (.int (nI 1))) (sI (sI M m 33 (nI (X.getD p 0 - 48))) m 31 (nI (p + 1)))) (h2 : ¬ dgk X p (b + 1) → Q (some (.int (nI 0))) M) : ClD d mdX12_takesDigit [.ref m, .int (nI b)] M Q := by
  have f := hs.f29
  obtain ⟨x1, x2, x3⟩ := hx
  have x3 := x3 p
  refine ⟨2, hd, Cl.of moX12_takesDigit (Nat.le_of_ble_eq_true rfl) (gX12_takesDigit_0 hs.1 (by rw [f.1]; exact f.2.1) (fun c => ⟨⟨_, rfl, by decide⟩, h2 ?_⟩) (fun c => ?_) (fun c => ?_))⟩ <;> rw [h32, hp, nI_leI (by omega) (by omega)] at c
  · intro q; have := q.1; omega
  · rw [f.1, f.2.2, hp]; exact z_in (by omega) (by omega)
  · have hv : vp_in (mI M m 31) (mN M (mR M m 29)) := by rw [f.1, f.2.2, hp]; exact z_in (by omega) (by omega)
    rw [f.1, hp, nI_clamp (by omega), x2 p (by omega)]
    refine w_X12_in (by decide) (fun c1 c2 => gX12_takesDigit_30 hs.1 (by rw [f.1]; exact f.2.1) (fun _ => hv) (fun _ => ⟨⟨_, rfl, by decide⟩, ?_⟩) (fun c0 => absurd c0 (by decide))) (fun c3 => gX12_takesDigit_30 hs.1 (by rw [f.1]; exact f.2.1) (fun _ => hv) (fun c0 => absurd rfl c0) (fun _ => ⟨⟨_, rfl, by decide⟩, h2 ?_⟩))
    · rw [Int32.toInt_toInt64, pk_lT (by decide), pk_sub_toInt (by omega) (by decide)] at c1
      rw [Int32.toInt_toInt64, Int32.toInt_toInt64, pk_sub_toInt (by omega) (by decide), nI_toInt (by omega)] at c2
      rw [f.1, hp, nI_clamp (by omega), x2 p (by omega), z_sub (by omega), rI_nk (by decide), hp, nI_add]
      exact h1 ⟨by omega, by omega, by omega⟩
    · intro ⟨q1, q2, q3⟩
      apply c3
      rw [Int32.toInt_toInt64, Int32.toInt_toInt64, pk_lT (by decide), pk_sub_toInt (by omega) (by decide), nI_toInt (by omega)]
      omega
/-- what the reading of a text may change -/
def Rm0 (m : Nat) (M0 M : Mem) : Prop := Sm [m, m + 22, m + 23] M0 M ∧ ∀ j, j ≠ 31 → j ≠ 33 → j ≠ 36 → mI M m j = mI M0 m j
theorem Rm0.rf (m : Nat) (M : Mem) : Rm0 m M M := ⟨Sm.rf _ _, fun _ _ _ _ => rfl⟩
theorem Rm0.tr {M0 M1 M2 : Mem} (h : Rm0 m M0 M1) (k : Rm0 m M1 M2) : Rm0 m M0 M2 := ⟨h.1.tr k.1, fun j a b c => (k.2 j a b c).trans (h.2 j a b c)⟩
theorem Rm0.f {j : Nat} {v : Int32} (hj : j = 31 ∨ j = 33 ∨ j = 36) : Rm0 m M (sI M m j v) := ⟨Sm.sI (by simp) _ _ _, fun i _ _ _ => rI_nk (by omega)⟩
theorem Rm0.a {q j : Nat} {v : Int32} (hq : q = m + 22 ∨ q = m + 23) : Rm0 m M (sI M q j v) := ⟨Sm.sI (by simp; omega) _ _ _, fun i _ _ _ => by rw [rI_np (by omega)]⟩
def RmI (M0 : Mem) (m : Nat) (X : List Nat) (p : Nat) (M : Mem) : Prop := Rm0 m M0 M ∧ mI M m 31 = nI p ∧ gUp X (l0 X) p ∧ DrU M (m + 21) X p
theorem Rm0.k {M0 : Mem} (h : Rm0 m M0 M) (hs : MoSh M0 m) (hx : MoX M0 m X) (h32 : mI M0 m 32 = nI X.length) : MoSh M m ∧ MoX M m X ∧ mI M m 32 = nI X.length := ⟨hs.sm h.1, hx.sm h.1 (by simp), by rw [h.2 32 (by decide) (by decide) (by decide)]; exact h32⟩
theorem w_X12_readsState {s : Nat} {M0 : Mem} (hd : 3 < d) (hs0 : MoSh M0 m) (hx0 : MoX M0 m X) (h320 : mI M0 m 32 = nI X.length) (hsl : s < 8) (hI : RmI M0 m X (s * (2 * l0 X + 2)) M) (hlt : s ≠ 0 → mI M m 36 = nI (l0 X))
    (h1 : ∀ M', RmI M0 m X (s * (2 * l0 X + 2) + 2 * l0 X + 1) M' → mI M' m 36 = nI (l0 X) → Q (some (.int (nI 1))) M')
    (h2 : ∀ M' p, p < 1000 → Rm0 m M0 M' → mI M' m 31 = nI p → prE X p → Q (some (.int (nI 0))) M') : ClD d mdX12_readsState [.ref m, .int (nI s)] M Q := by
  have hl := l0_b X
  have hB := hx0.2.2
  have hk : s * (2 * l0 X + 2) + 10 < 1000 := by
    have : s * (2 * l0 X + 2) ≤ 7 * 8 := Nat.mul_le_mul (by omega) (by omega)
    omega
  obtain ⟨R0, P0, G0, D0⟩ := hI
  obtain ⟨s1, x1, y1⟩ := R0.k hs0 hx0 h320
  refine ⟨3, hd, Cl.of moX12_readsState (Nat.le_of_ble_eq_true rfl) (gX12_readsState_0 s1.1 (w_X12_takesDigit (p := s * (2 * l0 X + 2)) (by decide) s1 x1 y1 P0 (by omega) (by decide) (fun hg => ?_) (fun hg => ?_)))⟩
  · have hD := hg.2.2
    have f34 := s1.f34
    refine gX12_readsState_5 s1.1 (by simp only [eRI, eKI]; rw [f34.1]; exact f34.2.1) (fun _ => by simp only [eRI, eNI]; rw [f34.1, f34.2.2]; exact z_in hsl (by omega)) (fun _ => ?_) (fun c => absurd c (by decide))
    simp only [eRI]
    rw [f34.1, nI_clamp (by omega), rI_nk (by decide), rI_at]
    have g1 : gp X (l0 X) (s * (2 * l0 X + 2)) := (gp_j (s := s) (j := 0) (by omega)).mpr (by unfold gj; rw [if_pos rfl]; exact hg)
    obtain ⟨M2, hM2⟩ : ∃ M2, M2 = sI (sI (sI M m 33 (nI (X.getD (s * (2 * l0 X + 2)) 0 - 48))) m 31 (nI (s * (2 * l0 X + 2) + 1))) (m + 22) s (nI (X.getD (s * (2 * l0 X + 2)) 0 - 48)) := ⟨_, rfl⟩
    have I2 : RmI M0 m X (s * (2 * l0 X + 2) + 1) M2 := by
      subst hM2
      refine ⟨((R0.tr (Rm0.f (by simp))).tr (Rm0.f (by simp))).tr (Rm0.a (by simp)), ?_, G0.snoc g1, ((D0.np (by omega) (by omega)).np (by omega) (by omega)).out⟩
      rw [rI_np (by omega)]; exact rI_at _ _ _ _
    have a1 : s ≠ 0 → mI M2 m 36 = nI (l0 X) := fun h => by
      subst hM2
      rw [rI_np (by omega), rI_nk (by decide), rI_nk (by decide)]; exact hlt h
    rw [← hM2]
    obtain ⟨R2, P2, G2, D2⟩ := I2
    obtain ⟨s2, x2, y2⟩ := R2.k hs0 hx0 h320
    clear hM2
    refine w_X12_takes (by decide) s2 x2 y2 P2 (by omega) (by decide) (fun e => gX12_readsState_26 (fun _ => ?_) (fun c => absurd c (by decide))) (fun e => gX12_readsState_26 (fun c => absurd rfl c) (fun _ => ⟨⟨_, rfl, by decide⟩, h2 M2 _ (by omega) R2 P2 ⟨G2, fun hg => e ?_, not_end ?_⟩⟩))
    · have g2 : gp X (l0 X) (s * (2 * l0 X + 2) + 1) := (gp_j (s := s) (j := 1) (by omega)).mpr (by unfold gj; rw [if_neg (by decide), if_pos rfl]; exact e)
      have I3 : RmI M0 m X (s * (2 * l0 X + 2) + 2 + 2 * 0) (sI M2 m 31 (nI (s * (2 * l0 X + 2) + 1 + 1))) :=
        ⟨R2.tr (Rm0.f (by simp)), rI_at _ _ _ _, G2.snoc g2, (D2.skip (by omega) (by omega)).np (by omega) (by omega)⟩
      refine upto (l0 X - 1) (fun x => ∀ M3, RmI M0 m X (s * (2 * l0 X + 2) + 2 + 2 * x) M3 → (s ≠ 0 → mI M3 m 36 = nI (l0 X)) → (x ≠ 0 → sg X 3 = some 44 ∨ s ≠ 0) → (x = 2 → sg X 5 = some 44 ∨ s ≠ 0) → Wp 3 mdX12_readsState 35 [(0, .ref m), (1, .int (nI s)), (2, .int (nI x)), (3, .int (nI 1))] [] M3 (fun r M' => ROK mdX12_readsState r ∧ Q r M')) ?_ 0 (Nat.zero_le _) _ I3 (fun h => by rw [rI_nk (by decide)]; exact a1 h) (fun h => absurd rfl h) (fun h => by omega)
      intro x hx ih M3 ⟨R3, P3, G3, D3⟩ a3 hc1 hc2
      obtain ⟨s3, x3, y3⟩ := R3.k hs0 hx0 h320
      refine gX12_readsState_35 s3.1 (fun c => absurd c (by decide)) (fun _ => ?_)
      refine w_X12_takesDigit (by decide) s3 x3 y3 P3 (by omega) (by decide) (fun hg3 => ?_) (fun hg3 => ?_)
      · have hD3 := hg3.2.2
        have f35 := s3.f35
        have g4 : gp X (l0 X) (s * (2 * l0 X + 2) + 2 + 2 * x) := by
          rw [Nat.add_assoc (s * (2 * l0 X + 2)) 2]
          exact (gp_j (s := s) (j := 2 + 2 * x) (by omega)).mpr ((gj_t (by omega)).mpr hg3)
        obtain ⟨M4, hM4⟩ : ∃ M4, M4 = sI (sI (sI M3 m 33 (nI (X.getD (s * (2 * l0 X + 2) + 2 + 2 * x) 0 - 48))) m 31 (nI (s * (2 * l0 X + 2) + 2 + 2 * x + 1))) (m + 23) (s * 3 + x) (nI (X.getD (s * (2 * l0 X + 2) + 2 + 2 * x) 0 - 48)) := ⟨_, rfl⟩
        have I4 : RmI M0 m X (s * (2 * l0 X + 2) + 2 + 2 * x + 1) M4 := by
          subst hM4
          refine ⟨((R3.tr (Rm0.f (by simp))).tr (Rm0.f (by simp))).tr (Rm0.a (by simp)), ?_, G3.snoc g4, DrU.nxt (by omega) ((D3.np (by omega) (by omega)).np (by omega) (by omega))⟩
          rw [rI_np (by omega)]; exact rI_at _ _ _ _
        have a4 : s ≠ 0 → mI M4 m 36 = nI (l0 X) := fun h => by
          subst hM4
          rw [rI_np (by omega), rI_nk (by decide), rI_nk (by decide)]; exact a3 h
        have ix : nI 3 * nI s + nI x = nI (s * 3 + x) := by rw [pk_mul, nI_add, Nat.mul_comm]
        -- the end of a state
        have END : ∀ M5, RmI M0 m X (s * (2 * l0 X + 2) + 2 + 2 * x + 1) M5 → x + 1 = l0 X → Wp 3 mdX12_readsState 35 [(0, .ref m), (1, .int (nI s)), (2, .int (nI (x + 1))), (3, .int (nI 0))] [] M5 (fun r M' => ROK mdX12_readsState r ∧ Q r M') := by
          intro M5 ⟨R5, P5, G5, D5⟩ el
          obtain ⟨s5, x5, y5⟩ := R5.k hs0 hx0 h320
          refine gX12_readsState_35 s5.1 (fun _ => ⟨⟨_, rfl, by decide⟩, h1 _ ⟨R5.tr (Rm0.f (by simp)), ?_, ?_, ?_⟩ ?_⟩) (fun c => absurd rfl c)
          · rw [rI_nk (by decide), P5]; congr 1; omega
          · rw [show s * (2 * l0 X + 2) + 2 * l0 X + 1 = s * (2 * l0 X + 2) + 2 + 2 * x + 1 by omega]; exact G5
          · rw [show s * (2 * l0 X + 2) + 2 * l0 X + 1 = s * (2 * l0 X + 2) + 2 + 2 * x + 1 by omega]; exact D5.np (by omega) (by omega)
          · rw [rI_at, el]
        -- one letter more
        have gc : x + 1 ≠ l0 X → (gp X (l0 X) (s * (2 * l0 X + 2) + 2 + 2 * x + 1) ↔ sg X (s * (2 * l0 X + 2) + 2 + 2 * x + 1) = some 44) := fun el => by
          rw [show s * (2 * l0 X + 2) + 2 + 2 * x + 1 = s * (2 * l0 X + 2) + (2 + 2 * x + 1) by omega, gp_j (by omega)]
          unfold gj
          rw [if_neg (by omega), if_neg (by omega), if_neg (by omega), if_neg (by omega)]
        have MORE : ∀ M5, RmI M0 m X (s * (2 * l0 X + 2) + 2 + 2 * x + 1) M5 → (s ≠ 0 → mI M5 m 36 = nI (l0 X)) → x + 1 ≠ l0 X → sg X (s * (2 * l0 X + 2) + 2 + 2 * x + 1) = some 44 → (s ≠ 0 ∨ (sg X 3 = some 44 ∧ (x = 1 → sg X 5 = some 44))) → Wp 3 mdX12_readsState 35 [(0, .ref m), (1, .int (nI s)), (2, .int (nI (x + 1))), (3, .int (nI 1))] [] (sI M5 m 31 (nI (s * (2 * l0 X + 2) + 2 + 2 * x + 1 + 1))) (fun r M' => ROK mdX12_readsState r ∧ Q r M') := by
          intro M5 ⟨R5, P5, G5, D5⟩ q2 el e5 b4
          have g5 := (gc el).mpr e5
          have D6 : DrU M5 (m + 21) X (s * (2 * l0 X + 2) + 2 + 2 * x + 1 + 1) := by
            have := DrU.skip (s := s) (j := 2 + 2 * x + 1) (by rw [show s * (2 * l0 X + 2) + (2 + 2 * x + 1) = s * (2 * l0 X + 2) + 2 + 2 * x + 1 by omega]; exact D5) (by omega) (by omega)
            rw [show s * (2 * l0 X + 2) + (2 + 2 * x + 1) + 1 = s * (2 * l0 X + 2) + 2 + 2 * x + 1 + 1 by omega] at this
            exact this
          refine ih (by omega) _ ⟨R5.tr (Rm0.f (by simp)), ?_, ?_, ?_⟩ (fun h => by rw [rI_nk (by decide)]; exact q2 h) (fun _ => ?_) (fun hx2 => ?_)
          · rw [rI_at]; congr 1
          · rw [show s * (2 * l0 X + 2) + 2 + 2 * (x + 1) = s * (2 * l0 X + 2) + 2 + 2 * x + 1 + 1 by omega]; exact G5.snoc g5
          · rw [show s * (2 * l0 X + 2) + 2 + 2 * (x + 1) = s * (2 * l0 X + 2) + 2 + 2 * x + 1 + 1 by omega]; exact D6.np (by omega) (by omega)
          · rcases b4 with g | g
            · exact Or.inr g
            · exact Or.inl g.1
          · rcases b4 with g | g
            · exact Or.inr g
            · exact Or.inl (g.2 (by omega))
        obtain ⟨s4, x4, y4⟩ := I4.1.k hs0 hx0 h320
        have hv24 : vp_in (nI (s * 3 + x)) 24 := z_in (by omega) (by omega)
        refine gX12_readsState_45 s3.1 (by simp only [eRI, eKI]; rw [f35.1]; exact f35.2.1) ?_ ?_ ?_ ?_ ?_ (fun c => absurd c (by decide)) <;> intro _ <;> simp only [eRI, eNI] <;> rw [ix, f35.1] <;> (try rw [nI_clamp (by omega), rI_nk (j := 33) (by decide), rI_at, ← hM4, nI_add])
        · rw [f35.2.2]; exact hv24
        · intro c0 c1
          have c0 : ¬ nI s = nI 0 := c0
          rw [nI_eq (by omega) (by decide)] at c0
          rw [a4 c0, nI_leI (by omega) (by omega)] at c1
          have el : x + 1 = l0 X := by omega
          refine gX12_readsState_106 s4.1 (fun _ => END M4 I4 el) (fun _ _ => END M4 I4 el) (fun _ c => absurd rfl c)
        · intro c0 c1
          have c0 : ¬ nI s = nI 0 := c0
          rw [nI_eq (by omega) (by decide)] at c0
          rw [a4 c0, nI_leI (by omega) (by omega)] at c1
          have el : x + 1 ≠ l0 X := by omega
          refine gX12_readsState_106 s4.1 (fun c => ?_) (fun _ c => absurd c (by decide)) (fun _ _ => ?_)
          · exfalso
            have c : nI s ≤ nI 0 := c
            rw [nI_leI (by omega) (by decide)] at c; omega
          · refine w_X12_takes (by decide) s4 x4 y4 I4.2.1 (by omega) (by decide) (fun e5 => gX12_readsState_121 (fun _ => MORE M4 I4 a4 el e5 (Or.inl c0)) (fun c => absurd c (by decide))) (fun e5 => gX12_readsState_121 (fun c => absurd rfl c) (fun _ => ⟨⟨_, rfl, by decide⟩, h2 M4 _ (by omega) I4.1 I4.2.1 ⟨I4.2.2.1, fun hg => e5 ((gc el).mp hg), not_end ?_⟩⟩))
            rw [show s * (2 * l0 X + 2) + 2 + 2 * x + 1 = s * (2 * l0 X + 2) + (2 + 2 * x + 1) by omega, mod_k (by omega)]; omega
        · intro c0 c1
          have c0 : nI s = nI 0 := c0
          rw [nI_eq (by omega) (by decide)] at c0
          rw [nI_leI (by decide) (by omega)] at c1
          have el : x + 1 = l0 X := by omega
          refine gX12_readsState_106 s4.1 (fun _ => END M4 I4 el) (fun _ _ => END M4 I4 el) (fun _ c => absurd rfl c)
        · intro c0 c1
          have c0 : nI s = nI 0 := c0
          rw [nI_eq (by omega) (by decide)] at c0
          rw [nI_leI (by decide) (by omega)] at c1
          subst c0
          have hs3 : x = 0 → (l0 X ≠ 1 ↔ sg X 3 = some 44) := fun _ => by
            unfold l0
            by_cases z3 : sg X 3 = some 44
            · rw [if_pos z3]; constructor
              · intro _; exact z3
              · intro _; split <;> omega
            · rw [if_neg z3]; constructor
              · intro h; exact absurd rfl h
              · intro h; exact absurd h z3
          have hs5 : x = 1 → sg X 3 = some 44 → (l0 X ≠ 2 ↔ sg X 5 = some 44) := fun _ z3 => by
            unfold l0
            rw [if_pos z3]
            by_cases z5 : sg X 5 = some 44
            · rw [if_pos z5]; constructor
              · intro _; exact z5
              · intro _; omega
            · rw [if_neg z5]; constructor
              · intro h; exact absurd rfl h
              · intro h; exact absurd h z5
          have hx3 : x = 1 → sg X 3 = some 44 := fun h => (hc1 (by omega)).resolve_right (fun q => q rfl)
          have e06 : (nI 0 : Int32) ≤ 0 := by decide
          have epos : 0 * (2 * l0 X + 2) + 2 + 2 * x + 1 = 3 + 2 * x := by omega
          refine w_X12_takes (by decide) s4 x4 y4 I4.2.1 (by omega) (by decide) (fun e5 => gX12_readsState_82 (fun c => absurd c (by decide)) (fun _ => ?_)) (fun e5 => gX12_readsState_82 (fun _ => ?_) (fun c => absurd rfl c))
          · have hx01 : x = 0 ∨ x = 1 := by omega
            have e50 : sg X (3 + 2 * x) = some 44 := by rw [← epos]; exact e5
            have el : x + 1 ≠ l0 X := by
              rcases hx01 with z | z
              · subst z; intro q; exact (hs3 rfl).mpr e50 q.symm
              · subst z; intro q; exact (hs5 rfl (hx3 rfl)).mpr e50 q.symm
            have b4 : (0 : Nat) ≠ 0 ∨ (sg X 3 = some 44 ∧ (x = 1 → sg X 5 = some 44)) := by
              rcases hx01 with z | z
              · subst z; exact Or.inr ⟨e50, fun h => by omega⟩
              · subst z; exact Or.inr ⟨hx3 rfl, fun _ => e50⟩
            refine gX12_readsState_106 s4.1 (fun _ => MORE M4 I4 a4 el e5 b4) (fun c => absurd e06 c) (fun c => absurd e06 c)
          · have hx01 : x = 0 ∨ x = 1 := by omega
            have el : x + 1 = l0 X := by
              refine Classical.byContradiction fun q => e5 ?_
              rw [epos]
              rcases hx01 with z | z
              · subst z; exact (hs3 rfl).mp (fun h => q h.symm)
              · subst z; exact (hs5 rfl (hx3 rfl)).mp (fun h => q h.symm)
            refine gX12_readsState_106 s4.1 (fun _ => END M4 I4 el) (fun c => absurd e06 c) (fun c => absurd e06 c)
      · refine gX12_readsState_45 s3.1 ?_ (fun c => absurd rfl c) (fun c => absurd rfl c) (fun c => absurd rfl c) (fun c => absurd rfl c) (fun c => absurd rfl c) (fun _ => ⟨⟨_, rfl, by decide⟩, h2 M3 _ (by omega) R3 P3 ⟨G3, fun hg => hg3 ?_, not_end ?_⟩⟩)
        · have f35 := s3.f35
          rw [f35.1]; exact f35.2.1
        · rw [Nat.add_assoc (s * (2 * l0 X + 2)) 2] at hg
          exact (gj_t (by omega)).mp ((gp_j (s := s) (j := 2 + 2 * x) (by omega)).mp hg)
        · rw [Nat.add_assoc (s * (2 * l0 X + 2)) 2, mod_k (by omega)]; omega
    · have hg := (gp_j (s := s) (j := 1) (by omega)).mp hg
      unfold gj at hg
      rw [if_neg (by decide), if_pos rfl] at hg
      exact hg
    · rw [mod_k (by omega)]; omega
  · have f34 := s1.f34
    refine gX12_readsState_5 s1.1 (by rw [f34.1]; exact f34.2.1) (fun c => absurd rfl c) (fun c => absurd rfl c) (fun _ => ⟨⟨_, rfl, by decide⟩, h2 M _ (by omega) R0 P0 ⟨G0, fun hg' => hg ?_, not_end ?_⟩⟩)
    · have hg' := (gp_j (s := s) (j := 0) (by omega)).mp (show gp X (l0 X) (s * (2 * l0 X + 2) + 0) from hg')
      unfold gj at hg'
      rw [if_pos rfl] at hg'
      exact hg'
    · have := mod_k (X := X) (s := s) (j := 0) (by omega)
      rw [Nat.add_zero] at this
      rw [this]; omega
end MTx
