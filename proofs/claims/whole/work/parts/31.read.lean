/-! the class reads THE TEXT into a machine -/
theorem nI_0le {n : Nat} (h : n < 2 ^ 31) : (0 : Int32) ≤ nI n := Int32.not_lt.mp (nI_pos h)
theorem kq {k s s' i j : Nat} (hi : i < k) (hj : j < k) (h : s' * k + i = s * k + j) : s' = s ∧ i = j := by
  have e1 : (s' * k + i) / k = s' := by rw [Nat.mul_comm, Nat.mul_add_div (by omega), Nat.div_eq_of_lt hi, Nat.add_zero]
  have e2 : (s * k + j) / k = s := by rw [Nat.mul_comm, Nat.mul_add_div (by omega), Nat.div_eq_of_lt hj, Nat.add_zero]
  rw [h, e2] at e1
  subst e1
  exact ⟨rfl, by omega⟩
def DrU (M : Mem) (a : Nat) (X : List Nat) (p : Nat) : Prop := (∀ s, s < 8 → s * (2 * l0 X + 2) < p → mI M (a + 1) s = nI (X.getD (s * (2 * l0 X + 2)) 0 - 48)) ∧ ∀ s x, s < 8 → x < l0 X → s * (2 * l0 X + 2) + 2 + 2 * x < p → mI M (a + 2) (s * 3 + x) = nI (X.getD (s * (2 * l0 X + 2) + 2 + 2 * x) 0 - 48)
section Read
variable {X : List Nat} {M : Mem} {a s : Nat}
theorem DrU.skip {j : Nat} (h : DrU M a X (s * (2 * l0 X + 2) + j)) (hj : j < 2 * l0 X + 2) (h1 : j % 2 = 1) : DrU M a X (s * (2 * l0 X + 2) + j + 1) := by
  refine ⟨fun s' hs' hlt => h.1 s' hs' ?_, fun s' x hs' hx hlt => h.2 s' x hs' hx ?_⟩
  · apply Nat.lt_of_le_of_ne (by omega)
    intro e
    have := kq (k := 2 * l0 X + 2) (i := 0) (by omega) hj (show s' * (2 * l0 X + 2) + 0 = s * (2 * l0 X + 2) + j from e)
    omega
  · apply Nat.lt_of_le_of_ne (by omega)
    intro e
    have := kq (k := 2 * l0 X + 2) (s := s) (s' := s') (i := 2 + 2 * x) (by omega) hj (by omega)
    omega
theorem DrU.out (h : DrU M a X (s * (2 * l0 X + 2))) : DrU (sI M (a + 1) s (nI (X.getD (s * (2 * l0 X + 2)) 0 - 48))) a X (s * (2 * l0 X + 2) + 1) := by
  refine ⟨fun s' hs' hlt => ?_, fun s' x hs' hx hlt => ?_⟩
  · by_cases e : s' = s
    · subst e; exact rI_at _ _ _ _
    · rw [rI_nk e]
      refine h.1 s' hs' ?_
      apply Nat.lt_of_le_of_ne (by omega)
      intro e2
      have := kq (k := 2 * l0 X + 2) (i := 0) (j := 0) (by omega) (by omega) (show s' * (2 * l0 X + 2) + 0 = s * (2 * l0 X + 2) + 0 from e2)
      omega
  · rw [rI_np (by omega)]
    refine h.2 s' x hs' hx ?_
    apply Nat.lt_of_le_of_ne (by omega)
    intro e
    have := kq (k := 2 * l0 X + 2) (s := s) (s' := s') (i := 2 + 2 * x) (j := 0) (by omega) (by omega) (by omega)
    omega
theorem DrU.nxt {x : Nat} (hx : x < l0 X) (h : DrU M a X (s * (2 * l0 X + 2) + 2 + 2 * x)) : DrU (sI M (a + 2) (s * 3 + x) (nI (X.getD (s * (2 * l0 X + 2) + 2 + 2 * x) 0 - 48))) a X (s * (2 * l0 X + 2) + 2 + 2 * x + 1) := by
  have hl := l0_b X
  refine ⟨fun s' hs' hlt => ?_, fun s' x' hs' hx' hlt => ?_⟩
  · rw [rI_np (by omega)]
    refine h.1 s' hs' ?_
    apply Nat.lt_of_le_of_ne (by omega)
    intro e2
    have := kq (k := 2 * l0 X + 2) (i := 0) (j := 2 + 2 * x) (by omega) (by omega) (show s' * (2 * l0 X + 2) + 0 = s * (2 * l0 X + 2) + (2 + 2 * x) by omega)
    omega
  · by_cases e : s' = s ∧ x' = x
    · obtain ⟨rfl, rfl⟩ := e; exact rI_at _ _ _ _
    · rw [rI_nk (by omega)]
      refine h.2 s' x' hs' hx' ?_
      apply Nat.lt_of_le_of_ne (by omega)
      intro e2
      have := kq (k := 2 * l0 X + 2) (s := s) (s' := s') (i := 2 + 2 * x') (j := 2 + 2 * x) (by omega) (by omega) (by omega)
      omega
theorem DrU.np {p q k : Nat} {v : Int32} (h1 : q ≠ a + 1) (h2 : q ≠ a + 2) (h : DrU M a X p) : DrU (sI M q k v) a X p := by
  refine ⟨fun s' hs' hlt => ?_, fun s' x hs' hx hlt => ?_⟩
  · rw [rI_np (Ne.symm h1)]; exact h.1 s' hs' hlt
  · rw [rI_np (Ne.symm h2)]; exact h.2 s' x hs' hx hlt
theorem gUp.snoc {l p : Nat} (h : gUp X l p) (g : gp X l p) : gUp X l (p + 1) := fun q hq => by
  by_cases e : q = p
  · subst e; exact g
  · exact h q (by omega)
theorem TxtAt.np {r q k : Nat} {v : Int32} (h0 : q ≠ r ∨ k ≠ 0) (h1 : q ≠ r + 1) (h : TxtAt M r X) : TxtAt (sI M q k v) r X := by
  obtain ⟨b1, b2, b3, b4⟩ := h
  refine ⟨?_, b2, fun j hj => ?_, b4⟩
  · by_cases e : r = q
    · subst e
      rw [rI_nk (fun q => by omega)]; exact b1
    · rw [rI_np e]; exact b1
  · rw [rI_np (Ne.symm h1)]; exact b3 j hj
/-- the reading stands at p, all is right so far -/
def RdI (M0 : Mem) (r a : Nat) (X : List Nat) (p : Nat) (M : Mem) : Prop := Sm [r, a, a + 1, a + 2] M0 M ∧ TxtAt M r X ∧ mI M r 2 = nI p ∧ gUp X (l0 X) p ∧ DrU M a X p
variable {d r : Nat} {Q : Option Value → Mem → Prop}
theorem not_end {p : Nat} (h : p % (2 * l0 X + 2) ≠ 2 * l0 X + 1) : ¬ (p = X.length ∧ p % (2 * l0 X + 2) = 2 * l0 X + 1) := fun q => h q.2
theorem mod_k {j : Nat} (hj : j < 2 * l0 X + 2) : (s * (2 * l0 X + 2) + j) % (2 * l0 X + 2) = j := by
  rw [Nat.mul_comm, Nat.mul_add_mod, Nat.mod_eq_of_lt hj]
theorem w_X7_readState (hd : 3 < d) (hs : TxtSh M r) (hm : MacSh M a) (hd1 : r + 1 < a ∨ a + 3 < r) (hsl : s < 8) (hI : RdI M r a X (s * (2 * l0 X + 2)) M) (hlt : s ≠ 0 → mI M a 1 = nI (l0 X))
    (h1 : ∀ M', RdI M r a X (s * (2 * l0 X + 2) + 2 * l0 X + 1) M' → mI M' a 1 = nI (l0 X) → Q (some (.int (nI 1))) M')
    (h2 : ∀ M' p, p < 1000 → Sm [r, a, a + 1, a + 2] M M' → TxtAt M' r X → mI M' r 2 = nI p → prE X p → Q (some (.int (nI 0))) M') : ClD d mdX7_readState [.ref r, .ref a, .int (nI s)] M Q := by
  have hl := l0_b X
  obtain ⟨S0, T0, P0, G0, D0⟩ := hI
  have hk : s * (2 * l0 X + 2) + 10 < 1000 := by
    have : s * (2 * l0 X + 2) ≤ 7 * 8 := Nat.mul_le_mul (by omega) (by omega)
    omega
  obtain ⟨b, hb⟩ : ∃ b, b = s * (2 * l0 X + 2) := ⟨_, rfl⟩
  have hB := fun v => T0.2.2.2 v
  refine ⟨3, hd, Cl.of moX7_readState (Nat.le_of_ble_eq_true rfl) (gX7_readState_0 hs.1 (w_X7_digitBelow (p := s * (2 * l0 X + 2)) (by decide) hs T0 P0 (by omega) (by decide) (fun hg => ?_) (fun hg => ?_)))⟩
  · have hD := hg.2.2
    refine gX7_readState_5 hm.1.1 (fun _ => ?_) (fun c => absurd (nI_0le (by omega)) c)
    have hm1 : MacSh (sI M r 2 (nI (s * (2 * l0 X + 2) + 1))) a := hm
    refine w_X2_setOutput (by decide) hm1 hsl (gX7_readState_18 hs.1 ?_)
    have g1 : gp X (l0 X) (s * (2 * l0 X + 2)) := (gp_j (s := s) (j := 0) (by omega)).mpr (by unfold gj; rw [if_pos rfl]; exact hg)
    obtain ⟨M2, hM2⟩ : ∃ M2, M2 = sI (sI M r 2 (nI (s * (2 * l0 X + 2) + 1))) (a + 1) s (nI (X.getD (s * (2 * l0 X + 2)) 0 - 48)) := ⟨_, rfl⟩
    have I2 : RdI M r a X (s * (2 * l0 X + 2) + 1) M2 := by
      subst hM2
      refine ⟨(S0.tr (Sm.sI (by simp) _ _ _)).tr (Sm.sI (by simp) _ _ _), (T0.np (Or.inr (by decide)) (by omega)).np (Or.inl (by omega)) (by omega), ?_, G0.snoc g1, (D0.np (by omega) (by omega)).out⟩
      rw [rI_np (by omega)]; exact rI_at _ _ _ _
    have a1 : s ≠ 0 → mI M2 a 1 = nI (l0 X) := fun h => by
      subst hM2
      rw [rI_np (by omega), rI_np (by omega)]; exact hlt h
    rw [← hM2]
    obtain ⟨S2, T2, P2, G2, D2⟩ := I2
    clear hM2
    refine w_X7_takes (by decide) (hs.sm S2) T2 P2 (by omega) (by decide) (fun e => ?_) (fun e => ?_)
    · refine gX7_readState_24 (fun _ => ?_) (fun c => absurd c (by decide))
      have g2 : gp X (l0 X) (s * (2 * l0 X + 2) + 1) := (gp_j (s := s) (j := 1) (by omega)).mpr (by unfold gj; rw [if_neg (by decide), if_pos rfl]; exact e)
      have I3 : RdI M r a X (s * (2 * l0 X + 2) + 2 + 2 * 0) (sI M2 r 2 (nI (s * (2 * l0 X + 2) + 1 + 1))) :=
        ⟨S2.tr (Sm.sI (by simp) _ _ _), T2.np (Or.inr (by decide)) (by omega), rI_at _ _ _ _, G2.snoc g2, (D2.skip (by omega) (by omega)).np (by omega) (by omega)⟩
      refine upto (l0 X - 1) (fun x => ∀ M3, RdI M r a X (s * (2 * l0 X + 2) + 2 + 2 * x) M3 → (s ≠ 0 → mI M3 a 1 = nI (l0 X)) → (x ≠ 0 → sg X 3 = some 44 ∨ s ≠ 0) → (x = 2 → sg X 5 = some 44 ∨ s ≠ 0) → Wp 3 mdX7_readState 32 [(0, .ref r), (1, .ref a), (2, .int (nI s)), (4, .int (nI x))] [] M3 (fun r M' => ROK mdX7_readState r ∧ Q r M')) ?_ 0 (Nat.zero_le _) _ I3 (fun h => by rw [rI_np (by omega)]; exact a1 h) (fun h => absurd rfl h) (fun h => by omega)
      intro x hx ih M3 ⟨S3, T3, P3, G3, D3⟩ a3 hc1 hc2
      refine gX7_readState_32 (hs.sm S3).1 (fun c => absurd c (nI_ge (by omega) (by decide))) (fun _ => ?_)
      refine w_X7_digitBelow (by decide) (hs.sm S3) T3 P3 (by omega) (by decide) (fun hg3 => ?_) (fun hg3 => ?_)
      · have hD3 := hg3.2.2
        refine gX7_readState_44 (hm.sm S3).1.1 (fun _ => ?_) (fun c => absurd (nI_0le (by omega)) c)
        have hm4 : MacSh (sI M3 r 2 (nI (s * (2 * l0 X + 2) + 2 + 2 * x + 1))) a := MacSh.sm (Sm.sI (S := [r]) (by simp) _ _ _) (hm.sm S3)
        refine w_X2_setNext (by decide) hm4 hsl (by omega) ?_
        have g4 : gp X (l0 X) (s * (2 * l0 X + 2) + 2 + 2 * x) := by
          rw [Nat.add_assoc (s * (2 * l0 X + 2)) 2]
          exact (gp_j (s := s) (j := 2 + 2 * x) (by omega)).mpr ((gj_t (by omega)).mpr hg3)
        obtain ⟨M4, hM4⟩ : ∃ M4, M4 = sI (sI M3 r 2 (nI (s * (2 * l0 X + 2) + 2 + 2 * x + 1))) (a + 2) (s * 3 + x) (nI (X.getD (s * (2 * l0 X + 2) + 2 + 2 * x) 0 - 48)) := ⟨_, rfl⟩
        have I4 : RdI M r a X (s * (2 * l0 X + 2) + 2 + 2 * x + 1) M4 := by
          subst hM4
          refine ⟨(S3.tr (Sm.sI (by simp) _ _ _)).tr (Sm.sI (by simp) _ _ _), (T3.np (Or.inr (by decide)) (by omega)).np (Or.inl (by omega)) (by omega), ?_, G3.snoc g4, DrU.nxt (by omega) (D3.np (by omega) (by omega))⟩
          rw [rI_np (by omega)]; exact rI_at _ _ _ _
        have a4 : s ≠ 0 → mI M4 a 1 = nI (l0 X) := fun h => by
          subst hM4
          rw [rI_np (by omega), rI_np (by omega)]; exact a3 h
        rw [← hM4]
        clear hM4
        -- whether it is the last
        have fin : ∀ M5, RdI M r a X (s * (2 * l0 X + 2) + 2 + 2 * x + 1) M5 → (x + 1 = l0 X → mI M5 a 1 = nI (l0 X)) → (s ≠ 0 → mI M5 a 1 = nI (l0 X)) → ∀ b : Int32, (x + 1 = l0 X → ¬ b = 0) → (x + 1 ≠ l0 X → b = 0) → (x + 1 ≠ l0 X → s ≠ 0 ∨ (sg X 3 = some 44 ∧ (x = 1 → sg X 5 = some 44))) → Wp 3 mdX7_readState 120 [(0, .ref r), (1, .ref a), (2, .int (nI s)), (4, .int (nI x))] [.int b] M5 (fun r M' => ROK mdX7_readState r ∧ Q r M') := by
          intro M5 ⟨S5, T5, P5, G5, D5⟩ q1 q2 b b1 b2 b3
          by_cases el : x + 1 = l0 X
          · refine gX7_readState_120 (hs.sm S5).1 (fun c => absurd c (b1 el)) (fun _ => ⟨⟨_, rfl, by decide⟩, h1 M5 ⟨S5, T5, ?_, ?_, ?_⟩ (q1 el)⟩)
            · rw [P5]; congr 1; omega
            · rw [show s * (2 * l0 X + 2) + 2 * l0 X + 1 = s * (2 * l0 X + 2) + 2 + 2 * x + 1 by omega]; exact G5
            · rw [show s * (2 * l0 X + 2) + 2 * l0 X + 1 = s * (2 * l0 X + 2) + 2 + 2 * x + 1 by omega]; exact D5
          · refine gX7_readState_120 (hs.sm S5).1 (fun _ => ?_) (fun c => absurd (b2 el) c)
            refine w_X7_takes (by decide) (hs.sm S5) T5 P5 (by omega) (by decide) (fun e5 => ?_) (fun e5 => ?_)
            · refine gX7_readState_135 (fun _ => ?_) (fun c => absurd c (by decide))
              rw [nI_add]
              have g5 : gp X (l0 X) (s * (2 * l0 X + 2) + 2 + 2 * x + 1) := by
                rw [show s * (2 * l0 X + 2) + 2 + 2 * x + 1 = s * (2 * l0 X + 2) + (2 + 2 * x + 1) by omega]
                refine (gp_j (s := s) (by omega)).mpr ?_
                unfold gj
                rw [if_neg (by omega), if_neg (by omega), if_neg (by omega), if_neg (by omega), show s * (2 * l0 X + 2) + (2 + 2 * x + 1) = s * (2 * l0 X + 2) + 2 + 2 * x + 1 by omega]
                exact e5
              have D6 : DrU M5 a X (s * (2 * l0 X + 2) + 2 + 2 * x + 1 + 1) := by
                have := DrU.skip (s := s) (j := 2 + 2 * x + 1) (by rw [show s * (2 * l0 X + 2) + (2 + 2 * x + 1) = s * (2 * l0 X + 2) + 2 + 2 * x + 1 by omega]; exact D5) (by omega) (by omega)
                rw [show s * (2 * l0 X + 2) + (2 + 2 * x + 1) + 1 = s * (2 * l0 X + 2) + 2 + 2 * x + 1 + 1 by omega] at this
                exact this
              have b4 := b3 el
              refine ih (by omega) _ ⟨S5.tr (Sm.sI (by simp) _ _ _), T5.np (Or.inr (by decide)) (by omega), ?_, ?_, ?_⟩ (fun h => by rw [rI_np (by omega)]; exact q2 h) (fun _ => ?_) (fun hx2 => ?_)
              · rw [rI_at]; congr 1
              · rw [show s * (2 * l0 X + 2) + 2 + 2 * (x + 1) = s * (2 * l0 X + 2) + 2 + 2 * x + 1 + 1 by omega]; exact G5.snoc g5
              · rw [show s * (2 * l0 X + 2) + 2 + 2 * (x + 1) = s * (2 * l0 X + 2) + 2 + 2 * x + 1 + 1 by omega]; exact D6.np (by omega) (by omega)
              · rcases b4 with g | g
                · exact Or.inr g
                · exact Or.inl g.1
              · rcases b4 with g | g
                · exact Or.inr g
                · exact Or.inl (g.2 (by omega))
            · refine gX7_readState_135 (fun c => absurd rfl c) (fun _ => ⟨⟨_, rfl, by decide⟩, h2 M5 _ (by omega) S5 T5 P5 ⟨G5, fun hg => e5 ?_, not_end ?_⟩⟩)
              · rw [show s * (2 * l0 X + 2) + 2 + 2 * x + 1 = s * (2 * l0 X + 2) + (2 + 2 * x + 1) by omega] at hg
                have hg := (gp_j (s := s) (by omega)).mp hg
                unfold gj at hg
                rw [if_neg (by omega), if_neg (by omega), if_neg (by omega), if_neg (by omega), show s * (2 * l0 X + 2) + (2 + 2 * x + 1) = s * (2 * l0 X + 2) + 2 + 2 * x + 1 by omega] at hg
                exact hg
              · rw [show s * (2 * l0 X + 2) + 2 + 2 * x + 1 = s * (2 * l0 X + 2) + (2 + 2 * x + 1) by omega, mod_k (by omega)]; omega
        by_cases e0 : s = 0
        · refine gX7_readState_62 (hm.sm I4.1).1.1 (fun c => absurd (by rw [e0]; rfl) c) (fun _ => ?_)
          refine w_X2_shape (by decide) (hm.sm I4.1) ?_
          rw [nI_add]
          obtain ⟨S4, T4, P4, G4, D4⟩ := I4
          have I5 : RdI M r a X (s * (2 * l0 X + 2) + 2 + 2 * x + 1) (sI (sI M4 a 0 (nI 0)) a 1 (nI (x + 1))) := ⟨(S4.tr (Sm.sI (by simp) _ _ _)).tr (Sm.sI (by simp) _ _ _), (T4.np (Or.inl (by omega)) (by omega)).np (Or.inl (by omega)) (by omega), by rw [rI_np (by omega), rI_np (by omega)]; exact P4, G4, (D4.np (by omega) (by omega)).np (by omega) (by omega)⟩
          have l5 : mI (sI (sI M4 a 0 (nI 0)) a 1 (nI (x + 1))) a 1 = nI (x + 1) := rI_at _ _ _ _
          have hm5 : MacSh (sI (sI M4 a 0 (nI 0)) a 1 (nI (x + 1))) a := hm.sm I5.1
          refine gX7_readState_75 hm5.1.1 (hs.sm I5.1).1 (fun c _ => absurd (by rw [e0]; rfl) c) (fun c _ => absurd (by rw [e0]; rfl) c) (fun _ c => ?_) (fun _ c => ?_)
          · rw [nI_add, nI_eq (by omega) (by omega)] at c
            have hx2 : x = 2 := by omega
            refine fin _ I5 (fun h => by rw [l5, h]) (fun h => absurd e0 h) _ (fun _ => by decide) (fun h => ?_) (fun h => ?_) <;> omega
          · rw [nI_add] at c
            have hx2 : x ≠ 2 := fun e => c (by rw [e])
            refine w_X7_signHere (by decide) (hs.sm I5.1) I5.2.1 I5.2.2.1 (by omega) ?_
            have hsx : s * (2 * l0 X + 2) + 2 + 2 * x + 1 = 3 + 2 * x := by rw [e0]; omega
            rw [hsx]
            have hll : x + 1 = l0 X ↔ ¬ sg X (3 + 2 * x) = some 44 := by
              unfold l0 at hx ⊢
              by_cases e3 : sg X 3 = some 44
              · rw [if_pos e3] at hx ⊢
                by_cases e5 : sg X 5 = some 44
                · rw [if_pos e5] at hx ⊢
                  by_cases ex : x = 0
                  · subst ex; exact ⟨fun h => by omega, fun h => absurd e3 h⟩
                  · have : x = 1 := by omega
                    subst this; exact ⟨fun h => by omega, fun h => absurd e5 h⟩
                · rw [if_neg e5] at hx ⊢
                  by_cases ex : x = 0
                  · subst ex; exact ⟨fun h => by omega, fun h => absurd e3 h⟩
                  · have : x = 1 := by omega
                    subst this; exact ⟨fun _ => e5, fun _ => rfl⟩
              · rw [if_neg e3] at hx ⊢
                have ex : x = 0 := by omega
                subst ex; exact ⟨fun _ => e3, fun _ => rfl⟩
            refine gX7_readState_91 (fun c9 => ?_) (fun c9 => ?_)
            · have c9 := (sg_val hB (by decide)).mp c9
              refine fin _ I5 (fun h => by rw [l5, h]) (fun h => absurd e0 h) _ (fun h => absurd c9 (hll.mp h)) (fun _ => rfl) (fun h => Or.inr ?_)
              by_cases ex : x = 0
              · subst ex; exact ⟨c9, fun h => by omega⟩
              · have hx1 : x = 1 := by omega
                subst hx1
                refine ⟨(hc1 (by decide)).resolve_right (fun h => h e0), fun _ => c9⟩
            · refine fin _ I5 (fun h => by rw [l5, h]) (fun h => absurd e0 h) _ (fun _ => by decide) (fun h => absurd ?_ h) (fun h => absurd ?_ h) <;> exact hll.mpr (fun q => c9 ((sg_val hB (by decide)).mpr q))
        · have hs0 : ¬ nI s = 0 := nI_ne0 (by omega) (by omega)
          refine gX7_readState_62 (hm.sm I4.1).1.1 (fun _ => ?_) (fun c => absurd c hs0)
          refine gX7_readState_75 (hm.sm I4.1).1.1 (hs.sm I4.1).1 (fun _ c => ?_) (fun _ c => ?_) (fun c _ => absurd c hs0) (fun c _ => absurd c hs0) <;> rw [nI_add, a4 e0, nI_eq (by omega) (by omega)] at c
          · exact fin _ I4 (fun h => absurd h c) a4 _ (fun h => absurd h c) (fun _ => rfl) (fun _ => Or.inl e0)
          · exact fin _ I4 (fun _ => a4 e0) a4 _ (fun _ => by decide) (fun h => absurd c h) (fun h => absurd c h)
      · refine gX7_readState_44 (hm.sm S3).1.1 (fun c => absurd c (by decide)) (fun _ => ⟨⟨_, rfl, by decide⟩, h2 M3 _ (by omega) S3 T3 P3 ⟨G3, fun q => hg3 ?_, not_end ?_⟩⟩)
        · rw [Nat.add_assoc (s * (2 * l0 X + 2)) 2] at q
          exact (gj_t (by omega)).mp ((gp_j (s := s) (by omega)).mp q)
        · rw [Nat.add_assoc (s * (2 * l0 X + 2)) 2, mod_k (by omega)]; omega
    · refine gX7_readState_24 (fun c => absurd rfl c) (fun _ => ⟨⟨_, rfl, by decide⟩, h2 M2 _ (by omega) S2 T2 P2 ⟨G2, fun q => e ?_, not_end ?_⟩⟩)
      · have q := (gp_j (s := s) (j := 1) (by omega)).mp q
        unfold gj at q
        rw [if_neg (by decide), if_pos rfl] at q; exact q
      · rw [mod_k (by omega)]; omega
  · refine gX7_readState_5 hm.1.1 (fun c => absurd c (by decide)) (fun _ => ⟨⟨_, rfl, by decide⟩, h2 M _ (by omega) (Sm.rf _ _) T0 P0 ⟨G0, fun q => hg ?_, not_end ?_⟩⟩)
    · exact gj_o ((gp_j (s := s) (j := 0) (by omega)).mp q)
    · have := mod_k (X := X) (s := s) (j := 0) (by omega)
      rw [Nat.add_zero] at this
      rw [this]; omega
end Read
