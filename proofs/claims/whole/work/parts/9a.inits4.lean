/-! the constructors of the class's pupil, on -/
section Inl
variable {d a : Nat} {Q : Option Value → Mem → Prop} {M : Mem}
theorem w_X6_init {r : Nat} (hd : 3 < d) (hf : Fo M a 8) (h : ∀ M', Kp [a] M M' 15 475 → TabSh M' a r → Q none M') : ClD d mdX6_init [.ref a, .ref r] M Q := by
  have hf0 := hf
  obtain ⟨f1, f2, f3⟩ := hf
  refine ⟨3, hd, Cl.of moX6_init (Nat.le_of_ble_eq_true rfl) (gX6_init_0 f1 (w_X3_init (cn := 4) (by decide) (Or.inl rfl) hf0 (fun M0 K0 n0 => gX6_init_5 ?_)))⟩
  have c0 := K0.2.2.1
  have e : mC M0 + 2 = a + 11 := by omega
  have k0 : mK M0 a = 8 := n0.1.2
  rw [e]
  refine gX6_init_10 (kNw k0 (by omega)) ?_
  obtain ⟨A1, ⟨A2, A3⟩, ⟨A4, A5⟩, ⟨A6, A7⟩, A8, A9⟩ := stp (f := 9) (kd := 1) (len := 8) e (by decide)
  obtain ⟨M1, hM1⟩ : ∃ M1, M1 = sR (nwC M0 1 8) a 9 (a + 11) := ⟨_, rfl⟩
  rw [← hM1] at A1 A2 A3 A4 A5 A6 A7 A8 A9 ⊢
  rw [A9]
  refine gX6_init_18 (kNw (A7.trans k0) (by omega)) ?_
  obtain ⟨B1, ⟨B2, B3⟩, ⟨B4, B5⟩, ⟨B6, B7⟩, B8, B9⟩ := stp (f := 10) (kd := 1) (len := 8) A9 (by decide)
  obtain ⟨M2, hM2⟩ : ∃ M2, M2 = sR (nwC M1 1 8) a 10 (a + 12) := ⟨_, rfl⟩
  rw [← hM2] at B1 B2 B3 B4 B5 B6 B7 B8 B9 ⊢
  rw [B9]
  refine gX6_init_26 (kNw (B7.trans (A7.trans k0)) (by omega)) ?_
  obtain ⟨C1, ⟨C2, C3⟩, ⟨C4, C5⟩, ⟨C6, C7⟩, C8, C9⟩ := stp (f := 11) (kd := 1) (len := 8) B9 (by decide)
  obtain ⟨M3, hM3⟩ : ∃ M3, M3 = sR (nwC M2 1 8) a 11 (a + 13) := ⟨_, rfl⟩
  rw [← hM3] at C1 C2 C3 C4 C5 C6 C7 C8 C9 ⊢
  rw [C9]
  refine gX6_init_34 (kNw (C7.trans (B7.trans (A7.trans k0))) (by omega)) ?_
  obtain ⟨D1, ⟨D2, D3⟩, ⟨D4, D5⟩, ⟨D6, D7⟩, D8, D9⟩ := stp (f := 12) (kd := 1) (len := 8) C9 (by decide)
  obtain ⟨M4, hM4⟩ : ∃ M4, M4 = sR (nwC M3 1 8) a 12 (a + 14) := ⟨_, rfl⟩
  rw [← hM4] at D1 D2 D3 D4 D5 D6 D7 D8 D9 ⊢
  rw [D9]
  refine gX6_init_43 (kNw (D7.trans (C7.trans (B7.trans (A7.trans k0)))) (by omega)) ⟨rfl, ?_⟩
  obtain ⟨E1, ⟨E2, E3⟩, ⟨E4, E5⟩, ⟨E6, E7⟩, E8, E9⟩ := stp (f := 13) (kd := 1) (len := 128) D9 (by decide)
  obtain ⟨M5, hM5⟩ : ∃ M5, M5 = sR (nwC M4 1 128) a 13 (a + 15) := ⟨_, rfl⟩
  rw [← hM5] at E1 E2 E3 E4 E5 E6 E7 E8 E9 ⊢
  have own : ∀ {M : Mem} (p : Nat), p ∈ [a] → p ∈ [a] ∨ mC M + 2 ≤ p := fun p hp => Or.inl hp
  have q4 : Kp [a] M3 M5 2 136 := D1.tr E1 own
  have q3 : Kp [a] M2 M5 3 144 := C1.tr q4 own
  have q2 : Kp [a] M1 M5 4 152 := B1.tr q3 own
  have q1 : Kp [a] M0 M5 5 160 := A1.tr q2 own
  obtain ⟨-, -, -, u2, u3⟩ := q2.kr (lo := a + 11) (hi := a + 12) (by omega) (fun p hp => by simp at hp; omega) (a + 11) (by omega) (by omega)
  obtain ⟨-, -, -, v2, v3⟩ := q3.kr (lo := a + 12) (hi := a + 13) (by omega) (fun p hp => by simp at hp; omega) (a + 12) (by omega) (by omega)
  obtain ⟨-, -, -, x2, x3⟩ := q4.kr (lo := a + 13) (hi := a + 14) (by omega) (fun p hp => by simp at hp; omega) (a + 13) (by omega) (by omega)
  obtain ⟨-, -, -, y2, y3⟩ := E1.kr (lo := a + 14) (hi := a + 15) (by omega) (fun p hp => by simp at hp; omega) (a + 14) (by omega) (by omega)
  refine h M5 (K0.tr q1 own) ⟨n0.kq (by rw [E7, D7, C7, B7, A7]) (fun j hj => by rw [E5 j (by omega), D5 j (by omega), C5 j (by omega), B5 j (by omega), A5 j (by omega)]) (q1.kr (by omega) (fun p hp => by simp at hp; omega)), ⟨by rw [E5 9 (by decide), D5 9 (by decide), C5 9 (by decide), B5 9 (by decide)]; exact A4, by rw [E5 10 (by decide), D5 10 (by decide), C5 10 (by decide)]; exact B4, by rw [E5 11 (by decide), D5 11 (by decide)]; exact C4, by rw [E5 12 (by decide)]; exact D4, E4⟩, ⟨by rw [u2]; exact A2, by rw [u3]; exact A3⟩, ⟨by rw [v2]; exact B2, by rw [v3]; exact B3⟩, ⟨by rw [x2]; exact C2, by rw [x3]; exact C3⟩, ⟨by rw [y2]; exact D2, by rw [y3]; exact D3⟩, E2, E3⟩
theorem w_X8_init {r : Nat} (hd : 3 < d) (hf : Fo M a 10) (h : ∀ M', Kp [a] M M' 11 347 → TrSh M' a r → Q none M') : ClD d mdX8_init [.ref a, .ref r] M Q := by
  have hf0 := hf
  obtain ⟨f1, f2, f3⟩ := hf
  refine ⟨3, hd, Cl.of moX8_init (Nat.le_of_ble_eq_true rfl) (gX8_init_0 f1 (w_X3_init (cn := 6) (by decide) (Or.inr rfl) hf0 (fun M0 K0 n0 => gX8_init_5 ?_)))⟩
  have c0 := K0.2.2.1
  have e : mC M0 + 2 = a + 11 := by omega
  have k0 : mK M0 a = 10 := n0.1.2
  rw [e]
  refine gX8_init_10 (kNw k0 (by omega)) ⟨rfl, ?_⟩
  obtain ⟨A1, ⟨A2, A3⟩, ⟨A4, A5⟩, ⟨A6, A7⟩, A8, A9⟩ := stp (f := 8) (kd := 1) (len := 32) e (by decide)
  obtain ⟨M1, hM1⟩ : ∃ M1, M1 = sR (nwC M0 1 32) a 8 (a + 11) := ⟨_, rfl⟩
  rw [← hM1] at A1 A2 A3 A4 A5 A6 A7 A8 A9 ⊢
  exact h M1 (K0.tr A1 (fun p hp => Or.inl hp)) ⟨n0.kq (by rw [A7]) (fun j hj => by rw [A5 j (by omega)]) (A1.kr (by omega) (fun p hp => by simp at hp; omega)), A4, A2, A3⟩
theorem w_X4_init (hd : 4 < d) (hf : Fo M a 6) (h : ∀ M', Kp [a] M M' 31 1109 → PuSh M' a → AskSh M' (a + 1) 3 → SetZ M' (a + 2) → (mI M' (a + 1) 2 = nI 1 ∧ mI M' (a + 1) 3 = nI 1 ∧ mI M' (a + 1) 4 = nI 0) → Q none M') : ClD d mdX4_init [.ref a, .ref 3, .ref 13] M Q := by
  obtain ⟨f1, f2, f3⟩ := hf
  have e : mC M + 2 = a + 1 := by omega
  have own : ∀ {M : Mem} (p : Nat), p ∈ [a] → p ∈ [a] ∨ mC M + 2 ≤ p := fun p hp => Or.inl hp
  refine ⟨4, hd, Cl.of moX4_init (Nat.le_of_ble_eq_true rfl) (gX4_init_0 (by decide) f1 ?_)⟩
  obtain ⟨M0, hM0⟩ : ∃ M0, M0 = sR M a 6 13 := ⟨_, rfl⟩
  rw [← hM0]
  have e0 : mC M0 + 2 = a + 1 := by rw [hM0]; exact e
  have k0 : mK M0 a = 6 := by rw [hM0]; exact f1
  have K0 : Kp [a] M M0 0 0 := by rw [hM0]; exact Kp.r (by simp)
  have r6 : mR M0 a 6 = 13 := by rw [hM0]; exact rR_at _ _ _ _
  have F := Fo.of M0 4 5
  rw [e0] at F ⊢
  refine gX4_init_13 F.1 (w_X0_init (m := 3) (by decide) F (fun N1 K1 as1 sz1 i1 => ?_))
  obtain ⟨A1, ⟨A2, A3⟩, ⟨A4, A5⟩, A6, A7, A8, -⟩ := sto (f := 0) e0 (Nat.le_refl _) K1
  refine gX4_init_18 (A8.trans k0) ?_
  obtain ⟨M1, hM1⟩ : ∃ M1, M1 = sR N1 a 0 (a + 1) := ⟨_, rfl⟩
  rw [show a + (1 + 1 + 2) = a + 4 from rfl] at A7
  rw [← hM1] at A1 A2 A3 A4 A5 A6 A7 ⊢
  have F := Fo.of M1 8 14
  rw [A7] at F ⊢
  have eA : mR (nwC M1 8 14) a 0 = a + 1 := by rw [wR_ne (by omega)]; exact A2
  refine gX4_init_25 (kNw (A5.trans k0) (by omega)) F.1 ?_
  rw [eA]
  refine w_X6_init (by decide) F (fun N2 K2 t2 => ?_)
  obtain ⟨B1, ⟨B2, B3⟩, ⟨B4, B5⟩, B6, B7, B8, -⟩ := sto (f := 1) A7 (by decide) K2
  refine gX4_init_33 ((B8.trans A5).trans k0) ?_
  obtain ⟨M2, hM2⟩ : ∃ M2, M2 = sR N2 a 1 (a + 4) := ⟨_, rfl⟩
  rw [show a + (4 + 1 + 15) = a + 20 from rfl] at B7
  rw [← hM2] at B1 B2 B3 B4 B5 B6 B7 ⊢
  have F := Fo.of M2 10 10
  rw [B7] at F ⊢
  have eB : mR (nwC M2 10 10) a 0 = a + 1 := by rw [wR_ne (by omega), B3 0 (by decide)]; exact A2
  refine gX4_init_40 (kNw ((B5.trans A5).trans k0) (by omega)) F.1 ?_
  rw [eB]
  refine w_X8_init (by decide) F (fun N3 K3 t3 => ?_)
  obtain ⟨C1, ⟨C2, C3⟩, ⟨C4, C5⟩, C6, C7, C8, -⟩ := sto (f := 2) B7 (by decide) K3
  have k3 := ((C8.trans B5).trans A5).trans k0
  refine gX4_init_48 k3 k3 ⟨rfl, ?_⟩
  obtain ⟨M3, hM3⟩ : ∃ M3, M3 = sR N3 a 2 (a + 20) := ⟨_, rfl⟩
  rw [show a + (20 + 1 + 11) = a + 32 from rfl] at C7
  rw [← hM3] at C1 C2 C3 C4 C5 C6 C7 ⊢
  obtain ⟨M4, hM4⟩ : ∃ M4, M4 = sR M3 a 3 (mR M3 a 1) := ⟨_, rfl⟩
  rw [← hM4]
  have E1 : Kp [a] M3 M4 0 0 := by rw [hM4]; exact Kp.r (by simp)
  have ER : ∀ j, j ≠ 3 → mR M4 a j = mR M3 a j := fun j hj => by rw [hM4, rR_nk hj]
  have eK : mK M4 a = mK M3 a := by rw [hM4]; rfl
  have q2 : Kp [a] M2 M4 12 357 := C1.tr E1 own
  have q1 : Kp [a] M1 M4 28 846 := B1.tr q2 own
  have c1 := q1.2.2.1
  have kr1 : Kr (a + 1) (a + 4) N1 M4 := ((A6 (a + 4)).mono (by omega) (by omega)).tr (q1.kr (by omega) (fun p hp => by simp at hp; omega))
  obtain ⟨x1, -⟩ := kr1 (a + 1) (by omega) (by omega)
  have hn1 : mC N1 + 2 = mC M1 + 2 := by rw [hM1]; rfl
  refine h M4 ((K0.tr A1 own).tr q1 own) ⟨⟨by rw [eK, C5, B5, A5]; exact k0, by rw [ER 0 (by decide), C3 0 (by decide), B3 0 (by decide)]; exact A2, by rw [ER 1 (by decide), C3 1 (by decide)]; exact B2, by rw [ER 2 (by decide)]; exact C2, by rw [ER 6 (by decide), C3 6 (by decide), B3 6 (by decide), A3 6 (by decide)]; exact r6⟩, ?_, ?_⟩ (as1.kr (kr1.mono (by omega) (by omega))) (sz1.kr (kr1.mono (by omega) (by omega)) (by omega)) (by rw [x1]; exact i1)
  · exact (t2.kr ((B6 (a + 20)).mono (by omega) (by omega))).kr (q2.kr (by omega) (fun p hp => by simp at hp; omega))
  · exact (t3.kr ((C6 (a + 32)).mono (by omega) (by omega))).kr (E1.kr (by omega) (fun p hp => by simp at hp; omega))
end Inl
