/-! the constructors of the class's pupil -/
/-- a new object, built and put into a field -/
theorem sto {M M2 : Mem} {a n f kd len c s : Nat} (e : mC M + 2 = a + n) (hn : 1 ≤ n) (K : Kp [a + n] (nwC M kd len) M2 c s) : Kp [a] M (sR M2 a f (a + n)) (1 + c) (len + s) ∧ (mR (sR M2 a f (a + n)) a f = a + n ∧ ∀ j, j ≠ f → mR (sR M2 a f (a + n)) a j = mR M a j) ∧ (mI (sR M2 a f (a + n)) a = mI M a ∧ mK (sR M2 a f (a + n)) a = mK M a) ∧ (∀ hi, Kr (a + 1) hi M2 (sR M2 a f (a + n))) ∧ mC (sR M2 a f (a + n)) + 2 = a + (n + 1 + c) ∧ mK M2 a = mK M a ∧ mC M2 = mC M + (1 + c) := by
  have hC : mC (nwC M kd len) = mC M + 1 := rfl
  have cc := K.2.2.1
  obtain ⟨x1, -, x3, x4, -⟩ := K.kr (lo := a) (hi := a + 1) (by omega) (fun p hp => by simp at hp; omega) a (by omega) (by omega)
  rw [wI_ne (by omega)] at x1
  rw [wR_ne (by omega)] at x3
  rw [wK_ne (by omega)] at x4
  have K0 : Kp [a] M M2 (1 + c) (len + s) := (Kp.nw M kd len).tr K (fun p hp => by simp at hp; omega)
  refine ⟨K0.tr (Kp.r (by simp)) (fun p hp => Or.inl hp), ⟨rR_at _ _ _ _, fun j hj => by rw [rR_nk hj, x3]⟩, ⟨x1, x4⟩, fun hi p h1 h2 => ⟨rfl, rfl, rR_np (by omega), rfl, rfl⟩, ?_, x4, K0.2.2.1⟩
  show mC M2 + 2 = _
  omega
theorem NotSh.kq {M M' : Mem} {b r cn : Nat} (h0 : mK M' b = mK M b) (hj : ∀ j, j < 5 → mR M' b j = mR M b j) (h : Kr (b + 1) (b + 11) M M') (hs : NotSh M b r cn) : NotSh M' b r cn := by
  obtain ⟨h1, h2, h3, h4, h5, h6⟩ := hs
  refine ⟨by rw [h0]; exact h1, ?_, h3.kr (h.mono (by omega) (by omega)), h4.kr (h.mono (by omega) (by omega)), h5.kr (h.mono (by omega) (by omega)), h6.kr (h.mono (by omega) (by omega))⟩
  rw [hj 0 (by decide), hj 1 (by decide), hj 2 (by decide), hj 3 (by decide), hj 4 (by decide)]; exact h2
theorem Kr.tr {lo hi : Nat} {M M1 M2 : Mem} (h : Kr lo hi M M1) (k : Kr lo hi M1 M2) : Kr lo hi M M2 := fun p a b => by
  obtain ⟨x1, x2, x3, x4, x5⟩ := h p a b
  obtain ⟨y1, y2, y3, y4, y5⟩ := k p a b
  exact ⟨y1.trans x1, y2.trans x2, y3.trans x3, y4.trans x4, y5.trans x5⟩
section Ink
variable {d a : Nat} {Q : Option Value → Mem → Prop} {M : Mem}
theorem w_X3_init {r cn : Nat} (hd : 2 < d) (hn : NT cn) (hf : Fo M a (cn + 4)) (h : ∀ M', Kp [a] M M' 10 315 → NotSh M' a r cn → Q none M') : ClD d mdX3_init [.ref a, .ref r] M Q := by
  obtain ⟨f1, f2, f3⟩ := hf
  have e : mC M + 2 = a + 1 := by omega
  have own : ∀ (p : Nat), p ∈ [a] → p ∈ [a] ∨ mC M + 2 ≤ p := fun p hp => Or.inl hp
  refine ⟨2, hd, Cl.of moX3_init (Nat.le_of_ble_eq_true rfl) (gX3_init_0 (by decide) hn f1 ?_)⟩
  have F := Fo.of M 11 2
  rw [e] at F ⊢
  refine gX3_init_8 F.1 (w_X9_init (cap := 128) (by decide) F (by decide) (fun N1 K1 l1 _ => ?_))
  obtain ⟨A1, ⟨A2, A3⟩, ⟨A4, A5⟩, A6, A7, A8, -⟩ := sto (f := 1) e (Nat.le_refl _) K1
  refine gX3_init_15 hn (A8.trans f1) ?_
  obtain ⟨M1, hM1⟩ : ∃ M1, M1 = sR N1 a 1 (a + 1) := ⟨_, rfl⟩
  rw [← hM1] at A1 A2 A3 A4 A5 A6 A7 ⊢
  have F := Fo.of M1 11 2
  rw [A7] at F ⊢
  refine gX3_init_22 F.1 (w_X9_init (cap := 128) (by decide) F (by decide) (fun N2 K2 l2 _ => ?_))
  obtain ⟨B1, ⟨B2, B3⟩, ⟨B4, B5⟩, B6, B7, B8, -⟩ := sto (f := 2) A7 (by decide) K2
  refine gX3_init_29 hn ((B8.trans A5).trans f1) ?_
  obtain ⟨M2, hM2⟩ : ∃ M2, M2 = sR N2 a 2 (a + 3) := ⟨_, rfl⟩
  rw [show a + (1 + 1 + 1) = a + 3 from rfl] at *
  rw [← hM2] at B1 B2 B3 B4 B5 B6 B7 ⊢
  have F := Fo.of M2 11 2
  rw [B7] at F ⊢
  refine gX3_init_36 F.1 (w_X9_init (cap := 8) (by decide) F (by decide) (fun N3 K3 l3 _ => ?_))
  obtain ⟨C1, ⟨C2, C3⟩, ⟨C4, C5⟩, C6, C7, C8, -⟩ := sto (f := 3) B7 (by decide) K3
  refine gX3_init_42 hn (((C8.trans B5).trans A5).trans f1) ?_
  obtain ⟨M3, hM3⟩ : ∃ M3, M3 = sR N3 a 3 (a + 5) := ⟨_, rfl⟩
  rw [show a + (3 + 1 + 1) = a + 5 from rfl] at *
  rw [← hM3] at C1 C2 C3 C4 C5 C6 C7 ⊢
  have F := Fo.of M3 5 5
  rw [C7] at F ⊢
  refine gX3_init_49 F.1 (w_X2_init (by decide) F (fun N4 K4 l4 _ => ?_))
  obtain ⟨D1, ⟨D2, D3⟩, ⟨D4, D5⟩, D6, D7, D8, -⟩ := sto (f := 4) C7 (by decide) K4
  have k4 := (((D8.trans C5).trans B5).trans A5).trans f1
  refine gX3_init_53 hn k4 hn k4 ⟨rfl, ?_⟩
  obtain ⟨M4, hM4⟩ : ∃ M4, M4 = sR N4 a 4 (a + 7) := ⟨_, rfl⟩
  rw [show a + (5 + 1 + 1) = a + 7 from rfl] at *
  rw [← hM4] at D1 D2 D3 D4 D5 D6 D7 ⊢
  obtain ⟨M5, hM5⟩ : ∃ M5, M5 = sR M4 a 0 r := ⟨_, rfl⟩
  rw [← hM5]
  have E1 : Kp [a] M4 M5 0 0 := by rw [hM5]; exact Kp.r (by simp)
  have ER : ∀ j, j ≠ 0 → mR M5 a j = mR M4 a j := fun j hj => by rw [hM5, rR_nk hj]
  have eK : mK M5 a = mK M4 a := by rw [hM5]; rfl
  have q4 : Kp [a] M3 M5 4 45 := D1.tr E1 (fun p hp => Or.inl hp)
  have q3 : Kp [a] M2 M5 6 55 := C1.tr q4 (fun p hp => Or.inl hp)
  have q2 : Kp [a] M1 M5 8 185 := B1.tr q3 (fun p hp => Or.inl hp)
  refine h M5 (A1.tr q2 (fun p hp => Or.inl hp)) ⟨⟨hn, by rw [eK, D5, C5, B5, A5]; exact f1⟩, ⟨by rw [hM5, rR_at], by rw [ER 1 (by decide), D3 1 (by decide), C3 1 (by decide), B3 1 (by decide)]; exact A2, by rw [ER 2 (by decide), D3 2 (by decide), C3 2 (by decide)]; exact B2, by rw [ER 3 (by decide), D3 3 (by decide)]; exact C2, by rw [ER 4 (by decide)]; exact D2⟩, ?_, ?_, ?_, ?_⟩
  · exact (l1.kr ((A6 (a + 3)).mono (by omega) (by omega))).kr (q2.kr (by omega) (fun p hp => by simp at hp; omega))
  · exact (l2.kr ((B6 (a + 5)).mono (by omega) (by omega))).kr (q3.kr (by omega) (fun p hp => by simp at hp; omega))
  · exact (l3.kr ((C6 (a + 7)).mono (by omega) (by omega))).kr (q4.kr (by omega) (fun p hp => by simp at hp; omega))
  · exact (l4.kr ((D6 (a + 11)).mono (by omega) (by omega))).kr (E1.kr (by omega) (fun p hp => by simp at hp; omega))
end Ink
