/-! the constructors of the class's parts, on -/
/-- a new cell, put into a field -/
theorem stp {M : Mem} {a n f kd len : Nat} (e : mC M + 2 = a + n) (hn : 1 ≤ n) : Kp [a] M (sR (nwC M kd len) a f (a + n)) 1 len ∧ (mK (sR (nwC M kd len) a f (a + n)) (a + n) = kd ∧ mN (sR (nwC M kd len) a f (a + n)) (a + n) = len) ∧ (mR (sR (nwC M kd len) a f (a + n)) a f = a + n ∧ ∀ j, j ≠ f → mR (sR (nwC M kd len) a f (a + n)) a j = mR M a j) ∧ (mI (sR (nwC M kd len) a f (a + n)) a = mI M a ∧ mK (sR (nwC M kd len) a f (a + n)) a = mK M a) ∧ (∀ j, mI (sR (nwC M kd len) a f (a + n)) (a + n) j = 0) ∧ mC (sR (nwC M kd len) a f (a + n)) + 2 = a + (n + 1) := by
  refine ⟨(Kp.nw _ _ _).tr (Kp.r (by simp)) (fun p hp => Or.inl hp), ⟨?_, ?_⟩, ⟨rR_at _ _ _ _, fun j hj => ?_⟩, ⟨?_, ?_⟩, fun j => ?_, ?_⟩
  · show mK (nwC M kd len) (a + n) = kd; rw [← e]; exact wK_at _ _ _
  · show mN (nwC M kd len) (a + n) = len; rw [← e]; exact wN_at _ _ _
  · rw [rR_nk hj, wR_ne (by omega)]
  · show mI (nwC M kd len) a = _; rw [wI_ne (by omega)]
  · show mK (nwC M kd len) a = _; rw [wK_ne (by omega)]
  · show mI (nwC M kd len) (a + n) j = 0; rw [← e]; exact wI_at _ _ _ _
  · show mC M + 1 + 2 = _; omega
theorem kNw {M : Mem} {a kd n x : Nat} (h : mK M a = x) (hl : a < mC M + 2) : mK (nwC M kd n) a = x := by rw [wK_ne (by omega)]; exact h
def mach0 : PM := (1, 1, fun _ => 0, fun _ _ => 0)
section Inj
variable {d a : Nat} {Q : Option Value → Mem → Prop} {M : Mem}
theorem w_X2_init (hd : 1 < d) (hf : Fo M a 5) (h : ∀ M', Kp [a] M M' 3 40 → MacSh M' a → MacAt M' a mach0 → Q none M') : ClD d mdX2_init [.ref a] M Q := by
  obtain ⟨f1, f2, f3⟩ := hf
  have e : mC M + 2 = a + 1 := by omega
  refine ⟨1, hd, Cl.of moX2_init (Nat.le_of_ble_eq_true rfl) (gX2_init_0 (by decide) f1 ?_)⟩
  obtain ⟨M0, hM0⟩ : ∃ M0, M0 = sI (sI M a 0 (nI 1)) a 1 (nI 1) := ⟨_, rfl⟩
  rw [← hM0]
  have e0 : mC M0 + 2 = a + 1 := by rw [hM0]; exact e
  have k0 : mK M0 a = 5 := by rw [hM0]; exact f1
  have K0 : Kp [a] M M0 0 0 := by rw [hM0]; exact (Kp.i (by simp)).tr (Kp.i (by simp)) (fun p hp => Or.inl hp)
  have i0 : mI M0 a 0 = nI 1 ∧ mI M0 a 1 = nI 1 := by
    rw [hM0]; exact ⟨by rw [rI_nk (by decide), rI_at], rI_at _ _ _ _⟩
  rw [e0]
  refine gX2_init_19 (kNw k0 (by omega)) ?_
  obtain ⟨A1, ⟨A2, A3⟩, ⟨A4, A5⟩, ⟨A6, A7⟩, A8, A9⟩ := stp (f := 2) (kd := 1) (len := 8) e0 (Nat.le_refl _)
  obtain ⟨M1, hM1⟩ : ∃ M1, M1 = sR (nwC M0 1 8) a 2 (a + 1) := ⟨_, rfl⟩
  rw [← hM1] at A1 A2 A3 A4 A5 A6 A7 A8 A9 ⊢
  rw [A9]
  refine gX2_init_27 (kNw (A7.trans k0) (by omega)) ?_
  obtain ⟨B1, ⟨B2, B3⟩, ⟨B4, B5⟩, ⟨B6, B7⟩, B8, B9⟩ := stp (f := 3) (kd := 1) (len := 24) A9 (by decide)
  obtain ⟨M2, hM2⟩ : ∃ M2, M2 = sR (nwC M1 1 24) a 3 (a + 2) := ⟨_, rfl⟩
  rw [← hM2] at B1 B2 B3 B4 B5 B6 B7 B8 B9 ⊢
  rw [B9]
  refine gX2_init_35 (kNw (B7.trans (A7.trans k0)) (by omega)) ⟨rfl, ?_⟩
  obtain ⟨C1, ⟨C2, C3⟩, ⟨C4, C5⟩, ⟨C6, C7⟩, C8, C9⟩ := stp (f := 4) (kd := 1) (len := 8) B9 (by decide)
  obtain ⟨M3, hM3⟩ : ∃ M3, M3 = sR (nwC M2 1 8) a 4 (a + 3) := ⟨_, rfl⟩
  rw [← hM3] at C1 C2 C3 C4 C5 C6 C7 C8 C9 ⊢
  have o1 : Kr (a + 1) (a + 2) M1 M3 := (B1.tr C1 (fun p hp => Or.inl hp)).kr (by omega) (fun p hp => by simp at hp; omega)
  have o2 : Kr (a + 2) (a + 3) M2 M3 := C1.kr (by omega) (fun p hp => by simp at hp; omega)
  obtain ⟨x1, -, -, x2, x3⟩ := o1 (a + 1) (by omega) (by omega)
  obtain ⟨y1, -, -, y2, y3⟩ := o2 (a + 2) (by omega) (by omega)
  refine h M3 (((K0.tr A1 (fun p hp => Or.inl hp)).tr B1 (fun p hp => Or.inl hp)).tr C1 (fun p hp => Or.inl hp)) ⟨⟨by rw [C7, B7, A7]; exact k0, by rw [C5 2 (by decide), B5 2 (by decide)]; exact A4, by rw [C5 3 (by decide)]; exact B4, C4⟩, ⟨by rw [x2]; exact A2, by rw [x3]; exact A3⟩, ⟨by rw [y2]; exact B2, by rw [y3]; exact B3⟩, C2, C3⟩ ⟨⟨by rw [C6, B6, A6]; exact i0.1, by rw [C6, B6, A6]; exact i0.2⟩, fun s _ => by rw [x1]; exact A8 s, fun s _ x _ => by rw [y1]; exact B8 _⟩
theorem w_X5_init (hd : 1 < d) (hf : Fo M a 7) (h : ∀ M', Kp [a] M M' 4 256 → SeaSh M' a → Q none M') : ClD d mdX5_init [.ref a] M Q := by
  obtain ⟨f1, f2, f3⟩ := hf
  have e : mC M + 2 = a + 1 := by omega
  refine ⟨1, hd, Cl.of moX5_init (Nat.le_of_ble_eq_true rfl) (gX5_init_0 (by decide) f1 ?_)⟩
  rw [e]
  refine gX5_init_9 (kNw f1 (by omega)) ?_
  obtain ⟨A1, ⟨A2, A3⟩, ⟨A4, A5⟩, ⟨A6, A7⟩, A8, A9⟩ := stp (f := 0) (kd := 2) (len := 64) e (Nat.le_refl _)
  obtain ⟨M1, hM1⟩ : ∃ M1, M1 = sR (nwC M 2 64) a 0 (a + 1) := ⟨_, rfl⟩
  rw [← hM1] at A1 A2 A3 A4 A5 A6 A7 A8 A9 ⊢
  rw [A9]
  refine gX5_init_17 (kNw (A7.trans f1) (by omega)) ?_
  obtain ⟨B1, ⟨B2, B3⟩, ⟨B4, B5⟩, ⟨B6, B7⟩, B8, B9⟩ := stp (f := 1) (kd := 1) (len := 64) A9 (by decide)
  obtain ⟨M2, hM2⟩ : ∃ M2, M2 = sR (nwC M1 1 64) a 1 (a + 2) := ⟨_, rfl⟩
  rw [← hM2] at B1 B2 B3 B4 B5 B6 B7 B8 B9 ⊢
  rw [B9]
  refine gX5_init_25 (kNw (B7.trans (A7.trans f1)) (by omega)) ?_
  obtain ⟨C1, ⟨C2, C3⟩, ⟨C4, C5⟩, ⟨C6, C7⟩, C8, C9⟩ := stp (f := 3) (kd := 1) (len := 64) B9 (by decide)
  obtain ⟨M3, hM3⟩ : ∃ M3, M3 = sR (nwC M2 1 64) a 3 (a + 3) := ⟨_, rfl⟩
  rw [← hM3] at C1 C2 C3 C4 C5 C6 C7 C8 C9 ⊢
  rw [C9]
  refine gX5_init_33 (kNw (C7.trans (B7.trans (A7.trans f1))) (by omega)) ⟨rfl, ?_⟩
  obtain ⟨D1, ⟨D2, D3⟩, ⟨D4, D5⟩, ⟨D6, D7⟩, D8, D9⟩ := stp (f := 4) (kd := 1) (len := 64) C9 (by decide)
  obtain ⟨M4, hM4⟩ : ∃ M4, M4 = sR (nwC M3 1 64) a 4 (a + 4) := ⟨_, rfl⟩
  rw [← hM4] at D1 D2 D3 D4 D5 D6 D7 D8 D9 ⊢
  have k1 : Kp [a] M1 M4 3 (64 + 64 + 64) := (B1.tr C1 (fun p hp => Or.inl hp)).tr D1 (fun p hp => Or.inl hp)
  have k2 : Kp [a] M2 M4 2 (64 + 64) := C1.tr D1 (fun p hp => Or.inl hp)
  obtain ⟨-, -, -, x2, x3⟩ := k1.kr (lo := a + 1) (hi := a + 2) (by omega) (fun p hp => by simp at hp; omega) (a + 1) (by omega) (by omega)
  obtain ⟨-, -, -, y2, y3⟩ := k2.kr (lo := a + 2) (hi := a + 3) (by omega) (fun p hp => by simp at hp; omega) (a + 2) (by omega) (by omega)
  obtain ⟨-, -, -, z2, z3⟩ := D1.kr (lo := a + 3) (hi := a + 4) (by omega) (fun p hp => by simp at hp; omega) (a + 3) (by omega) (by omega)
  refine h M4 (A1.tr k1 (fun p hp => Or.inl hp)) ⟨⟨by rw [D7, C7, B7, A7]; exact f1, by rw [D5 0 (by decide), C5 0 (by decide), B5 0 (by decide)]; exact A4, by rw [D5 1 (by decide), C5 1 (by decide)]; exact B4⟩, Or.inl ⟨by rw [D5 3 (by decide)]; exact C4, D4⟩, ⟨by rw [x2]; exact A2, by rw [x3]; exact A3⟩, ⟨by rw [y2]; exact B2, by rw [y3]; exact B3⟩, ⟨by rw [z2]; exact C2, by rw [z3]; exact C3⟩, D2, D3⟩
theorem w_X0_init {m : Nat} (hd : 2 < d) (hf : Fo M a 4) (h : ∀ M', Kp [a] M M' 2 258 → AskSh M' a m → SetZ M' (a + 1) → (mI M' a 2 = nI 1 ∧ mI M' a 3 = nI 1 ∧ mI M' a 4 = nI 0) → Q none M') : ClD d mdX0_init [.ref a, .ref m] M Q := by
  obtain ⟨f1, f2, f3⟩ := hf
  have e : mC M + 2 = a + 1 := by omega
  refine ⟨2, hd, Cl.of moX0_init (Nat.le_of_ble_eq_true rfl) (gX0_init_0 (by decide) f1 ?_)⟩
  have F := Fo.of M 12 2
  have kA : mK (nwC M 12 2) a = 4 := kNw f1 (by omega)
  have iA : ∀ j, mI (nwC M 12 2) a j = 0 := fun j => by rw [wI_ne (by omega)]; exact f2 j
  have K0 : Kp [a] M (nwC M 12 2) 1 2 := Kp.nw _ _ _
  have hC : mC (nwC M 12 2) = mC M + 1 := rfl
  rw [e] at F ⊢
  obtain ⟨M1, hM1⟩ : ∃ M1, M1 = nwC M 12 2 := ⟨_, rfl⟩
  rw [← hM1] at F kA iA K0 hC ⊢
  refine gX0_init_8 F.1 (w_X10_init (by decide) F (fun M2 K2 s2 => ?_))
  obtain ⟨x1, -, x3, x4, -⟩ := K2.kr (lo := a) (hi := a + 1) (by omega) (fun p hp => by simp at hp; omega) a (by omega) (by omega)
  have k2 : mK M2 a = 4 := x4.trans kA
  refine gX0_init_12 k2 k2 ⟨rfl, ?_⟩
  obtain ⟨M3, hM3⟩ : ∃ M3, M3 = sR (sI (sI (sR M2 a 1 (a + 1)) a 2 (nI 1)) a 3 (nI 1)) a 0 m := ⟨_, rfl⟩
  rw [← hM3]
  have K3 : Kp [a] M2 M3 0 0 := by
    rw [hM3]; exact (((Kp.r (by simp)).tr (Kp.i (by simp)) (fun p hp => Or.inl hp)).tr (Kp.i (by simp)) (fun p hp => Or.inl hp)).tr (Kp.r (by simp)) (fun p hp => Or.inl hp)
  have c2 := K2.2.2.1
  have s3 : SetZ M3 (a + 1) := s2.kr (K3.kr (by omega) (fun p hp => by simp at hp; omega)) (by have := K3.2.2.1; omega)
  refine h M3 ((K0.tr K2 (fun p hp => by simp at hp; omega)).tr K3 (fun p hp => Or.inl hp)) ⟨by rw [hM3]; exact k2, by rw [hM3, rR_at], by rw [hM3, rR_nk (by decide)]; exact rR_at _ _ _ _, ?_⟩ s3 ⟨?_, ?_, ?_⟩
  · exact s3.1.1.1
  · rw [hM3]; show mI (sI (sI (sR M2 a 1 (a + 1)) a 2 (nI 1)) a 3 (nI 1)) a 2 = _; rw [rI_nk (by decide), rI_at]
  · rw [hM3]; show mI (sI (sI (sR M2 a 1 (a + 1)) a 2 (nI 1)) a 3 (nI 1)) a 3 = _; rw [rI_at]
  · rw [hM3]; show mI (sI (sI (sR M2 a 1 (a + 1)) a 2 (nI 1)) a 3 (nI 1)) a 4 = _; rw [rI_nk (by decide), rI_nk (by decide)]
    show mI M2 a 4 = _
    rw [x1]; exact iA 4
end Inj
