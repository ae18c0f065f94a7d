/-! the reference's constructor -/
/-- the reference, built up to its n-th cell -/
def MoB (M : Mem) (m n : Nat) : Prop := mK M m = 14 ∧ mC M + 2 = m + (n + 1) ∧ ∀ q, q ∈ mTab → q.2.1 ≤ n → mR M m q.1 = m + q.2.1 ∧ mK M (m + q.2.1) = q.2.2.1 ∧ mN M (m + q.2.1) = q.2.2.2
/-- what is kept of values -/
def Kv (M M' : Mem) : Prop := ∀ p, p < mC M + 2 → mI M' p = mI M p
theorem Kv.tr {M M1 M2 : Mem} (h : Kv M M1) (k : Kv M1 M2) (hc : mC M ≤ mC M1) : Kv M M2 := fun p hp => (k p (by omega)).trans (h p hp)
theorem mstp {M : Mem} {m n f kd len : Nat} (h : MoB M m n) (h1 : ∀ q, q ∈ mTab → q.2.1 ≤ n → q.1 ≠ f) (h2 : ∀ q, q ∈ mTab → q.2.1 = n + 1 → q = (f, n + 1, kd, len)) : MoB (sR (nwC M kd len) m f (m + (n + 1))) m (n + 1) ∧ Kp [m] M (sR (nwC M kd len) m f (m + (n + 1))) 1 len ∧ Kv M (sR (nwC M kd len) m f (m + (n + 1))) ∧ ∀ j, mI (sR (nwC M kd len) m f (m + (n + 1))) (m + (n + 1)) j = 0 := by
  obtain ⟨a1, a2, a3⟩ := h
  obtain ⟨A1, ⟨A2, A3⟩, ⟨A4, A5⟩, ⟨A6, A7⟩, A8, A9⟩ := stp (f := f) (kd := kd) (len := len) a2 (by omega)
  refine ⟨⟨A7.trans a1, A9, fun q hq hn => ?_⟩, A1, fun p hp => ?_, A8⟩
  · by_cases e : q.2.1 = n + 1
    · rw [h2 q hq e]; exact ⟨A4, A2, A3⟩
    · have hq1 := h1 q hq (by omega)
      have t := a3 q hq (by omega)
      have hm : ∀ q, q ∈ mTab → 1 ≤ q.2.1 := by decide
      have k := hm q hq
      have s := A1.2.1 (m + q.2.1) (by omega)
      exact ⟨by rw [A5 _ hq1]; exact t.1, by rw [s.1]; exact t.2.1, by rw [s.2]; exact t.2.2⟩
  · by_cases e : p = m
    · subst e; exact A6
    · exact (A1.1 p hp (by simpa using e)).1
theorem MoB.i {M : Mem} {m n p k : Nat} {v : Int32} (h : MoB M m n) : MoB (sI M p k v) m n := h
theorem moL_in {m p : Nat} (h : p ∈ moL m) : m ≤ p ∧ p ≤ m + 30 := by
  unfold moL at h
  rcases List.mem_cons.mp h with e | e
  · omega
  · obtain ⟨i, hi, e⟩ := List.mem_map.mp e
    have := List.mem_range.mp hi
    omega
section Imi
variable {d m : Nat} {Q : Option Value → Mem → Prop} {M : Mem}
theorem w_X12_init (hd : 6 < d) (hf : Fo M m 14) (hm : 1 < m) (h : ∀ M', MoC M' m [] mach0 1 1 (newP mach0 1 1 0) [] → (∀ p, p < m → mI M' p = mI M p ∧ mJ M' p = mJ M p ∧ mR M' p = mR M p ∧ mK M' p = mK M p ∧ mN M' p = mN M p) → mC M' = mC M + 30 → mS M' = mS M + 68105 → Q none M') : ClD d mdX12_init [.ref m] M Q := by
  obtain ⟨f1, f2, f3⟩ := hf
  have own : ∀ {M : Mem} (p : Nat), p ∈ [m] → p ∈ [m] ∨ mC M + 2 ≤ p := fun p hp => Or.inl hp
  have B0 : MoB M m 0 := ⟨f1, by omega, fun q hq h0 => by
    have hm : ∀ q, q ∈ mTab → 1 ≤ q.2.1 := by decide
    have := hm q hq; omega⟩
  have KT : Kp [m] M M 0 0 := Kp.rf _ _
  refine ⟨6, hd, Cl.of moX12_init (Nat.le_of_ble_eq_true rfl) (gX12_init_0 (by decide) f1 ?_)⟩
  have IM : ∀ j, mI M m j = 0 := f2
  -- cell 1
  rw [B0.2.1]
  have k : mK (nwC M 2 16) m = 14 := kNw B0.1 (by have := B0.2.1; omega)
  obtain ⟨B1, K, V, Z⟩ := mstp (f := 2) (kd := 2) (len := 16) B0 (by decide) (by decide)
  rw [show m + (0 + 1) = m + 1 from rfl] at B1 K V Z ⊢
  refine gX12_init_9 k k ?_
  obtain ⟨M1, hM⟩ : ∃ M1, M1 = sI (sR (nwC M 2 16) m 2 (m + 1)) m 3 (nI 1) := ⟨_, rfl⟩
  have B1 : MoB M1 m 1 := by rw [hM]; exact B1
  have KT : Kp [m] M M1 1 16 := by rw [hM]; exact (KT.tr K own).tr (Kp.i (by simp)) own
  have IM : mI M1 m 3 = nI 1 ∧ ∀ j, j ≠ 3 → mI M1 m j = 0 := by
    rw [hM]; exact ⟨rI_at _ _ _ _, fun j hj => by rw [rI_nk hj, V m (by omega)]; exact IM j⟩
  rw [← hM]
  clear hM K V Z k
  -- cell 2
  rw [B1.2.1]
  have k : mK (nwC M1 1 3) m = 14 := kNw B1.1 (by have := B1.2.1; omega)
  obtain ⟨B2, K, V, Z⟩ := mstp (f := 4) (kd := 1) (len := 3) B1 (by decide) (by decide)
  rw [show m + (1 + 1) = m + 2 from rfl] at B2 K V Z ⊢
  have kA : mK (nwC M1 1 3) (m + 2) = 1 := by have := wK_at M1 1 3; rw [B1.2.1] at this; exact this
  have nA : mN (nwC M1 1 3) (m + 2) = 3 := by have := wN_at M1 1 3; rw [B1.2.1] at this; exact this
  refine gX12_init_21 kA k (by rw [nA]; exact z_in (by decide) (by decide)) (by rw [eNI, nA]; exact z_in (by decide) (by decide)) (by rw [eNI, eNI, nA]; exact z_in (by decide) (by decide)) ?_
  obtain ⟨M2, hM⟩ : ∃ M2, M2 = sR (sI (sI (sI (nwC M1 1 3) (m + 2) (nI 0).toNatClampNeg (nI 1)) (m + 2) (nI 1).toNatClampNeg (nI 0)) (m + 2) (nI 2).toNatClampNeg (nI 0)) m 4 (m + 2) := ⟨_, rfl⟩
  have eX : M2 = sI (sI (sI (sR (nwC M1 1 3) m 4 (m + 2)) (m + 2) (nI 0).toNatClampNeg (nI 1)) (m + 2) (nI 1).toNatClampNeg (nI 0)) (m + 2) (nI 2).toNatClampNeg (nI 0) := hM
  have B2 : MoB M2 m 2 := by rw [eX]; exact B2
  have KT : Kp [m] M M2 2 19 := by
    rw [eX]; exact (((KT.tr K own).tr (Kp.i (S := [m + 2]) (by simp)) (fun p hp => Or.inr (by simp at hp; omega))).tr (Kp.i (S := [m + 2]) (by simp)) (fun p hp => Or.inr (by simp at hp; omega))).tr (Kp.i (S := [m + 2]) (by simp)) (fun p hp => Or.inr (by simp at hp; omega))
  have IM : mI M2 m 3 = nI 1 ∧ ∀ j, j ≠ 3 → mI M2 m j = 0 := by
    have e : mI M2 m = mI M1 m := by rw [eX, rI_np (by omega), rI_np (by omega), rI_np (by omega), V m (by have := B1.2.1; omega)]
    rw [e]; exact IM
  have D2 : mI M2 (m + 2) 0 = nI 1 := by
    rw [eX, rI_nk (by decide), rI_nk (by decide)]; exact rI_at _ _ _ _
  rw [← hM]
  clear hM K V Z k B1
  -- cell 3
  rw [B2.2.1]
  have k : mK (nwC M2 1 24) m = 14 := kNw B2.1 (by have := B2.2.1; omega)
  obtain ⟨B3, K, V, Z⟩ := mstp (f := 5) (kd := 1) (len := 24) B2 (by decide) (by decide)
  rw [show m + (2 + 1) = m + 3 from rfl] at B3 K V Z ⊢
  refine gX12_init_41 k ?_
  obtain ⟨M3, hM⟩ : ∃ M3, M3 = sR (nwC M2 1 24) m 5 (m + 3) := ⟨_, rfl⟩
  rw [← hM] at B3 K V Z
  have KT : Kp [m] M M3 3 43 := KT.tr K own
  have IM : mI M3 m 3 = nI 1 ∧ ∀ j, j ≠ 3 → mI M3 m j = 0 := by rw [V m (by have := B2.2.1; omega)]; exact IM
  have D2 : mI M3 (m + 2) 0 = nI 1 := by rw [V (m + 2) (by have := B2.2.1; omega)]; exact D2
  have D3 := Z
  rw [← hM]
  clear hM K V Z k B2
  -- cell 4
  rw [B3.2.1]
  have k : mK (nwC M3 1 72) m = 14 := kNw B3.1 (by have := B3.2.1; omega)
  obtain ⟨B4, K, V, Z⟩ := mstp (f := 6) (kd := 1) (len := 72) B3 (by decide) (by decide)
  rw [show m + (3 + 1) = m + 4 from rfl] at B4 K V Z ⊢
  refine gX12_init_49 k k ?_
  obtain ⟨M4, hM⟩ : ∃ M4, M4 = sI (sI (sR (nwC M3 1 72) m 6 (m + 4)) m 8 (nI 1)) m 9 (nI 1) := ⟨_, rfl⟩
  have B4 : MoB M4 m 4 := by rw [hM]; exact B4
  have KT : Kp [m] M M4 4 115 := by rw [hM]; exact ((KT.tr K own).tr (Kp.i (by simp)) own).tr (Kp.i (by simp)) own
  have IM : (mI M4 m 3 = nI 1 ∧ mI M4 m 8 = nI 1 ∧ mI M4 m 9 = nI 1) ∧ ∀ j, j ≠ 3 → j ≠ 8 → j ≠ 9 → mI M4 m j = 0 := by
    have e := V m (by have := B3.2.1; omega)
    rw [hM]; exact ⟨⟨by rw [rI_nk (by decide), rI_nk (by decide), e]; exact IM.1, by rw [rI_nk (by decide)]; exact rI_at _ _ _ _, rI_at _ _ _ _⟩, fun j h3 h8 h9 => by rw [rI_nk h9, rI_nk h8, e]; exact IM.2 j h3⟩
  have D2 : mI M4 (m + 2) 0 = nI 1 := by rw [hM, rI_np (by omega), rI_np (by omega), V (m + 2) (by have := B3.2.1; omega)]; exact D2
  have D3 : ∀ j, mI M4 (m + 3) j = 0 := fun j => by rw [hM, rI_np (by omega), rI_np (by omega), V (m + 3) (by have := B3.2.1; omega)]; exact D3 j
  have D4 : ∀ j, mI M4 (m + 4) j = 0 := fun j => by rw [hM, rI_np (by omega), rI_np (by omega)]; exact Z j
  rw [← hM]
  clear hM K V Z k B3
  -- cell 5
  rw [B4.2.1]
  have k : mK (nwC M4 1 2) m = 14 := kNw B4.1 (by have := B4.2.1; omega)
  obtain ⟨B5, K, V, Z⟩ := mstp (f := 10) (kd := 1) (len := 2) B4 (by decide) (by decide)
  rw [show m + (4 + 1) = m + 5 from rfl] at B5 K V Z ⊢
  refine gX12_init_66 k ?_
  obtain ⟨M5, hM⟩ : ∃ M5, M5 = sR (nwC M4 1 2) m 10 (m + 5) := ⟨_, rfl⟩
  rw [← hM] at B5 K V Z
  have KT : Kp [m] M M5 5 117 := KT.tr K own
  have IM : (mI M5 m 3 = nI 1 ∧ mI M5 m 8 = nI 1 ∧ mI M5 m 9 = nI 1) ∧ ∀ j, j ≠ 3 → j ≠ 8 → j ≠ 9 → mI M5 m j = 0 := by rw [V m (by have := B4.2.1; omega)]; exact IM
  have D2 : mI M5 (m + 2) 0 = nI 1 := by rw [V (m + 2) (by have := B4.2.1; omega)]; exact D2
  have D3 : ∀ j, mI M5 (m + 3) j = 0 := by rw [V (m + 3) (by have := B4.2.1; omega)]; exact D3
  have D4 : ∀ j, mI M5 (m + 4) j = 0 := by rw [V (m + 4) (by have := B4.2.1; omega)]; exact D4
  rw [← hM]
  clear hM K V Z k B4
  -- cell 6
  rw [B5.2.1]
  have k : mK (nwC M5 1 2) m = 14 := kNw B5.1 (by have := B5.2.1; omega)
  obtain ⟨B6, K, V, Z⟩ := mstp (f := 11) (kd := 1) (len := 2) B5 (by decide) (by decide)
  rw [show m + (5 + 1) = m + 6 from rfl] at B6 K V Z ⊢
  refine gX12_init_73 k ?_
  obtain ⟨M6, hM⟩ : ∃ M6, M6 = sR (nwC M5 1 2) m 11 (m + 6) := ⟨_, rfl⟩
  rw [← hM] at B6 K V Z
  have KT : Kp [m] M M6 6 119 := KT.tr K own
  have IM : (mI M6 m 3 = nI 1 ∧ mI M6 m 8 = nI 1 ∧ mI M6 m 9 = nI 1) ∧ ∀ j, j ≠ 3 → j ≠ 8 → j ≠ 9 → mI M6 m j = 0 := by rw [V m (by have := B5.2.1; omega)]; exact IM
  have D2 : mI M6 (m + 2) 0 = nI 1 := by rw [V (m + 2) (by have := B5.2.1; omega)]; exact D2
  have D3 : ∀ j, mI M6 (m + 3) j = 0 := by rw [V (m + 3) (by have := B5.2.1; omega)]; exact D3
  have D4 : ∀ j, mI M6 (m + 4) j = 0 := by rw [V (m + 4) (by have := B5.2.1; omega)]; exact D4
  rw [← hM]
  clear hM K V Z k B5
  -- cell 7
  rw [B6.2.1]
  have k : mK (nwC M6 1 2) m = 14 := kNw B6.1 (by have := B6.2.1; omega)
  obtain ⟨B7, K, V, Z⟩ := mstp (f := 12) (kd := 1) (len := 2) B6 (by decide) (by decide)
  rw [show m + (6 + 1) = m + 7 from rfl] at B7 K V Z ⊢
  refine gX12_init_80 k ?_
  obtain ⟨M7, hM⟩ : ∃ M7, M7 = sR (nwC M6 1 2) m 12 (m + 7) := ⟨_, rfl⟩
  rw [← hM] at B7 K V Z
  have KT : Kp [m] M M7 7 121 := KT.tr K own
  have IM : (mI M7 m 3 = nI 1 ∧ mI M7 m 8 = nI 1 ∧ mI M7 m 9 = nI 1) ∧ ∀ j, j ≠ 3 → j ≠ 8 → j ≠ 9 → mI M7 m j = 0 := by rw [V m (by have := B6.2.1; omega)]; exact IM
  have D2 : mI M7 (m + 2) 0 = nI 1 := by rw [V (m + 2) (by have := B6.2.1; omega)]; exact D2
  have D3 : ∀ j, mI M7 (m + 3) j = 0 := by rw [V (m + 3) (by have := B6.2.1; omega)]; exact D3
  have D4 : ∀ j, mI M7 (m + 4) j = 0 := by rw [V (m + 4) (by have := B6.2.1; omega)]; exact D4
  rw [← hM]
  clear hM K V Z k B6
  -- cell 8
  rw [B7.2.1]
  have k : mK (nwC M7 2 320) m = 14 := kNw B7.1 (by have := B7.2.1; omega)
  obtain ⟨B8, K, V, Z⟩ := mstp (f := 13) (kd := 2) (len := 320) B7 (by decide) (by decide)
  rw [show m + (7 + 1) = m + 8 from rfl] at B8 K V Z ⊢
  refine gX12_init_89 k ?_
  obtain ⟨M8, hM⟩ : ∃ M8, M8 = sR (nwC M7 2 320) m 13 (m + 8) := ⟨_, rfl⟩
  rw [← hM] at B8 K V Z
  have KT : Kp [m] M M8 8 441 := KT.tr K own
  have IM : (mI M8 m 3 = nI 1 ∧ mI M8 m 8 = nI 1 ∧ mI M8 m 9 = nI 1) ∧ ∀ j, j ≠ 3 → j ≠ 8 → j ≠ 9 → mI M8 m j = 0 := by rw [V m (by have := B7.2.1; omega)]; exact IM
  have D2 : mI M8 (m + 2) 0 = nI 1 := by rw [V (m + 2) (by have := B7.2.1; omega)]; exact D2
  have D3 : ∀ j, mI M8 (m + 3) j = 0 := by rw [V (m + 3) (by have := B7.2.1; omega)]; exact D3
  have D4 : ∀ j, mI M8 (m + 4) j = 0 := by rw [V (m + 4) (by have := B7.2.1; omega)]; exact D4
  rw [← hM]
  clear hM K V Z k B7
  -- cell 9
  rw [B8.2.1]
  have k : mK (nwC M8 1 320) m = 14 := kNw B8.1 (by have := B8.2.1; omega)
  obtain ⟨B9, K, V, Z⟩ := mstp (f := 14) (kd := 1) (len := 320) B8 (by decide) (by decide)
  rw [show m + (8 + 1) = m + 9 from rfl] at B9 K V Z ⊢
  refine gX12_init_98 k ?_
  obtain ⟨M9, hM⟩ : ∃ M9, M9 = sR (nwC M8 1 320) m 14 (m + 9) := ⟨_, rfl⟩
  rw [← hM] at B9 K V Z
  have KT : Kp [m] M M9 9 761 := KT.tr K own
  have IM : (mI M9 m 3 = nI 1 ∧ mI M9 m 8 = nI 1 ∧ mI M9 m 9 = nI 1) ∧ ∀ j, j ≠ 3 → j ≠ 8 → j ≠ 9 → mI M9 m j = 0 := by rw [V m (by have := B8.2.1; omega)]; exact IM
  have D2 : mI M9 (m + 2) 0 = nI 1 := by rw [V (m + 2) (by have := B8.2.1; omega)]; exact D2
  have D3 : ∀ j, mI M9 (m + 3) j = 0 := by rw [V (m + 3) (by have := B8.2.1; omega)]; exact D3
  have D4 : ∀ j, mI M9 (m + 4) j = 0 := by rw [V (m + 4) (by have := B8.2.1; omega)]; exact D4
  rw [← hM]
  clear hM K V Z k B8
  -- cell 10
  rw [B9.2.1]
  have k : mK (nwC M9 2 256) m = 14 := kNw B9.1 (by have := B9.2.1; omega)
  obtain ⟨B10, K, V, Z⟩ := mstp (f := 15) (kd := 2) (len := 256) B9 (by decide) (by decide)
  rw [show m + (9 + 1) = m + 10 from rfl] at B10 K V Z ⊢
  refine gX12_init_107 k ?_
  obtain ⟨M10, hM⟩ : ∃ M10, M10 = sR (nwC M9 2 256) m 15 (m + 10) := ⟨_, rfl⟩
  rw [← hM] at B10 K V Z
  have KT : Kp [m] M M10 10 1017 := KT.tr K own
  have IM : (mI M10 m 3 = nI 1 ∧ mI M10 m 8 = nI 1 ∧ mI M10 m 9 = nI 1) ∧ ∀ j, j ≠ 3 → j ≠ 8 → j ≠ 9 → mI M10 m j = 0 := by rw [V m (by have := B9.2.1; omega)]; exact IM
  have D2 : mI M10 (m + 2) 0 = nI 1 := by rw [V (m + 2) (by have := B9.2.1; omega)]; exact D2
  have D3 : ∀ j, mI M10 (m + 3) j = 0 := by rw [V (m + 3) (by have := B9.2.1; omega)]; exact D3
  have D4 : ∀ j, mI M10 (m + 4) j = 0 := by rw [V (m + 4) (by have := B9.2.1; omega)]; exact D4
  rw [← hM]
  clear hM K V Z k B9
  -- cell 11
  rw [B10.2.1]
  have k : mK (nwC M10 2 32768) m = 14 := kNw B10.1 (by have := B10.2.1; omega)
  obtain ⟨B11, K, V, Z⟩ := mstp (f := 16) (kd := 2) (len := 32768) B10 (by decide) (by decide)
  rw [show m + (10 + 1) = m + 11 from rfl] at B11 K V Z ⊢
  refine gX12_init_115 k ?_
  obtain ⟨M11, hM⟩ : ∃ M11, M11 = sR (nwC M10 2 32768) m 16 (m + 11) := ⟨_, rfl⟩
  rw [← hM] at B11 K V Z
  have KT : Kp [m] M M11 11 33785 := KT.tr K own
  have IM : (mI M11 m 3 = nI 1 ∧ mI M11 m 8 = nI 1 ∧ mI M11 m 9 = nI 1) ∧ ∀ j, j ≠ 3 → j ≠ 8 → j ≠ 9 → mI M11 m j = 0 := by rw [V m (by have := B10.2.1; omega)]; exact IM
  have D2 : mI M11 (m + 2) 0 = nI 1 := by rw [V (m + 2) (by have := B10.2.1; omega)]; exact D2
  have D3 : ∀ j, mI M11 (m + 3) j = 0 := by rw [V (m + 3) (by have := B10.2.1; omega)]; exact D3
  have D4 : ∀ j, mI M11 (m + 4) j = 0 := by rw [V (m + 4) (by have := B10.2.1; omega)]; exact D4
  rw [← hM]
  clear hM K V Z k B10
  -- cell 12
  rw [B11.2.1]
  have k : mK (nwC M11 1 2) m = 14 := kNw B11.1 (by have := B11.2.1; omega)
  obtain ⟨B12, K, V, Z⟩ := mstp (f := 17) (kd := 1) (len := 2) B11 (by decide) (by decide)
  rw [show m + (11 + 1) = m + 12 from rfl] at B12 K V Z ⊢
  refine gX12_init_122 k ?_
  obtain ⟨M12, hM⟩ : ∃ M12, M12 = sR (nwC M11 1 2) m 17 (m + 12) := ⟨_, rfl⟩
  rw [← hM] at B12 K V Z
  have KT : Kp [m] M M12 12 33787 := KT.tr K own
  have IM : (mI M12 m 3 = nI 1 ∧ mI M12 m 8 = nI 1 ∧ mI M12 m 9 = nI 1) ∧ ∀ j, j ≠ 3 → j ≠ 8 → j ≠ 9 → mI M12 m j = 0 := by rw [V m (by have := B11.2.1; omega)]; exact IM
  have D2 : mI M12 (m + 2) 0 = nI 1 := by rw [V (m + 2) (by have := B11.2.1; omega)]; exact D2
  have D3 : ∀ j, mI M12 (m + 3) j = 0 := by rw [V (m + 3) (by have := B11.2.1; omega)]; exact D3
  have D4 : ∀ j, mI M12 (m + 4) j = 0 := by rw [V (m + 4) (by have := B11.2.1; omega)]; exact D4
  rw [← hM]
  clear hM K V Z k B11
  -- cell 13
  rw [B12.2.1]
  have k : mK (nwC M12 1 2) m = 14 := kNw B12.1 (by have := B12.2.1; omega)
  obtain ⟨B13, K, V, Z⟩ := mstp (f := 18) (kd := 1) (len := 2) B12 (by decide) (by decide)
  rw [show m + (12 + 1) = m + 13 from rfl] at B13 K V Z ⊢
  refine gX12_init_129 k ?_
  obtain ⟨M13, hM⟩ : ∃ M13, M13 = sR (nwC M12 1 2) m 18 (m + 13) := ⟨_, rfl⟩
  rw [← hM] at B13 K V Z
  have KT : Kp [m] M M13 13 33789 := KT.tr K own
  have IM : (mI M13 m 3 = nI 1 ∧ mI M13 m 8 = nI 1 ∧ mI M13 m 9 = nI 1) ∧ ∀ j, j ≠ 3 → j ≠ 8 → j ≠ 9 → mI M13 m j = 0 := by rw [V m (by have := B12.2.1; omega)]; exact IM
  have D2 : mI M13 (m + 2) 0 = nI 1 := by rw [V (m + 2) (by have := B12.2.1; omega)]; exact D2
  have D3 : ∀ j, mI M13 (m + 3) j = 0 := by rw [V (m + 3) (by have := B12.2.1; omega)]; exact D3
  have D4 : ∀ j, mI M13 (m + 4) j = 0 := by rw [V (m + 4) (by have := B12.2.1; omega)]; exact D4
  rw [← hM]
  clear hM K V Z k B12
  -- cell 14
  rw [B13.2.1]
  have k : mK (nwC M13 1 2) m = 14 := kNw B13.1 (by have := B13.2.1; omega)
  obtain ⟨B14, K, V, Z⟩ := mstp (f := 19) (kd := 1) (len := 2) B13 (by decide) (by decide)
  rw [show m + (13 + 1) = m + 14 from rfl] at B14 K V Z ⊢
  refine gX12_init_136 k ?_
  obtain ⟨M14, hM⟩ : ∃ M14, M14 = sR (nwC M13 1 2) m 19 (m + 14) := ⟨_, rfl⟩
  rw [← hM] at B14 K V Z
  have KT : Kp [m] M M14 14 33791 := KT.tr K own
  have IM : (mI M14 m 3 = nI 1 ∧ mI M14 m 8 = nI 1 ∧ mI M14 m 9 = nI 1) ∧ ∀ j, j ≠ 3 → j ≠ 8 → j ≠ 9 → mI M14 m j = 0 := by rw [V m (by have := B13.2.1; omega)]; exact IM
  have D2 : mI M14 (m + 2) 0 = nI 1 := by rw [V (m + 2) (by have := B13.2.1; omega)]; exact D2
  have D3 : ∀ j, mI M14 (m + 3) j = 0 := by rw [V (m + 3) (by have := B13.2.1; omega)]; exact D3
  have D4 : ∀ j, mI M14 (m + 4) j = 0 := by rw [V (m + 4) (by have := B13.2.1; omega)]; exact D4
  rw [← hM]
  clear hM K V Z k B13
  -- cell 15
  rw [B14.2.1]
  have k : mK (nwC M14 3 2) m = 14 := kNw B14.1 (by have := B14.2.1; omega)
  obtain ⟨B15, K, V, Z⟩ := mstp (f := 20) (kd := 3) (len := 2) B14 (by decide) (by decide)
  rw [show m + (14 + 1) = m + 15 from rfl] at B15 K V Z ⊢
  refine gX12_init_143 k ?_
  obtain ⟨M15, hM⟩ : ∃ M15, M15 = sR (nwC M14 3 2) m 20 (m + 15) := ⟨_, rfl⟩
  rw [← hM] at B15 K V Z
  have KT : Kp [m] M M15 15 33793 := KT.tr K own
  have IM : (mI M15 m 3 = nI 1 ∧ mI M15 m 8 = nI 1 ∧ mI M15 m 9 = nI 1) ∧ ∀ j, j ≠ 3 → j ≠ 8 → j ≠ 9 → mI M15 m j = 0 := by rw [V m (by have := B14.2.1; omega)]; exact IM
  have D2 : mI M15 (m + 2) 0 = nI 1 := by rw [V (m + 2) (by have := B14.2.1; omega)]; exact D2
  have D3 : ∀ j, mI M15 (m + 3) j = 0 := by rw [V (m + 3) (by have := B14.2.1; omega)]; exact D3
  have D4 : ∀ j, mI M15 (m + 4) j = 0 := by rw [V (m + 4) (by have := B14.2.1; omega)]; exact D4
  rw [← hM]
  clear hM K V Z k B14
  -- cell 16
  rw [B15.2.1]
  have k : mK (nwC M15 2 16) m = 14 := kNw B15.1 (by have := B15.2.1; omega)
  obtain ⟨B16, K, V, Z⟩ := mstp (f := 21) (kd := 2) (len := 16) B15 (by decide) (by decide)
  rw [show m + (15 + 1) = m + 16 from rfl] at B16 K V Z ⊢
  refine gX12_init_151 k ?_
  obtain ⟨M16, hM⟩ : ∃ M16, M16 = sR (nwC M15 2 16) m 21 (m + 16) := ⟨_, rfl⟩
  rw [← hM] at B16 K V Z
  have KT : Kp [m] M M16 16 33809 := KT.tr K own
  have IM : (mI M16 m 3 = nI 1 ∧ mI M16 m 8 = nI 1 ∧ mI M16 m 9 = nI 1) ∧ ∀ j, j ≠ 3 → j ≠ 8 → j ≠ 9 → mI M16 m j = 0 := by rw [V m (by have := B15.2.1; omega)]; exact IM
  have D2 : mI M16 (m + 2) 0 = nI 1 := by rw [V (m + 2) (by have := B15.2.1; omega)]; exact D2
  have D3 : ∀ j, mI M16 (m + 3) j = 0 := by rw [V (m + 3) (by have := B15.2.1; omega)]; exact D3
  have D4 : ∀ j, mI M16 (m + 4) j = 0 := by rw [V (m + 4) (by have := B15.2.1; omega)]; exact D4
  rw [← hM]
  clear hM K V Z k B15
  -- cell 17
  rw [B16.2.1]
  have k : mK (nwC M16 1 1024) m = 14 := kNw B16.1 (by have := B16.2.1; omega)
  obtain ⟨B17, K, V, Z⟩ := mstp (f := 22) (kd := 1) (len := 1024) B16 (by decide) (by decide)
  rw [show m + (16 + 1) = m + 17 from rfl] at B17 K V Z ⊢
  refine gX12_init_160 k ?_
  obtain ⟨M17, hM⟩ : ∃ M17, M17 = sR (nwC M16 1 1024) m 22 (m + 17) := ⟨_, rfl⟩
  rw [← hM] at B17 K V Z
  have KT : Kp [m] M M17 17 34833 := KT.tr K own
  have IM : (mI M17 m 3 = nI 1 ∧ mI M17 m 8 = nI 1 ∧ mI M17 m 9 = nI 1) ∧ ∀ j, j ≠ 3 → j ≠ 8 → j ≠ 9 → mI M17 m j = 0 := by rw [V m (by have := B16.2.1; omega)]; exact IM
  have D2 : mI M17 (m + 2) 0 = nI 1 := by rw [V (m + 2) (by have := B16.2.1; omega)]; exact D2
  have D3 : ∀ j, mI M17 (m + 3) j = 0 := by rw [V (m + 3) (by have := B16.2.1; omega)]; exact D3
  have D4 : ∀ j, mI M17 (m + 4) j = 0 := by rw [V (m + 4) (by have := B16.2.1; omega)]; exact D4
  rw [← hM]
  clear hM K V Z k B16
  -- cell 18
  rw [B17.2.1]
  have k : mK (nwC M17 3 64) m = 14 := kNw B17.1 (by have := B17.2.1; omega)
  obtain ⟨B18, K, V, Z⟩ := mstp (f := 26) (kd := 3) (len := 64) B17 (by decide) (by decide)
  rw [show m + (17 + 1) = m + 18 from rfl] at B18 K V Z ⊢
  refine gX12_init_168 k ?_
  obtain ⟨M18, hM⟩ : ∃ M18, M18 = sR (nwC M17 3 64) m 26 (m + 18) := ⟨_, rfl⟩
  rw [← hM] at B18 K V Z
  have KT : Kp [m] M M18 18 34897 := KT.tr K own
  have IM : (mI M18 m 3 = nI 1 ∧ mI M18 m 8 = nI 1 ∧ mI M18 m 9 = nI 1) ∧ ∀ j, j ≠ 3 → j ≠ 8 → j ≠ 9 → mI M18 m j = 0 := by rw [V m (by have := B17.2.1; omega)]; exact IM
  have D2 : mI M18 (m + 2) 0 = nI 1 := by rw [V (m + 2) (by have := B17.2.1; omega)]; exact D2
  have D3 : ∀ j, mI M18 (m + 3) j = 0 := by rw [V (m + 3) (by have := B17.2.1; omega)]; exact D3
  have D4 : ∀ j, mI M18 (m + 4) j = 0 := by rw [V (m + 4) (by have := B17.2.1; omega)]; exact D4
  rw [← hM]
  clear hM K V Z k B17
  -- cell 19
  rw [B18.2.1]
  have k : mK (nwC M18 1 64) m = 14 := kNw B18.1 (by have := B18.2.1; omega)
  obtain ⟨B19, K, V, Z⟩ := mstp (f := 27) (kd := 1) (len := 64) B18 (by decide) (by decide)
  rw [show m + (18 + 1) = m + 19 from rfl] at B19 K V Z ⊢
  refine gX12_init_176 k ?_
  obtain ⟨M19, hM⟩ : ∃ M19, M19 = sR (nwC M18 1 64) m 27 (m + 19) := ⟨_, rfl⟩
  rw [← hM] at B19 K V Z
  have KT : Kp [m] M M19 19 34961 := KT.tr K own
  have IM : (mI M19 m 3 = nI 1 ∧ mI M19 m 8 = nI 1 ∧ mI M19 m 9 = nI 1) ∧ ∀ j, j ≠ 3 → j ≠ 8 → j ≠ 9 → mI M19 m j = 0 := by rw [V m (by have := B18.2.1; omega)]; exact IM
  have D2 : mI M19 (m + 2) 0 = nI 1 := by rw [V (m + 2) (by have := B18.2.1; omega)]; exact D2
  have D3 : ∀ j, mI M19 (m + 3) j = 0 := by rw [V (m + 3) (by have := B18.2.1; omega)]; exact D3
  have D4 : ∀ j, mI M19 (m + 4) j = 0 := by rw [V (m + 4) (by have := B18.2.1; omega)]; exact D4
  rw [← hM]
  clear hM K V Z k B18
  -- cell 20
  rw [B19.2.1]
  have k : mK (nwC M19 2 64) m = 14 := kNw B19.1 (by have := B19.2.1; omega)
  obtain ⟨B20, K, V, Z⟩ := mstp (f := 28) (kd := 2) (len := 64) B19 (by decide) (by decide)
  rw [show m + (19 + 1) = m + 20 from rfl] at B20 K V Z ⊢
  refine gX12_init_184 k ?_
  obtain ⟨M20, hM⟩ : ∃ M20, M20 = sR (nwC M19 2 64) m 28 (m + 20) := ⟨_, rfl⟩
  rw [← hM] at B20 K V Z
  have KT : Kp [m] M M20 20 35025 := KT.tr K own
  have IM : (mI M20 m 3 = nI 1 ∧ mI M20 m 8 = nI 1 ∧ mI M20 m 9 = nI 1) ∧ ∀ j, j ≠ 3 → j ≠ 8 → j ≠ 9 → mI M20 m j = 0 := by rw [V m (by have := B19.2.1; omega)]; exact IM
  have D2 : mI M20 (m + 2) 0 = nI 1 := by rw [V (m + 2) (by have := B19.2.1; omega)]; exact D2
  have D3 : ∀ j, mI M20 (m + 3) j = 0 := by rw [V (m + 3) (by have := B19.2.1; omega)]; exact D3
  have D4 : ∀ j, mI M20 (m + 4) j = 0 := by rw [V (m + 4) (by have := B19.2.1; omega)]; exact D4
  rw [← hM]
  clear hM K V Z k B19
  -- cell 21
  rw [B20.2.1]
  have k : mK (nwC M20 1 64) m = 14 := kNw B20.1 (by have := B20.2.1; omega)
  obtain ⟨B21, K, V, Z⟩ := mstp (f := 29) (kd := 1) (len := 64) B20 (by decide) (by decide)
  rw [show m + (20 + 1) = m + 21 from rfl] at B21 K V Z ⊢
  refine gX12_init_192 k ?_
  obtain ⟨M21, hM⟩ : ∃ M21, M21 = sR (nwC M20 1 64) m 29 (m + 21) := ⟨_, rfl⟩
  rw [← hM] at B21 K V Z
  have KT : Kp [m] M M21 21 35089 := KT.tr K own
  have IM : (mI M21 m 3 = nI 1 ∧ mI M21 m 8 = nI 1 ∧ mI M21 m 9 = nI 1) ∧ ∀ j, j ≠ 3 → j ≠ 8 → j ≠ 9 → mI M21 m j = 0 := by rw [V m (by have := B20.2.1; omega)]; exact IM
  have D2 : mI M21 (m + 2) 0 = nI 1 := by rw [V (m + 2) (by have := B20.2.1; omega)]; exact D2
  have D3 : ∀ j, mI M21 (m + 3) j = 0 := by rw [V (m + 3) (by have := B20.2.1; omega)]; exact D3
  have D4 : ∀ j, mI M21 (m + 4) j = 0 := by rw [V (m + 4) (by have := B20.2.1; omega)]; exact D4
  rw [← hM]
  clear hM K V Z k B20
  -- cell 22
  rw [B21.2.1]
  have k : mK (nwC M21 1 8) m = 14 := kNw B21.1 (by have := B21.2.1; omega)
  obtain ⟨B22, K, V, Z⟩ := mstp (f := 34) (kd := 1) (len := 8) B21 (by decide) (by decide)
  rw [show m + (21 + 1) = m + 22 from rfl] at B22 K V Z ⊢
  refine gX12_init_200 k ?_
  obtain ⟨M22, hM⟩ : ∃ M22, M22 = sR (nwC M21 1 8) m 34 (m + 22) := ⟨_, rfl⟩
  rw [← hM] at B22 K V Z
  have KT : Kp [m] M M22 22 35097 := KT.tr K own
  have IM : (mI M22 m 3 = nI 1 ∧ mI M22 m 8 = nI 1 ∧ mI M22 m 9 = nI 1) ∧ ∀ j, j ≠ 3 → j ≠ 8 → j ≠ 9 → mI M22 m j = 0 := by rw [V m (by have := B21.2.1; omega)]; exact IM
  have D2 : mI M22 (m + 2) 0 = nI 1 := by rw [V (m + 2) (by have := B21.2.1; omega)]; exact D2
  have D3 : ∀ j, mI M22 (m + 3) j = 0 := by rw [V (m + 3) (by have := B21.2.1; omega)]; exact D3
  have D4 : ∀ j, mI M22 (m + 4) j = 0 := by rw [V (m + 4) (by have := B21.2.1; omega)]; exact D4
  rw [← hM]
  clear hM K V Z k B21
  -- cell 23
  rw [B22.2.1]
  have k : mK (nwC M22 1 24) m = 14 := kNw B22.1 (by have := B22.2.1; omega)
  obtain ⟨B23, K, V, Z⟩ := mstp (f := 35) (kd := 1) (len := 24) B22 (by decide) (by decide)
  rw [show m + (22 + 1) = m + 23 from rfl] at B23 K V Z ⊢
  refine gX12_init_208 k ?_
  obtain ⟨M23, hM⟩ : ∃ M23, M23 = sR (nwC M22 1 24) m 35 (m + 23) := ⟨_, rfl⟩
  rw [← hM] at B23 K V Z
  have KT : Kp [m] M M23 23 35121 := KT.tr K own
  have IM : (mI M23 m 3 = nI 1 ∧ mI M23 m 8 = nI 1 ∧ mI M23 m 9 = nI 1) ∧ ∀ j, j ≠ 3 → j ≠ 8 → j ≠ 9 → mI M23 m j = 0 := by rw [V m (by have := B22.2.1; omega)]; exact IM
  have D2 : mI M23 (m + 2) 0 = nI 1 := by rw [V (m + 2) (by have := B22.2.1; omega)]; exact D2
  have D3 : ∀ j, mI M23 (m + 3) j = 0 := by rw [V (m + 3) (by have := B22.2.1; omega)]; exact D3
  have D4 : ∀ j, mI M23 (m + 4) j = 0 := by rw [V (m + 4) (by have := B22.2.1; omega)]; exact D4
  rw [← hM]
  clear hM K V Z k B22
  -- cell 24
  rw [B23.2.1]
  have k : mK (nwC M23 1 64) m = 14 := kNw B23.1 (by have := B23.2.1; omega)
  obtain ⟨B24, K, V, Z⟩ := mstp (f := 38) (kd := 1) (len := 64) B23 (by decide) (by decide)
  rw [show m + (23 + 1) = m + 24 from rfl] at B24 K V Z ⊢
  refine gX12_init_216 k ?_
  obtain ⟨M24, hM⟩ : ∃ M24, M24 = sR (nwC M23 1 64) m 38 (m + 24) := ⟨_, rfl⟩
  rw [← hM] at B24 K V Z
  have KT : Kp [m] M M24 24 35185 := KT.tr K own
  have IM : (mI M24 m 3 = nI 1 ∧ mI M24 m 8 = nI 1 ∧ mI M24 m 9 = nI 1) ∧ ∀ j, j ≠ 3 → j ≠ 8 → j ≠ 9 → mI M24 m j = 0 := by rw [V m (by have := B23.2.1; omega)]; exact IM
  have D2 : mI M24 (m + 2) 0 = nI 1 := by rw [V (m + 2) (by have := B23.2.1; omega)]; exact D2
  have D3 : ∀ j, mI M24 (m + 3) j = 0 := by rw [V (m + 3) (by have := B23.2.1; omega)]; exact D3
  have D4 : ∀ j, mI M24 (m + 4) j = 0 := by rw [V (m + 4) (by have := B23.2.1; omega)]; exact D4
  rw [← hM]
  clear hM K V Z k B23
  -- cell 25
  rw [B24.2.1]
  have k : mK (nwC M24 1 64) m = 14 := kNw B24.1 (by have := B24.2.1; omega)
  obtain ⟨B25, K, V, Z⟩ := mstp (f := 39) (kd := 1) (len := 64) B24 (by decide) (by decide)
  rw [show m + (24 + 1) = m + 25 from rfl] at B25 K V Z ⊢
  refine gX12_init_224 k ?_
  obtain ⟨M25, hM⟩ : ∃ M25, M25 = sR (nwC M24 1 64) m 39 (m + 25) := ⟨_, rfl⟩
  rw [← hM] at B25 K V Z
  have KT : Kp [m] M M25 25 35249 := KT.tr K own
  have IM : (mI M25 m 3 = nI 1 ∧ mI M25 m 8 = nI 1 ∧ mI M25 m 9 = nI 1) ∧ ∀ j, j ≠ 3 → j ≠ 8 → j ≠ 9 → mI M25 m j = 0 := by rw [V m (by have := B24.2.1; omega)]; exact IM
  have D2 : mI M25 (m + 2) 0 = nI 1 := by rw [V (m + 2) (by have := B24.2.1; omega)]; exact D2
  have D3 : ∀ j, mI M25 (m + 3) j = 0 := by rw [V (m + 3) (by have := B24.2.1; omega)]; exact D3
  have D4 : ∀ j, mI M25 (m + 4) j = 0 := by rw [V (m + 4) (by have := B24.2.1; omega)]; exact D4
  rw [← hM]
  clear hM K V Z k B24
  -- cell 26
  rw [B25.2.1]
  have k : mK (nwC M25 2 8) m = 14 := kNw B25.1 (by have := B25.2.1; omega)
  obtain ⟨B26, K, V, Z⟩ := mstp (f := 40) (kd := 2) (len := 8) B25 (by decide) (by decide)
  rw [show m + (25 + 1) = m + 26 from rfl] at B26 K V Z ⊢
  refine gX12_init_232 k ?_
  obtain ⟨M26, hM⟩ : ∃ M26, M26 = sR (nwC M25 2 8) m 40 (m + 26) := ⟨_, rfl⟩
  rw [← hM] at B26 K V Z
  have KT : Kp [m] M M26 26 35257 := KT.tr K own
  have IM : (mI M26 m 3 = nI 1 ∧ mI M26 m 8 = nI 1 ∧ mI M26 m 9 = nI 1) ∧ ∀ j, j ≠ 3 → j ≠ 8 → j ≠ 9 → mI M26 m j = 0 := by rw [V m (by have := B25.2.1; omega)]; exact IM
  have D2 : mI M26 (m + 2) 0 = nI 1 := by rw [V (m + 2) (by have := B25.2.1; omega)]; exact D2
  have D3 : ∀ j, mI M26 (m + 3) j = 0 := by rw [V (m + 3) (by have := B25.2.1; omega)]; exact D3
  have D4 : ∀ j, mI M26 (m + 4) j = 0 := by rw [V (m + 4) (by have := B25.2.1; omega)]; exact D4
  rw [← hM]
  clear hM K V Z k B25
  -- cell 27
  rw [B26.2.1]
  have k : mK (nwC M26 2 32768) m = 14 := kNw B26.1 (by have := B26.2.1; omega)
  obtain ⟨B27, K, V, Z⟩ := mstp (f := 41) (kd := 2) (len := 32768) B26 (by decide) (by decide)
  rw [show m + (26 + 1) = m + 27 from rfl] at B27 K V Z ⊢
  refine gX12_init_240 k ?_
  obtain ⟨M27, hM⟩ : ∃ M27, M27 = sR (nwC M26 2 32768) m 41 (m + 27) := ⟨_, rfl⟩
  rw [← hM] at B27 K V Z
  have KT : Kp [m] M M27 27 68025 := KT.tr K own
  have IM : (mI M27 m 3 = nI 1 ∧ mI M27 m 8 = nI 1 ∧ mI M27 m 9 = nI 1) ∧ ∀ j, j ≠ 3 → j ≠ 8 → j ≠ 9 → mI M27 m j = 0 := by rw [V m (by have := B26.2.1; omega)]; exact IM
  have D2 : mI M27 (m + 2) 0 = nI 1 := by rw [V (m + 2) (by have := B26.2.1; omega)]; exact D2
  have D3 : ∀ j, mI M27 (m + 3) j = 0 := by rw [V (m + 3) (by have := B26.2.1; omega)]; exact D3
  have D4 : ∀ j, mI M27 (m + 4) j = 0 := by rw [V (m + 4) (by have := B26.2.1; omega)]; exact D4
  rw [← hM]
  clear hM K V Z k B26
  -- cell 28
  rw [B27.2.1]
  have k : mK (nwC M27 2 64) m = 14 := kNw B27.1 (by have := B27.2.1; omega)
  obtain ⟨B28, K, V, Z⟩ := mstp (f := 47) (kd := 2) (len := 64) B27 (by decide) (by decide)
  rw [show m + (27 + 1) = m + 28 from rfl] at B28 K V Z ⊢
  refine gX12_init_248 k ?_
  obtain ⟨M28, hM⟩ : ∃ M28, M28 = sR (nwC M27 2 64) m 47 (m + 28) := ⟨_, rfl⟩
  rw [← hM] at B28 K V Z
  have KT : Kp [m] M M28 28 68089 := KT.tr K own
  have IM : (mI M28 m 3 = nI 1 ∧ mI M28 m 8 = nI 1 ∧ mI M28 m 9 = nI 1) ∧ ∀ j, j ≠ 3 → j ≠ 8 → j ≠ 9 → mI M28 m j = 0 := by rw [V m (by have := B27.2.1; omega)]; exact IM
  have D2 : mI M28 (m + 2) 0 = nI 1 := by rw [V (m + 2) (by have := B27.2.1; omega)]; exact D2
  have D3 : ∀ j, mI M28 (m + 3) j = 0 := by rw [V (m + 3) (by have := B27.2.1; omega)]; exact D3
  have D4 : ∀ j, mI M28 (m + 4) j = 0 := by rw [V (m + 4) (by have := B27.2.1; omega)]; exact D4
  rw [← hM]
  clear hM K V Z k B27
  -- cell 29
  rw [B28.2.1]
  have k : mK (nwC M28 1 8) m = 14 := kNw B28.1 (by have := B28.2.1; omega)
  obtain ⟨B29, K, V, Z⟩ := mstp (f := 49) (kd := 1) (len := 8) B28 (by decide) (by decide)
  rw [show m + (28 + 1) = m + 29 from rfl] at B29 K V Z ⊢
  refine gX12_init_256 k ?_
  obtain ⟨M29, hM⟩ : ∃ M29, M29 = sR (nwC M28 1 8) m 49 (m + 29) := ⟨_, rfl⟩
  rw [← hM] at B29 K V Z
  have KT : Kp [m] M M29 29 68097 := KT.tr K own
  have IM : (mI M29 m 3 = nI 1 ∧ mI M29 m 8 = nI 1 ∧ mI M29 m 9 = nI 1) ∧ ∀ j, j ≠ 3 → j ≠ 8 → j ≠ 9 → mI M29 m j = 0 := by rw [V m (by have := B28.2.1; omega)]; exact IM
  have D2 : mI M29 (m + 2) 0 = nI 1 := by rw [V (m + 2) (by have := B28.2.1; omega)]; exact D2
  have D3 : ∀ j, mI M29 (m + 3) j = 0 := by rw [V (m + 3) (by have := B28.2.1; omega)]; exact D3
  have D4 : ∀ j, mI M29 (m + 4) j = 0 := by rw [V (m + 4) (by have := B28.2.1; omega)]; exact D4
  rw [← hM]
  clear hM K V Z k B28
  -- cell 30
  rw [B29.2.1]
  have k : mK (nwC M29 1 8) m = 14 := kNw B29.1 (by have := B29.2.1; omega)
  obtain ⟨B30, K, V, Z⟩ := mstp (f := 50) (kd := 1) (len := 8) B29 (by decide) (by decide)
  rw [show m + (29 + 1) = m + 30 from rfl] at B30 K V Z ⊢
  refine gX12_init_264 k k ?_
  obtain ⟨M30, hM⟩ : ∃ M30, M30 = sR (nwC M29 1 8) m 50 (m + 30) := ⟨_, rfl⟩
  rw [← hM] at B30 K V Z
  have KT : Kp [m] M M30 30 68105 := KT.tr K own
  have IM : (mI M30 m 3 = nI 1 ∧ mI M30 m 8 = nI 1 ∧ mI M30 m 9 = nI 1) ∧ ∀ j, j ≠ 3 → j ≠ 8 → j ≠ 9 → mI M30 m j = 0 := by rw [V m (by have := B29.2.1; omega)]; exact IM
  have D2 : mI M30 (m + 2) 0 = nI 1 := by rw [V (m + 2) (by have := B29.2.1; omega)]; exact D2
  have D3 : ∀ j, mI M30 (m + 3) j = 0 := by rw [V (m + 3) (by have := B29.2.1; omega)]; exact D3
  have D4 : ∀ j, mI M30 (m + 4) j = 0 := by rw [V (m + 4) (by have := B29.2.1; omega)]; exact D4
  rw [← hM]
  clear hM K V Z k B29
  have sh : MoSh M30 m := ⟨B30.1, fun q hq => by
    have hm : ∀ q, q ∈ mTab → q.2.1 ≤ 30 := by decide
    exact B30.2.2 q hq (hm q hq)⟩
  have hA : okM mach0 := ⟨⟨by decide, by decide⟩, ⟨by decide, by decide⟩, fun _ _ => by show 0 < 4; decide, fun _ _ _ _ => by show 0 < 1; decide⟩
  refine w_X12_fresh (u := 0) (mm := 0) (A := mach0) (st := 1) (sp := 1) (by decide) sh (by decide) (by decide) IM.1 ⟨D2, fun s _ => D3 _, fun s _ x _ => D4 _⟩ hA (fun M' F hP => gX12_init_273 ⟨rfl, ?_⟩)
  have c3 := KT.2.2.1
  have s3 := KT.2.2.2
  refine h M' ⟨⟨⟨by decide, fun j hj => by simp at hj, fun j => by simp⟩, ?_⟩, hP, ?_, ?_, by decide, fun j hj => by simp at hj⟩ (fun p hp => ?_) (by rw [F.1.2.2.2.2.1]; exact c3) (by rw [F.1.2.2.2.2.2]; exact s3)
  · rw [F.2.1 30 (by decide) (by decide)]; exact IM.2 30 (by decide) (by decide) (by decide)
  · rw [F.2.1 7 (by decide) (by decide)]; exact IM.2 7 (by decide) (by decide) (by decide)
  · rw [F.2.1 1 (by decide) (by decide)]; exact IM.2 1 (by decide) (by decide) (by decide)
  · have nm : p ∉ moL m := fun z => by have := moL_in z; omega
    have a1 := KT.1 p (by omega) (by simp; omega)
    have a2 := KT.2.1 p (by omega)
    exact ⟨by rw [F.1.I nm]; exact a1.1, by rw [F.1.J nm]; exact a1.2.1, by rw [F.1.2.1]; exact a1.2.2, by rw [F.1.2.2.1]; exact a2.1, by rw [F.1.2.2.2.1]; exact a2.2⟩
end Imi
