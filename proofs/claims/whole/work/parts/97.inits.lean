/-! the constructors of the class's parts -/
theorem wK_at (M : Mem) (kd n : Nat) : mK (nwC M kd n) (mC M + 2) = kd := if_pos rfl
theorem wK_ne {M : Mem} {kd n q : Nat} (h : q ≠ mC M + 2) : mK (nwC M kd n) q = mK M q := if_neg h
theorem wN_at (M : Mem) (kd n : Nat) : mN (nwC M kd n) (mC M + 2) = n := if_pos rfl
theorem wN_ne {M : Mem} {kd n q : Nat} (h : q ≠ mC M + 2) : mN (nwC M kd n) q = mN M q := if_neg h
theorem wI_at (M : Mem) (kd n j : Nat) : mI (nwC M kd n) (mC M + 2) j = 0 := if_pos rfl
theorem wJ_at (M : Mem) (kd n j : Nat) : mJ (nwC M kd n) (mC M + 2) j = 0 := if_pos rfl
theorem wI_ne {M : Mem} {kd n q : Nat} (h : q ≠ mC M + 2) : mI (nwC M kd n) q = mI M q := funext fun _ => if_neg h
theorem wJ_ne {M : Mem} {kd n q : Nat} (h : q ≠ mC M + 2) : mJ (nwC M kd n) q = mJ M q := funext fun _ => if_neg h
theorem wR_ne {M : Mem} {kd n q : Nat} (h : q ≠ mC M + 2) : mR (nwC M kd n) q = mR M q := funext fun _ => if_neg h
theorem rR_at (M : Mem) (p k v : Nat) : mR (sR M p k v) p k = v := up2_at _ _ _ _
theorem rR_np {M : Mem} {p k q v : Nat} (h : q ≠ p) : mR (sR M p k v) q = mR M q := up2_ne h
theorem rR_nk {M : Mem} {p k q j v : Nat} (h : j ≠ k) : mR (sR M p k v) q j = mR M q j := up2_nk h
/-- a building: of the old labels only S is written to; so many cells and slots more -/
def Kp (S : List Nat) (M M' : Mem) (c s : Nat) : Prop := (∀ p, p < mC M + 2 → p ∉ S → mI M' p = mI M p ∧ mJ M' p = mJ M p ∧ mR M' p = mR M p) ∧ (∀ p, p < mC M + 2 → mK M' p = mK M p ∧ mN M' p = mN M p) ∧ mC M' = mC M + c ∧ mS M' = mS M + s
theorem Kp.rf (S : List Nat) (M : Mem) : Kp S M M 0 0 := ⟨fun _ _ _ => ⟨rfl, rfl, rfl⟩, fun _ _ => ⟨rfl, rfl⟩, rfl, rfl⟩
theorem Kp.tr {S T : List Nat} {M M1 M2 : Mem} {c s c' s' : Nat} (h : Kp S M M1 c s) (k : Kp T M1 M2 c' s') (hs : ∀ p, p ∈ T → p ∈ S ∨ mC M + 2 ≤ p) : Kp S M M2 (c + c') (s + s') := by
  obtain ⟨a1, a2, a3, a4⟩ := h
  obtain ⟨b1, b2, b3, b4⟩ := k
  refine ⟨fun p hp hn => ?_, fun p hp => ?_, by omega, by omega⟩
  · have e1 := a1 p hp hn
    have e2 := b1 p (by omega) (fun q => by
      rcases hs p q with c | c
      · exact hn c
      · omega)
    exact ⟨e2.1.trans e1.1, e2.2.1.trans e1.2.1, e2.2.2.trans e1.2.2⟩
  · exact ⟨(b2 p (by omega)).1.trans (a2 p hp).1, (b2 p (by omega)).2.trans (a2 p hp).2⟩
theorem Kp.nw {S : List Nat} (M : Mem) (kd n : Nat) : Kp S M (nwC M kd n) 1 n :=
  ⟨fun _ hp _ => ⟨wI_ne (by omega), wJ_ne (by omega), wR_ne (by omega)⟩, fun _ hp => ⟨wK_ne (by omega), wN_ne (by omega)⟩, rfl, rfl⟩
theorem Kp.r {S : List Nat} {M : Mem} {p k v : Nat} (hp : p ∈ S) : Kp S M (sR M p k v) 0 0 :=
  ⟨fun q _ hn => ⟨rfl, rfl, rR_np (fun e => hn (by rw [e]; exact hp))⟩, fun _ _ => ⟨rfl, rfl⟩, rfl, rfl⟩
theorem Kp.i {S : List Nat} {M : Mem} {p k : Nat} {v : Int32} (hp : p ∈ S) : Kp S M (sI M p k v) 0 0 :=
  ⟨fun q _ hn => ⟨rI_np (fun e => hn (by rw [e]; exact hp)), rfl, rfl⟩, fun _ _ => ⟨rfl, rfl⟩, rfl, rfl⟩
/-- labels that are the same -/
def Kr (lo hi : Nat) (M M' : Mem) : Prop := ∀ p, lo ≤ p → p < hi → mI M' p = mI M p ∧ mJ M' p = mJ M p ∧ mR M' p = mR M p ∧ mK M' p = mK M p ∧ mN M' p = mN M p
theorem Kp.kr {S : List Nat} {M M' : Mem} {c s lo hi : Nat} (h : Kp S M M' c s) (hi2 : hi ≤ mC M + 2) (hS : ∀ p, p ∈ S → p < lo ∨ hi ≤ p) : Kr lo hi M M' := fun p h1 h2 => by
  have a := h.1 p (by omega) (fun q => by have := hS p q; omega)
  have b := h.2.1 p (by omega)
  exact ⟨a.1, a.2.1, a.2.2, b.1, b.2⟩
theorem Kr.mono {lo hi lo' hi' : Nat} {M M' : Mem} (h : Kr lo hi M M') (h1 : lo ≤ lo') (h2 : hi' ≤ hi) : Kr lo' hi' M M' := fun p a b => h p (by omega) (by omega)
theorem LstSh.kr {M M' : Mem} {r cap : Nat} (h : Kr r (r + 2) M M') (hs : LstSh M r cap) : LstSh M' r cap := by
  obtain ⟨-, -, a1, a2, -⟩ := h r (by omega) (by omega)
  obtain ⟨-, -, -, b2, b3⟩ := h (r + 1) (by omega) (by omega)
  unfold LstSh; rw [a2, a1, b2, b3]; exact hs
theorem LstAt.kr {M M' : Mem} {r : Nat} {L : List (List Nat)} (h : Kr r (r + 2) M M') (hs : LstAt M r L) : LstAt M' r L := by
  obtain ⟨a1, -, -, -, -⟩ := h r (by omega) (by omega)
  obtain ⟨-, b2, -, -, -⟩ := h (r + 1) (by omega) (by omega)
  unfold LstAt; rw [a1, b2]; exact hs
theorem MacSh.kr {M M' : Mem} {r : Nat} (h : Kr r (r + 4) M M') (hs : MacSh M r) : MacSh M' r := by
  obtain ⟨-, -, a1, a2, -⟩ := h r (by omega) (by omega)
  obtain ⟨-, -, -, b2, b3⟩ := h (r + 1) (by omega) (by omega)
  obtain ⟨-, -, -, c2, c3⟩ := h (r + 2) (by omega) (by omega)
  obtain ⟨-, -, -, d2, d3⟩ := h (r + 3) (by omega) (by omega)
  unfold MacSh; rw [a2, a1, b2, b3, c2, c3, d2, d3]; exact hs
theorem MacAt.kr {M M' : Mem} {r : Nat} {A : PM} (h : Kr r (r + 4) M M') (hs : MacAt M r A) : MacAt M' r A := by
  obtain ⟨a1, -⟩ := h r (by omega) (by omega)
  obtain ⟨b1, -⟩ := h (r + 1) (by omega) (by omega)
  obtain ⟨c1, -⟩ := h (r + 2) (by omega) (by omega)
  unfold MacAt; rw [a1, b1, c1]; exact hs
theorem TxtSh.kr {M M' : Mem} {r : Nat} (h : Kr r (r + 2) M M') (hs : TxtSh M r) : TxtSh M' r := by
  obtain ⟨-, -, a1, a2, -⟩ := h r (by omega) (by omega)
  obtain ⟨-, -, -, b2, b3⟩ := h (r + 1) (by omega) (by omega)
  unfold TxtSh; rw [a2, a1, b2, b3]; exact hs
theorem TxtAt.kr {M M' : Mem} {r : Nat} {X : List Nat} (h : Kr r (r + 2) M M') (hs : TxtAt M r X) : TxtAt M' r X := by
  obtain ⟨a1, -⟩ := h r (by omega) (by omega)
  obtain ⟨b1, -⟩ := h (r + 1) (by omega) (by omega)
  unfold TxtAt; rw [a1, b1]; exact hs
theorem SeaSh.kr {M M' : Mem} {r : Nat} (h : Kr r (r + 5) M M') (hs : SeaSh M r) : SeaSh M' r := by
  obtain ⟨-, -, a1, a2, -⟩ := h r (by omega) (by omega)
  obtain ⟨-, -, -, b2, b3⟩ := h (r + 1) (by omega) (by omega)
  obtain ⟨-, -, -, c2, c3⟩ := h (r + 2) (by omega) (by omega)
  obtain ⟨-, -, -, d2, d3⟩ := h (r + 3) (by omega) (by omega)
  obtain ⟨-, -, -, e2, e3⟩ := h (r + 4) (by omega) (by omega)
  unfold SeaSh; rw [a2, a1, b2, b3, c2, c3, d2, d3, e2, e3]; exact hs
/-- an empty set in its first place -/
def SetZ (M : Mem) (r : Nat) : Prop := SetAt M r 8 (fun _ => 0) 0 ∧ mR M r 1 = r + 1
theorem SetZ.kr {M M' : Mem} {r : Nat} (h : Kr r (r + 2) M M') (hc : mC M ≤ mC M') (hs : SetZ M r) : SetZ M' r := by
  obtain ⟨⟨⟨s1, s2, s3, s4, s5⟩, s6, s7⟩, s8⟩ := hs
  obtain ⟨a0, -, a1, a2, -⟩ := h r (by omega) (by omega)
  obtain ⟨-, b1, -, b2, b3⟩ := h (r + 1) (by omega) (by omega)
  unfold SetZ SetAt
  rw [a2, a1, a0, s8, b2, b3, b1]
  rw [s8] at s2 s3 s5 s6
  exact ⟨⟨⟨s1, s2, s3, s4, by omega⟩, s6, s7⟩, rfl⟩
theorem AskSh.kr {M M' : Mem} {r m : Nat} (h : Kr r (r + 2) M M') (hs : AskSh M r m) : AskSh M' r m := by
  obtain ⟨-, -, a1, a2, -⟩ := h r (by omega) (by omega)
  obtain ⟨-, -, -, b2, -⟩ := h (r + 1) (by omega) (by omega)
  unfold AskSh; rw [a2, a1, b2]; exact hs
theorem NotSh.kr {M M' : Mem} {b r cn : Nat} (h : Kr b (b + 11) M M') (hs : NotSh M b r cn) : NotSh M' b r cn := by
  obtain ⟨-, -, a1, a2, -⟩ := h b (by omega) (by omega)
  obtain ⟨h1, h2, h3, h4, h5, h6⟩ := hs
  refine ⟨by rw [a2]; exact h1, by rw [a1]; exact h2, h3.kr (h.mono (by omega) (by omega)), h4.kr (h.mono (by omega) (by omega)), h5.kr (h.mono (by omega) (by omega)), h6.kr (h.mono (by omega) (by omega))⟩
theorem TabSh.kr {M M' : Mem} {b r : Nat} (h : Kr b (b + 16) M M') (hs : TabSh M b r) : TabSh M' b r := by
  obtain ⟨-, -, a1, a2, -⟩ := h b (by omega) (by omega)
  obtain ⟨-, -, -, b2, b3⟩ := h (b + 11) (by omega) (by omega)
  obtain ⟨-, -, -, c2, c3⟩ := h (b + 12) (by omega) (by omega)
  obtain ⟨-, -, -, d2, d3⟩ := h (b + 13) (by omega) (by omega)
  obtain ⟨-, -, -, e2, e3⟩ := h (b + 14) (by omega) (by omega)
  obtain ⟨-, -, -, f2, f3⟩ := h (b + 15) (by omega) (by omega)
  refine ⟨hs.1.kr (h.mono (by omega) (by omega)), ?_⟩
  rw [a1, b2, b3, c2, c3, d2, d3, e2, e3, f2, f3]; exact hs.2
theorem TrSh.kr {M M' : Mem} {b r : Nat} (h : Kr b (b + 12) M M') (hs : TrSh M b r) : TrSh M' b r := by
  obtain ⟨-, -, a1, a2, -⟩ := h b (by omega) (by omega)
  obtain ⟨-, -, -, b2, b3⟩ := h (b + 11) (by omega) (by omega)
  refine ⟨hs.1.kr (h.mono (by omega) (by omega)), ?_⟩
  rw [a1, b2, b3]; exact hs.2
theorem PuSh.kr {M M' : Mem} {P : Nat} (h : Kr P (P + 32) M M') (hs : PuSh M P) : PuSh M' P := by
  obtain ⟨-, -, a1, a2, -⟩ := h P (by omega) (by omega)
  refine ⟨by rw [a2, a1]; exact hs.1, hs.2.1.kr (h.mono (by omega) (by omega)), hs.2.2.kr (h.mono (by omega) (by omega))⟩
/-- an object that was just made -/
def Fo (M : Mem) (a kd : Nat) : Prop := mK M a = kd ∧ (∀ j, mI M a j = 0) ∧ mC M + 1 = a
theorem Fo.of (M : Mem) (kd n : Nat) : Fo (nwC M kd n) (mC M + 2) kd := ⟨wK_at _ _ _, wI_at _ _ _, rfl⟩
section Ini
variable {d a : Nat} {Q : Option Value → Mem → Prop} {M : Mem}
theorem w_X9_init {cap : Nat} (hd : 1 < d) (hf : Fo M a 11) (hc : cap ≤ 100000) (h : ∀ M', Kp [a] M M' 1 cap → LstSh M' a cap → LstAt M' a [] → Q none M') : ClD d mdX9_init [.ref a, .int (nI cap)] M Q := by
  obtain ⟨f1, f2, f3⟩ := hf
  have e : mC M + 2 = a + 1 := by omega
  refine ⟨1, hd, Cl.of moX9_init (Nat.le_of_ble_eq_true rfl) (gX9_init_0 (by decide) f1 (fun _ => gX9_init_14 (nI_pos (by omega)) (by rw [nI_clamp (by omega)]; exact hc) ?_) (fun c => absurd (nI_0le (by omega)) c))⟩
  rw [nI_clamp (by omega), e]
  refine gX9_init_16 (by rw [wK_ne (by omega)]; exact f1) ⟨rfl, h _ ((Kp.nw _ _ _).tr (Kp.r (by simp)) (fun p hp => Or.inl hp)) ⟨?_, rR_at _ _ _ _, ?_, ?_⟩ ⟨?_, fun j hj => by simp at hj⟩⟩
  · show mK (nwC M 2 cap) a = 11; rw [wK_ne (by omega)]; exact f1
  · show mK (nwC M 2 cap) (a + 1) = 2; rw [← e]; exact wK_at _ _ _
  · show mN (nwC M 2 cap) (a + 1) = cap; rw [← e]; exact wN_at _ _ _
  · show mI (nwC M 2 cap) a 0 = 0; rw [wI_ne (by omega)]; exact f2 0
theorem w_X10_init (hd : 1 < d) (hf : Fo M a 12) (h : ∀ M', Kp [a] M M' 1 256 → SetZ M' a → Q none M') : ClD d mdX10_init [.ref a] M Q := by
  obtain ⟨f1, f2, f3⟩ := hf
  have e : mC M + 2 = a + 1 := by omega
  refine ⟨1, hd, Cl.of moX10_init (Nat.le_of_ble_eq_true rfl) (gX10_init_0 (by decide) f1 ?_)⟩
  rw [e]
  have eR : mR (sR (nwC M 2 256) a 1 (a + 1)) a 1 = a + 1 := rR_at _ _ _ _
  refine gX10_init_10 (by rw [wK_ne (by omega)]; exact f1) ⟨rfl, h _ ((Kp.nw _ _ _).tr (Kp.r (by simp)) (fun p hp => Or.inl hp)) ⟨⟨⟨?_, ?_, ?_, ?_, ?_⟩, fun j hj => ⟨?_, by show 0 < 2 ^ 61; decide⟩, ⟨fun k hk hz => absurd rfl hz, fun k k' _ _ hz => absurd rfl hz⟩, nzc_0 _, by decide, by decide⟩, eR⟩⟩
  · show mK (nwC M 2 256) a = 12; rw [wK_ne (by omega)]; exact f1
  · rw [eR]; show mK (nwC M 2 256) (a + 1) = 2; rw [← e]; exact wK_at _ _ _
  · rw [eR]; show mN (nwC M 2 256) (a + 1) = 2 ^ 8; rw [← e]; exact wN_at _ _ _
  · show mI (nwC M 2 256) a 0 = 0; rw [wI_ne (by omega)]; exact f2 0
  · rw [eR]; show a + 1 < mC M + 1 + 2; omega
  · rw [eR]; show mJ (nwC M 2 256) (a + 1) j = lN 0; rw [← e]; exact wJ_at _ _ _ _
theorem w_X7_init (hd : 1 < d) (hf : Fo M a 9) (h : ∀ M', Kp [a] M M' 1 64 → TxtSh M' a → TxtAt M' a [] → Q none M') : ClD d mdX7_init [.ref a] M Q := by
  obtain ⟨f1, f2, f3⟩ := hf
  have e : mC M + 2 = a + 1 := by omega
  refine ⟨1, hd, Cl.of moX7_init (Nat.le_of_ble_eq_true rfl) (gX7_init_0 (by decide) f1 ?_)⟩
  rw [e]
  refine gX7_init_9 (by rw [wK_ne (by omega)]; exact f1) ⟨rfl, h _ ((Kp.nw _ _ _).tr (Kp.r (by simp)) (fun p hp => Or.inl hp)) ⟨?_, rR_at _ _ _ _, ?_, ?_⟩ ⟨?_, by decide, fun j hj => by simp at hj, fun j => by simp⟩⟩
  · show mK (nwC M 1 64) a = 9; rw [wK_ne (by omega)]; exact f1
  · show mK (nwC M 1 64) (a + 1) = 1; rw [← e]; exact wK_at _ _ _
  · show mN (nwC M 1 64) (a + 1) = 64; rw [← e]; exact wN_at _ _ _
  · show mI (nwC M 1 64) a 0 = 0; rw [wI_ne (by omega)]; exact f2 0
end Ini
