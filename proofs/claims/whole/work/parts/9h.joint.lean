/-! the class and the reference side by side -/
theorem MoC.kr {st sp m : Nat} {M M' : Mem} {A : PM} {p : PS} {X : List Nat} {R : List Int64} (h : MoC M m X A st sp p R) (k : Kr m (m + 31) M M') : MoC M' m X A st sp p R := by
  obtain ⟨⟨h1, h2⟩, h3, h4, h5, h6, h7⟩ := h
  have e : ∀ q, q ≤ 30 → mI M' (m + q) = mI M (m + q) ∧ mJ M' (m + q) = mJ M (m + q) ∧ mR M' (m + q) = mR M (m + q) ∧ mK M' (m + q) = mK M (m + q) ∧ mN M' (m + q) = mN M (m + q) := fun q hq => k (m + q) (by omega) (by omega)
  have e0 : mI M' m = mI M m ∧ mJ M' m = mJ M m ∧ mR M' m = mR M m ∧ mK M' m = mK M m ∧ mN M' m = mN M m := e 0 (by decide)
  have sh := h3.sh.1
  have sh' : MoSh M' m := ⟨by rw [e0.2.2.2.1]; exact sh.1, fun q hq => by
    have hm : ∀ q, q ∈ mTab → q.2.1 ≤ 30 := by decide
    have := sh.2 q hq
    have g := e q.2.1 (hm q hq)
    rw [e0.2.2.1, g.2.2.2.1, g.2.2.2.2]; exact this⟩
  refine ⟨⟨⟨h1.1, fun j hj => by rw [(e 21 (by decide)).1]; exact h1.2.1 j hj, h1.2.2⟩, by rw [e0.1]; exact h2⟩, h3.cg sh' (fun q a b => ⟨(e q (by omega)).1, (e q (by omega)).2.1⟩) (by rw [e0.1]; exact ⟨rfl, rfl, rfl⟩), by rw [e0.1]; exact h4, by rw [e0.1]; exact h5, h6, fun j hj => by rw [(e 1 (by decide)).2.1]; exact h7 j hj⟩
theorem CC.out {st sp : Nat} {M M' : Mem} {A : PM} {p : PS} {X : List Nat} {R : List Int64} {L : List Nat} (h : CC M X A st sp p R) (F : Sm L M M') (hL : ∀ q, q ∈ L → 88 ≤ q ∧ q ≠ slq M 19 ∧ q ≠ slq M 51 ∧ q ≠ slq M 81) : CC M' X A st sp p R := by
  obtain ⟨⟨h1, h2, h3⟩, h4, h5, ⟨s, h6⟩, ⟨k, T, n, h7⟩, h8⟩ := h
  have l8 := h2.2.2.2
  have nf : ∀ q, q < 88 → q ∉ L := fun q hq a => by have := hL q a; omega
  have e3 : mR M 82 1 = slq M 81 := rfl
  have hSL : SL M' := by
    have st : ∀ r, slq M' r = slq M r := fun r => by unfold slq; rw [F.2.1]
    unfold SL at h2 ⊢
    rw [st, st, st, F.2.2.2.2.1]; exact h2
  obtain ⟨⟨l1, l2, l3⟩, -, -, -⟩ := h2
  refine ⟨⟨h1.fm F.fm l8, hSL, h3.sm F⟩, h4.fm F.fm (by omega) (nf 11 (by omega)) (nf 12 (by omega)), h5.fm F.fm (fun q hq => by have := hL q hq; show q ≠ slq M 19 ∧ _; omega), ⟨s, h6.fm F.fm (nf _ (by omega)) (nf _ (by omega)) (fun a => (hL _ a).2.2.1 rfl) (nf _ (by omega)) (nf _ (by omega)) (nf _ (by omega))⟩, ⟨k, T, n, h7.fm F.fm (by omega) (nf _ (by omega)) (fun a => (hL _ a).2.2.2 rfl)⟩, h8.fm F.fm l8 (nf _ (by omega)) (nf _ (by omega))⟩
/-- where they lie, and how much room is taken -/
def JF (n m : Nat) (M : Mem) : Prop := (88 ≤ m ∧ m + 31 < mC M + 2) ∧ ((slq M 19 < m ∨ m + 31 < slq M 19) ∧ (slq M 51 < m ∨ m + 31 < slq M 51) ∧ (slq M 81 < m ∨ m + 31 < slq M 81)) ∧ (mK M (m + 31) = 2 ∧ mN M (m + 31) = 1) ∧ mC M ≤ 1000 + sN M + n ∧ mS M ≤ 100000 + 2 * sN M + 6 * n
theorem JF.cl {n m : Nat} {M M' : Mem} (h : JF n m M) (sl : SL M) (F : XF M M') : JF n m M' ∧ Kr m (m + 32) M M' := by
  obtain ⟨⟨h1, h2⟩, ⟨a1, a2, a3⟩, ⟨b1, b2⟩, c1, c2⟩ := h
  obtain ⟨f1, ⟨f2, f3, f4⟩, f5, f6⟩ := F
  have hc := f1.2.2.2.1
  have nin : ∀ q, m ≤ q → q < m + 32 → q ∉ clS M := fun q h3 h4 hm => by rw [clS_mem] at hm; omega
  have K : Kr m (m + 32) M M' := fun q h3 h4 => by
    have x := f1.1 q (by omega) (nin q h3 h4)
    have y := f1.2.1 q (by omega)
    exact ⟨x.1, x.2.1, x.2.2, y.1, y.2⟩
  have ko := K (m + 31) (by omega) (by omega)
  exact ⟨⟨⟨h1, by omega⟩, ⟨by omega, by omega, by omega⟩, ⟨by rw [ko.2.2.2.1]; exact b1, by rw [ko.2.2.2.2]; exact b2⟩, by omega, by omega⟩, K⟩
theorem JF.rf {n m : Nat} {M M' : Mem} {L : List Nat} (h : JF n m M) (F : Sm L M M') : JF n m M' := by
  obtain ⟨⟨h1, h2⟩, a, ⟨b1, b2⟩, c1, c2⟩ := h
  have st : ∀ r, slq M' r = slq M r := fun r => by unfold slq; rw [F.2.1]
  have sn : sN M' = sN M := by unfold sN; rw [st, st, st, F.2.2.2.1]
  unfold JF
  rw [st, st, st, sn, F.2.2.1, F.2.2.2.1, F.2.2.2.2.1, F.2.2.2.2.2]
  exact ⟨⟨h1, h2⟩, a, ⟨b1, b2⟩, c1, c2⟩
theorem JF.up {n n' m : Nat} {M : Mem} (h : JF n m M) (hn : n ≤ n') : JF n' m M := by
  obtain ⟨a, b, c, d, e⟩ := h
  exact ⟨a, b, c, by omega, by omega⟩
def JS (n m : Nat) (M : Mem) (X : List Nat) (A : PM) (st sp : Nat) (p : PS) (R : List Int64) : Prop := CC M X A st sp p R ∧ MoC M m X A st sp p R ∧ PI A (8 * n) p ∧ JF n m M
def JI (n m : Nat) (M : Mem) : Prop := ∃ X A st sp p R, JS n m M X A st sp p R
section Same
variable {d n m st sp st' sp' : Nat} {M : Mem} {A A' : PM} {p p' : PS} {X X' : List Nat} {R R' : List Int64} {kx km : MD} {args : List Value}
/-- both come to the same -/
theorem js_go {u : Option Value} (h : JS n m M X A st sp p R) (hI : okM A' → PI A' (8 * (n + 1)) p') (hc : ClD d kx (.ref 2 :: args) M (fun r M' => r = u ∧ CX M M' X' A' st' sp' p' R')) (hm : ∀ M1, MoS M1 M1 m X A st sp p R → ClD d km (.ref m :: args) M1 (fun r M' => r = u ∧ MoS M1 M' m X' A' st' sp' p' R')) :
    mK M 2 = 13 ∧ ClD d kx (.ref 2 :: args) M (fun r1 M1 => (mK M1 m = 14 ∧ ClD d km (.ref m :: args) M1 (fun r2 M2 => r2 = r1 ∧ JI (n + 1) m M2)) ∧ r1 = u) := by
  obtain ⟨h1, h2, h3, h4⟩ := h
  refine ⟨h1.1.1.1.1, hc.mono (fun r1 M1 hq => ?_)⟩
  obtain ⟨rfl, q1, q2⟩ := hq
  obtain ⟨f1, k1⟩ := h4.cl h1.1.2.1 q2
  have mo := h2.kr (k1.mono (Nat.le_refl _) (by omega))
  refine ⟨⟨mo.2.1.sh.1.1, (hm M1 ⟨mo, Sm.rf _ _⟩).mono (fun r2 M2 hq2 => ?_)⟩, rfl⟩
  obtain ⟨e, s1, s2⟩ := hq2
  refine ⟨e, X', A', st', sp', p', R', q1.out s2 (fun q hq => ?_), s1, hI q1.ok, (f1.rf s2).up (Nat.le_succ n)⟩
  have := moA_mem.mp hq
  have := f1.1
  have := f1.2.1
  omega
theorem js_I {v : Int32} (h : JS n m M X A st sp p R) (hI : okM A' → PI A' (8 * (n + 1)) p') (hc : ClD d kx (.ref 2 :: args) M (fun r M' => r = some (.int v) ∧ CX M M' X' A' st' sp' p' R')) (hm : ∀ M1, MoS M1 M1 m X A st sp p R → ClD d km (.ref m :: args) M1 (fun r M' => r = some (.int v) ∧ MoS M1 M' m X' A' st' sp' p' R')) : SmI d kx km m args M (JI (n + 1) m) := by
  obtain ⟨a, b⟩ := js_go h hI hc hm
  exact ⟨a, b.mono (fun r1 M1 q => ⟨q.1, v, q.2⟩)⟩
theorem js_J {v : Int64} (h : JS n m M X A st sp p R) (hI : okM A' → PI A' (8 * (n + 1)) p') (hc : ClD d kx (.ref 2 :: args) M (fun r M' => r = some (.long v) ∧ CX M M' X' A' st' sp' p' R')) (hm : ∀ M1, MoS M1 M1 m X A st sp p R → ClD d km (.ref m :: args) M1 (fun r M' => r = some (.long v) ∧ MoS M1 M' m X' A' st' sp' p' R')) : SmJ d kx km m args M (JI (n + 1) m) := by
  obtain ⟨a, b⟩ := js_go h hI hc hm
  exact ⟨a, b.mono (fun r1 M1 q => ⟨q.1, v, q.2⟩)⟩
theorem JS.cx (h : JS n m M X A st sp p R) : CX M M X A st sp p R := ⟨h.1, XF.rf M⟩
end Same
