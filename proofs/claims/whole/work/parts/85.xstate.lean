/-! the class's face: its state -/
def clS (M : Mem) : List Nat := slq M 19 :: slq M 51 :: slq M 81 :: (List.range 86).map (fun i => 2 + i)
theorem clS_mem {M : Mem} {q : Nat} : q ∈ clS M ↔ q = slq M 19 ∨ q = slq M 51 ∨ q = slq M 81 ∨ (2 ≤ q ∧ q < 88) := by
  unfold clS
  rw [List.mem_cons, List.mem_cons, List.mem_cons, List.mem_map]
  have : (∃ a, a ∈ List.range 86 ∧ 2 + a = q) ↔ (2 ≤ q ∧ q < 88) := by
    constructor
    · rintro ⟨i, hi, e⟩
      have := List.mem_range.mp hi
      omega
    · intro h
      exact ⟨q - 2, List.mem_range.mpr (by omega), by omega⟩
  rw [this]
/-- where the places of the three sets lie -/
def SL (M : Mem) : Prop := ((slq M 19 = 21 ∨ 88 ≤ slq M 19) ∧ (slq M 51 = 53 ∨ 88 ≤ slq M 51) ∧ (slq M 81 = 83 ∨ 88 ≤ slq M 81)) ∧ (slq M 19 < mC M + 2 ∧ slq M 51 < mC M + 2 ∧ slq M 81 < mC M + 2) ∧ (slq M 19 ≠ slq M 51 ∧ slq M 19 ≠ slq M 81 ∧ slq M 51 ≠ slq M 81) ∧ 88 ≤ mC M + 2
def sN (M : Mem) : Nat := mN M (slq M 19) + mN M (slq M 51) + mN M (slq M 81)
/-- what the class may have changed since Mz -/
def XF (Mz M : Mem) : Prop := Fm (clS Mz) Mz M ∧ ((slq M 19 = slq Mz 19 ∨ mC Mz + 2 ≤ slq M 19) ∧ (slq M 51 = slq Mz 51 ∨ mC Mz + 2 ≤ slq M 51) ∧ (slq M 81 = slq Mz 81 ∨ mC Mz + 2 ≤ slq M 81)) ∧ mC M + sN Mz ≤ mC Mz + sN M ∧ mS M + 2 * sN Mz ≤ mS Mz + 2 * sN M
theorem XF.rf (M : Mem) : XF M M := ⟨Fm.rf _ _, ⟨Or.inl rfl, Or.inl rfl, Or.inl rfl⟩, Nat.le_refl _, Nat.le_refl _⟩
theorem XF.tr {Mz M1 M2 : Mem} (h : XF Mz M1) (k : XF M1 M2) : XF Mz M2 := by
  obtain ⟨h1, ⟨h2, h3, h4⟩, h5, h6⟩ := h
  obtain ⟨k1, ⟨k2, k3, k4⟩, k5, k6⟩ := k
  have hc := h1.2.2.2.1
  refine ⟨h1.tr k1 (fun q hq => ?_), ⟨by omega, by omega, by omega⟩, by omega, by omega⟩
  rw [clS_mem] at hq
  rw [clS_mem]
  omega
theorem Fm.R {S : List Nat} {M M' : Mem} (h : Fm S M M') {p : Nat} (hl : p < mC M + 2) (hp : p ∉ S) : mR M' p = mR M p := (h.1 p hl hp).2.2
/-- a change by one of the three sets' owners -/
theorem XF.fa {r : Nat} {S : List Nat} {M M' : Mem} (sl : SL M) (hr : r = 19 ∨ r = 51 ∨ r = 81) (F : Fa r S M M') (hS : ∀ q, q ∈ S → (2 ≤ q ∧ q < 88) ∧ (q = 20 → r = 19) ∧ (q = 52 → r = 51) ∧ (q = 82 → r = 81)) : XF M M' := by
  obtain ⟨f1, f2, f3, f4⟩ := F
  obtain ⟨⟨l1, l2, l3⟩, ⟨b1, b2, b3⟩, ⟨d1, d2, d3⟩, l8⟩ := sl
  have st : ∀ r', (r' = 19 ∨ r' = 51 ∨ r' = 81) → r' ≠ r → slq M' r' = slq M r' := fun r' hr' hne => by
    unfold slq
    rw [f1.R (p := r' + 1) (by omega) (fun q => ?_)]
    rcases List.mem_cons.mp q with e | e
    · rcases hr with e1 | e1 | e1 <;> subst e1 <;> omega
    · have := hS _ e; omega
  have nn : ∀ r', (r' = 19 ∨ r' = 51 ∨ r' = 81) → r' ≠ r → mN M' (slq M' r') = mN M (slq M r') := fun r' hr' hne => by
    rw [st r' hr' hne, f1.N (by rcases hr' with e | e | e <;> subst e <;> assumption)]
  refine ⟨f1.mono (fun q hq => ?_), ?_, ?_, ?_⟩
  · rw [clS_mem]
    rcases List.mem_cons.mp hq with e | e
    · rcases hr with e1 | e1 | e1 <;> subst e1 <;> omega
    · have := hS _ e; omega
  · rcases hr with e1 | e1 | e1 <;> subst e1
    · exact ⟨f2, Or.inl (st 51 (by omega) (by omega)), Or.inl (st 81 (by omega) (by omega))⟩
    · exact ⟨Or.inl (st 19 (by omega) (by omega)), f2, Or.inl (st 81 (by omega) (by omega))⟩
    · exact ⟨Or.inl (st 19 (by omega) (by omega)), Or.inl (st 51 (by omega) (by omega)), f2⟩
  · unfold sN
    rcases hr with e1 | e1 | e1 <;> subst e1
    · rw [nn 51 (by omega) (by omega), nn 81 (by omega) (by omega)]; omega
    · rw [nn 19 (by omega) (by omega), nn 81 (by omega) (by omega)]; omega
    · rw [nn 19 (by omega) (by omega), nn 51 (by omega) (by omega)]; omega
  · unfold sN
    rcases hr with e1 | e1 | e1 <;> subst e1
    · rw [nn 51 (by omega) (by omega), nn 81 (by omega) (by omega)]; omega
    · rw [nn 19 (by omega) (by omega), nn 81 (by omega) (by omega)]; omega
    · rw [nn 19 (by omega) (by omega), nn 51 (by omega) (by omega)]; omega
/-- a change that leaves the sets' places -/
theorem XF.fe {S : List Nat} {M M' : Mem} (sl : SL M) (F : Fe S M M') (hS : ∀ q, q ∈ S → (2 ≤ q ∧ q < 88) ∧ q ≠ 20 ∧ q ≠ 52 ∧ q ≠ 82) : XF M M' := by
  obtain ⟨f1, f2, f3⟩ := F
  obtain ⟨⟨l1, l2, l3⟩, ⟨b1, b2, b3⟩, ⟨d1, d2, d3⟩, l8⟩ := sl
  have st : ∀ r', (r' = 19 ∨ r' = 51 ∨ r' = 81) → slq M' r' = slq M r' := fun r' hr' => by
    unfold slq
    rw [f1.R (p := r' + 1) (by omega) (fun q => by have := hS _ q; omega)]
  have nn : sN M' = sN M := by
    unfold sN
    rw [st 19 (by omega), st 51 (by omega), st 81 (by omega), f1.N b1, f1.N b2, f1.N b3]
  refine ⟨f1.mono (fun q hq => ?_), ⟨Or.inl (st 19 (by omega)), Or.inl (st 51 (by omega)), Or.inl (st 81 (by omega))⟩, by omega, by omega⟩
  have := hS q hq
  rw [clS_mem]; omega
theorem SL.up {r : Nat} {S : List Nat} {M M' : Mem} (sl : SL M) (hr : r = 19 ∨ r = 51 ∨ r = 81) (F : Fa r S M M') (hS : ∀ q, q ∈ S → (2 ≤ q ∧ q < 88) ∧ (q = 20 → r = 19) ∧ (q = 52 → r = 51) ∧ (q = 82 → r = 81)) (hlt : slq M' r < mC M' + 2) : SL M' := by
  have X := XF.fa sl hr F hS
  obtain ⟨x1, ⟨x2, x3, x4⟩, -, -⟩ := X
  have hc := x1.2.2.2.1
  have f2 := F.2.1
  obtain ⟨⟨l1, l2, l3⟩, ⟨b1, b2, b3⟩, ⟨d1, d2, d3⟩, l8⟩ := sl
  have st : ∀ r', (r' = 19 ∨ r' = 51 ∨ r' = 81) → r' ≠ r → slq M' r' = slq M r' := fun r' hr' hne => by
    unfold slq
    rw [F.1.R (p := r' + 1) (by omega) (fun q => ?_)]
    rcases List.mem_cons.mp q with e | e
    · rcases hr with e1 | e1 | e1 <;> subst e1 <;> omega
    · have := hS _ e; omega
  unfold SL
  rcases hr with e1 | e1 | e1 <;> subst e1
  · rw [st 51 (by omega) (by omega), st 81 (by omega) (by omega)]; omega
  · rw [st 19 (by omega) (by omega), st 81 (by omega) (by omega)]; omega
  · rw [st 19 (by omega) (by omega), st 51 (by omega) (by omega)]; omega
theorem SL.fe {S : List Nat} {M M' : Mem} (sl : SL M) (F : Fe S M M') (hS : ∀ q, q ∈ S → (2 ≤ q ∧ q < 88) ∧ q ≠ 20 ∧ q ≠ 52 ∧ q ≠ 82) : SL M' := by
  have l8 := sl.2.2.2
  have st : ∀ r', (r' = 19 ∨ r' = 51 ∨ r' = 81) → slq M' r' = slq M r' := fun r' hr' => by
    unfold slq
    rw [F.1.R (p := r' + 1) (by omega) (fun q => by have := hS _ q; omega)]
  unfold SL at sl ⊢
  rw [st 19 (by omega), st 51 (by omega), st 81 (by omega), F.2.1]; exact sl
theorem TxtSh.fm {S : List Nat} {M M' : Mem} {r : Nat} (h : Fm S M M') (hl : r + 1 < mC M + 2) (hs : TxtSh M r) : TxtSh M' r := by
  obtain ⟨a, b, c, e⟩ := hs
  have hn : ¬ vR (mK M r) 1 := by rw [a]; unfold vR; omega
  exact ⟨by rw [h.K (by omega)]; exact a, by rw [h.2.2.1 r 1 (by omega) hn]; exact b, by rw [h.K (by omega)]; exact c, by rw [h.N (by omega)]; exact e⟩
theorem TxtAt.fm {S : List Nat} {M M' : Mem} {r : Nat} {X : List Nat} (h : Fm S M M') (hl : r + 1 < mC M + 2) (ha : TxtAt M r X) (h0 : r ∉ S) (h1 : r + 1 ∉ S) : TxtAt M' r X :=
  ⟨by rw [h.I (by omega) h0]; exact ha.1, ha.2.1, fun j hj => by rw [h.I (by omega) h1]; exact ha.2.2.1 j hj, ha.2.2.2⟩
/-- the object's shape -/
def xTab : List (Nat × Nat) := [(0, 3), (1, 7), (2, 11), (3, 13), (4, 18), (5, 50), (6, 82), (7, 84), (8, 86), (9, 87)]
def CSh (M : Mem) : Prop := (mK M 2 = 13 ∧ ∀ q, q ∈ xTab → mR M 2 q.1 = q.2) ∧ ((mK M 86 = 1 ∧ mN M 86 = 8) ∧ mK M 87 = 2 ∧ mN M 87 = 8) ∧ MacSh M 7 ∧ TxtSh M 11 ∧ LstSh M 84 8 ∧ PuSh M 50
theorem CSh.fm {S : List Nat} {M M' : Mem} (h : Fm S M M') (hl : 88 ≤ mC M + 2) (hs : CSh M) : CSh M' := by
  obtain ⟨⟨a, b⟩, ⟨⟨c1, c2⟩, c3, c4⟩, e, f, g, i⟩ := hs
  have hn : ∀ j, ¬ vR (mK M 2) j := fun j => by rw [a]; unfold vR; omega
  exact ⟨⟨by rw [h.K (by omega)]; exact a, fun q hq => by rw [h.2.2.1 2 _ (by omega) (hn _)]; exact b q hq⟩, ⟨⟨by rw [h.K (by omega)]; exact c1, by rw [h.N (by omega)]; exact c2⟩, by rw [h.K (by omega)]; exact c3, by rw [h.N (by omega)]; exact c4⟩, e.fm h (by omega), f.fm h (by omega), g.fm h (by omega), i.fm h (by omega)⟩
theorem CSh.r {M : Mem} (h : CSh M) : (mR M 2 0 = 3 ∧ mR M 2 1 = 7 ∧ mR M 2 2 = 11 ∧ mR M 2 3 = 13 ∧ mR M 2 4 = 18) ∧ mR M 2 5 = 50 ∧ mR M 2 6 = 82 ∧ mR M 2 7 = 84 ∧ mR M 2 8 = 86 ∧ mR M 2 9 = 87 := by
  have g := h.1.2
  exact ⟨⟨g (0, 3) (by decide), g (1, 7) (by decide), g (2, 11) (by decide), g (3, 13) (by decide), g (4, 18) (by decide)⟩, g (5, 50) (by decide), g (6, 82) (by decide), g (7, 84) (by decide), g (8, 86) (by decide), g (9, 87) (by decide)⟩
/-- the row of numbers told -/
def RwAt (M : Mem) (R : List Int64) : Prop := mI M 2 10 = nI R.length ∧ R.length ≤ 8 ∧ ∀ j, j < R.length → mJ M 87 j = R.getD j 0
theorem RwAt.fm {S : List Nat} {M M' : Mem} {R : List Int64} (h : Fm S M M') (hl : 88 ≤ mC M + 2) (hs : RwAt M R) (h2 : 2 ∉ S) (h87 : 87 ∉ S) : RwAt M' R :=
  ⟨by rw [h.I (by omega) h2]; exact hs.1, hs.2.1, fun j hj => by rw [h.J (by omega) h87]; exact hs.2.2 j hj⟩
/-- all of the class's object -/
def CC (M : Mem) (X : List Nat) (A : PM) (st sp : Nat) (p : PS) (R : List Int64) : Prop := (CSh M ∧ SL M ∧ SeaSh M 13) ∧ TxtAt M 11 X ∧ CP 88 M 18 A st sp p ∧ (∃ s, AI 88 M 51 A st sp s) ∧ (∃ k T n, SetAt M 82 k T n) ∧ RwAt M R
/-- and what has changed since Mz -/
def CX (Mz M : Mem) (X : List Nat) (A : PM) (st sp : Nat) (p : PS) (R : List Int64) : Prop := CC M X A st sp p R ∧ XF Mz M
def frL (q : Nat) : Prop := (5 < q ∧ q < 11) ∨ (12 < q ∧ q < 18) ∨ q = 50 ∨ (53 < q ∧ q < 82) ∨ (83 < q ∧ q < 87)
section XSt
variable {st sp : Nat} {Mz M M' : Mem} {A : PM} {p p' : PS} {X X' : List Nat} {R : List Int64} {L : List Nat}
theorem CC.ok (h : CC M X A st sp p R) : okM A := h.2.2.1.hz.2.2.1
theorem CX.ok (h : CX Mz M X A st sp p R) : okM A := h.1.ok
/-- the told machine -/
theorem CC.m3 (h : CC M X A st sp p R) : MacSh M 3 ∧ MacAt M 3 A := ⟨h.2.2.1.hz.2.2.2.1, h.2.2.1.hz.2.2.2.2⟩
/-- a change of what does not count -/
theorem CC.fr (h : CC M X A st sp p R) (F : Fe L M M') (hL : ∀ q, q ∈ L → frL q) (hs : SeaSh M' 13) : CC M' X A st sp p R := by
  obtain ⟨⟨h1, h2, h3⟩, h4, h5, ⟨s, h6⟩, ⟨k, T, n, h7⟩, h8⟩ := h
  have l8 := h2.2.2.2
  have sl := h2
  obtain ⟨⟨l1, l2, l3⟩, ⟨b1, b2, b3⟩, -, -⟩ := h2
  have no : ∀ q, ¬ frL q → q ∉ L := fun q a b => a (hL q b)
  have nf : ∀ q, (q < 6 ∨ q = 11 ∨ q = 12 ∨ (17 < q ∧ q < 50) ∨ q = 51 ∨ q = 52 ∨ q = 53 ∨ q = 82 ∨ q = 83 ∨ 87 ≤ q) → q ∉ L := fun q hq => no q (by unfold frL; omega)
  have e3 : mR M 82 1 = slq M 81 := rfl
  refine ⟨⟨h1.fm F.1 l8, sl.fe F (fun q hq => by have := hL q hq; unfold frL at this; omega), hs⟩, h4.fm F.1 (by omega) (nf 11 (by omega)) (nf 12 (by omega)), h5.fm F.1 (fun q hq => by have := hL q hq; unfold frL at this; show q ≠ slq M 19 ∧ _; omega), ⟨s, h6.fm F.1 (nf _ (by omega)) (nf _ (by omega)) (nf _ (by omega)) (nf _ (by omega)) (nf _ (by omega)) (nf _ (by omega))⟩, ⟨k, T, n, h7.fm F.1 (by omega) (nf _ (by omega)) (nf _ (by omega))⟩, h8.fm F.1 l8 (nf _ (by omega)) (nf _ (by omega))⟩
theorem CX.fr (h : CX Mz M X A st sp p R) (F : Fe L M M') (hL : ∀ q, q ∈ L → frL q) (hs : SeaSh M' 13) : CX Mz M' X A st sp p R :=
  ⟨h.1.fr F hL hs, h.2.tr (XF.fe h.1.1.2.1 F (fun q hq => by have := hL q hq; unfold frL at this; omega))⟩
theorem CX.fs (h : CX Mz M X A st sp p R) (F : Sm L M M') (hL : ∀ q, q ∈ L → frL q) : CX Mz M' X A st sp p R := h.fr F.fe hL (h.1.1.2.2.sm F)
/-- the pupil's doing -/
theorem CX.pu (h : CX Mz M X A st sp p R) (F : Fa 19 L M M') (hL : ∀ q, q ∈ L → (17 < q ∧ q < 50) ∨ frL q) (hc : CP 88 M' 18 A st sp p') (hs : SeaSh M' 13) : CX Mz M' X A st sp p' R := by
  obtain ⟨⟨⟨h1, h2, h3⟩, h4, h5, ⟨s, h6⟩, ⟨k, T, n, h7⟩, h8⟩, hx⟩ := h
  have l8 := h2.2.2.2
  have sl := h2
  obtain ⟨⟨l1, l2, l3⟩, ⟨b1, b2, b3⟩, ⟨d1, d2, d3⟩, -⟩ := h2
  have nf : ∀ q, (q < 6 ∨ q = 11 ∨ q = 12 ∨ q = 51 ∨ q = 52 ∨ q = 53 ∨ q = 82 ∨ q = 83 ∨ 87 ≤ q) → q ≠ slq M 19 → q ∉ slq M 19 :: L := fun q hq hn hm => by
    rcases List.mem_cons.mp hm with e | e
    · exact hn e
    · have := hL q e; unfold frL at this; omega
  have e3 : mR M 82 1 = slq M 81 := rfl
  have hS : ∀ q, q ∈ L → (2 ≤ q ∧ q < 88) ∧ (q = 20 → 19 = 19) ∧ (q = 52 → 19 = 51) ∧ (q = 82 → 19 = 81) := fun q hq => by have := hL q hq; unfold frL at this; omega
  obtain ⟨sc, -, aic⟩ := hc.ai
  obtain ⟨ka, Ta, sa, -, -⟩ := aic.2.1.2.2
  exact ⟨⟨⟨h1.fm F.1 l8, sl.up (Or.inl rfl) F hS sa.1.2.2.2.2, hs⟩, h4.fm F.1 (by omega) (nf 11 (by omega) (by omega)) (nf 12 (by omega) (by omega)), hc, ⟨s, h6.fm F.1 (nf _ (by omega) (by omega)) (nf _ (by omega) (by omega)) (nf _ (by omega) (by omega)) (nf _ (by omega) (by omega)) (nf _ (by omega) (by omega)) (nf _ (by omega) (by omega))⟩, ⟨k, T, n, h7.fm F.1 (by omega) (nf _ (by omega) (by omega)) (nf _ (by omega) (by omega))⟩, h8.fm F.1 l8 (nf _ (by omega) (by omega)) (nf _ (by omega) (by omega))⟩, hx.tr (XF.fa sl (Or.inl rfl) F hS)⟩
/-- the doing of the pupil in thought -/
theorem CX.th (h : CX Mz M X A st sp p R) (F : Fa 51 L M M') (hL : ∀ q, q ∈ L → (49 < q ∧ q < 82) ∨ frL q) (ha : ∃ s, AI 88 M' 51 A st sp s) (hs : SeaSh M' 13) : CX Mz M' X A st sp p R := by
  obtain ⟨⟨⟨h1, h2, h3⟩, h4, h5, ⟨s, h6⟩, ⟨k, T, n, h7⟩, h8⟩, hx⟩ := h
  have l8 := h2.2.2.2
  have sl := h2
  obtain ⟨⟨l1, l2, l3⟩, ⟨b1, b2, b3⟩, ⟨d1, d2, d3⟩, -⟩ := h2
  have nf : ∀ q, (q < 6 ∨ q = 11 ∨ q = 12 ∨ (17 < q ∧ q < 50) ∨ q = 82 ∨ q = 83 ∨ 87 ≤ q) → q ≠ slq M 51 → q ∉ slq M 51 :: L := fun q hq hn hm => by
    rcases List.mem_cons.mp hm with e | e
    · exact hn e
    · have := hL q e; unfold frL at this; omega
  have e3 : mR M 82 1 = slq M 81 := rfl
  have hS : ∀ q, q ∈ L → (2 ≤ q ∧ q < 88) ∧ (q = 20 → 51 = 19) ∧ (q = 52 → 51 = 51) ∧ (q = 82 → 51 = 81) := fun q hq => by have := hL q hq; unfold frL at this; omega
  obtain ⟨sc, aic⟩ := ha
  obtain ⟨ka, Ta, sa, -, -⟩ := aic.2.1.2.2
  exact ⟨⟨⟨h1.fm F.1 l8, sl.up (Or.inr (Or.inl rfl)) F hS sa.1.2.2.2.2, hs⟩, h4.fm F.1 (by omega) (nf 11 (by omega) (by omega)) (nf 12 (by omega) (by omega)), h5.fm F.1 (fun q hq => by
    show q ≠ slq M 19 ∧ _
    rcases List.mem_cons.mp hq with e | e
    · omega
    · have := hL q e; unfold frL at this; omega), ⟨sc, aic⟩, ⟨k, T, n, h7.fm F.1 (by omega) (nf _ (by omega) (by omega)) (nf _ (by omega) (by omega))⟩, h8.fm F.1 l8 (nf _ (by omega) (by omega)) (nf _ (by omega) (by omega))⟩, hx.tr (XF.fa sl (Or.inr (Or.inl rfl)) F hS)⟩
/-- the trials' doing -/
theorem CX.tl (h : CX Mz M X A st sp p R) (F : Fa 81 L M M') (hL : ∀ q, q ∈ L → q = 82 ∨ frL q) (ht : ∃ k T n, SetAt M' 82 k T n) (hs : SeaSh M' 13) : CX Mz M' X A st sp p R := by
  obtain ⟨⟨⟨h1, h2, h3⟩, h4, h5, ⟨s, h6⟩, -, h8⟩, hx⟩ := h
  have l8 := h2.2.2.2
  have sl := h2
  obtain ⟨⟨l1, l2, l3⟩, ⟨b1, b2, b3⟩, ⟨d1, d2, d3⟩, -⟩ := h2
  have nf : ∀ q, (q < 6 ∨ q = 11 ∨ q = 12 ∨ (17 < q ∧ q < 50) ∨ q = 51 ∨ q = 52 ∨ q = 53 ∨ 87 ≤ q) → q ≠ slq M 81 → q ∉ slq M 81 :: L := fun q hq hn hm => by
    rcases List.mem_cons.mp hm with e | e
    · exact hn e
    · have := hL q e; unfold frL at this; omega
  have hS : ∀ q, q ∈ L → (2 ≤ q ∧ q < 88) ∧ (q = 20 → 81 = 19) ∧ (q = 52 → 81 = 51) ∧ (q = 82 → 81 = 81) := fun q hq => by have := hL q hq; unfold frL at this; omega
  obtain ⟨ka, Ta, na, sa⟩ := ht
  have e3 : mR M' 82 1 = slq M' 81 := rfl
  exact ⟨⟨⟨h1.fm F.1 l8, sl.up (Or.inr (Or.inr rfl)) F hS sa.1.2.2.2.2, hs⟩, h4.fm F.1 (by omega) (nf 11 (by omega) (by omega)) (nf 12 (by omega) (by omega)), h5.fm F.1 (fun q hq => by
    show q ≠ slq M 19 ∧ _
    rcases List.mem_cons.mp hq with e | e
    · omega
    · have := hL q e; unfold frL at this; omega), ⟨s, h6.fm F.1 (nf _ (by omega) (by omega)) (nf _ (by omega) (by omega)) (nf _ (by omega) (by omega)) (nf _ (by omega) (by omega)) (nf _ (by omega) (by omega)) (nf _ (by omega) (by omega))⟩, ⟨ka, Ta, na, sa⟩, h8.fm F.1 l8 (nf _ (by omega) (by omega)) (nf _ (by omega) (by omega))⟩, hx.tr (XF.fa sl (Or.inr (Or.inr rfl)) F hS)⟩
/-- the text -/
theorem CX.tx (h : CX Mz M X A st sp p R) (F : Sm L M M') (hL : ∀ q, q ∈ L → q = 11 ∨ q = 12 ∨ frL q) (ht : TxtAt M' 11 X') : CX Mz M' X' A st sp p R := by
  obtain ⟨⟨⟨h1, h2, h3⟩, h4, h5, ⟨s, h6⟩, ⟨k, T, n, h7⟩, h8⟩, hx⟩ := h
  have l8 := h2.2.2.2
  have sl := h2
  obtain ⟨⟨l1, l2, l3⟩, ⟨b1, b2, b3⟩, ⟨d1, d2, d3⟩, -⟩ := h2
  have nf : ∀ q, (q < 6 ∨ (17 < q ∧ q < 50) ∨ q = 51 ∨ q = 52 ∨ q = 53 ∨ q = 82 ∨ q = 83 ∨ 87 ≤ q) → q ∉ L := fun q hq hm => by have := hL q hm; unfold frL at this; omega
  have e3 : mR M 82 1 = slq M 81 := rfl
  have F1 := F.fe
  have hS : ∀ q, q ∈ L → (2 ≤ q ∧ q < 88) ∧ q ≠ 20 ∧ q ≠ 52 ∧ q ≠ 82 := fun q hq => by have := hL q hq; unfold frL at this; omega
  exact ⟨⟨⟨h1.fm F1.1 l8, sl.fe F1 hS, h3.sm F⟩, ht, h5.fm F1.1 (fun q hq => by have := hL q hq; unfold frL at this; show q ≠ slq M 19 ∧ _; omega), ⟨s, h6.fm F1.1 (nf _ (by omega)) (nf _ (by omega)) (nf _ (by omega)) (nf _ (by omega)) (nf _ (by omega)) (nf _ (by omega))⟩, ⟨k, T, n, h7.fm F1.1 (by omega) (nf _ (by omega)) (nf _ (by omega))⟩, h8.fm F1.1 l8 (nf _ (by omega)) (nf _ (by omega))⟩, hx.tr (XF.fe sl F1 hS)⟩
/-- the row -/
theorem CX.rw (h : CX Mz M X A st sp p R) {R' : List Int64} (F : Sm [2, 87] M M') (hr : RwAt M' R') : CX Mz M' X A st sp p R' := by
  obtain ⟨⟨⟨h1, h2, h3⟩, h4, h5, ⟨s, h6⟩, ⟨k, T, n, h7⟩, -⟩, hx⟩ := h
  have l8 := h2.2.2.2
  have sl := h2
  obtain ⟨⟨l1, l2, l3⟩, ⟨b1, b2, b3⟩, ⟨d1, d2, d3⟩, -⟩ := h2
  have hL : ∀ q, q ∈ [2, 87] → q = 2 ∨ q = 87 := fun q hq => by simpa using hq
  have nf : ∀ q, q ≠ 2 → q ≠ 87 → q ∉ [2, 87] := fun q a b hm => by have := hL q hm; omega
  have e3 : mR M 82 1 = slq M 81 := rfl
  have F1 := F.fe
  have hS : ∀ q, q ∈ [2, 87] → (2 ≤ q ∧ q < 88) ∧ q ≠ 20 ∧ q ≠ 52 ∧ q ≠ 82 := fun q hq => by have := hL q hq; omega
  exact ⟨⟨⟨h1.fm F1.1 l8, sl.fe F1 hS, h3.sm F⟩, h4.fm F1.1 (by omega) (nf _ (by omega) (by omega)) (nf _ (by omega) (by omega)), h5.fm F1.1 (fun q hq => by have := hL q hq; show q ≠ slq M 19 ∧ _; omega), ⟨s, h6.fm F1.1 (nf _ (by omega) (by omega)) (nf _ (by omega) (by omega)) (nf _ (by omega) (by omega)) (nf _ (by omega) (by omega)) (nf _ (by omega) (by omega)) (nf _ (by omega) (by omega))⟩, ⟨k, T, n, h7.fm F1.1 (by omega) (nf _ (by omega) (by omega)) (nf _ (by omega) (by omega))⟩, hr⟩, hx.tr (XF.fe sl F1 hS)⟩
end XSt
