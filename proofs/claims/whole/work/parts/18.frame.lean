/-! what stays: memories that differ at some labels alone -/
/-- only ints and longs at the labels S may differ -/
def Sm (S : List Nat) (M M' : Mem) : Prop := (∀ p, p ∉ S → mI M' p = mI M p ∧ mJ M' p = mJ M p) ∧ mR M' = mR M ∧ mK M' = mK M ∧ mN M' = mN M ∧ mC M' = mC M ∧ mS M' = mS M
theorem Sm.rf (S : List Nat) (M : Mem) : Sm S M M := ⟨fun _ _ => ⟨rfl, rfl⟩, rfl, rfl, rfl, rfl, rfl⟩
theorem Sm.tr {S : List Nat} {M M1 M2 : Mem} (h : Sm S M M1) (k : Sm S M1 M2) : Sm S M M2 :=
  ⟨fun p hp => ⟨(k.1 p hp).1.trans (h.1 p hp).1, (k.1 p hp).2.trans (h.1 p hp).2⟩, k.2.1.trans h.2.1, k.2.2.1.trans h.2.2.1, k.2.2.2.1.trans h.2.2.2.1, k.2.2.2.2.1.trans h.2.2.2.2.1, k.2.2.2.2.2.trans h.2.2.2.2.2⟩
theorem Sm.mono {S T : List Nat} {M M1 : Mem} (h : Sm S M M1) (hs : ∀ p, p ∈ S → p ∈ T) : Sm T M M1 := ⟨fun p hp => h.1 p (fun q => hp (hs p q)), h.2⟩
theorem up2_ne {α : Type} {f : Nat → Nat → α} {p k q : Nat} {v : α} (h : q ≠ p) : up2 f p k v q = f q := funext fun _ => if_neg (fun e => h e.1)
theorem up2_at {α : Type} (f : Nat → Nat → α) (p k : Nat) (v : α) : up2 f p k v p k = v := if_pos ⟨rfl, rfl⟩
theorem up2_nk {α : Type} {f : Nat → Nat → α} {p k j q : Nat} {v : α} (h : j ≠ k) : up2 f p k v q j = f q j := if_neg (fun e => h e.2)
theorem Sm.sI {S : List Nat} {p : Nat} (hp : p ∈ S) (M : Mem) (k : Nat) (v : Int32) : Sm S M (sI M p k v) :=
  ⟨fun q hq => ⟨up2_ne (fun e => hq (e ▸ hp)), rfl⟩, rfl, rfl, rfl, rfl, rfl⟩
theorem Sm.sJ {S : List Nat} {p : Nat} (hp : p ∈ S) (M : Mem) (k : Nat) (v : Int64) : Sm S M (sJ M p k v) :=
  ⟨fun q hq => ⟨rfl, up2_ne (fun e => hq (e ▸ hp))⟩, rfl, rfl, rfl, rfl, rfl⟩
theorem Sm.I {S : List Nat} {M M' : Mem} (h : Sm S M M') {p : Nat} (hp : p ∉ S) : mI M' p = mI M p := (h.1 p hp).1
theorem Sm.J {S : List Nat} {M M' : Mem} (h : Sm S M M') {p : Nat} (hp : p ∉ S) : mJ M' p = mJ M p := (h.1 p hp).2
-- reading behind a write
theorem rI_at (M : Mem) (p k : Nat) (v : Int32) : mI (sI M p k v) p k = v := up2_at _ _ _ _
theorem rI_np {M : Mem} {p k q : Nat} {v : Int32} (h : q ≠ p) : mI (sI M p k v) q = mI M q := up2_ne h
theorem rI_nk {M : Mem} {p k q j : Nat} {v : Int32} (h : j ≠ k) : mI (sI M p k v) q j = mI M q j := up2_nk h
theorem rJ_at (M : Mem) (p k : Nat) (v : Int64) : mJ (sJ M p k v) p k = v := up2_at _ _ _ _
theorem rJ_np {M : Mem} {p k q : Nat} {v : Int64} (h : q ≠ p) : mJ (sJ M p k v) q = mJ M q := up2_ne h
theorem rJ_nk {M : Mem} {p k q j : Nat} {v : Int64} (h : j ≠ k) : mJ (sJ M p k v) q j = mJ M q j := up2_nk h
theorem rI_J (M : Mem) (p k : Nat) (v : Int64) : mI (sJ M p k v) = mI M := rfl
theorem rJ_I (M : Mem) (p k : Nat) (v : Int32) : mJ (sI M p k v) = mJ M := rfl
theorem MacSh.sm {S : List Nat} {M M' : Mem} {r : Nat} (h : Sm S M M') (hs : MacSh M r) : MacSh M' r := by
  obtain ⟨-, h1, h2, h3, -, -⟩ := h
  unfold MacSh at hs ⊢
  rw [h1, h2, h3]; exact hs
theorem MacAt.sm {S : List Nat} {M M' : Mem} {r : Nat} {A : PM} (h : Sm S M M') (ha : MacAt M r A) (h0 : r ∉ S) (h1 : r + 1 ∉ S) (h2 : r + 2 ∉ S) : MacAt M' r A := by
  unfold MacAt at ha ⊢
  rw [h.I h0, h.I h1, h.I h2]; exact ha
/-- lists of words -/
def LstSh (M : Mem) (r cap : Nat) : Prop := mK M r = 11 ∧ mR M r 1 = r + 1 ∧ mK M (r + 1) = 2 ∧ mN M (r + 1) = cap
def LstAt (M : Mem) (r : Nat) (L : List (List Nat)) : Prop := mI M r 0 = nI L.length ∧ ∀ j, j < L.length → mJ M (r + 1) j = lN (cd (L.getD j []))
/-- words that a list may hold -/
def okL (L : List (List Nat)) : Prop := ∀ w, w ∈ L → vw 4 w ∧ w.length ≤ 30
theorem okL.get {L : List (List Nat)} (h : okL L) {j : Nat} (hj : j < L.length) : vw 4 (L.getD j []) ∧ (L.getD j []).length ≤ 30 := by
  rw [List.getD, List.getElem?_eq_getElem hj]
  exact h _ (List.getElem_mem hj)
theorem LstSh.sm {S : List Nat} {M M' : Mem} {r cap : Nat} (h : Sm S M M') (hs : LstSh M r cap) : LstSh M' r cap := by
  obtain ⟨-, h1, h2, h3, -, -⟩ := h
  unfold LstSh at hs ⊢
  rw [h1, h2, h3]; exact hs
theorem LstAt.sm {S : List Nat} {M M' : Mem} {r : Nat} {L : List (List Nat)} (h : Sm S M M') (ha : LstAt M r L) (h0 : r ∉ S) (h1 : r + 1 ∉ S) : LstAt M' r L := by
  unfold LstAt at ha ⊢
  rw [h.I h0, h.J h1]; exact ha
section Lists
variable {d r cap : Nat} {Q : Option Value → Mem → Prop} {M : Mem} {L : List (List Nat)}
theorem w_X9_clear (hd : 1 < d) (hs : LstSh M r cap) (h : Q none (sI M r 0 0)) : ClD d mdX9_clear [.ref r] M Q :=
  ⟨1, hd, Cl.of moX9_clear (Nat.le_of_ble_eq_true rfl) (gX9_clear_0 hs.1 ⟨rfl, h⟩)⟩
theorem LstAt.nil {M : Mem} {r : Nat} : LstAt (sI M r 0 0) r [] := ⟨rI_at _ _ _ _, fun j hj => by simp at hj⟩
/-- a word at the end, where there is room -/
def lAdd (M : Mem) (r n : Nat) (w : List Nat) : Mem := sJ (sI M r 0 (nI (n + 1))) (r + 1) n (lN (cd w))
theorem Sm.lAdd {S : List Nat} {r : Nat} (h0 : r ∈ S) (h1 : r + 1 ∈ S) (M : Mem) (n : Nat) (w : List Nat) : Sm S M (lAdd M r n w) := (Sm.sI h0 M 0 _).tr (Sm.sJ h1 _ n _)
theorem LstAt.add {M : Mem} {r : Nat} {L : List (List Nat)} (h : LstAt M r L) (w : List Nat) : LstAt (lAdd M r L.length w) r (L ++ [w]) := by
  refine ⟨?_, fun j hj => ?_⟩
  · rw [List.length_append, List.length_singleton]
    exact rI_at _ _ _ _
  · rw [List.length_append, List.length_singleton] at hj
    by_cases e : j = L.length
    · subst e
      rw [show (L ++ [w]).getD L.length [] = w by simp [List.getD]]
      exact rJ_at _ _ _ _
    · have hj' : j < L.length := by omega
      rw [show (L ++ [w]).getD j [] = L.getD j [] by simp [List.getD, List.getElem?_append_left hj']]
      exact (rJ_nk e).trans (h.2 j hj')
theorem w_X9_add {w : List Nat} (hd : 1 < d) (hs : LstSh M r cap) (ha : LstAt M r L) (hl : L.length < cap) (hc : cap < 2 ^ 30) (h : Q none (lAdd M r L.length w)) : ClD d mdX9_add [.ref r, .long (lN (cd w))] M Q := by
  obtain ⟨a1, a2, a3, a4⟩ := hs
  refine ⟨1, hd, Cl.of moX9_add (Nat.le_of_ble_eq_true rfl) (gX9_add_0 a1 (by rw [a2]; exact a3) (fun c => ?_) (fun _ => ?_) (fun _ => ⟨rfl, ?_⟩))⟩
  · rw [a2, a4, ha.1, nI_leI (by omega) (by omega)] at c; omega
  · show vp_in _ (mN M (mR M r 1))
    rw [a2, a4, ha.1]; exact z_in hl (by omega)
  · rw [a2, ha.1, nI_clamp (by omega), nI_add]; exact h
theorem w_X9_get {x : Int32} (hd : 1 < d) (hs : LstSh M r cap) (ha : LstAt M r L) (hl : L.length ≤ cap) (hc : cap < 2 ^ 30) (h1 : ∀ j, j < L.length → x = nI j → Q (some (.long (lN (cd (L.getD j []))))) M) (h2 : (x < 0 ∨ nI L.length ≤ x) → Q (some (.long (-1 : Int64))) M) : ClD d mdX9_get [.ref r, .int x] M Q := by
  obtain ⟨a1, a2, a3, a4⟩ := hs
  refine ⟨1, hd, Cl.of moX9_get (Nat.le_of_ble_eq_true rfl) (gX9_get_0 a1 (by rw [a2]; exact a3) (fun c => ⟨⟨_, rfl⟩, h2 (Or.inl c)⟩) (fun _ c => ⟨⟨_, rfl⟩, h2 (Or.inr (by rw [← ha.1]; exact c))⟩) (fun e1 e2 e3 => ?_) (fun e1 e2 e3 => ⟨⟨_, rfl⟩, ?_⟩) (fun e1 e2 e3 => ?_))⟩ <;> rw [ha.1] at e2 <;> rcases pk_ix x (show L.length < 2 ^ 31 by omega) with g | g | ⟨j, hj, rfl⟩ <;> first | exact absurd g e1 | exact absurd g e2 | skip
  · rw [a2, a4]; exact z_in (by omega) (by omega)
  · rw [a2, nI_clamp (by omega), ha.2 j hj]; exact h1 j hj rfl
  · exfalso; apply e3; rw [a2, a4]; exact nI_lt (by omega) (by omega)
theorem w_lget {j : Nat} (hd : 1 < d) (hs : LstSh M r cap) (ha : LstAt M r L) (hl : L.length ≤ cap) (hc : cap < 2 ^ 30) (hj : j < L.length) (h : Q (some (.long (lN (cd (L.getD j []))))) M) : ClD d mdX9_get [.ref r, .int (nI j)] M Q :=
  w_X9_get hd hs ha hl hc (fun i _ e => by rw [← (nI_eq (show j < 2 ^ 31 by omega) (by omega)).mp e]; exact h) (fun c => by
    rcases c with c | c
    · exact absurd c (nI_pos (by omega))
    · exact absurd c (nI_ge hj (by omega)))
theorem w_X9_last (hd : 2 < d) (hs : LstSh M r cap) (ha : LstAt M r L) (hl : L.length ≤ cap) (hc : cap < 2 ^ 30) (hne : 0 < L.length) (h : Q (some (.long (lN (cd (L.getD (L.length - 1) []))))) M) : ClD d mdX9_last [.ref r] M Q := by
  refine ⟨2, hd, Cl.of moX9_last (Nat.le_of_ble_eq_true rfl) (gX9_last_0 hs.1 ?_)⟩
  rw [ha.1, z_sub (by omega)]
  exact w_lget (by decide) hs ha hl hc (by omega) (gX9_last_10 ⟨⟨_, rfl⟩, h⟩)
/-- the first place of a word in a list -/
def ixO (L : List (List Nat)) (w : List Nat) : Option Nat := (List.range L.length).find? (fun j => L.getD j [] == w)
theorem w_X9_indexOf {w : List Nat} (hd : 1 < d) (hs : LstSh M r cap) (ha : LstAt M r L) (hl : L.length ≤ cap) (hc : cap < 2 ^ 30) (hok : okL L) (hw : vw 4 w) (hwl : w.length ≤ 30) (h1 : ∀ j, j < L.length → L.getD j [] = w → (∀ i, i < j → L.getD i [] ≠ w) → Q (some (.int (nI j))) M) (h2 : (∀ j, j < L.length → L.getD j [] ≠ w) → Q (some (.int (-1 : Int32))) M) : ClD d mdX9_indexOf [.ref r, .long (lN (cd w))] M Q := by
  obtain ⟨a1, a2, a3, a4⟩ := hs
  refine ⟨1, hd, Cl.of moX9_indexOf (Nat.le_of_ble_eq_true rfl) (gX9_indexOf_0 ?_)⟩
  suffices H : ∀ f i, i + f = L.length → (∀ j, j < i → L.getD j [] ≠ w) → Wp 1 mdX9_indexOf 2 [(0, .ref r), (1, .long (lN (cd w))), (3, .int (nI i))] [] M (fun r M' => ROK mdX9_indexOf r ∧ Q r M') from H L.length 0 (by omega) (fun j hj => by omega)
  intro f
  induction f with
  | zero =>
    intro i hi hno
    have e : i = L.length := by omega
    subst e
    have c0 : mI M r 0 ≤ nI L.length := by rw [ha.1]; exact nI_le (Nat.le_refl _) (by omega)
    exact gX9_indexOf_2 a1 (by rw [a2]; exact a3) (fun _ => ⟨⟨_, rfl⟩, h2 hno⟩) (fun c _ => absurd c0 c) (fun c _ => absurd c0 c) (fun c _ _ => absurd c0 c) (fun c _ _ => absurd c0 c)
  | succ f ih =>
    intro i hi hno
    have e1 : mJ M (mR M r 1) (nI i).toNatClampNeg = lN (cd (L.getD i [])) := by rw [a2, nI_clamp (by omega)]; exact ha.2 i (by omega)
    have hg := hok.get (j := i) (by omega)
    have k1 := cd30 hg.1 hg.2
    have k2 := cd30 hw hwl
    refine gX9_indexOf_2 a1 (by rw [a2]; exact a3) (fun c => ?_) (fun _ c => ?_) (fun _ _ => ?_) (fun _ _ c => ?_) (fun _ _ c => ⟨⟨_, rfl⟩, ?_⟩)
    · rw [ha.1] at c; exact absurd c (nI_ge (by omega) (by omega))
    · rw [a2, a4] at c; exact absurd c (nI_ge (by omega) (by omega))
    · rw [a2, a4]; exact z_in (by omega) (by omega)
    · rw [e1] at c
      rw [nI_add]
      refine ih (i + 1) (by omega) (fun j hj => ?_)
      by_cases ej : j = i
      · subst ej; intro e; exact c (by rw [e])
      · exact hno j (by omega)
    · rw [e1, pk_lEQ (by omega) (by omega)] at c
      exact h1 i (by omega) (cd_inj hg.1 hw c) hno
theorem w_X9_has {w : List Nat} (hd : 2 < d) (hs : LstSh M r cap) (ha : LstAt M r L) (hl : L.length ≤ cap) (hc : cap < 2 ^ 30) (hok : okL L) (hw : vw 4 w) (hwl : w.length ≤ 30) (h1 : w ∈ L → Q (some (.int (nI 1))) M) (h2 : w ∉ L → Q (some (.int (nI 0))) M) : ClD d mdX9_has [.ref r, .long (lN (cd w))] M Q := by
  refine ⟨2, hd, Cl.of moX9_has (Nat.le_of_ble_eq_true rfl) (gX9_has_0 hs.1 (w_X9_indexOf (by decide) hs ha hl hc hok hw hwl (fun j hj e _ => gX9_has_5 (fun c => ?_) (fun _ => ⟨⟨_, rfl, by decide⟩, h1 ?_⟩)) (fun hno => gX9_has_5 (fun _ => ⟨⟨_, rfl, by decide⟩, h2 ?_⟩) (fun c => absurd rfl c))))⟩
  · exact absurd (show (-1 : Int32) < 0 by decide) (by rw [← c]; exact nI_pos (by omega))
  · rw [← e, List.getD, List.getElem?_eq_getElem hj]; exact List.getElem_mem hj
  · intro hm
    obtain ⟨j, hj, e⟩ := List.getElem_of_mem hm
    exact hno j hj (by rw [List.getD, List.getElem?_eq_getElem hj]; exact e)
end Lists
