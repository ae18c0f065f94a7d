/-! the class's Asking: what was asked, and its cost -/
/-- the words of a list, by their codes -/
def wf (L : List (List Nat)) (c : Nat) : Prop := ∃ w, w ∈ L ∧ cd w = c
def aS (st sp : Nat) (s : List (List Nat) × Nat) (w : List Nat) : List (List Nat) × Nat := if w ∈ s.1 then s else (s.1 ++ [w], s.2 + (st + sp * w.length))
def AskSh (M : Mem) (r m : Nat) : Prop := mK M r = 4 ∧ mR M r 0 = m ∧ mR M r 1 = r + 1 ∧ mK M (r + 1) = 12
/-- the places of the words asked -/
def slq (M : Mem) (r : Nat) : Nat := mR M (r + 1) 1
def AskAt (M : Mem) (r st sp : Nat) (s : List (List Nat) × Nat) : Prop := (mI M r 2 = nI st ∧ mI M r 3 = nI sp ∧ mI M r 4 = nI s.2) ∧ (okL s.1 ∧ s.1.Nodup) ∧ ∃ k T, SetAt M (r + 1) k T s.1.length ∧ hset (2 ^ k) T (wf s.1) ∧ s.1.length < 2 ^ k
/-- frames that may make room for words asked -/
def Fa (r : Nat) (S : List Nat) (M M' : Mem) : Prop := Fm (slq M r :: S) M M' ∧ (slq M' r = slq M r ∨ mC M + 2 ≤ slq M' r) ∧ mC M' + mN M (slq M r) ≤ mC M + mN M' (slq M' r) ∧ mS M' + 2 * mN M (slq M r) ≤ mS M + 2 * mN M' (slq M' r)
theorem Fa.rf (r : Nat) (S : List Nat) (M : Mem) : Fa r S M M := ⟨Fm.rf _ _, Or.inl rfl, Nat.le_refl _, Nat.le_refl _⟩
theorem Sm.fa {r : Nat} {S : List Nat} {M M' : Mem} (h : Sm S M M') : Fa r S M M' := by
  have e : slq M' r = slq M r := by unfold slq; rw [h.2.1]
  refine ⟨(h.mono (fun p hp => by simp [hp])).fm, Or.inl e, ?_, ?_⟩
  · rw [e, h.2.2.2.1, h.2.2.2.2.1]; exact Nat.le_refl _
  · rw [e, h.2.2.2.1, h.2.2.2.2.2]; exact Nat.le_refl _
theorem Fe.fa {r : Nat} {S : List Nat} {M M' : Mem} (h : Fe S M M') (hr : r + 1 < mC M + 2) (hn : r + 1 ∉ S) (hq : slq M r < mC M + 2) : Fa r S M M' := by
  have e : slq M' r = slq M r := by unfold slq; rw [(h.1.1 _ hr hn).2.2]
  refine ⟨h.1.mono (fun p hp => by simp [hp]), Or.inl e, ?_, ?_⟩
  · rw [e, h.1.N hq, h.2.1]; exact Nat.le_refl _
  · rw [e, h.1.N hq, h.2.2]; exact Nat.le_refl _
theorem Fa.tr {r : Nat} {S : List Nat} {M M1 M2 : Mem} (h : Fa r S M M1) (k : Fa r S M1 M2) : Fa r S M M2 := by
  obtain ⟨a1, a2, a3, a4⟩ := h
  obtain ⟨b1, b2, b3, b4⟩ := k
  have c := a1.2.2.2.1
  refine ⟨a1.tr b1 (fun p hp => ?_), ?_, by omega, by omega⟩
  · simp only [List.mem_cons] at hp ⊢
    rcases hp with hp | hp
    · subst hp
      rcases a2 with e | e
      · exact Or.inl (Or.inl e)
      · exact Or.inr e
    · exact Or.inl (Or.inr hp)
  · rcases b2 with e | e
    · rcases a2 with g | g
      · exact Or.inl (e.trans g)
      · exact Or.inr (by rw [e]; exact g)
    · exact Or.inr (by omega)
theorem Fa.mono {r : Nat} {S T : List Nat} {M M' : Mem} (h : Fa r S M M') (hs : ∀ p, p ∈ S → p ∈ T) : Fa r T M M' := ⟨h.1.mono (fun p hp => by simp only [List.mem_cons] at hp ⊢; exact hp.imp id (hs p)), h.2⟩
theorem AskSh.fm {S : List Nat} {M M' : Mem} {r m : Nat} (h : Fm S M M') (hl : r + 1 < mC M + 2) (hs : AskSh M r m) : AskSh M' r m := by
  obtain ⟨a1, a2, a3, a4⟩ := hs
  have nv : ∀ j, ¬ vR (mK M r) j := fun j q => by rw [a1] at q; unfold vR at q; omega
  refine ⟨by rw [h.K (by omega)]; exact a1, ?_, ?_, by rw [h.K hl]; exact a4⟩
  · rw [h.2.2.1 r 0 (by omega) (nv 0)]; exact a2
  · rw [h.2.2.1 r 1 (by omega) (nv 1)]; exact a3
theorem SetAt.fm {S : List Nat} {M M' : Mem} {r k n : Nat} {T : Nat → Nat} (h : Fm S M M') (hl : r < mC M + 2) (hs : SetAt M r k T n) (h0 : r ∉ S) (h1 : mR M r 1 ∉ S) : SetAt M' r k T n := by
  obtain ⟨⟨a1, a2, a3, a4, a5⟩, b, c⟩ := hs
  have e := h.1 r hl h0
  have e2 := h.1 _ a5 h1
  refine ⟨⟨by rw [h.K hl]; exact a1, by rw [e.2.2, h.K a5]; exact a2, by rw [e.2.2, h.N a5]; exact a3, by rw [e.1]; exact a4, by rw [e.2.2]; have := h.2.2.2.1; omega⟩, fun j hj => ?_, c⟩
  rw [e.2.2, e2.2.1]; exact b j hj
theorem AskAt.fm {S : List Nat} {M M' : Mem} {r st sp : Nat} {s : List (List Nat) × Nat} (h : Fm S M M') (hl : r + 1 < mC M + 2) (hs : AskAt M r st sp s) (h0 : r ∉ S) (h1 : r + 1 ∉ S) (h2 : slq M r ∉ S) : AskAt M' r st sp s := by
  obtain ⟨⟨a1, a2, a3⟩, b, k, T, c, d⟩ := hs
  have e := h.1 r (by omega) h0
  exact ⟨⟨by rw [e.1]; exact a1, by rw [e.1]; exact a2, by rw [e.1]; exact a3⟩, b, k, T, c.fm h hl h1 h2, d⟩
theorem wf_in {L : List (List Nat)} (hL : okL L) {w : List Nat} (hw : vw 4 w) : wf L (cd w) ↔ w ∈ L := by
  constructor
  · rintro ⟨v, v1, v2⟩
    rw [← cd_inj (hL v v1).1 hw v2]; exact v1
  · exact fun h => ⟨w, h, rfl⟩
theorem wf_add (L : List (List Nat)) (w : List Nat) (c : Nat) : wf (L ++ [w]) c ↔ c = cd w ∨ wf L c := by
  unfold wf
  constructor
  · rintro ⟨v, v1, v2⟩
    rcases List.mem_append.mp v1 with h | h
    · exact Or.inr ⟨v, h, v2⟩
    · rw [List.mem_singleton] at h; subst h; exact Or.inl v2.symm
  · rintro (h | ⟨v, v1, v2⟩)
    · exact ⟨w, by simp, h.symm⟩
    · exact ⟨v, by simp [v1], v2⟩
theorem aS_ok {st sp : Nat} {s : List (List Nat) × Nat} {w : List Nat} (h : okL s.1) (hw : vw 4 w) (hl : w.length ≤ 30) : okL (aS st sp s w).1 := by
  unfold aS
  split
  · exact h
  · intro v hv
    rcases List.mem_append.mp hv with g | g
    · exact h v g
    · rw [List.mem_singleton] at g; subst g; exact ⟨hw, hl⟩
theorem nodup_snoc {L : List (List Nat)} {w : List Nat} (h : L.Nodup) (hw : w ∉ L) : (L ++ [w]).Nodup := by
  rw [List.nodup_append]
  refine ⟨h, by simp, fun a ha b hb => ?_⟩
  rw [List.mem_singleton] at hb
  subst hb
  intro e; subst e; exact hw ha
section Ask
variable {d r m st sp : Nat} {Q : Option Value → Mem → Prop} {M : Mem} {s : List (List Nat) × Nat} {A : PM}
theorem w_X0_ask {w : List Nat} (hd : 3 < d) (hs : AskSh M r m) (ha : AskAt M r st sp s) (hm : MacSh M m) (hA0 : MacAt M m A) (hA : okM A) (hw : vw (pl A) w) (hl : w.length ≤ 30) (hn : s.1.length < 8192) (hrl : r + 1 < mC M + 2) (hmr : m + 3 < r) (hq : ∀ i, i < 4 → m + i ≠ slq M r) (hq2 : slq M r ≠ r)
    (h : ∀ M', Fa r [r, r + 1] M M' → AskAt M' r st sp (aS st sp s w) → Q (some (.int (nI (an A 0 w)))) M') : ClD d mdX0_ask [.ref r, .long (lN (cd w))] M Q := by
  obtain ⟨⟨b1, b2, b3⟩, ⟨b4, b5⟩, k, T, b6, b7, b8⟩ := ha
  have hw4 := vw_mono hw (show pl A ≤ 4 by have := hA.2.1.2; omega)
  have hc := cd30 hw4 hl
  have a0 : 0 < pn A := hA.1.1
  refine ⟨3, hd, Cl.of moX0_ask (Nat.le_of_ble_eq_true rfl) (gX0_ask_0 hs.1 (by rw [hs.2.2.1]; exact hs.2.2.2) ?_)⟩
  rw [hs.2.2.1]
  refine w_X10_makeRoom (by decide) b6 b7 b8 hrl (fun k' T' M1 F1 s1 f1 g1 c1 c2 q1 => ?_)
  have hs1 := hs.fm F1 hrl
  have n2 : s.1.length < 2 ^ k' ∧ s.1.length + 1 < 2 ^ k' := by
    have := (p2k s1.2.2.2.2.1 s1.2.2.2.2.2).1
    omega
  have N0 : mN M (slq M r) = 2 ^ k := b6.1.2.2.1
  have N1 : mN M1 (slq M1 r) = 2 ^ k' := s1.1.2.2.1
  have q1 : slq M1 r = slq M r ∨ mC M + 2 ≤ slq M1 r := q1
  have Fa1 : Fa r [r, r + 1] M M1 := ⟨F1.mono (fun p hp => by simp only [List.mem_singleton] at hp; simp [hp]), q1, by omega, by omega⟩
  have rI1 : mI M1 r = mI M r := F1.I (by omega) (by simp)
  -- behind the asking
  have fin : ∀ M2, Fa r [r, r + 1] M M2 → AskAt M2 r st sp (aS st sp s w) → Wp 3 mdX0_ask 41 [(0, .ref r), (1, .long (lN (cd w)))] [] M2 (fun r M' => ROK mdX0_ask r ∧ Q r M') := by
    intro M2 F2 A2
    have hs2 := hs.fm F2.1 hrl
    have nin : ∀ i, i < 4 → m + i ∉ slq M r :: [r, r + 1] := fun i hi q => by
      simp only [List.mem_cons, List.not_mem_nil, or_false] at q
      have := hq i hi
      omega
    have hm2 := hm.fm F2.1 (by omega)
    have hA2 := hA0.fm F2.1 (by omega) (nin 0 (by omega)) (nin 1 (by omega)) (nin 2 (by omega))
    refine gX0_ask_41 hs2.1 (by rw [hs2.2.1]; exact hm2.1.1) ?_
    rw [hs2.2.1]
    refine w_X2_endFrom (s := some 0) (by decide) hm2 hA2 hA.bd (fun j e => by cases e; decide) hw4 hl ?_
    rw [rnO_ok hA a0 hw]
    have e8 := rn_lt hA a0 hw
    have a8 := hA.1.2
    refine gX0_ask_54 hm2.1.1 (w_outO (s := some (rn (pt A) 0 w)) (by decide) hm2 hA2 hA.bd (fun j e => by cases e; omega) (gX0_ask_57 ⟨⟨_, rfl⟩, ?_⟩))
    rw [show ouO A (some (rn (pt A) 0 w)) = some (po A (rn (pt A) 0 w)) from if_pos e8]
    exact h M2 F2 A2
  refine gX0_ask_7 hs1.1 (by rw [hs1.2.2.1]; exact hs1.2.2.2) ?_
  rw [hs1.2.2.1]
  refine w_X10_add (by decide) s1 f1 n2.1 (cd_pos w) hc (fun hin => ?_) (fun hin T2 M2 S2 s2 f2 => ?_)
  · have hin := (wf_in b4 hw4).mp hin
    refine gX0_ask_15 hs1.1 (fun _ => fin M1 Fa1 ?_) (fun c => absurd rfl c)
    rw [show aS st sp s w = s from if_pos hin]
    exact ⟨⟨by rw [rI1]; exact b1, by rw [rI1]; exact b2, by rw [rI1]; exact b3⟩, ⟨b4, b5⟩, k', T', s1, f1, n2.1⟩
  · have hin : w ∉ s.1 := fun q => hin ((wf_in b4 hw4).mpr q)
    have hs2 := hs1.fm S2.fm (by have := F1.2.2.2.1; omega)
    have q2 : slq M2 r = slq M1 r := by unfold slq; rw [S2.2.1]
    have nr : r ∉ [r + 1, mR M1 (r + 1) 1] := by
      intro q
      simp only [List.mem_cons, List.not_mem_nil, or_false] at q
      have : slq M1 r = mR M1 (r + 1) 1 := rfl
      omega
    have rI2 : mI M2 r = mI M r := (S2.I nr).trans rI1
    refine gX0_ask_15 hs2.1 (fun c => absurd c (by decide)) (fun _ => w_X1_length (by decide) hw4 hl ?_)
    refine gX0_ask_35 hs2.1 (fin _ ?_ ?_)
    · refine Fa1.tr ?_
      have e3 : Fm (slq M1 r :: [r, r + 1]) M1 (sI M2 r 4 (mI M2 r 4 + (mI M2 r 2 + mI M2 r 3 * nI w.length))) := ((S2.mono (fun p hp => by
        simp only [List.mem_cons, List.not_mem_nil, or_false] at hp
        rcases hp with e | e
        · simp [e]
        · rw [e]; exact List.mem_cons_self)).tr (Sm.sI (by simp) _ _ _)).fm
      have q3 : slq (sI M2 r 4 (mI M2 r 4 + (mI M2 r 2 + mI M2 r 3 * nI w.length))) r = slq M1 r := q2
      refine ⟨e3, Or.inl q3, ?_, ?_⟩
      · rw [q3]
        show mC M2 + mN M1 _ ≤ mC M1 + mN M2 _
        rw [S2.2.2.2.1, S2.2.2.2.2.1]; exact Nat.le_refl _
      · rw [q3]
        show mS M2 + 2 * mN M1 _ ≤ mS M1 + 2 * mN M2 _
        rw [S2.2.2.2.1, S2.2.2.2.2.2]; exact Nat.le_refl _
    · have ea : aS st sp s w = (s.1 ++ [w], s.2 + (st + sp * w.length)) := if_neg hin
      rw [ea, rI2, b1, b2, b3, pk_mul, nI_add, nI_add]
      refine ⟨⟨by rw [rI_nk (by decide), rI2]; exact b1, by rw [rI_nk (by decide), rI2]; exact b2, rI_at _ _ _ _⟩, ⟨?_, nodup_snoc b5 hin⟩, k', T2, ?_, ?_, ?_⟩
      · have := aS_ok (st := st) (sp := sp) b4 hw4 hl
        rw [ea] at this; exact this
      · rw [List.length_append, List.length_singleton]
        exact s2.fm (S := [r]) (Sm.sI (by simp) _ _ _).fm (by rw [S2.2.2.2.2.1]; have := F1.2.2.2.1; omega) (by simp) (fun q => by
          simp only [List.mem_singleton] at q
          apply nr
          rw [S2.2.1] at q
          rw [q]; simp)
      · intro c
        rw [wf_add]; exact f2 c
      · rw [List.length_append, List.length_singleton]; exact n2.2
theorem w_X0_charge {x y : Int32} (hd : 1 < d) (hs : AskSh M r m) (h : Q none (sI (sI M r 2 x) r 3 y)) : ClD d mdX0_charge [.ref r, .int x, .int y] M Q :=
  ⟨1, hd, Cl.of moX0_charge (Nat.le_of_ble_eq_true rfl) (gX0_charge_0 hs.1 ⟨rfl, h⟩)⟩
theorem w_X0_forget (hd : 3 < d) (hs : AskSh M r m) (ha : AskAt M r st sp s) (hq2 : slq M r ≠ r) (hq3 : slq M r ≠ r + 1) (hrl : r + 1 < mC M + 2)
    (h : ∀ M', Sm [r, r + 1, slq M r] M M' → AskAt M' r st sp ([], 0) → Q none M') : ClD d mdX0_forget [.ref r] M Q := by
  obtain ⟨⟨b1, b2, b3⟩, ⟨b4, b5⟩, k, T, b6, b7, b8⟩ := ha
  refine ⟨3, hd, Cl.of moX0_forget (Nat.le_of_ble_eq_true rfl) (gX0_forget_0 hs.1 (by rw [hs.2.2.1]; exact hs.2.2.2) ?_)⟩
  rw [hs.2.2.1]
  refine w_X10_clear (by decide) b6 hq3 (fun M1 S1 s1 => gX0_forget_7 (by rw [S1.2.2.1]; exact hs.1) ⟨rfl, ?_⟩)
  have nr : r ∉ [r + 1, mR M (r + 1) 1] := by
    intro q
    simp only [List.mem_cons, List.not_mem_nil, or_false] at q
    have : slq M r = mR M (r + 1) 1 := rfl
    omega
  refine h _ ((S1.mono (fun p hp => ?_)).tr (Sm.sI (by simp) _ _ _)) ⟨⟨?_, ?_, ?_⟩, ⟨fun w hw => by simp at hw, List.nodup_nil⟩, k, (fun _ => 0), ?_, ?_, ?_⟩
  · simp only [List.mem_cons, List.not_mem_nil, or_false] at hp
    rcases hp with e | e
    · simp [e]
    · rw [e]; show slq M r ∈ _; simp
  · rw [rI_nk (by decide), S1.I nr]; exact b1
  · rw [rI_nk (by decide), S1.I nr]; exact b2
  · exact rI_at _ _ _ _
  · exact s1.fm (S := [r]) (Sm.sI (by simp) _ _ _).fm (by rw [S1.2.2.2.2.1]; exact hrl) (by simp) (fun q => by
      simp only [List.mem_singleton] at q
      rw [S1.2.1] at q
      exact hq2 q)
  · intro c
    rw [← hset_0 (2 ^ k) c]
    exact ⟨fun ⟨w, hw, _⟩ => by simp at hw, fun q => q.elim⟩
  · have := (p2k s1.2.2.2.2.1 s1.2.2.2.2.2).1
    simp; omega
end Ask
