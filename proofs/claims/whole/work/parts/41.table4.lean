/-! the class's Table: a pupil of METHOD 0, 1, 2; its step and its lesson -/
/-- what may change -/
def tabS (r b n : Nat) : List Nat := r :: (r + 1) :: (List.range n).map (fun i => b + i)
theorem tabS_mem {r b n p : Nat} : p ∈ tabS r b n ↔ p = r ∨ p = r + 1 ∨ (b ≤ p ∧ p < b + n) := by
  unfold tabS
  simp only [List.mem_cons, List.mem_map, List.mem_range]
  constructor
  · rintro (h | h | ⟨i, i1, i2⟩)
    · exact Or.inl h
    · exact Or.inr (Or.inl h)
    · exact Or.inr (Or.inr (by omega))
  · rintro (h | h | h)
    · exact Or.inl h
    · exact Or.inr (Or.inl h)
    · exact Or.inr (Or.inr ⟨p - b, by omega, by omega⟩)
noncomputable def stepT (A : PM) (st sp : Nat) (p : PS) : Nat × PS :=
  match fO A (qH p) (qT p) with
  | some i => (1, qm p, aSs st sp (qs p) (rwW (pl A) (qH p) (qT p)), ql p, qH p ++ [(qH p).getD (i / pl A) [] ++ [i % pl A]], qT p, qK p, none)
  | none => match (if qm p = 0 then fPt A (qH p) (qT p) else none) with
    | some i => (2, qm p, aSs st sp (qs p) (rwW (pl A) (qH p) (qT p)), ql p, qH p, qT p ++ [nTl A (qH p) (qT p) i], qK p, none)
    | none => (0, qm p, aSs st sp (qs p) (rwW (pl A) (qH p) (qT p)), ql p, qH p, qT p, qK p, some (aT A (qH p) (qT p), gT A (qH p) (qT p)))
def lesT (A : PM) (st sp : Nat) (p : PS) (g : GU) (w : List Nat) : Nat × PS :=
  if qm p = 0 then ((nB (qH p) w (w.length + 1)).length - (qH p).length, qm p, aS st sp (qs p) w, ql p + 1, nB (qH p) w (w.length + 1), qT p, qK p, none)
  else if qm p = 1 then ((nE (qT p) w (w.length + 1)).length - (qT p).length, qm p, aS st sp (qs p) w, ql p + 1, qH p, nE (qT p) w (w.length + 1), qK p, none)
  else (1, qm p, (pA st sp A g w (an A 0 w) 15 0 w.length (aS st sp (qs p) w)).2.2, ql p + 1, qH p, qT p ++ [w.drop (pA st sp A g w (an A 0 w) 15 0 w.length (aS st sp (qs p) w)).2.1], qK p, none)
theorem pA_eq {st sp : Nat} {A : PM} {g : GU} {w : List Nat} {its : Nat} : ∀ {f lo hi : Nat} {s t : List (List Nat) × Nat}, eqS s t → (pA st sp A g w its f lo hi s).1 = (pA st sp A g w its f lo hi t).1 ∧ (pA st sp A g w its f lo hi s).2.1 = (pA st sp A g w its f lo hi t).2.1 ∧ eqS (pA st sp A g w its f lo hi s).2.2 (pA st sp A g w its f lo hi t).2.2
  | 0, lo, hi, s, t, h => ⟨rfl, rfl, h⟩
  | f + 1, lo, hi, s, t, h => by
    by_cases c : hi ≤ lo + 1
    · have e : ∀ u, pA st sp A g w its (f + 1) lo hi u = (lo, hi, u) := fun u => if_pos c
      rw [e, e]; exact ⟨rfl, rfl, h⟩
    · by_cases c2 : an A 0 (acc g (w.take ((lo + hi) / 2)) ++ w.drop ((lo + hi) / 2)) = its
      · have e : ∀ u, pA st sp A g w its (f + 1) lo hi u = pA st sp A g w its f ((lo + hi) / 2) hi (aS st sp u (acc g (w.take ((lo + hi) / 2)) ++ w.drop ((lo + hi) / 2))) := fun u => (if_neg c).trans (if_pos c2)
        rw [e, e]; exact pA_eq h.a
      · have e : ∀ u, pA st sp A g w its (f + 1) lo hi u = pA st sp A g w its f lo ((lo + hi) / 2) (aS st sp u (acc g (w.take ((lo + hi) / 2)) ++ w.drop ((lo + hi) / 2))) := fun u => (if_neg c).trans (if_neg c2)
        rw [e, e]; exact pA_eq h.a
/-- high stays within the word, and asked grows -/
theorem pA_hi {st sp : Nat} {A : PM} {g : GU} {w : List Nat} {its : Nat} : ∀ {f lo hi : Nat} {s : List (List Nat) × Nat}, (pA st sp A g w its f lo hi s).2.1 ≤ hi ∧ ∀ v, v ∈ s.1 → v ∈ (pA st sp A g w its f lo hi s).2.2.1
  | 0, lo, hi, s => ⟨Nat.le_refl _, fun _ h => h⟩
  | f + 1, lo, hi, s => by
    by_cases c : hi ≤ lo + 1
    · have e : pA st sp A g w its (f + 1) lo hi s = (lo, hi, s) := if_pos c
      rw [e]; exact ⟨Nat.le_refl _, fun _ h => h⟩
    · by_cases c2 : an A 0 (acc g (w.take ((lo + hi) / 2)) ++ w.drop ((lo + hi) / 2)) = its
      · have e : pA st sp A g w its (f + 1) lo hi s = pA st sp A g w its f ((lo + hi) / 2) hi (aS st sp s (acc g (w.take ((lo + hi) / 2)) ++ w.drop ((lo + hi) / 2))) := (if_neg c).trans (if_pos c2)
        rw [e]
        have := pA_hi (st := st) (sp := sp) (A := A) (g := g) (w := w) (its := its) (f := f) (lo := (lo + hi) / 2) (hi := hi) (s := aS st sp s (acc g (w.take ((lo + hi) / 2)) ++ w.drop ((lo + hi) / 2)))
        exact ⟨this.1, fun v hv => this.2 v ((aS_mem _ _ _ _ _).mpr (Or.inl hv))⟩
      · have e : pA st sp A g w its (f + 1) lo hi s = pA st sp A g w its f lo ((lo + hi) / 2) (aS st sp s (acc g (w.take ((lo + hi) / 2)) ++ w.drop ((lo + hi) / 2))) := (if_neg c).trans (if_neg c2)
        rw [e]
        have := pA_hi (st := st) (sp := sp) (A := A) (g := g) (w := w) (its := its) (f := f) (lo := lo) (hi := (lo + hi) / 2) (s := aS st sp s (acc g (w.take ((lo + hi) / 2)) ++ w.drop ((lo + hi) / 2)))
        exact ⟨by have := this.1; omega, fun v hv => this.2 v ((aS_mem _ _ _ _ _).mpr (Or.inl hv))⟩
def TP (z : Nat) (M : Mem) (b r : Nat) (A : PM) (st sp : Nat) (s : List (List Nat) × Nat) (m ls : Nat) (H T : List (List Nat)) (g : Option GU) : Prop := TI z M b r A st sp s H T ∧ (mI M b 5 = nI m ∧ mI M b 6 = nI ls) ∧ GueAt M b g ∧ ∃ fh ft, (mI M b 7 = nI fh ∧ mI M b 8 = nI ft) ∧ (fh ≤ H.length ∧ ft ≤ T.length) ∧ ∀ k y e, k < fh → y ≤ pl A → e < ft → rwd (H.getD k []) y ++ T.getD e [] ∈ s.1
def TPp (z : Nat) (M : Mem) (b r : Nat) (A : PM) (st sp : Nat) (p : PS) : Prop := qm p < 3 ∧ ∃ s, eqS s (qs p) ∧ TP z M b r A st sp s (qm p) (ql p) (qH p) (qT p) (qg p)
/-- bounds of a table -/
def BT (A : PM) (p : PS) : Prop := (∀ h e, h ∈ qH p → e ∈ qT p → h.length + 1 + e.length ≤ 30) ∧ ([] ∈ qH p ∧ [] ∈ qT p) ∧ ((qH p).length < 128 ∧ (qT p).length < 128) ∧ ∃ X : List (List Nat), (∀ w, w ∈ (qs p).1 → w ∈ X) ∧ (∀ w, w ∈ rwW (pl A) (qH p) (qT p) → w ∈ X) ∧ X.length < 8192
theorem getD_snoc_old {L : List (List Nat)} {w : List Nat} {k : Nat} (h : k < L.length) : (L ++ [w]).getD k [] = L.getD k [] := qk_old h
theorem getD_pre {L K : List (List Nat)} (h : ∃ D, K = L ++ D) {k : Nat} (hk : k < L.length) : K.getD k [] = L.getD k [] := by
  obtain ⟨D, rfl⟩ := h
  simp [List.getD, List.getElem?_append_left hk]
theorem nB_pre (L : List (List Nat)) (w : List Nat) : ∀ n, ∃ D, nB L w n = L ++ D
  | 0 => ⟨[], by rw [List.append_nil]; rfl⟩
  | n + 1 => by
    obtain ⟨D, hD⟩ := nB_pre L w n
    by_cases c : w.take n ∈ nB L w n
    · exact ⟨D, by rw [show nB L w (n + 1) = nB L w n from if_pos c]; exact hD⟩
    · exact ⟨D ++ [w.take n], by rw [show nB L w (n + 1) = nB L w n ++ [w.take n] from if_neg c, hD, List.append_assoc]⟩
theorem nE_pre (L : List (List Nat)) (w : List Nat) : ∀ n, ∃ D, nE L w n = L ++ D
  | 0 => ⟨[], by rw [List.append_nil]; rfl⟩
  | n + 1 => by
    obtain ⟨D, hD⟩ := nE_pre L w n
    by_cases c : w.drop (w.length - n) ∈ nE L w n
    · exact ⟨D, by rw [show nE L w (n + 1) = nE L w n from if_pos c]; exact hD⟩
    · exact ⟨D ++ [w.drop (w.length - n)], by rw [show nE L w (n + 1) = nE L w n ++ [w.drop (w.length - n)] from if_neg c, hD, List.append_assoc]⟩
/-- the guess of a closed table -/
theorem gT_ok {A : PM} {H T : List (List Nat)} (hA : okM A) (hH : okV A H) (hne : 0 < H.length) (hcl : isF (H.length * pl A) (opn A H T) none) : okM (gT A H T) ∧ ∀ s x, s < (aT A H T).length → x < pl A → pt (gT A H T) s x < (aT A H T).length ∧ lk A T (en A (aT A H T) (pt (gT A H T) s x)) (pt A (en A (aT A H T) s) x) := by
  have key : ∀ s x, s < (aT A H T).length → x < pl A → pt (gT A H T) s x < (aT A H T).length ∧ lk A T (en A (aT A H T) (pt (gT A H T) s x)) (pt A (en A (aT A H T) s) x) := by
    intro s x hs hx
    obtain ⟨k, k1, k2, -⟩ := aC_at hs
    have hc := hcl _ (ix_lt k1 hx)
    unfold opn at hc
    rw [ix_div hx, ix_mod hx] at hc
    have hc2 : ∃ j, j < H.length ∧ lk A T (en A H j) (pt A (en A H k) x) := Classical.byContradiction fun q => hc (fun j hj g => q ⟨j, hj, g⟩)
    obtain ⟨j, j1, j2⟩ := hc2
    obtain ⟨i, i1, i2⟩ := aT_of (A := A) (T := T) j1
    have e1 : en A (aT A H T) s = en A H k := by unfold en; rw [show (aT A H T).getD s [] = H.getD k [] from k2]
    have g : lk A T (en A (aT A H T) i) (pt A (en A (aT A H T) s) x) := by rw [e1]; exact (lk_eqv A T).2.2 _ _ _ i2 j2
    rw [gT_t i1 g]
    exact ⟨i1, g⟩
  have hn : pn (gT A H T) = (aT A H T).length := rfl
  refine ⟨⟨⟨?_, ?_⟩, hA.2.1, fun s hs => ?_, fun s hs x hx => (key s x hs hx).1⟩, key⟩
  · rw [hn]; exact Nat.lt_of_le_of_lt (Nat.zero_le _) (aT_of (A := A) (T := T) hne).choose_spec.1
  · rw [hn]; exact aT_len8 hA hH (Nat.le_refl _)
  · exact hA.2.2.1 _ (en_lt hA (okV.aT hH (Nat.le_refl _)) hs)
section TabD
variable {z d r b st sp : Nat} {Q : Option Value → Mem → Prop} {M : Mem} {A : PM} {p : PS}
theorem w_X6_advance (hd : 5 < d) (hi : TPp z M b r A st sp p) (hg : qg p = none) (hB : BT A p)
    (h : ∀ M', Fa r (tabS r b 16) M M' → TPp z M' b r A st sp (stepT A st sp p).2 → Q (some (.int (nI (stepT A st sp p).1))) M') : ClD d mdX6_advance [.ref b] M Q := by
  obtain ⟨hm3, s, hs, hT, ⟨m5, m6⟩, hG, fh, ft, ⟨m7, m8⟩, ⟨f1, f2⟩, hfl⟩ := hi
  obtain ⟨hlen, ⟨hH0, hT0⟩, ⟨hl1, hl2⟩, X, hX1, hX2, hX3⟩ := hB
  have hz := hT.2.2.2.2.2.1
  have hrb := hT.2.2.2.2.2.2
  have hA := hT.r0.2.2.2.1
  rw [hg] at hG
  refine ⟨5, hd, Cl.of moX6_advance (Nat.le_of_ble_eq_true rfl) (gX6_advance_0 hT.1.1.1.2 ?_)⟩
  refine w_X6_askAll (by decide) hT m7 m8 f1 f2 hfl hlen (X := X) (fun w hw => hX1 w ((hs.2.1 w).mp hw)) hX2 hX3 (fun M1 s1 F1 I1 q1 a7 a8 aj ap => ?_)
  have q1' : eqS s1 (aSs st sp (qs p) (rwW (pl A) (qH p) (qT p))) := q1.tr hs.as
  have k8 := I1.1.1.1.2
  have F1' : Fa r (tabS r b 16) M M1 := F1.mono (fun p hp => by rw [tabS_mem]; simp at hp; omega)
  have G1 : GueAt M1 b none := ⟨by rw [ap _ (by omega) (by omega)]; exact hG.1, by have := hG.2; unfold LstAt at this ⊢; rw [ap _ (by omega) (by omega)]; exact ⟨this.1, fun j hj => by simp at hj⟩⟩
  -- the frame of what findLines, headComes, tailComes, joinStates change
  have rows1 : ∀ w, w ∈ rwW (pl A) (qH p) (qT p) → w ∈ s1.1 := fun w hw => (q1'.2.1 w).mpr ((aSs_mem _ _ _ _ _).mpr (Or.inr hw))
  refine gX6_advance_4 k8 (w_X6_findLines (by decide) I1 (fun M2 S2 L2 => gX6_advance_8 ?_ ?_))
  · rw [S2.2.2.1]; exact k8
  have tS2 : tS b [b + 11, b + 12, b + 13, b + 14, b + 15] := fun p hp => by simp at hp; omega
  have I2 := I1.fm S2.fm tS2
  have k82 := I2.1.1.1.2
  have F2 : Fa r (tabS r b 16) M M2 := F1'.tr ((S2.mono (fun p hp => by rw [tabS_mem]; simp at hp; omega)).fa)
  have nb2 : ∀ p, p ≤ b + 10 → p ∉ [b + 11, b + 12, b + 13, b + 14, b + 15] := fun p hp q => by simp at q; omega
  have i2 : mI M2 b = mI M1 b := S2.I (nb2 _ (by omega))
  have G2 : GueAt M2 b none := ⟨by rw [S2.I (nb2 _ (by omega))]; exact G1.1, G1.2.sm S2 (nb2 _ (by omega)) (nb2 _ (by omega))⟩
  have fld : ∀ M', mI M' b = mI M2 b → (mI M' b 5 = nI (qm p) ∧ mI M' b 6 = nI (ql p)) ∧ (mI M' b 7 = nI (qH p).length ∧ mI M' b 8 = nI (qT p).length) := fun M' e => by
    rw [e, i2]
    exact ⟨⟨(aj 5 (by decide) (by decide)).trans m5, (aj 6 (by decide) (by decide)).trans m6⟩, a7, a8⟩
  have fil : ∀ (H' T' : List (List Nat)), (∃ D, H' = qH p ++ D) → (∃ D, T' = qT p ++ D) → ((qH p).length ≤ H'.length ∧ (qT p).length ≤ T'.length) ∧ ∀ k y e, k < (qH p).length → y ≤ pl A → e < (qT p).length → rwd (H'.getD k []) y ++ T'.getD e [] ∈ s1.1 := fun H' T' h1 h2 => by
    refine ⟨⟨?_, ?_⟩, fun k y e hk hy he => ?_⟩
    · obtain ⟨D, rfl⟩ := h1; simp
    · obtain ⟨D, rfl⟩ := h2; simp
    · rw [getD_pre h1 hk, getD_pre h2 he]; exact rows1 _ (rwd_in hk hy he)
  have hstep : ∀ o, fO A (qH p) (qT p) = o → isF ((qH p).length * pl A) (opn A (qH p) (qT p)) o := fun o e => by rw [← e]; exact ff_is _ _
  have hpre : ∀ L : List (List Nat), ∃ D, L = L ++ D := fun L => ⟨[], (List.append_nil L).symm⟩
  refine w_X6_headComes (by decide) I2 L2 (fun _ => hl1) (fun i hi => gX6_advance_12 k82 (fun c => absurd c (by decide)) (fun c => absurd c (by decide)) (fun _ => ⟨⟨_, rfl⟩, ?_⟩)) (fun hno => ?_)
  · have hf : fO A (qH p) (qT p) = some i := ff_eq hi
    have e : stepT A st sp p = (1, qm p, aSs st sp (qs p) (rwW (pl A) (qH p) (qT p)), ql p, qH p ++ [(qH p).getD (i / pl A) [] ++ [i % pl A]], qT p, qK p, none) := by
      unfold stepT; rw [hf]
    rw [e] at h
    obtain ⟨i1, i2', i3⟩ := ix_sp hi.1
    have S3 : Sm [b + 1, b + 2] M2 (lAdd M2 (b + 1) (qH p).length ((qH p).getD (i / pl A) [] ++ [i % pl A])) := Sm.lAdd (by simp) (by simp) _ _ _
    have nb3 : ∀ p, p ≤ b ∨ b + 3 ≤ p → p ∉ [b + 1, b + 2] := fun p hp q => by simp at q; omega
    have hw := I2.2.2.2.1.1.get i1
    have hln := hlen _ _ (getD_mem i1) hT0
    have fd := fld _ (S3.I (nb3 _ (by omega)))
    refine h _ (F2.tr ((S3.mono (fun p hp => by rw [tabS_mem]; simp at hp; omega)).fa)) ⟨hm3, s1, q1', I2.addH hl1 ⟨vw_app.mpr ⟨hw.1, fun v hv => by rw [List.mem_singleton] at hv; rw [hv]; exact i2'⟩, by rw [List.length_append, List.length_singleton]; rw [List.length_nil] at hln; omega⟩, fd.1, ⟨by rw [S3.I (nb3 _ (by omega))]; exact G2.1, G2.2.sm S3 (nb3 _ (by omega)) (nb3 _ (by omega))⟩, _, _, fd.2, fil _ _ ⟨_, rfl⟩ (hpre _)⟩
  · have hf : fO A (qH p) (qT p) = none := ff_eq hno
    -- the guess
    have guess : ∀ M3, Fa r (tabS r b 16) M M3 → TI z M3 b r A st sp s1 (qH p) (qT p) → LnsAt M3 b A (qT p) (qH p) → GueAt M3 b none → mI M3 b = mI M2 b → (if qm p = 0 then fPt A (qH p) (qT p) else none) = none → Wp 5 mdX6_advance 33 [(0, .ref b)] [] M3 (fun r M' => ROK mdX6_advance r ∧ Q r M') := by
      intro M3 F3 I3 L3 G3 hb3 hpt
      have e : stepT A st sp p = (0, qm p, aSs st sp (qs p) (rwW (pl A) (qH p) (qT p)), ql p, qH p, qT p, qK p, some (aT A (qH p) (qT p), gT A (qH p) (qT p))) := by
        unfold stepT; rw [hf]; dsimp only; rw [hpt]
      rw [e] at h
      have hne : 0 < (qH p).length := List.length_pos_of_mem hH0
      have hgo := gT_ok hA I3.2.2.2.1.1 hne hno
      refine gX6_advance_33 I3.1.1.1.2 (w_X6_joinStates (by decide) I3 L3 G3.2 hno (fun M4 S4 l4 t4 => gX6_advance_37 ?_ ?_))
      · rw [S4.2.2.1]; exact I3.1.1.1.2
      have tS4 : tS b [b + 5, b + 6, b + 9] := fun p hp => by simp at hp; omega
      have I4 := I3.fm S4.fm tS4
      have hlw : (s1.1).length < 8192 := Nat.lt_of_le_of_lt (nodupW_le I4.nd (fun w hw => by
        rcases (aSs_mem _ _ _ _ _).mp ((q1'.2.1 w).mp hw) with g | g
        · exact hX1 w g
        · exact hX2 w g)) hX3
      refine w_X3_settle (z := z) (G := gT A (qH p) (qT p)) (by decide) (by omega) (by omega) I4.1.1 I4.2.1 l4 (aT_len8 hA I4.2.2.2.1.1 (Nat.le_refl _)) (okV.aT I4.2.2.2.1.1 (Nat.le_refl _)) (fun w hw => ?_) hlw hgo.1 rfl rfl (fun j hj => rfl) t4 (fun M5 F5 I5 G5 => gX6_advance_41 ⟨⟨_, rfl⟩, ?_⟩)
      · obtain ⟨k, k1, rfl⟩ := mem_getD (aT_mem (Nat.le_refl _) hw)
        obtain ⟨j, j1, j2⟩ := mem_getD hT0
        have := rows1 _ (rwd_in (y := 0) k1 (Nat.zero_le _) j1)
        rw [j2] at this
        simpa [rwd] using this
      · have hb5 : mI M5 b = mI M2 b := ((I4.fb F5 (by omega) (by simp <;> omega)).trans (S4.I (by simp))).trans hb3
        have fd := fld M5 hb5
        refine h M5 ((F3.tr ((S4.mono (fun p hp => by rw [tabS_mem]; simp at hp; omega)).fa)).tr (F5.mono (fun p hp => by rw [tabS_mem]; simp at hp; omega))) ⟨hm3, s1, q1', I4.fa F5 (fun p hp => by simp at hp; omega) I5, fd.1, G5, _, _, fd.2, fil _ _ (hpre _) (hpre _)⟩
    have h5 : mI M2 b 5 = nI (qm p) := (fld M2 rfl).1.1
    refine gX6_advance_12 k82 (fun _ c => ?_) (fun _ c => ?_) (fun c => absurd rfl c)
    · refine guess M2 F2 I2 L2 G2 rfl (if_neg (fun q => c ?_))
      rw [h5, q]; rfl
    · have hm0 : qm p = 0 := by
        rw [h5] at c
        exact (nI_eq (by omega) (by omega)).mp c
      have h29 : ∀ e, e ∈ qT p → e.length ≤ 29 := fun e he => by
        have := hlen _ _ hH0 he
        simp at this; omega
      refine w_X6_tailComes (by decide) I2 L2 h29 (fun _ => hl2) (fun i hi => gX6_advance_28 (fun c => absurd c (by decide)) (fun _ => ⟨⟨_, rfl⟩, ?_⟩)) (fun hno2 => gX6_advance_28 (fun _ => ?_) (fun c => absurd rfl c))
      · have hf2 : fPt A (qH p) (qT p) = some i := ff_eq hi
        have e : stepT A st sp p = (2, qm p, aSs st sp (qs p) (rwW (pl A) (qH p) (qT p)), ql p, qH p, qT p ++ [nTl A (qH p) (qT p) i], qK p, none) := by
          unfold stepT; rw [hf]; dsimp only; rw [if_pos hm0, hf2]
        rw [e] at h
        have S3 : Sm [b + 3, b + 4] M2 (lAdd M2 (b + 3) (qT p).length (nTl A (qH p) (qT p) i)) := Sm.lAdd (by simp) (by simp) _ _ _
        have nb3 : ∀ p, p ≤ b + 2 ∨ b + 5 ≤ p → p ∉ [b + 3, b + 4] := fun p hp q => by simp at q; omega
        have fd := fld _ (S3.I (nb3 _ (by omega)))
        have hx : fPx A (qH p) (qT p) (i / (qH p).length) (i % (qH p).length) < pl A := by
          obtain ⟨-, -, x, x1, x2⟩ := hi.2.1
          obtain ⟨o, ho⟩ : ∃ o, o = ff (pl A) (ptX A (qH p) (qT p) (i / (qH p).length) (i % (qH p).length)) := ⟨_, rfl⟩
          have hF := ff_is (pl A) (ptX A (qH p) (qT p) (i / (qH p).length) (i % (qH p).length))
          unfold fPx
          rw [← ho] at hF ⊢
          cases o with
          | none => exact absurd x2 (hF x x1)
          | some j => exact hF.1
        have hm2 : ∀ j, (qT p).getD j [] ∈ qT p ∨ (qT p).getD j [] = [] := fun j => by
          by_cases q : j < (qT p).length
          · exact Or.inl (getD_mem q)
          · right; rw [List.getD, List.getElem?_eq_none (by omega)]; rfl
        have hv : ∀ j, vw (pl A) ((qT p).getD j []) ∧ ((qT p).getD j []).length ≤ 29 := fun j => by
          rcases hm2 j with q | q
          · exact ⟨(I2.2.2.2.1.2 _ q).1, h29 _ q⟩
          · rw [q]; exact ⟨vw_nil _, by decide⟩
        refine h _ (F2.tr ((S3.mono (fun p hp => by rw [tabS_mem]; simp at hp; omega)).fa)) ⟨hm3, s1, q1', I2.addT hl2 ⟨vw_cons.mpr ⟨hx, (hv _).1⟩, by unfold nTl; rw [List.length_cons]; have := (hv (fPe A (qT p) (pt A (en A (qH p) (i / (qH p).length)) (fPx A (qH p) (qT p) (i / (qH p).length) (i % (qH p).length))) (pt A (en A (qH p) (i % (qH p).length)) (fPx A (qH p) (qT p) (i / (qH p).length) (i % (qH p).length))))).2; omega⟩, fd.1, ⟨by rw [S3.I (nb3 _ (by omega))]; exact G2.1, G2.2.sm S3 (nb3 _ (by omega)) (nb3 _ (by omega))⟩, _, _, fd.2, fil _ _ (hpre _) ⟨_, rfl⟩⟩
      · refine guess M2 F2 I2 L2 G2 rfl ?_
        rw [if_pos hm0]; exact ff_eq hno2
/-- bounds of a lesson -/
def BL (A : PM) (p : PS) (g : GU) (w : List Nat) : Prop := (vw (pl A) w ∧ w.length ≤ 15) ∧ (pl g.2 = pl A ∧ (qm p ≠ 0 → ∀ u, u ∈ g.1 → vw (pl A) u ∧ u.length ≤ 15)) ∧ (qs p).1.length + 32 < 8192 ∧ (qm p = 0 → (nB (qH p) w (w.length + 1)).length ≤ 128) ∧ (qm p = 1 → (nE (qT p) w (w.length + 1)).length ≤ 128) ∧ ((qH p).length < 128 ∧ (qT p).length < 128)
theorem w_X6_lesson {g : GU} {w : List Nat} (hd : 5 < d) (hi : TPp z M b r A st sp p) (hg : qg p = some g) (hB : BL A p g w)
    (h : ∀ M', Fa r (tabS r b 16) M M' → TPp z M' b r A st sp (lesT A st sp p g w).2 → Q (some (.int (nI (lesT A st sp p g w).1))) M') : ClD d mdX6_lesson [.ref b, .long (lN (cd w))] M Q := by
  obtain ⟨hm3, s, hs, hT, ⟨m5, m6⟩, hG, fh, ft, ⟨m7, m8⟩, ⟨f1, f2⟩, hfl⟩ := hi
  obtain ⟨⟨hw, hwl⟩, ⟨hgl, hac⟩, hn, hb0, hb1, hl1, hl2⟩ := hB
  have hz := hT.2.2.2.2.2.1
  have hrb := hT.2.2.2.2.2.2
  have hA := hT.r0.2.2.2.1
  have l3 := hA.2.1.2
  obtain ⟨rk, r0, b0, -, r7⟩ := hT.r0
  have e1 : mR M b 1 = b + 1 := hT.1.1.2.1.2.1
  have e2 : mR M b 2 = b + 3 := hT.1.1.2.1.2.2.1
  have n1 : mI M (b + 1) 0 = nI (qH p).length := hT.2.2.1.1.1
  have n2 : mI M (b + 3) 0 = nI (qT p).length := hT.2.2.1.2.1
  have hls := hs.len
  rw [hg] at hG
  refine ⟨5, hd, Cl.of moX6_lesson (Nat.le_of_ble_eq_true rfl) (gX6_lesson_0 hT.1.1.1.2 (by rw [e1]; exact hT.1.1.2.2.1.1) (by rw [e2]; exact hT.1.1.2.2.2.1.1) (by rw [b0]; exact rk) ?_)⟩
  rw [e1, e2, n1, n2, b0, nI_add]
  refine hT.ask (by decide) hw (by omega) (by omega) (fun M1 F1 I1 => ?_)
  have hb1' : mI M1 b = mI M b := hT.fb F1 (by omega) (by simp <;> omega)
  have S2 : Sm [b] M1 (sI M1 b 6 (mI M1 b 6 + nI 1)) := Sm.sI (by simp) _ _ _
  have tSb : tS b [b] := fun p hp => by simp at hp; omega
  have I2 := I1.fm S2.fm tSb
  obtain ⟨M2, hM2⟩ : ∃ M2, M2 = sI M1 b 6 (mI M1 b 6 + nI 1) := ⟨_, rfl⟩
  have j5 : mI M2 b 5 = nI (qm p) := by rw [hM2, rI_nk (by decide), hb1']; exact m5
  have j6 : mI M2 b 6 = nI (ql p + 1) := by rw [hM2, rI_at, hb1', m6, nI_add]
  have j7 : mI M2 b 7 = nI fh := by rw [hM2, rI_nk (by decide), hb1']; exact m7
  have j8 : mI M2 b 8 = nI ft := by rw [hM2, rI_nk (by decide), hb1']; exact m8
  rw [← hM2] at S2 I2
  have F2 : Fa r (tabS r b 16) M M2 := (F1.mono (fun p hp => by rw [tabS_mem]; simp at hp; omega)).tr ((S2.mono (fun p hp => by rw [tabS_mem]; simp at hp; omega)).fa)
  have F2' : Fa r [r, r + 1, b] M M2 := (F1.mono (fun p hp => by simp at hp; simp <;> omega)).tr ((S2.mono (fun p hp => by simp at hp; simp [hp])).fa)
  have q0 := hT.2.1.2.2.2.2.2
  have gue : ∀ {M3 : Mem}, Fa r [r, r + 1, b, b + 1, b + 2, b + 3, b + 4] M M3 → GueAt M3 b (some g) := fun F3 => by
    have nn : ∀ p, b + 5 ≤ p → p < z → p ∉ slq M r :: [r, r + 1, b, b + 1, b + 2, b + 3, b + 4] := fun p g1 g2 => nq q0.1 g2 (by omega) (fun q => by simp at q; omega)
    exact hG.fm F3.1 (by omega) (nn _ (by omega) (by omega)) (nn _ (by omega) (by omega)) (nn _ (by omega) (by omega)) (nn _ (by omega) (by omega)) (nn _ (by omega) (by omega))
  -- the end
  have fin : ∀ M3 H' T' s', Fa r (tabS r b 16) M M3 → TI z M3 b r A st sp s' H' T' → mI M3 b = mI M2 b → (∃ D, H' = qH p ++ D) → (∃ D, T' = qT p ++ D) → (∀ v, v ∈ s.1 → v ∈ s'.1) → lesT A st sp p g w = (H'.length + T'.length - ((qH p).length + (qT p).length), qm p, (lesT A st sp p g w).2.2.1, ql p + 1, H', T', qK p, none) → eqS s' (qs (lesT A st sp p g w).2) → Wp 5 mdX6_lesson 85 [(0, .ref b), (3, .int (nI ((qH p).length + (qT p).length)))] [] M3 (fun r M' => ROK mdX6_lesson r ∧ Q r M') := by
    intro M3 H' T' s' F3 I3 hb3 hH' hT' hss he hs'
    refine gX6_lesson_85 I3.1.1.1.2 (w_X3_dropGuess (by decide) I3.1.1 (fun M4 S4 G4 => ?_))
    have tS4 : tS b [b + 5, b + 7] := fun p hp => by simp at hp; omega
    have I4 := I3.fm S4.fm tS4
    have e1 : mR M4 b 1 = b + 1 := I4.1.1.2.1.2.1
    have e2 : mR M4 b 2 = b + 3 := I4.1.1.2.1.2.2.1
    have n1 : mI M4 (b + 1) 0 = nI H'.length := I4.2.2.1.1.1
    have n2 : mI M4 (b + 3) 0 = nI T'.length := I4.2.2.1.2.1
    have hb4 : mI M4 b = mI M2 b := (S4.I (by simp)).trans hb3
    refine gX6_lesson_89 I4.1.1.1.2 (by rw [e1]; exact I4.1.1.2.2.1.1) (by rw [e2]; exact I4.1.1.2.2.2.1.1) ⟨⟨_, rfl⟩, ?_⟩
    have hh : (qH p).length ≤ H'.length := by obtain ⟨D, rfl⟩ := hH'; simp
    have ht : (qT p).length ≤ T'.length := by obtain ⟨D, rfl⟩ := hT'; simp
    rw [e1, e2, n1, n2, nI_add, z_sub (by omega)]
    have e9 : (lesT A st sp p g w).1 = H'.length + T'.length - ((qH p).length + (qT p).length) := by rw [he]
    rw [← e9]
    refine h M4 (F3.tr ((S4.mono (fun p hp => by rw [tabS_mem]; simp at hp; omega)).fa)) ?_
    have p1 : qm (lesT A st sp p g w).2 = qm p := by rw [he]; rfl
    have p2 : ql (lesT A st sp p g w).2 = ql p + 1 := by rw [he]; rfl
    have p3 : qH (lesT A st sp p g w).2 = H' := by rw [he]; rfl
    have p4 : qT (lesT A st sp p g w).2 = T' := by rw [he]; rfl
    have p5 : qg (lesT A st sp p g w).2 = none := by rw [he]; rfl
    unfold TPp
    rw [p1, p2, p3, p4, p5]
    refine ⟨hm3, s', hs', I4, ⟨by rw [hb4]; exact j5, by rw [hb4]; exact j6⟩, G4, fh, ft, ⟨by rw [hb4]; exact j7, by rw [hb4]; exact j8⟩, ⟨by omega, by omega⟩, fun k y e hk hy he' => ?_⟩
    rw [getD_pre hH' (by omega), getD_pre hT' (by omega)]
    exact hss _ (hfl k y e hk hy he')
  have hpre : ∀ L : List (List Nat), ∃ D, L = L ++ D := fun L => ⟨[], (List.append_nil L).symm⟩
  have hsub : ∀ v, v ∈ s.1 → v ∈ (aS st sp s w).1 := fun v hv => (aS_mem _ _ _ _ _).mpr (Or.inl hv)
  have han := an_lt hA hw
  refine gX6_lesson_24 I1.1.1.1.2 ?_ ?_ ?_
  · rw [← hM2, j5]
    intro c0 c1
    have hm : ¬ qm p = 0 ∧ ¬ qm p = 1 := ⟨fun e => c0 (by rw [e]; rfl), fun e => c1 (by rw [e])⟩
    have he0 : lesT A st sp p g w = (1, qm p, (pA st sp A g w (an A 0 w) 15 0 w.length (aS st sp (qs p) w)).2.2, ql p + 1, qH p, qT p ++ [w.drop (pA st sp A g w (an A 0 w) 15 0 w.length (aS st sp (qs p) w)).2.1], qK p, none) := by
      unfold lesT; rw [if_neg hm.1, if_neg hm.2]
    have hlas := aS_len st sp s w
    refine w_X3_partingAt (z := z) (g := g) (by decide) (by omega) (by omega) I2.1.1 I2.2.1 (gue (F2'.mono (fun p hp => by simp at hp; simp <;> omega))) hgl (hac hm.1) hw hwl han (by omega) (fun M3 F3 I3 => ?_)
    have hpe := pA_eq (st := st) (sp := sp) (A := A) (g := g) (w := w) (its := an A 0 w) (f := 15) (lo := 0) (hi := w.length) (hs.a (st := st) (sp := sp) (w := w))
    have hph := pA_hi (st := st) (sp := sp) (A := A) (g := g) (w := w) (its := an A 0 w) (f := 15) (lo := 0) (hi := w.length) (s := aS st sp s w)
    have T3 := I2.fa F3 (fun p hp => by simp at hp; omega) I3
    have hb3 : mI M3 b = mI M2 b := I2.fb F3 (by omega) (by simp <;> omega)
    have e23 : mR M2 b 2 = b + 3 := I2.1.1.2.1.2.2.1
    rw [e23]
    refine gX6_lesson_79 (w_X1_behind (by decide) (vw_mono hw (by omega)) (by omega) hph.1 (gX6_lesson_82 T3.1.1.2.2.2.1.1 ?_))
    refine w_X9_add (cap := 128) (by decide) T3.1.1.2.2.2.1 T3.2.2.1.2 hl2 (by decide) ?_
    have hT4 := T3.addT hl2 (w := w.drop (pA st sp A g w (an A 0 w) 15 0 w.length (aS st sp s w)).2.1) ⟨vw_drop hw _, by rw [List.length_drop]; omega⟩
    have S4 : Sm [b + 3, b + 4] M3 (lAdd M3 (b + 3) (qT p).length (w.drop (pA st sp A g w (an A 0 w) 15 0 w.length (aS st sp s w)).2.1)) := Sm.lAdd (by simp) (by simp) _ _ _
    refine fin _ _ _ _ ((F2.tr (F3.mono (fun p hp => by rw [tabS_mem]; simp at hp; omega))).tr ((S4.mono (fun p hp => by rw [tabS_mem]; simp at hp; omega)).fa)) hT4 ((S4.I (by simp)).trans hb3) (hpre _) ⟨_, rfl⟩ (fun v hv => hph.2 v (hsub v hv)) ?_ ?_
    · rw [he0, List.length_append, List.length_singleton, hpe.2.1]
      rw [show (qH p).length + ((qT p).length + 1) - ((qH p).length + (qT p).length) = 1 by omega]
    · rw [he0]; exact hpe.2.2
  · rw [← hM2, j5]
    intro c0 c1
    have hm : qm p = 1 := (nI_eq (by omega) (by omega)).mp c1
    have he0 : lesT A st sp p g w = ((nE (qT p) w (w.length + 1)).length - (qT p).length, qm p, aS st sp (qs p) w, ql p + 1, qH p, nE (qT p) w (w.length + 1), qK p, none) := by
      unfold lesT; rw [if_neg (by omega), if_pos hm]
    refine w_X6_noteEnds (by decide) I2 hw (by omega) (hb1 hm) (fun M3 S3 I3 => gX6_lesson_64 ?_)
    refine fin _ _ _ _ (F2.tr ((S3.mono (fun p hp => by rw [tabS_mem]; simp at hp; omega)).fa)) I3 (S3.I (by simp)) (hpre _) (nE_pre _ _ _) hsub ?_ ?_
    · rw [he0]
      rw [show (qH p).length + (nE (qT p) w (w.length + 1)).length - ((qH p).length + (qT p).length) = (nE (qT p) w (w.length + 1)).length - (qT p).length by omega]
    · rw [he0]; exact hs.a
  · rw [← hM2, j5]
    intro c0
    have hm : qm p = 0 := (nI_eq (by omega) (by omega)).mp c0
    have he0 : lesT A st sp p g w = ((nB (qH p) w (w.length + 1)).length - (qH p).length, qm p, aS st sp (qs p) w, ql p + 1, nB (qH p) w (w.length + 1), qT p, qK p, none) := by
      unfold lesT; rw [if_pos hm]
    refine w_X6_noteBeginnings (by decide) I2 hw (by omega) (hb0 hm) (fun M3 S3 I3 => gX6_lesson_48 ?_)
    refine fin _ _ _ _ (F2.tr ((S3.mono (fun p hp => by rw [tabS_mem]; simp at hp; omega)).fa)) I3 (S3.I (by simp)) (nB_pre _ _ _) (hpre _) hsub ?_ ?_
    · rw [he0]
      rw [show (nB (qH p) w (w.length + 1)).length + (qT p).length - ((qH p).length + (qT p).length) = (nB (qH p) w (w.length + 1)).length - (qH p).length by omega]
    · rw [he0]; exact hs.a
end TabD
