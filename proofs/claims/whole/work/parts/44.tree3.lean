/-! the class's Tree: its lesson, its beginning -/
theorem pA_lo {st sp : Nat} {A : PM} {g : GU} {w : List Nat} {its : Nat} : ∀ {f lo hi : Nat} {s : List (List Nat) × Nat}, lo < hi → (pA st sp A g w its f lo hi s).1 < (pA st sp A g w its f lo hi s).2.1
  | 0, lo, hi, s, h => h
  | f + 1, lo, hi, s, h => by
    by_cases c : hi ≤ lo + 1
    · rw [show pA st sp A g w its (f + 1) lo hi s = (lo, hi, s) from if_pos c]; exact h
    · by_cases c2 : an A 0 (acc g (w.take ((lo + hi) / 2)) ++ w.drop ((lo + hi) / 2)) = its
      · rw [show pA st sp A g w its (f + 1) lo hi s = pA st sp A g w its f ((lo + hi) / 2) hi (aS st sp s (acc g (w.take ((lo + hi) / 2)) ++ w.drop ((lo + hi) / 2))) from (if_neg c).trans (if_pos c2)]
        exact pA_lo (by omega)
      · rw [show pA st sp A g w its (f + 1) lo hi s = pA st sp A g w its f lo ((lo + hi) / 2) (aS st sp s (acc g (w.take ((lo + hi) / 2)) ++ w.drop ((lo + hi) / 2))) from (if_neg c).trans (if_neg c2)]
        exact pA_lo (by omega)
theorem pA_n {st sp : Nat} {A : PM} {g : GU} {w : List Nat} {its : Nat} : ∀ {f lo hi : Nat} {s : List (List Nat) × Nat}, (pA st sp A g w its f lo hi s).2.2.1.length ≤ s.1.length + f
  | 0, lo, hi, s => Nat.le_refl _
  | f + 1, lo, hi, s => by
    have hl := aS_len st sp s (acc g (w.take ((lo + hi) / 2)) ++ w.drop ((lo + hi) / 2))
    by_cases c : hi ≤ lo + 1
    · rw [show pA st sp A g w its (f + 1) lo hi s = (lo, hi, s) from if_pos c]; show s.1.length ≤ _; omega
    · by_cases c2 : an A 0 (acc g (w.take ((lo + hi) / 2)) ++ w.drop ((lo + hi) / 2)) = its
      · rw [show pA st sp A g w its (f + 1) lo hi s = pA st sp A g w its f ((lo + hi) / 2) hi (aS st sp s (acc g (w.take ((lo + hi) / 2)) ++ w.drop ((lo + hi) / 2))) from (if_neg c).trans (if_pos c2)]
        have := pA_n (st := st) (sp := sp) (A := A) (g := g) (w := w) (its := its) (f := f) (lo := (lo + hi) / 2) (hi := hi) (s := aS st sp s (acc g (w.take ((lo + hi) / 2)) ++ w.drop ((lo + hi) / 2)))
        omega
      · rw [show pA st sp A g w its (f + 1) lo hi s = pA st sp A g w its f lo ((lo + hi) / 2) (aS st sp s (acc g (w.take ((lo + hi) / 2)) ++ w.drop ((lo + hi) / 2))) from (if_neg c).trans (if_neg c2)]
        have := pA_n (st := st) (sp := sp) (A := A) (g := g) (w := w) (its := its) (f := f) (lo := lo) (hi := (lo + hi) / 2) (s := aS st sp s (acc g (w.take ((lo + hi) / 2)) ++ w.drop ((lo + hi) / 2)))
        omega
def BLr (A : PM) (p : PS) (g : GU) (w : List Nat) : Prop := (vw (pl A) w ∧ w.length ≤ 14 ∧ 1 ≤ w.length) ∧ (pl g.2 = pl A ∧ pn g.2 = (qH p).length ∧ ∀ u, u ∈ g.1 → vw (pl A) u ∧ u.length ≤ 14) ∧ (qs p).1.length + 32 < 8192 ∧ (TW (qH p) (qT p) (qK p) ∧ (qT p).length < 8) ∧ (∀ u, u ∈ qH p → u.length ≤ 15)
section TreeC
variable {z d r b st sp : Nat} {Q : Option Value → Mem → Prop} {M : Mem} {A : PM} {p : PS}
theorem w_X8_lesson {g : GU} {w : List Nat} (hd : 5 < d) (hi : RPp z M b r A st sp p) (hg : qg p = some g) (hB : BLr A p g w)
    (h : ∀ M', Fa r (tabS r b 12) M M' → RPp z M' b r A st sp (lesR A st sp p g w).2 → Q (some (.int (nI (lesR A st sp p g w).1))) M') : ClD d mdX8_lesson [.ref b, .long (lN (cd w))] M Q := by
  obtain ⟨hm3, s, hs, hT, ⟨m5, m6⟩, hG⟩ := hi
  obtain ⟨⟨hw, hwl, hw1⟩, ⟨hgl, hgn, hac⟩, hn, ⟨hW, hT7⟩, hH15⟩ := hB
  have hz := hT.2.2.2.2.2.1
  have hrb := hT.2.2.2.2.2.2
  obtain ⟨k8, rk, r0, b0, hA, r7⟩ := hT.r0
  have l3 := hA.2.1.2
  have hls := hs.len
  rw [hg] at hG
  have han := an_lt hA hw
  have tb : ∀ p, p ∈ tabS r b 12 ↔ p = r ∨ p = r + 1 ∨ (b ≤ p ∧ p < b + 12) := fun p => tabS_mem
  refine ⟨5, hd, Cl.of moX8_lesson (Nat.le_of_ble_eq_true rfl) (gX8_lesson_0 k8 (by rw [b0]; exact rk) ?_)⟩
  rw [b0]
  refine hT.ask (by decide) hw (by omega) (by omega) (fun M1 F1 I1 => gX8_lesson_10 I1.r0.1 ?_)
  have q0 := hT.2.1.2.2.2.2.2
  have gue : ∀ {M3 : Mem}, Fa r [r, r + 1] M M3 → GueAt M3 b (some g) := fun F3 => by
    have nn : ∀ p, b + 5 ≤ p → p < z → p ∉ slq M r :: [r, r + 1] := fun p g1 g2 => nq q0.1 g2 (by omega) (fun q => by simp at q; omega)
    exact hG.fm F3.1 (by omega) (nn _ (by omega) (by omega)) (nn _ (by omega) (by omega)) (nn _ (by omega) (by omega)) (nn _ (by omega) (by omega)) (nn _ (by omega) (by omega))
  have hlas := aS_len st sp s w
  refine w_X3_partingAt (z := z) (g := g) (by decide) (by omega) (by omega) I1.1.1 I1.2.1 (gue F1) hgl (fun u hu => ⟨(hac u hu).1, by have := (hac u hu).2; omega⟩) hw (by omega) han (by omega) (fun M2 F2 I2' => gX8_lesson_13 ?_)
  have I2 := I1.fa F2 (fun p hp => by simp at hp; omega) I2'
  have F02 := F1.tr F2
  have hpe := pA_eq (st := st) (sp := sp) (A := A) (g := g) (w := w) (its := an A 0 w) (f := 15) (lo := 0) (hi := w.length) (hs.a (st := st) (sp := sp) (w := w))
  have hph := pA_hi (st := st) (sp := sp) (A := A) (g := g) (w := w) (its := an A 0 w) (f := 15) (lo := 0) (hi := w.length) (s := aS st sp s w)
  have hpl := pA_lo (st := st) (sp := sp) (A := A) (g := g) (w := w) (its := an A 0 w) (f := 15) (s := aS st sp s w) (show 0 < w.length by omega)
  have hpn := pA_n (st := st) (sp := sp) (A := A) (g := g) (w := w) (its := an A 0 w) (f := 15) (lo := 0) (hi := w.length) (s := aS st sp s w)
  obtain ⟨P, hP⟩ : ∃ P, P = pA st sp A g w (an A 0 w) 15 0 w.length (aS st sp s w) := ⟨_, rfl⟩
  rw [← hP] at hpe hph hpl hpn I2 I2'
  rw [← hP]
  have hw4 := vw_mono hw (show pl A ≤ 4 by omega)
  have e4 : mR M2 b 4 = b + 7 := I2.1.1.2.1.2.2.2.2
  have G2 := gue F02
  have sh7 := I2.1.1.2.2.2.2.2
  have hdl : (w.drop P.2.1).length ≤ 14 := by rw [List.length_drop]; omega
  refine w_X1_behind (by decide) hw4 (by omega) hph.1 (gX8_lesson_19 I2.r0.1 (w_X1_first (by decide) hw4 (by omega) hph.1 ?_))
  rw [e4]
  have ht := vw_take hw P.2.1
  refine gX8_lesson_31 sh7.1.1 (w_X2_endFrom (s := some 0) (by decide) sh7 G2.1.2 G2.2.1.bd (fun j e => by cases e; decide) (vw_mono ht (by omega)) (by rw [List.length_take]; omega) ?_)
  rw [rnO_ok G2.2.1 G2.2.1.1.1 (by rw [hgl]; exact ht)]
  have hleaf := rn_lt G2.2.1 G2.2.1.1.1 (w := w.take P.2.1) (by rw [hgl]; exact ht)
  obtain ⟨lf, hlf⟩ : ∃ lf, lf = rn (pt g.2) 0 (w.take P.2.1) := ⟨_, rfl⟩
  rw [← hlf] at hleaf
  rw [← hlf]
  refine gX8_lesson_34 ?_
  rw [z_sub (by omega)]
  have ht2 := vw_take hw (P.2.1 - 1)
  refine w_X1_first (by decide) hw4 (by omega) (by omega) (gX8_lesson_44 I2.r0.1 (w_X3_accessBy (by decide) I2.1.1 G2 (by rw [hgl]; exact ht2) (by rw [List.length_take]; omega) (gX8_lesson_47 ?_)))
  rw [z_sub (by omega)]
  have hlt : P.2.1 - 1 < w.length := by omega
  refine w_X1_at (by decide) hw4 (by omega) hlt (gX8_lesson_54 ?_)
  have hxx : w.getD (P.2.1 - 1) 0 < pl A := by
    rw [List.getD, List.getElem?_eq_getElem hlt]
    exact hw _ (List.getElem_mem hlt)
  refine w_X1_then (by decide) (by omega) (gX8_lesson_57 I2.r0.1 ?_)
  have hacc : vw (pl A) (acc g (w.take (P.2.1 - 1))) ∧ (acc g (w.take (P.2.1 - 1))).length ≤ 14 := by
    have hr := rn_lt G2.2.1 G2.2.1.1.1 (w := w.take (P.2.1 - 1)) (by rw [hgl]; exact ht2)
    unfold acc
    rw [List.getD, List.getElem?_eq_getElem (by have := G2.2.2; omega)]
    exact hac _ (List.getElem_mem _)
  obtain ⟨v, hv⟩ : ∃ v, v = nLf g w P.2.1 := ⟨_, rfl⟩
  have hvv : vw (pl A) v ∧ v.length ≤ 15 := by
    rw [hv]; unfold nLf
    exact ⟨vw_app.mpr ⟨hacc.1, fun u hu => by rw [List.mem_singleton] at hu; rw [hu]; exact hxx⟩, by rw [List.length_append, List.length_singleton]; omega⟩
  have hb2 : mI M2 b = mI M b := hT.fb F02 (by omega) (by simp <;> omega)
  rw [hb2, m6, nI_add]
  show ClD 5 mdX3_dropGuess [.ref b] _ (fun r1 M1 => Wp 5 mdX8_lesson 73 [(0, .ref b), (4, .long (lN (cd (w.drop P.2.1)))), (6, .int (nI lf)), (7, .long (lN (cd (nLf g w P.2.1))))] _ _ _)
  rw [← hv]
  have S3 : Sm [b] M2 (sI M2 b 6 (nI (ql p + 1))) := Sm.sI (by simp) _ _ _
  have I3 := I2.fm S3.fm (fun p hp => by simp at hp; omega)
  refine w_X3_dropGuess (by decide) I3.1.1 (fun M4 S4 G4 => gX8_lesson_73 ?_ ?_)
  · rw [S4.2.2.1]; exact I3.r0.1
  have I4 := I3.fm S4.fm (fun p hp => by simp at hp; omega)
  refine w_X8_putKnot (by decide) I4 hW (by omega) hT7 (vw_drop hw _) hvv.1 (by omega) (by omega) (by have := hH15 _ (getD_mem (show lf < (qH p).length by omega)); omega) (by omega) (by omega) (fun M5 F5 I5 => gX8_lesson_83 ⟨⟨_, rfl⟩, ?_⟩)
  have hb5 : mI M5 b = mI (sI M2 b 6 (nI (ql p + 1))) b := (I4.fb F5 (by omega) (by simp <;> omega)).trans (S4.I (by simp))
  have F04 : Fa r (tabS r b 12) M M4 := (F02.mono (fun p hp => by rw [tb]; simp at hp; omega)).tr ((((S3.mono (T := tabS r b 12) (fun p hp => by rw [tb]; simp at hp; omega)).tr (S4.mono (fun p hp => by rw [tb]; simp at hp; omega)))).fa)
  have he : lesR A st sp p g w = (2, qm p, aS st sp (aS st sp (pA st sp A g w (an A 0 w) 15 0 w.length (aS st sp (qs p) w)).2.2 ((qH p).getD lf [] ++ w.drop P.2.1)) (v ++ w.drop P.2.1), ql p + 1, qH p ++ [v], qT p ++ [w.drop P.2.1], lesK A (qH p) (qT p) (qK p) lf (w.drop P.2.1) v, none) := by
    unfold lesR
    dsimp only
    rw [← hpe.2.1, ← hlf, ← hv]
  rw [he] at h
  have nn : ∀ p, b + 5 ≤ p → p < b + 11 → p ∉ slq M4 r :: [r, r + 1, b + 1, b + 2, b + 3, b + 4, b + 11] := fun p g1 g2 => nq I4.2.1.2.2.2.2.2.1 (by omega) (by omega) (fun q => by simp at q; omega)
  have hz4 := I4.2.1.2.2.2.2.2.2.1
  refine h M5 (F04.tr (F5.mono (fun p hp => by rw [tb]; simp at hp; omega))) ⟨hm3, _, hpe.2.2.a.a, I5, ⟨?_, ?_⟩, ⟨?_, ?_⟩⟩
  · rw [hb5, rI_nk (by decide), hb2]; exact m5
  · rw [hb5]; exact rI_at _ _ _ _
  · rw [F5.1.I (by omega) (nn _ (by omega) (by omega))]; exact G4.1
  · exact G4.2.fm F5.1 (by omega) (nn _ (by omega) (by omega)) (nn _ (by omega) (by omega))
theorem w_X8_begin {s : List (List Nat) × Nat} (hd : 4 < d) (hs : NotSh M b r 6 ∧ mR M b 8 = b + 11 ∧ mK M (b + 11) = 1 ∧ mN M (b + 11) = 32) (hi : AI z M r A st sp s) (hl : LstAt M (b + 1) [[]] ∧ LstAt M (b + 3) [[]]) (hbz : b + 12 ≤ z) (hrb : r + 2 < b) (hn : s.1.length < 8192)
    (h : ∀ M', Fa r [r, r + 1, b + 11] M M' → RI z M' b r A st sp (aS st sp s []) [[]] [[]] (upN (fun _ => 0) (an A 0 []) 1) → Q none M') : ClD d mdX8_begin [.ref b] M Q := by
  have hA := hi.2.2.2.2.1
  have k8 : mK M b = 10 := hs.1.1.2
  have q0 := hi.2.2.2.2.2
  refine ⟨4, hd, Cl.of moX8_begin (Nat.le_of_ble_eq_true rfl) (gX8_begin_0 k8 ?_)⟩
  rw [hs.2.1]
  refine w_fillI (by decide) hs.2.2.1 (by rw [hs.2.2.2]; decide) (fun M1 S1 hf => ?_)
  rw [hs.2.2.2] at hf
  have ni : ∀ p, p < b + 11 → p ∉ [b + 11] := fun p hp q => by simp at q; omega
  have I1 : RI z M1 b r A st sp s [[]] [[]] (fun _ => 0) := by
    refine ⟨TrSh.fm S1.fm (by omega) hs, hi.fm S1.fm (ni _ (by omega)) (ni _ (by omega)) (by simp <;> omega) (ni _ (by omega)) (ni _ (by omega)) (ni _ (by omega)), ⟨hl.1.sm S1 (ni _ (by omega)) (ni _ (by omega)), hl.2.sm S1 (ni _ (by omega)) (ni _ (by omega))⟩, ⟨?_, ?_⟩, fun c hc => hf c hc, hbz, hrb⟩ <;> (intro w hw; simp at hw; subst hw; exact ⟨vw_nil _, by decide⟩)
  refine gX8_begin_8 I1.r0.1 (by rw [I1.r0.2.2.2.1]; exact I1.r0.2.1) ?_
  rw [I1.r0.2.2.2.1]
  refine I1.ask (w := []) (by decide) (vw_nil _) (by decide) hn (fun M2 F2 I2 => gX8_begin_17 I2.r0.1 ?_)
  have ha4 := an_lt hA (vw_nil (pl A))
  refine w_X8_link (by decide) I2.r0.1 I2.1.2.1 I2.1.2.2 (by omega) (gX8_begin_21 ⟨rfl, ?_⟩)
  have S3 : Sm [b + 11] M2 (sI M2 (b + 11) (an A 0 []) (nI 0)) := Sm.sI (by simp) _ _ _
  exact h _ (((S1.mono (T := [r, r + 1, b + 11]) (fun p hp => by simp at hp; simp [hp])).fa.tr (F2.mono (fun p hp => by simp at hp; simp <;> omega))).tr ((S3.mono (fun p hp => by simp at hp; simp [hp])).fa)) (I2.put (v := 1) rfl)
end TreeC
