/-! the pupil: lessons keep its invariant -/
theorem nB_mem {L : List (List Nat)} {w v : List Nat} : ∀ {n}, v ∈ nB L w n ↔ v ∈ L ∨ ∃ k, k < n ∧ v = w.take k
  | 0 => ⟨Or.inl, fun h => h.elim id (fun ⟨k, h, _⟩ => by omega)⟩
  | n + 1 => by
    have ih := nB_mem (L := L) (w := w) (v := v) (n := n)
    constructor
    · intro h
      by_cases c : w.take n ∈ nB L w n
      · rw [show nB L w (n + 1) = nB L w n from if_pos c] at h
        exact (ih.mp h).imp id (fun ⟨k, k1, k2⟩ => ⟨k, by omega, k2⟩)
      · rw [show nB L w (n + 1) = nB L w n ++ [w.take n] from if_neg c] at h
        rcases List.mem_append.mp h with g | g
        · exact (ih.mp g).imp id (fun ⟨k, k1, k2⟩ => ⟨k, by omega, k2⟩)
        · rw [List.mem_singleton] at g; exact Or.inr ⟨n, by omega, g⟩
    · intro h
      have hin : v ∈ nB L w n ∨ v = w.take n := by
        rcases h with g | ⟨k, k1, k2⟩
        · exact Or.inl (ih.mpr (Or.inl g))
        · by_cases e : k = n
          · subst e; exact Or.inr k2
          · exact Or.inl (ih.mpr (Or.inr ⟨k, by omega, k2⟩))
      by_cases c : w.take n ∈ nB L w n
      · rw [show nB L w (n + 1) = nB L w n from if_pos c]
        exact hin.elim id (fun e => by rw [e]; exact c)
      · rw [show nB L w (n + 1) = nB L w n ++ [w.take n] from if_neg c]
        exact List.mem_append.mpr (hin.imp id (fun e => by rw [e]; simp))
theorem nE_mem {L : List (List Nat)} {w v : List Nat} : ∀ {n}, v ∈ nE L w n ↔ v ∈ L ∨ ∃ k, k < n ∧ v = w.drop (w.length - k)
  | 0 => ⟨Or.inl, fun h => h.elim id (fun ⟨k, h, _⟩ => by omega)⟩
  | n + 1 => by
    have ih := nE_mem (L := L) (w := w) (v := v) (n := n)
    constructor
    · intro h
      by_cases c : w.drop (w.length - n) ∈ nE L w n
      · rw [show nE L w (n + 1) = nE L w n from if_pos c] at h
        exact (ih.mp h).imp id (fun ⟨k, k1, k2⟩ => ⟨k, by omega, k2⟩)
      · rw [show nE L w (n + 1) = nE L w n ++ [w.drop (w.length - n)] from if_neg c] at h
        rcases List.mem_append.mp h with g | g
        · exact (ih.mp g).imp id (fun ⟨k, k1, k2⟩ => ⟨k, by omega, k2⟩)
        · rw [List.mem_singleton] at g; exact Or.inr ⟨n, by omega, g⟩
    · intro h
      have hin : v ∈ nE L w n ∨ v = w.drop (w.length - n) := by
        rcases h with g | ⟨k, k1, k2⟩
        · exact Or.inl (ih.mpr (Or.inl g))
        · by_cases e : k = n
          · subst e; exact Or.inr k2
          · exact Or.inl (ih.mpr (Or.inr ⟨k, by omega, k2⟩))
      by_cases c : w.drop (w.length - n) ∈ nE L w n
      · rw [show nE L w (n + 1) = nE L w n from if_pos c]
        exact hin.elim id (fun e => by rw [e]; exact c)
      · rw [show nE L w (n + 1) = nE L w n ++ [w.drop (w.length - n)] from if_neg c]
        exact List.mem_append.mpr (hin.imp id (fun e => by rw [e]; simp))
theorem nB_num {L : List (List Nat)} {w : List Nat} (h : [] ∈ L) : ∀ n, (nB L w (n + 1)).length ≤ L.length + n
  | 0 => by
    have : nB L w 1 = L := if_pos (by show w.take 0 ∈ L; rw [List.take_zero]; exact h)
    rw [this]; exact Nat.le_refl _
  | n + 1 => by
    have ih := nB_num (w := w) h n
    by_cases c : w.take (n + 1) ∈ nB L w (n + 1)
    · rw [show nB L w (n + 1 + 1) = nB L w (n + 1) from if_pos c]; omega
    · rw [show nB L w (n + 1 + 1) = nB L w (n + 1) ++ [w.take (n + 1)] from if_neg c, List.length_append, List.length_singleton]; omega
theorem nE_num {L : List (List Nat)} {w : List Nat} (h : [] ∈ L) : ∀ n, (nE L w (n + 1)).length ≤ L.length + n
  | 0 => by
    have : nE L w 1 = L := if_pos (by show w.drop (w.length - 0) ∈ L; rw [Nat.sub_zero, List.drop_length]; exact h)
    rw [this]; exact Nat.le_refl _
  | n + 1 => by
    have ih := nE_num (w := w) h n
    by_cases c : w.drop (w.length - (n + 1)) ∈ nE L w (n + 1)
    · rw [show nE L w (n + 1 + 1) = nE L w (n + 1) from if_pos c]; omega
    · rw [show nE L w (n + 1 + 1) = nE L w (n + 1) ++ [w.drop (w.length - (n + 1))] from if_neg c, List.length_append, List.length_singleton]; omega
theorem pA_new {st sp : Nat} {A : PM} {g : GU} {w : List Nat} {its : Nat} : ∀ {f lo hi : Nat} {s : List (List Nat) × Nat}, (s.1.Nodup → (pA st sp A g w its f lo hi s).2.2.1.Nodup) ∧ ∃ Y : List (List Nat), Y.length ≤ f ∧ ∀ v, v ∈ (pA st sp A g w its f lo hi s).2.2.1 → v ∈ s.1 ∨ v ∈ Y
  | 0, lo, hi, s => ⟨fun h => h, [], Nat.le_refl _, fun v hv => Or.inl hv⟩
  | f + 1, lo, hi, s => by
    have key : ∀ lo' hi', ((s.1.Nodup → (pA st sp A g w its f lo' hi' (aS st sp s (acc g (w.take ((lo + hi) / 2)) ++ w.drop ((lo + hi) / 2)))).2.2.1.Nodup) ∧ ∃ Y : List (List Nat), Y.length ≤ f + 1 ∧ ∀ v, v ∈ (pA st sp A g w its f lo' hi' (aS st sp s (acc g (w.take ((lo + hi) / 2)) ++ w.drop ((lo + hi) / 2)))).2.2.1 → v ∈ s.1 ∨ v ∈ Y) := fun lo' hi' => by
      obtain ⟨k1, Y, y1, y2⟩ := pA_new (st := st) (sp := sp) (A := A) (g := g) (w := w) (its := its) (f := f) (lo := lo') (hi := hi') (s := aS st sp s (acc g (w.take ((lo + hi) / 2)) ++ w.drop ((lo + hi) / 2)))
      refine ⟨fun h => k1 (aS_nodup h), (acc g (w.take ((lo + hi) / 2)) ++ w.drop ((lo + hi) / 2)) :: Y, by rw [List.length_cons]; omega, fun v hv => ?_⟩
      rcases y2 v hv with q | q
      · rcases (aS_mem _ _ _ _ _).mp q with z | z
        · exact Or.inl z
        · rw [z]; exact Or.inr List.mem_cons_self
      · exact Or.inr (List.mem_cons.mpr (Or.inr q))
    by_cases c : hi ≤ lo + 1
    · rw [show pA st sp A g w its (f + 1) lo hi s = (lo, hi, s) from if_pos c]
      exact ⟨fun h => h, [], Nat.zero_le _, fun v hv => Or.inl hv⟩
    · by_cases c2 : an A 0 (acc g (w.take ((lo + hi) / 2)) ++ w.drop ((lo + hi) / 2)) = its
      · rw [show pA st sp A g w its (f + 1) lo hi s = pA st sp A g w its f ((lo + hi) / 2) hi (aS st sp s (acc g (w.take ((lo + hi) / 2)) ++ w.drop ((lo + hi) / 2))) from (if_neg c).trans (if_pos c2)]
        exact key _ _
      · rw [show pA st sp A g w its (f + 1) lo hi s = pA st sp A g w its f lo ((lo + hi) / 2) (aS st sp s (acc g (w.take ((lo + hi) / 2)) ++ w.drop ((lo + hi) / 2))) from (if_neg c).trans (if_neg c2)]
        exact key _ _
/-- what a guess of the pupil is -/
theorem PI.gu {A : PM} {N : Nat} {p : PS} {g : GU} (hA : okM A) (h : PI A N p) (hg : qg p = some g) : okM g.2 ∧ pl g.2 = pl A ∧ g.1.length = pn g.2 ∧ (∀ u, u ∈ g.1 → u ∈ qH p) ∧ (∀ s, s < pn g.2 → po g.2 s = an A 0 (g.1.getD s [])) ∧ g.1.getD 0 [] = [] := by
  have hl := h.lens hA
  obtain ⟨⟨⟨⟨D, d1⟩, E, d2⟩, ⟨vh, vt⟩, nd⟩, ⟨X, x1, x2⟩, h3, hT, hR⟩ := h
  have ok : okV A (qH p) := fun u hu => ⟨vh u hu, by have := hl.1 u hu; omega⟩
  by_cases c : qm p = 3
  · obtain ⟨r1, ⟨r2, r3⟩, ⟨r4, r5⟩, ⟨r6, r7, r8⟩, r9⟩ := hR c
    obtain ⟨e, q⟩ := r9 g hg
    subst e
    have a8 := hA.1.2
    refine ⟨⟨⟨by show 1 ≤ (qH p).length; omega, by show (qH p).length ≤ 8; omega⟩, hA.2.1, fun s hs => an_lt hA (vh _ (getD_mem hs)), fun s hs x hx => ?_⟩, rfl, rfl, fun u hu => hu, fun s hs => rfl, by show (qH p).getD 0 [] = []; rw [d1]; rfl⟩
    have hs : s < (qH p).length := hs
    have hx : x < pl A := hx
    have h1 := (q _ (ix_lt hs hx)).1
    rw [hx_at hx] at h1
    have hwx : vw (pl A) ((qH p).getD s [] ++ [x]) := vw_app.mpr ⟨vh _ (getD_mem hs), fun v hv => by rw [List.mem_singleton] at hv; rw [hv]; exact hx⟩
    have h2 := sf_end r1 (an4 hA vt (rn_lt hA hA.1.1 hwx)) 8 0 (by have := r1.1; omega) r1.1.1
    show qK p (sfP A (qT p) (qK p) ((qH p).getD s [] ++ [x])) - 1 < (qH p).length
    rcases r1.2.2 _ h2.2 with k | ⟨b, b1, b2⟩ | ⟨k, k1, k2, k3⟩
    · exact absurd k h1
    · rw [show qK p (sfP A (qT p) (qK p) ((qH p).getD s [] ++ [x])) = 1 + b from b2]; omega
    · have := h2.1; omega
  · obtain ⟨t0, t1, t2, t3⟩ := hT c
    obtain ⟨e, hf⟩ := t3 g hg
    subst e
    have hok := gT_ok hA ok (by rw [d1]; simp) (show isF ((qH p).length * pl A) (opn A (qH p) (qT p)) none from hf.1)
    exact ⟨hok.1, rfl, rfl, fun u hu => aT_mem (Nat.le_refl _) hu, fun s hs => rfl, aT_0 d1⟩
theorem PI.les {A : PM} {N st sp : Nat} {p : PS} {g : GU} {w : List Nat} (hA : okM A) (h : PI A N p) (hg : qg p = some g) (hw : vw (pl A) w) (hwl : w.length ≤ 14) (hwr : an g.2 0 w ≠ an A 0 w) : PI A N (lesF A st sp p g w).2 ∧ mu A (lesF A st sp p g w).2 < mu A p ∧ (qm (lesF A st sp p g w).2 = qm p ∧ qg (lesF A st sp p g w).2 = none) ∧ 1 ≤ w.length ∧ (qm p = 3 → (qT p).length < 8) ∧ (qm p = 0 → (nB (qH p) w (w.length + 1)).length ≤ 128) ∧ (qm p = 1 → (nE (qT p) w (w.length + 1)).length ≤ 128) := by
  have hgu := h.gu hA hg
  have hl := h.lens hA
  have h7 := ql7 hA h
  have hC8 := qC8 hA h
  have h00 := h
  obtain ⟨⟨⟨⟨D, d1⟩, E, d2⟩, ⟨vh, vt⟩, nd⟩, ⟨X, x1, x2⟩, h3, hT, hR⟩ := h
  have ok : okV A (qH p) := fun u hu => ⟨vh u hu, by have := hl.1 u hu; omega⟩
  have hT0 : [] ∈ qT p := by rw [d2]; simp
  have hH0 : [] ∈ qH p := by rw [d1]; simp
  have hw1 : 1 ≤ w.length := by
    refine Nat.le_of_not_lt fun q => hwr ?_
    have e : w = [] := List.eq_nil_of_length_eq_zero (by omega)
    subst e
    have := hgu.2.2.2.2.1 0 hgu.1.1.1
    rw [hgu.2.2.2.2.2] at this
    exact this
  have mg : mu A p = 2 * (8 - qC A p) + 2 * (7 - ql p) + 0 := by unfold mu; rw [hg]; rfl
  -- where the search ends
  have hpa := pA_fin (st := st) (sp := sp) (A := A) (g := g) (w := w) (its := an A 0 w) (f := 15) (lo := 0) (hi := w.length) (s := aS st sp (qs p) w) (by omega) (by omega) (by
    show an A 0 (g.1.getD 0 [] ++ w) = _
    rw [hgu.2.2.2.2.2]; rfl) (by
    rw [List.take_length, List.drop_length, List.append_nil]
    intro e
    apply hwr
    have := hgu.2.2.2.2.1 _ (rn_lt hgu.1 hgu.1.1.1 (w := w) (by rw [hgu.2.1]; exact hw))
    exact this.trans e)
  obtain ⟨k, k1, k2, k3, k4, k5⟩ := hpa
  obtain ⟨pn1, Y, y1, y2⟩ := pA_new (st := st) (sp := sp) (A := A) (g := g) (w := w) (its := an A 0 w) (f := 15) (lo := 0) (hi := w.length) (s := aS st sp (qs p) w)
  have y3 := (pA_hi (st := st) (sp := sp) (A := A) (g := g) (w := w) (its := an A 0 w) (f := 15) (lo := 0) (hi := w.length) (s := aS st sp (qs p) w)).2
  by_cases c : qm p = 3
  · -- the tree
    obtain ⟨r1, ⟨r2, r3⟩, ⟨r4, r5⟩, ⟨r6, r7, r8⟩, r9⟩ := hR c
    have a8 := hA.1.2
    obtain ⟨eg, q⟩ := r9 g hg
    have hlt : k < w.length := by omega
    have hx : w.getD k 0 < pl A := by
      rw [List.getD, List.getElem?_eq_getElem hlt]; exact hw _ (List.getElem_mem hlt)
    have et : w.take (k + 1) = w.take k ++ [w.getD k 0] := by
      rw [List.take_add_one]; simp [List.getD, List.getElem?_eq_getElem hlt]
    have ed : w.drop k = w.getD k 0 :: w.drop (k + 1) := by
      rw [List.drop_eq_getElem_cons hlt]; simp [List.getD, List.getElem?_eq_getElem hlt]
    have rl : ∀ n, rn (pt g.2) 0 (w.take n) < (qH p).length := fun n => by
      have := rn_lt hgu.1 hgu.1.1.1 (w := w.take n) (by rw [hgu.2.1]; exact vw_take hw n)
      rw [← hgu.2.2.1] at this
      rw [show g.1 = qH p from by rw [eg]] at this
      exact this
    obtain ⟨v, hv⟩ : ∃ v, v = nLf g w (k + 1) := ⟨_, rfl⟩
    have ev : v = (qH p).getD (rn (pt g.2) 0 (w.take k)) [] ++ [w.getD k 0] := by
      rw [hv]; unfold nLf acc
      rw [Nat.add_sub_cancel, show g.1 = qH p from by rw [eg]]
    obtain ⟨a, ha⟩ : ∃ a, a = rn (pt g.2) 0 (w.take (k + 1)) := ⟨_, rfl⟩
    have ha2 : a < (qH p).length := by rw [ha]; exact rl _
    have hvv : vw (pl A) v := by
      rw [ev]; exact vw_app.mpr ⟨vh _ (getD_mem (rl _)), fun u hu => by rw [List.mem_singleton] at hu; rw [hu]; exact hx⟩
    have hva : qK p (sfP A (qT p) (qK p) v) = 1 + a := by
      have h1 := (q _ (ix_lt (rl k) hx)).1
      rw [hx_at hx, ← ev] at h1
      have h2 : pt g.2 (rn (pt g.2) 0 (w.take k)) (w.getD k 0) = qK p (sfP A (qT p) (qK p) v) - 1 := by
        rw [ev]
        conv => lhs; rw [eg]
        conv => rhs; rw [eg]
        rfl
      rw [ha, et, rn_snoc, h2]; omega
    have hne : an A 0 ((qH p).getD a [] ++ w.drop (k + 1)) ≠ an A 0 (v ++ w.drop (k + 1)) := by
      have e1 : an A 0 (v ++ w.drop (k + 1)) = an A 0 w := by
        rw [ev, List.append_assoc]
        show an A 0 ((qH p).getD _ [] ++ (w.getD k 0 :: w.drop (k + 1))) = _
        rw [← ed, ← k4]
        unfold acc
        rw [show g.1 = qH p from by rw [eg]]
      rw [e1, ha]
      have k5 := k5
      unfold acc at k5
      rw [show g.1 = qH p from by rw [eg]] at k5
      exact k5
    obtain ⟨w1, w2, w3, w4, w5⟩ := tree_les hA vh r1 r7 vt hvv (vw_drop hw (k + 1)) ha2 hva hne (by omega) r8.2
    rw [List.length_append, List.length_singleton] at w4
    have he : lesF A st sp p g w = (2, qm p, aS st sp (aS st sp (pA st sp A g w (an A 0 w) 15 0 w.length (aS st sp (qs p) w)).2.2 ((qH p).getD a [] ++ w.drop (k + 1))) (v ++ w.drop (k + 1)), ql p + 1, qH p ++ [v], qT p ++ [w.drop (k + 1)], lesK A (qH p) (qT p) (qK p) a (w.drop (k + 1)) v, none) := by
      unfold lesF; rw [if_pos c]; unfold lesR; dsimp only
      rw [k2, ← ha, ← hv]
    rw [he]
    have hvl : v.length = ((qH p).getD (rn (pt g.2) 0 (w.take k)) []).length + 1 := by rw [ev]; simp
    have inn : ∀ u, u ∈ (aS st sp (aS st sp (pA st sp A g w (an A 0 w) 15 0 w.length (aS st sp (qs p) w)).2.2 ((qH p).getD a [] ++ w.drop (k + 1))) (v ++ w.drop (k + 1))).1 ↔ (u ∈ (pA st sp A g w (an A 0 w) 15 0 w.length (aS st sp (qs p) w)).2.2.1 ∨ u = (qH p).getD a [] ++ w.drop (k + 1)) ∨ u = v ++ w.drop (k + 1) := fun u => by rw [aS_mem, aS_mem]
    have old : ∀ u, u ∈ (qs p).1 → u ∈ (aS st sp (aS st sp (pA st sp A g w (an A 0 w) 15 0 w.length (aS st sp (qs p) w)).2.2 ((qH p).getD a [] ++ w.drop (k + 1))) (v ++ w.drop (k + 1))).1 := fun u hu => (inn u).mpr (Or.inl (Or.inl (y3 u ((aS_mem _ _ _ _ _).mpr (Or.inl hu)))))
    refine ⟨⟨⟨⟨⟨D ++ [v], by show qH p ++ _ = _; rw [d1]; rfl⟩, E ++ [w.drop (k + 1)], by show qT p ++ _ = _; rw [d2]; rfl⟩, ⟨vH_snoc vh hvv, vH_snoc vt (vw_drop hw _)⟩, aS_nodup (aS_nodup (pn1 (aS_nodup nd)))⟩, ⟨w :: (X ++ Y), ?_, fun u hu => ?_⟩, h3, fun cc => absurd c cc, fun _ => ⟨w2, ⟨fun u hu => ?_, fun u hu => ?_⟩, ⟨?_, ?_⟩, ⟨fun u hu => ?_, w3, ?_, w5⟩, fun g hg => (by cases hg)⟩⟩, ?_, ⟨rfl, rfl⟩, hw1, fun _ => w1, fun c0 => by omega, fun c0 => by omega⟩
    · rw [List.length_cons, List.length_append]
      show X.length + Y.length + 1 ≤ N + 16 * (ql p + 1)
      omega
    · have mono : ∀ v', v' ∈ rwW (pl A) (qH p) (qT p) → v' ∈ rwW (pl A) (qH p ++ [v]) (qT p ++ [w.drop (k + 1)]) := fun v' hv' => rwW_mono (fun w hw => List.mem_append.mpr (Or.inl hw)) (fun w hw => List.mem_append.mpr (Or.inl hw)) hv'
      rcases (inn u).mp hu with (g1 | g1) | g1
      · rcases y2 u g1 with g2 | g2
        · rcases (aS_mem _ _ _ _ _).mp g2 with g3 | g3
          · rcases x2 u g3 with g4 | g4
            · exact Or.inl (mono u g4)
            · exact Or.inr (List.mem_cons.mpr (Or.inr (List.mem_append.mpr (Or.inl g4))))
          · rw [g3]; exact Or.inr List.mem_cons_self
        · exact Or.inr (List.mem_cons.mpr (Or.inr (List.mem_append.mpr (Or.inr g2))))
      · exact Or.inl (rwW_mem.mpr ⟨_, List.mem_append.mpr (Or.inl (getD_mem ha2)), w.drop (k + 1), List.mem_append.mpr (Or.inr (by simp)), Or.inl g1⟩)
      · exact Or.inl (rwW_mem.mpr ⟨v, List.mem_append.mpr (Or.inr (by simp)), w.drop (k + 1), List.mem_append.mpr (Or.inr (by simp)), Or.inl g1⟩)
    · show u.length + 1 ≤ (qH p ++ [v]).length
      rw [List.length_append, List.length_singleton]
      rcases List.mem_append.mp hu with z | z
      · have := r2 u z; omega
      · rw [List.mem_singleton] at z; rw [z, hvl]
        have := r2 _ (getD_mem (rl k)); omega
    · rcases List.mem_append.mp hu with z | z
      · exact r3 u z
      · rw [List.mem_singleton] at z; rw [z, List.length_drop]; omega
    · show (qT p ++ [w.drop (k + 1)]).length = 1 + (ql p + 1)
      rw [List.length_append, List.length_singleton]; omega
    · show ql p + 1 + 1 ≤ (qH p ++ [v]).length
      rw [List.length_append, List.length_singleton]; omega
    · rcases List.mem_append.mp hu with z | z
      · exact old u (r6 u z)
      · rw [List.mem_singleton] at z; rw [z]
        have := (q _ (ix_lt (rl k) hx)).2
        rw [hx_at hx, ← ev] at this
        exact old v this
    · show (qH p ++ [v]).length ≤ pn A
      rw [List.length_append, List.length_singleton]; exact w4
    · rw [mg, show qC A p = (qH p).length from if_pos c]
      have : ∀ s K, mu A (qm p, s, ql p + 1, qH p ++ [v], qT p ++ [w.drop (k + 1)], K, none) = 2 * (8 - (qH p ++ [v]).length) + 2 * (7 - (ql p + 1)) + 1 := fun s K => by
        unfold mu qC
        show 2 * (8 - (if qm p = 3 then _ else _)) + _ + _ = _
        rw [if_pos c]; rfl
      rw [this, List.length_append, List.length_singleton]; omega
  · -- a table
    obtain ⟨t0, t1, t2, t3⟩ := hT c
    obtain ⟨eg, hf⟩ := t3 g hg
    have hls : ql p + 1 ≤ qc A (qH p) (qT p) := t2.resolve_right (fun q => q.2 hf)
    have hwr2 : an (gT A (qH p) (qT p)) 0 w ≠ an A 0 w := by rw [eg] at hwr; exact hwr
    have hCq : qC A p = qc A (qH p) (qT p) := if_neg c
    have hel : lesF A st sp p g w = lesT A st sp p g w := if_neg c
    have mm : ∀ s H T K, mu A (qm p, s, ql p + 1, H, T, K, none) = 2 * (8 - qc A H T) + 2 * (7 - (ql p + 1)) + 1 := fun s H T K => by
      unfold mu qC
      show 2 * (8 - (if qm p = 3 then _ else _)) + _ + _ = _
      rw [if_neg c]; rfl
    -- seven at most, behind the lesson too
    have last : ∀ H' T', vH A H' → qc A (qH p) (qT p) ≤ qc A H' T' → (¬ clo A H' T' ∨ ¬ con2 A H' T') → ql p + 1 ≤ 7 := fun H' T' hv hq hn => by
      have a8 := hA.1.2
      have : qc A H' T' + 1 ≤ pn A := by
        refine Classical.byContradiction fun q => ?_
        rcases hn with hn | hn
        · exact hn (fun i hi ho => q (open_le hA hv hi ho))
        · exact hn (fun i hi hp => q (part_le hA hv hi hp))
      omega
    rw [hel]
    by_cases c0 : qm p = 0
    · obtain ⟨g1, g2, g3, g4⟩ := t0 c0
      have he : lesT A st sp p g w = ((nB (qH p) w (w.length + 1)).length - (qH p).length, qm p, aS st sp (qs p) w, ql p + 1, nB (qH p) w (w.length + 1), qT p, qK p, none) := by
        unfold lesT; rw [if_pos c0]
      rw [he]
      obtain ⟨F, hF⟩ := nB_pre (qH p) w (w.length + 1)
      have hcc : qc A (qH p) (qT p) ≤ qc A (nB (qH p) w (w.length + 1)) (qT p) := by rw [hF]; exact qc_app
      have hnum := nB_num (w := w) hH0 w.length
      have hvB : vH A (nB (qH p) w (w.length + 1)) := fun u hu => by
        rcases nB_mem.mp hu with z | ⟨j, -, z⟩
        · exact vh u z
        · rw [z]; exact vw_take hw _
      have hn := les0 hA ok d1 hT0 hf.1 hw (fun u hu => nB_mem.mpr (Or.inl hu)) (fun n hn => nB_mem.mpr (Or.inr ⟨n, by omega, rfl⟩)) hvB hwr2
      have hl7 := last _ _ hvB hcc (Or.inr hn)
      refine ⟨⟨⟨⟨⟨D ++ F, by show nB _ _ _ = _; rw [hF, d1]; rfl⟩, E, d2⟩, ⟨hvB, vt⟩, aS_nodup nd⟩, ⟨w :: X, ?_, fun u hu => ?_⟩, h3, fun _ => ⟨fun _ => ⟨fun u hu => ?_, fun u hu => ?_, ?_, ?_⟩, fun cc => absurd c0 cc, Or.inr ⟨?_, fun q => hn (q.2 c0)⟩, fun g hg => (by cases hg)⟩, fun cc => absurd cc c⟩, ?_, ⟨rfl, rfl⟩, hw1, fun cc => absurd cc c, fun _ => by omega, fun c1 => by omega⟩
      · rw [List.length_cons]; show X.length + 1 ≤ N + 16 * (ql p + 1); omega
      · rcases (aS_mem _ _ _ _ _).mp hu with z | z
        · rcases x2 u z with z2 | z2
          · exact Or.inl (rwW_mono (fun v hv => nB_mem.mpr (Or.inl hv)) (fun _ hv => hv) z2)
          · exact Or.inr (List.mem_cons.mpr (Or.inr z2))
        · rw [z]; exact Or.inr List.mem_cons_self
      · show u.length ≤ 13 + qc A (nB (qH p) w (w.length + 1)) (qT p)
        rcases nB_mem.mp hu with z | ⟨j, -, z⟩
        · have := g1 u z; omega
        · rw [z, List.length_take]; omega
      · show u.length + 1 ≤ qc A (nB (qH p) w (w.length + 1)) (qT p)
        have := g2 u hu; omega
      · show (qT p).length ≤ qc A (nB (qH p) w (w.length + 1)) (qT p)
        omega
      · show (nB (qH p) w (w.length + 1)).length ≤ 14 * (ql p + 1) + qc A (nB (qH p) w (w.length + 1)) (qT p)
        omega
      · show ql p + 1 ≤ qc A (nB (qH p) w (w.length + 1)) (qT p)
        omega
      · rw [mm, mg, hCq]; omega
    · obtain ⟨g1, g2, g3, g4⟩ := t1 c0
      have hq := unl_qc g1
      by_cases c1 : qm p = 1
      · have he : lesT A st sp p g w = ((nE (qT p) w (w.length + 1)).length - (qT p).length, qm p, aS st sp (qs p) w, ql p + 1, qH p, nE (qT p) w (w.length + 1), qK p, none) := by
          unfold lesT; rw [if_neg c0, if_pos c1]
        rw [he]
        obtain ⟨F, hF⟩ := nE_pre (qT p) w (w.length + 1)
        have hnum := nE_num (w := w) hT0 w.length
        have hvE : vH A (nE (qT p) w (w.length + 1)) := fun u hu => by
          rcases nE_mem.mp hu with z | ⟨j, -, z⟩
          · exact vt u z
          · rw [z]; exact vw_drop hw _
        have hn : ¬ clo A (qH p) (nE (qT p) w (w.length + 1)) := by
          rw [hF]
          refine les1 hA ok d1 g1 hf.1 hw (fun n hn => ?_) hwr2
          rw [← hF]
          exact nE_mem.mpr (Or.inr ⟨w.length - n, by omega, by rw [show w.length - (w.length - n) = n by omega]⟩)
        have hun : unl A (qH p) (nE (qT p) w (w.length + 1)) := by rw [hF]; exact unl_fin g1
        have hcc : qc A (qH p) (qT p) ≤ qc A (qH p) (nE (qT p) w (w.length + 1)) := by rw [hq, unl_qc hun]; exact Nat.le_refl _
        have hl7 := last _ _ vh hcc (Or.inl hn)
        refine ⟨⟨⟨⟨⟨D, d1⟩, E ++ F, by show nE _ _ _ = _; rw [hF, d2]; rfl⟩, ⟨vh, hvE⟩, aS_nodup nd⟩, ⟨w :: X, ?_, fun u hu => ?_⟩, h3, fun _ => ⟨fun cc => absurd cc c0, fun _ => ⟨hun, g2, fun u hu => ?_, ?_⟩, Or.inr ⟨?_, fun q => hn q.1⟩, fun g hg => (by cases hg)⟩, fun cc => absurd cc c⟩, ?_, ⟨rfl, rfl⟩, hw1, fun cc => absurd cc c, fun cc => absurd cc c0, fun _ => by omega⟩
        · rw [List.length_cons]; show X.length + 1 ≤ N + 16 * (ql p + 1); omega
        · rcases (aS_mem _ _ _ _ _).mp hu with z | z
          · rcases x2 u z with z2 | z2
            · exact Or.inl (rwW_mono (fun _ hv => hv) (fun v hv => nE_mem.mpr (Or.inl hv)) z2)
            · exact Or.inr (List.mem_cons.mpr (Or.inr z2))
          · rw [z]; exact Or.inr List.mem_cons_self
        · rcases nE_mem.mp hu with z | ⟨j, -, z⟩
          · exact g3 u z
          · rw [z, List.length_drop]; omega
        · show (nE (qT p) w (w.length + 1)).length ≤ 1 + 14 * (ql p + 1)
          omega
        · show ql p + 1 ≤ qc A (qH p) (nE (qT p) w (w.length + 1))
          omega
        · rw [mm, mg, hCq]; omega
      · have he : lesT A st sp p g w = (1, qm p, (pA st sp A g w (an A 0 w) 15 0 w.length (aS st sp (qs p) w)).2.2, ql p + 1, qH p, qT p ++ [w.drop (k + 1)], qK p, none) := by
          unfold lesT; rw [if_neg c0, if_neg c1, k2]
        rw [he]
        have hun : unl A (qH p) (qT p ++ [w.drop (k + 1)]) := unl_fin g1
        have hcc : qc A (qH p) (qT p) ≤ qc A (qH p) (qT p ++ [w.drop (k + 1)]) := by rw [hq, unl_qc hun]; exact Nat.le_refl _
        have eg2 : g = (qH p, gT A (qH p) (qT p)) := by rw [eg, unl_aT g1]
        have hn := les2 (k := k) hA ok d1 g1 hf.1 hw (by omega) (by
          rw [eg2] at k4 k5
          rw [k4]; exact Ne.symm k5)
        have hl7 := last _ _ vh hcc (Or.inl hn)
        refine ⟨⟨⟨⟨⟨D, d1⟩, E ++ [w.drop (k + 1)], by show qT p ++ _ = _; rw [d2]; rfl⟩, ⟨vh, vH_snoc vt (vw_drop hw _)⟩, pn1 (aS_nodup nd)⟩, ⟨w :: (X ++ Y), ?_, fun u hu => ?_⟩, h3, fun _ => ⟨fun cc => absurd cc c0, fun _ => ⟨hun, g2, fun u hu => ?_, ?_⟩, Or.inr ⟨?_, fun q => hn q.1⟩, fun g hg => (by cases hg)⟩, fun cc => absurd cc c⟩, ?_, ⟨rfl, rfl⟩, hw1, fun cc => absurd cc c, fun cc => absurd cc c0, fun cc => absurd cc c1⟩
        · rw [List.length_cons, List.length_append]
          show X.length + Y.length + 1 ≤ N + 16 * (ql p + 1)
          omega
        · rcases y2 u hu with g2' | g2'
          · rcases (aS_mem _ _ _ _ _).mp g2' with z | z
            · rcases x2 u z with z2 | z2
              · exact Or.inl (rwW_mono (fun _ hv => hv) (fun v hv => List.mem_append.mpr (Or.inl hv)) z2)
              · exact Or.inr (List.mem_cons.mpr (Or.inr (List.mem_append.mpr (Or.inl z2))))
            · rw [z]; exact Or.inr List.mem_cons_self
          · exact Or.inr (List.mem_cons.mpr (Or.inr (List.mem_append.mpr (Or.inr g2'))))
        · rcases List.mem_append.mp hu with z | z
          · exact g3 u z
          · rw [List.mem_singleton] at z; rw [z, List.length_drop]; omega
        · show (qT p ++ [w.drop (k + 1)]).length ≤ 1 + 14 * (ql p + 1)
          rw [List.length_append, List.length_singleton]; omega
        · show ql p + 1 ≤ qc A (qH p) (qT p ++ [w.drop (k + 1)])
          omega
        · rw [mm, mg, hCq]; omega
