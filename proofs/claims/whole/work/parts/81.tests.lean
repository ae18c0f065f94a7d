/-! tests of a guess: which words they are -/
/-- all words of at most k letters -/
def wL (l : Nat) : Nat → List (List Nat)
  | 0 => [[]]
  | k + 1 => [] :: (List.range l).flatMap (fun x => (wL l k).map (fun m => x :: m))
theorem wL_mem {l : Nat} {m : List Nat} : ∀ {k}, m ∈ wL l k ↔ vw l m ∧ m.length ≤ k
  | 0 => by
    show m ∈ [[]] ↔ _
    rw [List.mem_singleton]
    constructor
    · intro h; subst h; exact ⟨vw_nil l, Nat.le_refl _⟩
    · intro h; exact List.eq_nil_of_length_eq_zero (by omega)
  | k + 1 => by
    show m ∈ [] :: (List.range l).flatMap (fun x => (wL l k).map (fun m => x :: m)) ↔ _
    rw [List.mem_cons, List.mem_flatMap]
    constructor
    · rintro (h | ⟨x, hx, h⟩)
      · subst h; exact ⟨vw_nil l, Nat.zero_le _⟩
      · obtain ⟨u, hu, e⟩ := List.mem_map.mp h
        have g := wL_mem.mp hu
        rw [← e]
        exact ⟨vw_cons.mpr ⟨List.mem_range.mp hx, g.1⟩, by rw [List.length_cons]; omega⟩
    · intro h
      cases m with
      | nil => exact Or.inl rfl
      | cons x u =>
        have g := vw_cons.mp h.1
        have hl := h.2
        rw [List.length_cons] at hl
        exact Or.inr ⟨x, List.mem_range.mpr g.1, List.mem_map.mpr ⟨u, wL_mem.mpr ⟨g.2, by omega⟩, rfl⟩⟩
theorem flat_len {α β : Type} {f : α → List β} {b : Nat} : ∀ {L : List α}, (∀ x, x ∈ L → (f x).length ≤ b) → (L.flatMap f).length ≤ L.length * b
  | [], _ => by simp
  | x :: L, h => by
    rw [List.flatMap_cons, List.length_append, List.length_cons, Nat.add_mul, Nat.one_mul]
    have a := h x List.mem_cons_self
    have c := flat_len (L := L) (f := f) (b := b) (fun y hy => h y (List.mem_cons_of_mem _ hy))
    omega
theorem wL_len {l : Nat} (hl : l ≤ 3) : (wL l 0).length ≤ 1 ∧ (wL l 1).length ≤ 4 ∧ (wL l 2).length ≤ 13 ∧ (wL l 3).length ≤ 40 := by
  have st : ∀ k b, (wL l k).length ≤ b → (wL l (k + 1)).length ≤ 1 + 3 * b := fun k b h => by
    show ([] :: (List.range l).flatMap (fun x => (wL l k).map (fun m => x :: m))).length ≤ _
    have g := flat_len (f := fun x => (wL l k).map (fun m => x :: m)) (b := b) (L := List.range l) (fun x _ => by rw [List.length_map]; exact h)
    rw [List.length_range] at g
    rw [List.length_cons]
    have := Nat.mul_le_mul_right b hl
    omega
  have h0 : (wL l 0).length ≤ 1 := Nat.le_refl _
  have h1 := st 0 1 h0
  have h2 := st 1 4 h1
  have h3 := st 2 13 h2
  exact ⟨h0, h1, h2, h3⟩
theorem wL_40 {l k : Nat} (hl : l ≤ 3) (hk : k ≤ 3) : (wL l k).length ≤ 40 := by
  obtain ⟨a, b, c, d⟩ := wL_len hl
  have : k = 0 ∨ k = 1 ∨ k = 2 ∨ k = 3 := by omega
  rcases this with e | e | e | e <;> subst e <;> omega
-- the ends: words by which two states of a guess answer unlike, in the order of the pairs
noncomputable def enQ (G : PM) (p : Nat) : Nat → List (List Nat)
  | 0 => []
  | q + 1 => enQ G p q ++ @ite _ (p < q ∧ fuC G p G q ≠ 0) (Classical.propDecidable _) [wdC (fuC G p G q)] []
theorem enQ_yes {G : PM} {p q : Nat} (h : p < q ∧ fuC G p G q ≠ 0) : enQ G p (q + 1) = enQ G p q ++ [wdC (fuC G p G q)] := by
  show enQ G p q ++ @ite _ _ (Classical.propDecidable _) _ _ = _
  rw [if_pos h]
theorem enQ_no {G : PM} {p q : Nat} (h : ¬ (p < q ∧ fuC G p G q ≠ 0)) : enQ G p (q + 1) = enQ G p q := by
  show enQ G p q ++ @ite _ _ (Classical.propDecidable _) _ _ = _
  rw [if_neg h, List.append_nil]
noncomputable def enP (G : PM) : Nat → List (List Nat)
  | 0 => []
  | p + 1 => enP G p ++ enQ G p (pn G)
noncomputable def enL (G : PM) : List (List Nat) := if (enP G (pn G)).length = 0 then [[]] else enP G (pn G)
theorem enQ_mem {G : PM} {p : Nat} {w : List Nat} : ∀ {n}, w ∈ enQ G p n ↔ ∃ q, q < n ∧ p < q ∧ fuC G p G q ≠ 0 ∧ w = wdC (fuC G p G q)
  | 0 => ⟨fun h => by simp [enQ] at h, fun ⟨q, h, _⟩ => by omega⟩
  | n + 1 => by
    by_cases c : p < n ∧ fuC G p G n ≠ 0
    · rw [enQ_yes c, List.mem_append, List.mem_singleton, enQ_mem]
      constructor
      · rintro (⟨q, a, b⟩ | h)
        · exact ⟨q, by omega, b⟩
        · exact ⟨n, by omega, c.1, c.2, h⟩
      · rintro ⟨q, a, b1, b2, b3⟩
        by_cases e : q = n
        · subst e; exact Or.inr b3
        · exact Or.inl ⟨q, by omega, b1, b2, b3⟩
    · rw [enQ_no c, enQ_mem]
      constructor
      · rintro ⟨q, a, b⟩; exact ⟨q, by omega, b⟩
      · rintro ⟨q, a, b1, b2, b3⟩
        by_cases e : q = n
        · subst e; exact absurd ⟨b1, b2⟩ c
        · exact ⟨q, by omega, b1, b2, b3⟩
theorem enP_mem {G : PM} {w : List Nat} : ∀ {n}, w ∈ enP G n ↔ ∃ p, p < n ∧ w ∈ enQ G p (pn G)
  | 0 => ⟨fun h => by simp [enP] at h, fun ⟨q, h, _⟩ => by omega⟩
  | n + 1 => by
    show w ∈ enP G n ++ enQ G n (pn G) ↔ _
    rw [List.mem_append, enP_mem]
    constructor
    · rintro (⟨p, a, b⟩ | h)
      · exact ⟨p, by omega, b⟩
      · exact ⟨n, by omega, h⟩
    · rintro ⟨p, a, b⟩
      by_cases e : p = n
      · subst e; exact Or.inr b
      · exact Or.inl ⟨p, by omega, b⟩
theorem enQ_len (G : PM) (p : Nat) : ∀ n, (enQ G p n).length ≤ n - 1
  | 0 => Nat.le_refl _
  | n + 1 => by
    have g := enQ_len G p n
    by_cases c : p < n ∧ fuC G p G n ≠ 0
    · rw [enQ_yes c, List.length_append, List.length_singleton]; omega
    · rw [enQ_no c]; omega
theorem enP_len {G : PM} (h : pn G ≤ 8) : ∀ n, (enP G n).length ≤ 7 * n
  | 0 => Nat.le_refl _
  | n + 1 => by
    show (enP G n ++ enQ G n (pn G)).length ≤ _
    have a := enP_len h n
    have b := enQ_len G n (pn G)
    rw [List.length_append]; omega
/-- a word that parts -/
theorem wdC_fu {G : PM} (hG : okM G) {p q : Nat} (hp : p < pn G) (hq : q < pn G) (h : fuC G p G q ≠ 0) : vw (pl G) (wdC (fuC G p G q)) ∧ (wdC (fuC G p G q)).length ≤ 14 ∧ fuC G p G q = cd (wdC (fuC G p G q)) := by
  rcases fuC_is hG hG rfl hp hq with ⟨e, _⟩ | ⟨w, h1, h2, e, _⟩
  · exact absurd e h
  · have := wdC_of (vw_mono h1 (show pl G ≤ 4 by have := hG.2.1.2; omega))
    rw [e, this]; exact ⟨h1, h2, rfl⟩
theorem enP_ok {G : PM} (hG : okM G) {n : Nat} (hn : n ≤ pn G) {w : List Nat} (h : w ∈ enP G n) : vw (pl G) w ∧ w.length ≤ 14 := by
  obtain ⟨p, p1, p2⟩ := enP_mem.mp h
  obtain ⟨q, q1, q2, q3, q4⟩ := enQ_mem.mp p2
  have := wdC_fu hG (show p < pn G by omega) q1 q3
  rw [q4]; exact ⟨this.1, this.2.1⟩
theorem enL_ok {G : PM} (hG : okM G) {w : List Nat} (h : w ∈ enL G) : vw (pl G) w ∧ w.length ≤ 14 := by
  unfold enL at h
  split at h
  · rw [List.mem_singleton] at h; subst h; exact ⟨vw_nil _, Nat.zero_le _⟩
  · exact enP_ok hG (Nat.le_refl _) h
theorem enL_len {G : PM} (hG : okM G) : 1 ≤ (enL G).length ∧ (enL G).length ≤ 56 := by
  have := enP_len hG.1.2 (pn G)
  have := hG.1.2
  unfold enL
  split
  · exact ⟨Nat.le_refl _, by decide⟩
  · constructor <;> omega
/-- a state's first word -/
theorem reC_ex {G : PM} (hG : okM G) {s : Nat} (h : isRe (pl G) G s (reC G s)) (h0 : reC G s ≠ 0) : vw (pl G) (wdC (reC G s)) ∧ (wdC (reC G s)).length ≤ 7 ∧ reC G s = cd (wdC (reC G s)) := by
  rcases h with ⟨e, _⟩ | ⟨w, h1, h2, e, _⟩
  · exact absurd e h0
  · have := wdC_of (vw_mono h1 (show pl G ≤ 4 by have := hG.2.1.2; omega))
    rw [e, this]; exact ⟨h1, h2, rfl⟩
noncomputable def reW (G : PM) (s : Nat) : Option (List Nat) := @ite _ (reC G s = 0) (Classical.propDecidable _) none (some (wdC (reC G s)))
theorem reW_0 {G : PM} {s : Nat} (h : reC G s = 0) : reW G s = none := if_pos h
theorem reW_1 {G : PM} {s : Nat} (h : reC G s ≠ 0) : reW G s = some (wdC (reC G s)) := if_neg h
/-- is a test -/
def isT (G : PM) (k : Nat) (v : List Nat) : Prop := ∃ s f m e, s < pn G ∧ reW G s = some f ∧ (vw (pl G) m ∧ m.length ≤ k + 1) ∧ e ∈ enL G ∧ v = f ++ m ++ e
noncomputable def rawT (G : PM) (k : Nat) : List (List Nat) := (List.range (pn G)).flatMap (fun s => match reW G s with
  | none => []
  | some f => (wL (pl G) (k + 1)).flatMap (fun m => (enL G).map (fun e => f ++ m ++ e)))
theorem rawT_mem {G : PM} {k : Nat} {v : List Nat} : v ∈ rawT G k ↔ isT G k v := by
  unfold rawT
  rw [List.mem_flatMap]
  constructor
  · rintro ⟨s, hs, h⟩
    rw [List.mem_range] at hs
    cases e : reW G s with
    | none => rw [e] at h; simp at h
    | some f =>
      rw [e] at h
      obtain ⟨m, hm, h2⟩ := List.mem_flatMap.mp h
      obtain ⟨u, hu, e2⟩ := List.mem_map.mp h2
      exact ⟨s, f, m, u, hs, e, wL_mem.mp hm, hu, e2.symm⟩
  · rintro ⟨s, f, m, e, hs, hf, hm, he, hv⟩
    refine ⟨s, List.mem_range.mpr hs, ?_⟩
    rw [hf]
    exact List.mem_flatMap.mpr ⟨m, wL_mem.mpr hm, List.mem_map.mpr ⟨e, he, hv.symm⟩⟩
theorem rawT_len {G : PM} (hG : okM G) {k : Nat} (hk : k ≤ 2) : (rawT G k).length ≤ 17920 := by
  have e1 := enL_len hG
  have e2 := wL_40 (l := pl G) (k := k + 1) hG.2.1.2 (by omega)
  have h := flat_len (f := fun s => match reW G s with
    | none => []
    | some f => (wL (pl G) (k + 1)).flatMap (fun m => (enL G).map (fun e => f ++ m ++ e))) (b := 2240) (L := List.range (pn G)) (fun s _ => by
      cases e : reW G s with
      | none => simp
      | some f =>
        have g := flat_len (f := fun m => (enL G).map (fun e => f ++ m ++ e)) (b := 56) (L := wL (pl G) (k + 1)) (fun m _ => by rw [List.length_map]; exact e1.2)
        show ((wL (pl G) (k + 1)).flatMap (fun m => (enL G).map (fun e => f ++ m ++ e))).length ≤ _
        have := Nat.mul_le_mul_right 56 e2
        omega)
  rw [List.length_range] at h
  have := Nat.mul_le_mul_right 2240 hG.1.2
  unfold rawT
  omega
theorem reC_isA {G : PM} (hG : okM G) (hr : ∀ s, s < pn G → isRe (pl G) G s (reC G s)) {k : Nat} (hk : k ≤ 2) {v : List Nat} (h : isT G k v) : vw (pl G) v ∧ v.length ≤ 24 := by
  obtain ⟨s, f, m, e, hs, hf, hm, he, hv⟩ := h
  have h0 : reC G s ≠ 0 := fun q => by rw [reW_0 q] at hf; cases hf
  rw [reW_1 h0] at hf
  have ef := Option.some.inj hf
  have g := reC_ex hG (hr s hs) h0
  have g2 := enL_ok hG he
  rw [hv, ← ef]
  refine ⟨vw_app.mpr ⟨vw_app.mpr ⟨g.1, hm.1⟩, g2.1⟩, ?_⟩
  rw [List.length_append, List.length_append]; omega
-- what is told of a list of words
def mxL (L : List (List Nat)) : Nat := L.foldl (fun a w => max a w.length) 0
theorem mxL_go {L : List (List Nat)} {a b : Nat} : L.foldl (fun a w => max a w.length) a ≤ b ↔ a ≤ b ∧ ∀ w, w ∈ L → w.length ≤ b := by
  induction L generalizing a with
  | nil => simp
  | cons x L ih =>
    rw [List.foldl_cons, ih]
    constructor
    · rintro ⟨h1, h2⟩
      refine ⟨by omega, fun w hw => ?_⟩
      rcases List.mem_cons.mp hw with e | e
      · subst e; omega
      · exact h2 w e
    · rintro ⟨h1, h2⟩
      have := h2 x List.mem_cons_self
      exact ⟨by omega, fun w hw => h2 w (List.mem_cons_of_mem _ hw)⟩
theorem mxL_le {L : List (List Nat)} {b : Nat} : mxL L ≤ b ↔ ∀ w, w ∈ L → w.length ≤ b := by
  unfold mxL; rw [mxL_go]; exact ⟨fun h => h.2, fun h => ⟨Nat.zero_le _, h⟩⟩
theorem mxL_cg {L K : List (List Nat)} (h : ∀ w, w ∈ L ↔ w ∈ K) : mxL L = mxL K := by
  apply Nat.le_antisymm
  · exact mxL_le.mpr (fun w hw => mxL_le.mp (Nat.le_refl _) w ((h w).mp hw))
  · exact mxL_le.mpr (fun w hw => mxL_le.mp (Nat.le_refl _) w ((h w).mpr hw))
theorem mxL_snoc (L : List (List Nat)) (w : List Nat) : mxL (L ++ [w]) = max (mxL L) w.length := by unfold mxL; rw [List.foldl_append]; rfl
/-- how many of a list were asked -/
def asN (s L : List (List Nat)) : Nat := (L.filter (fun w => decide (w ∈ s))).length
theorem asN_cg {s t L K : List (List Nat)} (h1 : L.Nodup) (h2 : K.Nodup) (h : ∀ w, w ∈ L ↔ w ∈ K) (hs : ∀ w, w ∈ s ↔ w ∈ t) : asN s L = asN t K := by
  unfold asN
  apply Nat.le_antisymm
  · exact nodupW_le (List.Nodup.sublist List.filter_sublist h1) (fun x hx => by
      rw [List.mem_filter] at hx ⊢
      exact ⟨(h x).mp hx.1, by simpa using (hs x).mp (by simpa using hx.2)⟩)
  · exact nodupW_le (List.Nodup.sublist List.filter_sublist h2) (fun x hx => by
      rw [List.mem_filter] at hx ⊢
      exact ⟨(h x).mpr hx.1, by simpa using (hs x).mpr (by simpa using hx.2)⟩)
theorem asN_snoc (s L : List (List Nat)) (w : List Nat) : asN s (L ++ [w]) = asN s L + if w ∈ s then 1 else 0 := by
  unfold asN
  rw [List.filter_append, List.length_append]
  by_cases c : w ∈ s
  · rw [if_pos c, List.filter_cons_of_pos (by simpa using c)]; rfl
  · rw [if_neg c, List.filter_cons_of_neg (by simpa using c)]; rfl
/-- the first of a list that two answer unlike -/
def isLW (G A : PM) (L : List (List Nat)) (c : Nat) : Prop := (c = 0 ∧ ∀ w, w ∈ L → an G 0 w = an A 0 w) ∨ ∃ w, w ∈ L ∧ an G 0 w ≠ an A 0 w ∧ c = cd w ∧ ∀ u, u ∈ L → an G 0 u ≠ an A 0 u → cd w ≤ cd u
theorem isLW_un {G A : PM} {L K : List (List Nat)} {c e : Nat} (hK : ∀ w, w ∈ L ↔ w ∈ K) (h : isLW G A L c) (g : isLW G A K e) : c = e := by
  rcases h with ⟨h1, h2⟩ | ⟨w, w1, w2, w3, w4⟩ <;> rcases g with ⟨g1, g2⟩ | ⟨v, v1, v2, v3, v4⟩
  · rw [h1, g1]
  · exact absurd (h2 v ((hK v).mpr v1)) v2
  · exact absurd (g2 w ((hK w).mp w1)) w2
  · have a := w4 v ((hK v).mpr v1) v2
    have b := v4 w ((hK w).mp w1) w2
    omega
theorem isLW_snoc {G A : PM} {L : List (List Nat)} {w : List Nat} {c : Nat} (h : isLW G A L c) : isLW G A (L ++ [w]) (if an G 0 w ≠ an A 0 w ∧ (c = 0 ∨ cd w < c) then cd w else c) := by
  have mem : ∀ {u}, u ∈ L ++ [w] ↔ u ∈ L ∨ u = w := by intro u; rw [List.mem_append, List.mem_singleton]
  by_cases q : an G 0 w ≠ an A 0 w ∧ (c = 0 ∨ cd w < c)
  · rw [if_pos q]
    refine Or.inr ⟨w, mem.mpr (Or.inr rfl), q.1, rfl, fun u hu hne => ?_⟩
    rcases mem.mp hu with e | e
    · rcases h with ⟨h1, h2⟩ | ⟨v, v1, v2, v3, v4⟩
      · exact absurd (h2 u e) hne
      · have := v4 u e hne
        have := cd_pos v
        rcases q.2 with z | z <;> omega
    · rw [e]; exact Nat.le_refl _
  · rw [if_neg q]
    by_cases hw : an G 0 w ≠ an A 0 w
    · have q2 : ¬ (c = 0 ∨ cd w < c) := fun z => q ⟨hw, z⟩
      rcases h with ⟨h1, h2⟩ | ⟨v, v1, v2, v3, v4⟩
      · exact absurd (Or.inl h1) q2
      · refine Or.inr ⟨v, mem.mpr (Or.inl v1), v2, v3, fun u hu hne => ?_⟩
        rcases mem.mp hu with e | e
        · exact v4 u e hne
        · rw [e]; omega
    · have hw : an G 0 w = an A 0 w := Classical.byContradiction hw
      rcases h with ⟨h1, h2⟩ | ⟨v, v1, v2, v3, v4⟩
      · refine Or.inl ⟨h1, fun u hu => ?_⟩
        rcases mem.mp hu with e | e
        · exact h2 u e
        · rw [e]; exact hw
      · refine Or.inr ⟨v, mem.mpr (Or.inl v1), v2, v3, fun u hu hne => ?_⟩
        rcases mem.mp hu with e | e
        · exact v4 u e hne
        · rw [e] at hne; exact absurd hw hne
noncomputable def lwC (G A : PM) (L : List (List Nat)) : Nat := @dite _ (∃ c, isLW G A L c) (Classical.propDecidable _) (fun h => Classical.choose h) (fun _ => 0)
theorem lwC_of {G A : PM} {L : List (List Nat)} {c : Nat} (h : isLW G A L c) : lwC G A L = c := by
  have e : ∃ c, isLW G A L c := ⟨c, h⟩
  have e2 : lwC G A L = Classical.choose e := dif_pos e
  rw [e2]; exact isLW_un (fun _ => Iff.rfl) (Classical.choose_spec e) h
/-- the tests of k of a guess: the words, and how many letters they have -/
noncomputable def tsS (G : PM) (k : Nat) : List (List Nat) × Nat := aSs 0 1 ([], 0) (rawT G k)
theorem tsS_mem {G : PM} {k : Nat} {v : List Nat} : v ∈ (tsS G k).1 ↔ isT G k v := by
  unfold tsS; rw [aSs_mem, rawT_mem]; simp
noncomputable def tsR (A G : PM) (s : List (List Nat)) (k : Nat) : List Int64 := [(nI (tsS G k).2).toInt64, (nI (mxL (tsS G k).1)).toInt64, (nI (asN s (tsS G k).1)).toInt64]
/-- any list with the same words -/
theorem tsS_eq {G : PM} {k : Nat} {L : List (List Nat)} (h : ∀ v, v ∈ L ↔ isT G k v) : eqS (aSs 0 1 ([], 0) L) (tsS G k) := aSs_eq (eqS.rf List.nodup_nil) (fun w => by rw [h, rawT_mem])
