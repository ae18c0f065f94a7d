/-! going through a graph by words, the first in order ahead: q are the words found, of place i the letters ahead of x are done; Fp: the words that are gone on from -/
def qk (q : List (List Nat)) (k : Nat) : List Nat := q.getD k []
def nd (t : Nat → Nat → Nat) (c : Nat) (q : List (List Nat)) (k : Nat) : Nat := rn t c (qk q k)
def FP (Fp : Nat → Prop) (u : List Nat) : Prop := ∀ v y, u = v ++ [y] → Fp (cd v)
def dcl (Fp : Nat → Prop) : Prop := ∀ a b, a ≤ b → Fp b → Fp a
def BI (t : Nat → Nat → Nat) (c l : Nat) (Fp : Nat → Prop) (q : List (List Nat)) (i x : Nat) : Prop :=
  (0 < q.length ∧ qk q 0 = []) ∧ (∀ j, j < q.length → vw l (qk q j) ∧ (qk q j).length ≤ j ∧ FP Fp (qk q j)) ∧ (∀ a b, a < b → b < q.length → cd (qk q a) < cd (qk q b)) ∧ (∀ a b, a < b → b < q.length → nd t c q a ≠ nd t c q b) ∧
  (∀ j, j < q.length → ∀ u, vw l u → rn t c u = nd t c q j → cd (qk q j) ≤ cd u) ∧ (∀ j y, j < q.length → y < l → (j < i ∨ (j = i ∧ y < x)) → Fp (cd (qk q j)) → ∃ k, k < q.length ∧ nd t c q k = t (nd t c q j) y) ∧ (i < q.length → ∀ j, j < q.length → cd (qk q j) < 4 * cd (qk q i) + x)
theorem qk_old {q : List (List Nat)} {w : List Nat} {k : Nat} (h : k < q.length) : qk (q ++ [w]) k = qk q k := by
  unfold qk
  simp [List.getD, List.getElem?_append_left h]
theorem qk_new (q : List (List Nat)) (w : List Nat) : qk (q ++ [w]) q.length = w := by
  unfold qk
  simp [List.getD]
section Bfs
variable {t : Nat → Nat → Nat} {c l : Nat} {Fp : Nat → Prop} {q : List (List Nat)} {i x : Nat}
theorem cd_snc (v : List Nat) (y : Nat) : cd (v ++ [y]) = 4 * cd v + y := cd_snoc v y
theorem FP_le (hd : dcl Fp) (hl : l ≤ 4) {u v : List Nat} (hu : vw l u) (hv : vw l v) (h : cd u ≤ cd v) (hF : FP Fp v) : FP Fp u := by
  intro a y e
  subst e
  have a2 := vw_app.mp hu
  have hy : y < l := a2.2 y (by simp)
  have hne : v ≠ [] := by
    intro e; rw [e, cd_nil, cd_snoc] at h
    have := cd_pos a
    omega
  obtain ⟨b, z, rfl⟩ : ∃ b z, v = b ++ [z] := ⟨_, _, (List.dropLast_concat_getLast hne).symm⟩
  have b2 := vw_app.mp hv
  have hz : z < l := b2.2 z (by simp)
  rw [cd_snoc, cd_snoc] at h
  exact hd _ _ (by omega) (hF b z rfl)
/-- what is done already is there -/
theorem BI.seen (h : BI t c l Fp q i x) (hl : l ≤ 4) (hd : dcl Fp) {β : Nat} (hB : ∀ k y, k < q.length → y < l → 4 * cd (qk q k) + y < β → k < i ∨ (k = i ∧ y < x)) (u : List Nat) (hu : vw l u) (hb : cd u < β) (hF : FP Fp u) : ∃ k, k < q.length ∧ nd t c q k = rn t c u ∧ cd (qk q k) ≤ cd u := by
  obtain ⟨⟨h0, h0'⟩, h1, h2, h3, h4, h5, h6⟩ := h
  induction u using snoc_ind with
  | h0 => exact ⟨0, h0, by unfold nd; rw [h0'], by rw [h0']; exact Nat.le_refl _⟩
  | h1 u y ih =>
    have a := vw_app.mp hu
    have hy : y < l := a.2 y (by simp)
    rw [cd_snoc] at hb
    obtain ⟨k, k1, k2, k3⟩ := ih a.1 (by omega) (by
      intro v z e
      refine hd _ _ ?_ (hF u y rfl)
      rw [e, cd_snoc]; omega)
    have k4 := hB k y k1 hy (by omega)
    obtain ⟨k', g1, g2⟩ := h5 k y k1 hy k4 (hd _ _ k3 (hF u y rfl))
    have g3 : nd t c q k' = rn t c (u ++ [y]) := by rw [g2, rn_snoc, k2]
    exact ⟨k', g1, g3, h4 k' g1 _ hu g3.symm⟩
theorem BI.beta (h : BI t c l Fp q i x) (hl : l ≤ 3) (hi : i < q.length) (hx : x ≤ 3) : ∀ k y, k < q.length → y < l → 4 * cd (qk q k) + y < 4 * cd (qk q i) + x → k < i ∨ (k = i ∧ y < x) := by
  intro k y hk hy hb
  rcases Nat.lt_trichotomy k i with g | g | g
  · exact Or.inl g
  · subst g; exact Or.inr ⟨rfl, by omega⟩
  · have := h.2.2.1 i k g hk
    omega
theorem BI.init (hc : l ≤ 3) : BI t c l Fp [[]] 0 0 := by
  refine ⟨⟨by decide, rfl⟩, fun j hj => ?_, fun a b h1 h2 => ?_, fun a b h1 h2 => ?_, fun j hj u _ _ => ?_, fun j y hj hy h => ?_, fun _ j hj => ?_⟩
  · have : j = 0 := by simpa using hj
    subst this
    exact ⟨vw_nil l, Nat.le_refl _, fun v y e => by simp [qk] at e⟩
  · have : b = 0 := by simpa using h2
    omega
  · have : b = 0 := by simpa using h2
    omega
  · have : j = 0 := by simpa using hj
    subst this
    exact cd_pos u
  · omega
  · have : j = 0 := by simpa using hj
    subst this
    show cd [] < 4 * cd [] + 0
    decide
/-- a letter that comes to what was there -/
theorem BI.old (h : BI t c l Fp q i x) (hv : ∃ k, k < q.length ∧ nd t c q k = t (nd t c q i) x) : BI t c l Fp q i (x + 1) := by
  obtain ⟨h0, h1, h2, h3, h4, h5, h6⟩ := h
  refine ⟨h0, h1, h2, h3, h4, fun j y hj hy hc hF => ?_, fun hi j hj => ?_⟩
  · rcases hc with g | ⟨g, g2⟩
    · exact h5 j y hj hy (Or.inl g) hF
    · subst g
      by_cases e : y = x
      · subst e; exact hv
      · exact h5 j y hj hy (Or.inr ⟨rfl, by omega⟩) hF
  · have := h6 hi j hj; omega
/-- a letter that comes to something new -/
theorem BI.new (h : BI t c l Fp q i x) (hl : l ≤ 3) (hd : dcl Fp) (hi : i < q.length) (hx : x < l) (hF : Fp (cd (qk q i))) (hv : ∀ k, k < q.length → nd t c q k ≠ t (nd t c q i) x) : BI t c l Fp (q ++ [qk q i ++ [x]]) i (x + 1) := by
  have hB := h.beta hl hi (by omega)
  have hs := h.seen (by omega) hd hB
  obtain ⟨⟨h0, h0'⟩, h1, h2, h3, h4, h5, h6⟩ := h
  have hlen : (q ++ [qk q i ++ [x]]).length = q.length + 1 := by simp
  have nold : ∀ k, k < q.length → nd t c (q ++ [qk q i ++ [x]]) k = nd t c q k := fun k hk => by unfold nd; rw [qk_old hk]
  have nnew : nd t c (q ++ [qk q i ++ [x]]) q.length = t (nd t c q i) x := by unfold nd; rw [qk_new, rn_snoc]
  have cnew : cd (qk (q ++ [qk q i ++ [x]]) q.length) = 4 * cd (qk q i) + x := by rw [qk_new, cd_snoc]
  refine ⟨⟨by omega, by rw [qk_old h0]; exact h0'⟩, fun j hj => ?_, fun a b ha hb => ?_, fun a b ha hb => ?_, fun j hj u hu e => ?_, fun j y hj hy hc hF' => ?_, fun _ j hj => ?_⟩
  · rw [hlen] at hj
    by_cases e : j = q.length
    · subst e
      rw [qk_new]
      have g := h1 i hi
      refine ⟨vw_app.mpr ⟨g.1, fun z hz => by simp at hz; omega⟩, by simp; omega, fun v y e => ?_⟩
      have e2 := (List.append_inj' e rfl).1
      rw [← e2]; exact hF
    · rw [qk_old (by omega)]; exact h1 j (by omega)
  · rw [hlen] at hb
    by_cases e : b = q.length
    · subst e
      rw [cnew, qk_old (by omega)]
      exact h6 hi a (by omega)
    · rw [qk_old (by omega), qk_old (by omega)]; exact h2 a b ha (by omega)
  · rw [hlen] at hb
    by_cases e : b = q.length
    · subst e
      rw [nnew, nold a (by omega)]
      exact hv a (by omega)
    · rw [nold a (by omega), nold b (by omega)]; exact h3 a b ha (by omega)
  · rw [hlen] at hj
    by_cases e' : j = q.length
    · subst e'
      rw [cnew]
      rw [nnew] at e
      apply Nat.le_of_not_lt
      intro hlt
      obtain ⟨k, k1, k2, k3⟩ := hs u hu hlt (by
        have g := h1 i hi
        refine FP_le hd (l := l) (by omega) hu (v := qk q i ++ [x]) (vw_app.mpr ⟨g.1, fun z hz => by simp at hz; omega⟩) (by rw [cd_snoc]; omega) (fun v y e => ?_)
        have e2 := (List.append_inj' e rfl).1
        rw [← e2]; exact hF)
      exact hv k k1 (k2.trans e)
    · rw [qk_old (by omega)]
      rw [nold j (by omega)] at e
      exact h4 j (by omega) u hu e
  · rw [hlen] at hj
    by_cases e' : j = q.length
    · subst e'; omega
    · rw [qk_old (by omega)] at hF'
      rw [nold j (by omega)]
      by_cases ex : j = i ∧ y = x
      · obtain ⟨rfl, rfl⟩ := ex
        exact ⟨q.length, by omega, nnew⟩
      · obtain ⟨k, k1, k2⟩ := h5 j y (by omega) hy (by omega) hF'
        exact ⟨k, by omega, by rw [nold k k1]; exact k2⟩
  · rw [hlen] at hj
    rw [qk_old hi]
    by_cases e' : j = q.length
    · subst e'; rw [cnew]; omega
    · rw [qk_old (by omega)]
      have := h6 hi j (by omega)
      omega
/-- the next word -/
theorem BI.next (h : BI t c l Fp q i x) (hl : x ≤ 4) (hi : i < q.length) (hx : l ≤ x ∨ ¬ Fp (cd (qk q i))) : BI t c l Fp q (i + 1) 0 := by
  obtain ⟨h0, h1, h2, h3, h4, h5, h6⟩ := h
  refine ⟨h0, h1, h2, h3, h4, fun j y hj hy hc hF => ?_, fun hi' j hj => ?_⟩
  · by_cases e : j = i
    · subst e
      rcases hx with g | g
      · exact h5 j y hj hy (Or.inr ⟨rfl, by omega⟩) hF
      · exact absurd hF g
    · exact h5 j y hj hy (Or.inl (by omega)) hF
  · have a := h6 hi j hj
    have b := h2 i (i + 1) (by omega) hi'
    omega
/-- at the end -/
theorem BI.all (h : BI t c l Fp q i x) (hl : l ≤ 4) (hd : dcl Fp) (hi : q.length ≤ i) (u : List Nat) (hu : vw l u) (hF : FP Fp u) : ∃ k, k < q.length ∧ nd t c q k = rn t c u ∧ cd (qk q k) ≤ cd u :=
  h.seen hl hd (β := cd u + 1) (fun k y hk _ _ => Or.inl (by omega)) u hu (by omega) hF
/-- ahead of place i -/
theorem BI.ahead (h : BI t c l Fp q i 0) (hl : l ≤ 3) (hd : dcl Fp) (hi : i < q.length) (u : List Nat) (hu : vw l u) (hb : cd u < cd (qk q i)) : ∃ k, k < i ∧ nd t c q k = rn t c u := by
  have g := h.2.1 i hi
  obtain ⟨k, k1, k2, k3⟩ := h.seen (by omega) hd (h.beta hl hi (by omega)) u hu (by omega) (FP_le hd (l := l) (by omega) hu g.1 (by omega) g.2.2)
  refine ⟨k, ?_, k2⟩
  rcases Nat.lt_trichotomy k i with e | e | e
  · exact e
  · subst e; omega
  · have := h.2.2.1 i k e k1; omega
theorem nodup_of_ne {f : Nat → Nat} : ∀ {n}, (∀ a b, a < b → b < n → f a ≠ f b) → ((List.range n).map f).Nodup
  | 0, _ => List.nodup_nil
  | n + 1, h => by
    rw [List.range_succ, List.map_append, List.nodup_append]
    refine ⟨nodup_of_ne (n := n) (fun a b h1 h2 => h a b h1 (by omega)), by simp, fun a ha b hb => ?_⟩
    simp only [List.map_cons, List.map_nil, List.mem_singleton] at hb
    obtain ⟨k, hk, rfl⟩ := List.mem_map.mp ha
    rw [hb]
    exact h k n (by simpa using hk) (by omega)
theorem BI.len (h : BI t c l Fp q i x) {N : Nat} (hN : ∀ j, j < q.length → nd t c q j < N) : q.length ≤ N := by
  have := nodup_le (nodup_of_ne h.2.2.2.1) (K := List.range N) (fun y hy => by
    obtain ⟨k, hk, rfl⟩ := List.mem_map.mp hy
    simpa using hN k (by simpa using hk))
  simpa using this
end Bfs
-- answers, and the first word by which two answer unlike
def an (A : PM) (s : Nat) (u : List Nat) : Nat := po A (rn (pt A) s u)
def isFU (l : Nat) (A : PM) (p : Nat) (B : PM) (q : Nat) (c : Nat) : Prop := (c = 0 ∧ ∀ u, vw l u → an A p u = an B q u) ∨ ∃ w, vw l w ∧ w.length ≤ 14 ∧ c = cd w ∧ an A p w ≠ an B q w ∧ ∀ u, vw l u → cd u < cd w → an A p u = an B q u
theorem isFU_un {l : Nat} {A B : PM} {p q c e : Nat} (h : isFU l A p B q c) (g : isFU l A p B q e) : c = e := by
  rcases h with ⟨h1, h2⟩ | ⟨w, w1, -, w2, w3, w4⟩ <;> rcases g with ⟨g1, g2⟩ | ⟨v, v1, -, v2, v3, v4⟩
  · rw [h1, g1]
  · exact absurd (h2 v v1) v3
  · exact absurd (g2 w w1) w3
  · rcases Nat.lt_trichotomy (cd w) (cd v) with z | z | z
    · exact absurd (v4 w w1 z) w3
    · rw [w2, v2, z]
    · exact absurd (w4 v v1 z) v3
/-- the first word that ends at a state -/
def isRe (l : Nat) (A : PM) (s c : Nat) : Prop := (c = 0 ∧ ∀ u, vw l u → rn (pt A) 0 u ≠ s) ∨ ∃ w, vw l w ∧ w.length ≤ 7 ∧ c = cd w ∧ rn (pt A) 0 w = s ∧ ∀ u, vw l u → rn (pt A) 0 u = s → cd w ≤ cd u
theorem isRe_un {l : Nat} {A : PM} {s c e : Nat} (h : isRe l A s c) (g : isRe l A s e) : c = e := by
  rcases h with ⟨h1, h2⟩ | ⟨w, w1, -, w2, w3, w4⟩ <;> rcases g with ⟨g1, g2⟩ | ⟨v, v1, -, v2, v3, v4⟩
  · rw [h1, g1]
  · exact absurd v3 (h2 v v1)
  · exact absurd w3 (g2 w w1)
  · have := w4 v v1 v3
    have := v4 w w1 w3
    omega
-- pairs
def stP (A B : PM) (c x : Nat) : Nat := 8 * pt A (c / 8) x + pt B (c % 8) x
theorem rn_pair {A B : PM} (hA : okM A) (hB : okM B) (hl : pl B = pl A) {p q : Nat} (hp : p < pn A) (hq : q < pn B) {w : List Nat} (hw : vw (pl A) w) : rn (stP A B) (8 * p + q) w = 8 * rn (pt A) p w + rn (pt B) q w := by
  induction w using snoc_ind with
  | h0 => rfl
  | h1 w x ih =>
    have h2 := vw_app.mp hw
    have hb := hB.1.2
    have h3 := rn_lt hB hq (w := w) (by rw [hl]; exact h2.1)
    rw [rn_snoc, rn_snoc, rn_snoc, ih h2.1]
    unfold stP
    rw [show (8 * rn (pt A) p w + rn (pt B) q w) / 8 = rn (pt A) p w by omega, show (8 * rn (pt A) p w + rn (pt B) q w) % 8 = rn (pt B) q w by omega]
