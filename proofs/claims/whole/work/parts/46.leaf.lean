/-! what is learnt by a tree -/
theorem sf_0 {A : PM} {T : List (List Nat)} {K : Nat → Nat} {q f k : Nat} (h : K (k * 4 + an A q (T.getD k [])) < 100) : sf A T K q (f + 1) k = (1, k * 4 + an A q (T.getD k [])) := if_pos h
theorem sf_1 {A : PM} {T : List (List Nat)} {K : Nat → Nat} {q f k : Nat} (h : ¬ K (k * 4 + an A q (T.getD k [])) < 100) : (sf A T K q (f + 1) k).2 = (sf A T K q f (K (k * 4 + an A q (T.getD k [])) - 100)).2 := by
  rw [show sf A T K q (f + 1) k = ((sf A T K q f (K (k * 4 + an A q (T.getD k [])) - 100)).1 + 1, (sf A T K q f (K (k * 4 + an A q (T.getD k [])) - 100)).2) from if_neg h]
/-- a sift ends where no knot lies -/
theorem sf_end {A : PM} {H T : List (List Nat)} {K : Nat → Nat} {q : Nat} (hW : TW H T K) (h4 : ∀ e, e ∈ T → an A q e < 4) : ∀ f k, T.length ≤ k + f → k < T.length → K (sf A T K q f k).2 < 100 ∧ (sf A T K q f k).2 < 4 * T.length := by
  intro f
  induction f with
  | zero => intro k h1 h2; omega
  | succ f ih =>
    intro k h1 h2
    have ha := h4 _ (getD_mem h2)
    by_cases c : K (k * 4 + an A q (T.getD k [])) < 100
    · rw [sf_0 c]; exact ⟨c, by show k * 4 + _ < _; omega⟩
    · rw [sf_1 c]
      have h9 := hW.1.2.2
      rcases hW.2.2 _ (show k * 4 + an A q (T.getD k []) < 4 * T.length by omega) with g | ⟨a, a1, g⟩ | ⟨k', k1, k2, g⟩
      · omega
      · omega
      · rw [g, show 100 + k' - 100 = k' by omega]
        exact ih k' (by omega) k2
/-- a new leaf where nothing lay changes no sift -/
theorem sf_new {A : PM} {T : List (List Nat)} {K : Nat → Nat} {q c0 v : Nat} (h0 : K c0 = 0) (hv : v < 100) : ∀ f k, (sf A T (upN K c0 v) q f k).2 = (sf A T K q f k).2
  | 0, k => rfl
  | f + 1, k => by
    by_cases e : k * 4 + an A q (T.getD k []) = c0
    · have h1 : K (k * 4 + an A q (T.getD k [])) < 100 := by rw [e, h0]; decide
      have h2 : upN K c0 v (k * 4 + an A q (T.getD k [])) < 100 := by rw [e]; unfold upN; rw [if_pos rfl]; exact hv
      rw [sf_0 h1, sf_0 h2]
    · have e2 : upN K c0 v (k * 4 + an A q (T.getD k [])) = K (k * 4 + an A q (T.getD k [])) := if_neg e
      by_cases c : K (k * 4 + an A q (T.getD k [])) < 100
      · rw [sf_0 c, sf_0 (by rw [e2]; exact c)]
      · rw [sf_1 c, sf_1 (by rw [e2]; exact c), e2]
        exact sf_new h0 hv f _
/-- a knot where leaf a lay -/
theorem sf_kn {A : PM} {H T : List (List Nat)} {K K' : Nat → Nat} {q a : Nat} {e : List Nat} (ha9 : a < 90) (hW : TW H T K) (h4 : ∀ e, e ∈ T → an A q e < 4) (hK : ∀ c, c < 4 * T.length → K' c = if K c = 1 + a then 100 + T.length else K c) (hn : K' (T.length * 4 + an A q e) < 100) : ∀ f f' k, T.length ≤ k + f → T.length + 1 ≤ k + f' → k < T.length → (K (sf A T K q f k).2 ≠ 1 + a → (sf A (T ++ [e]) K' q f' k).2 = (sf A T K q f k).2) ∧ (K (sf A T K q f k).2 = 1 + a → (sf A (T ++ [e]) K' q f' k).2 = T.length * 4 + an A q e) := by
  intro f
  induction f with
  | zero => intro f' k h1 _ h2; omega
  | succ f ih =>
    intro f' k h1 h1' h2
    obtain ⟨g', rfl⟩ : ∃ g', f' = g' + 1 := ⟨f' - 1, by omega⟩
    have ha := h4 _ (getD_mem h2)
    have hT : (T ++ [e]).getD k [] = T.getD k [] := getD_snoc_old h2
    have hc4 : k * 4 + an A q (T.getD k []) < 4 * T.length := by omega
    have hKc := hK _ hc4
    have h9 := hW.1
    by_cases c : K (k * 4 + an A q (T.getD k [])) < 100
    · rw [sf_0 c]
      constructor
      · intro hne
        rw [if_neg hne] at hKc
        have : K' (k * 4 + an A q ((T ++ [e]).getD k [])) < 100 := by rw [hT, hKc]; exact c
        rw [sf_0 this, hT]
      · intro heq
        rw [if_pos heq] at hKc
        have : ¬ K' (k * 4 + an A q ((T ++ [e]).getD k [])) < 100 := by rw [hT, hKc]; omega
        rw [sf_1 this, hT, hKc, show 100 + T.length - 100 = T.length by omega]
        obtain ⟨g2, rfl⟩ : ∃ g2, g' = g2 + 1 := ⟨g' - 1, by omega⟩
        have hT2 : (T ++ [e]).getD T.length [] = e := qk_new _ _
        rw [sf_0 (by rw [hT2]; exact hn), hT2]
    · rw [sf_1 c]
      rcases hW.2.2 _ hc4 with g | ⟨b, b1, g⟩ | ⟨k', k1, k2, g⟩
      · omega
      · omega
      · rw [g, if_neg (by omega)] at hKc
        have : ¬ K' (k * 4 + an A q ((T ++ [e]).getD k [])) < 100 := by rw [hT, hKc]; omega
        rw [sf_1 this, hT, hKc, g, show 100 + k' - 100 = k' by omega]
        exact ih g' k' (by omega) (by omega) k2
/-- each head's sift ends at its leaf -/
def SI (A : PM) (H T : List (List Nat)) (K : Nat → Nat) : Prop := ∀ i, i < H.length → K (sfP A T K (H.getD i [])) = 1 + i
theorem an4 {A : PM} {T : List (List Nat)} (hA : okM A) (hT : vH A T) {q : Nat} (hq : q < pn A) : ∀ e, e ∈ T → an A q e < 4 := fun e he => hA.2.2.1 _ (rn_lt hA hq (hT e he))
theorem len_of_un {A : PM} {H : List (List Nat)} (hA : okM A) (hH : vH A H) (h : ∀ a b, a < b → b < H.length → en A H a ≠ en A H b) : H.length ≤ pn A := by
  have := nodup_le (nodup_of_ne (f := fun k => en A H k) h) (K := List.range (pn A)) (fun y hy => by
    obtain ⟨k, hk, rfl⟩ := List.mem_map.mp hy
    simpa using enl hA hH (by simpa using hk))
  simpa using this
theorem SI.un {A : PM} {H T : List (List Nat)} {K : Nat → Nat} (h : SI A H T K) : ∀ a b, a < b → b < H.length → en A H a ≠ en A H b := by
  intro a b h1 h2 e
  have e1 := h a (by omega)
  have e2 := h b h2
  unfold sfP at e1 e2
  have e : rn (pt A) 0 (H.getD a []) = rn (pt A) 0 (H.getD b []) := e
  rw [e, e2] at e1
  omega
/-- a leaf lies at one place -/
def UQ (K : Nat → Nat) : Prop := ∀ c c', 0 < K c → K c < 100 → K c' = K c → c' = c
theorem TW.leaf {H T : List (List Nat)} {K : Nat → Nat} (h : TW H T K) {c : Nat} (h0 : 0 < K c) (h1 : K c < 100) : K c ≤ H.length ∧ c < 4 * T.length := by
  have h9 := h.1
  by_cases hc : c < 4 * T.length
  · rcases h.2.2 c hc with e | ⟨a, a1, e⟩ | ⟨k, k1, k2, e⟩
    · omega
    · omega
    · omega
  · rw [h.2.1 c (by omega)] at h0; omega
theorem UQ.grow {H T : List (List Nat)} {K : Nat → Nat} {c0 : Nat} (hW : TW H T K) (h : UQ K) (h0 : K c0 = 0) : UQ (upN K c0 (1 + H.length)) := by
  intro c c' h1 h2 h3
  unfold upN at h1 h2 h3
  by_cases e : c = c0 <;> by_cases e' : c' = c0
  · rw [e, e']
  · exfalso
    rw [if_pos e] at h1 h2 h3
    rw [if_neg e'] at h3
    have := (hW.leaf (c := c') (by omega) (by omega)).1
    omega
  · exfalso
    rw [if_neg e] at h1 h2 h3
    rw [if_pos e'] at h3
    have := (hW.leaf h1 h2).1
    omega
  · rw [if_neg e] at h1 h2 h3
    rw [if_neg e'] at h3
    exact h c c' h1 h2 h3
theorem lesK_v {A : PM} {H T : List (List Nat)} {K : Nat → Nat} {a : Nat} {e v : List Nat} (c : Nat) : (c = T.length * 4 + an A 0 (v ++ e) ∧ lesK A H T K a e v c = 1 + H.length) ∨ (c ≠ T.length * 4 + an A 0 (v ++ e) ∧ c = T.length * 4 + an A 0 (H.getD a [] ++ e) ∧ lesK A H T K a e v c = 1 + a) ∨ (c ≠ T.length * 4 + an A 0 (v ++ e) ∧ c ≠ T.length * 4 + an A 0 (H.getD a [] ++ e) ∧ ((K c = 1 + a ∧ lesK A H T K a e v c = 100 + T.length) ∨ (K c ≠ 1 + a ∧ lesK A H T K a e v c = K c))) := by
  by_cases h1 : c = T.length * 4 + an A 0 (v ++ e)
  · exact Or.inl ⟨h1, by unfold lesK upN; rw [if_pos h1]⟩
  · by_cases h2 : c = T.length * 4 + an A 0 (H.getD a [] ++ e)
    · exact Or.inr (Or.inl ⟨h1, h2, by unfold lesK upN; rw [if_neg h1, if_pos h2]⟩)
    · refine Or.inr (Or.inr ⟨h1, h2, ?_⟩)
      by_cases h3 : K c = 1 + a
      · exact Or.inl ⟨h3, by unfold lesK upN; rw [if_neg h1, if_neg h2]; exact if_pos h3⟩
      · exact Or.inr ⟨h3, by unfold lesK upN; rw [if_neg h1, if_neg h2]; exact if_neg h3⟩
theorem UQ.les {A : PM} {H T : List (List Nat)} {K : Nat → Nat} {a : Nat} {e v : List Nat} (hW : TW H T K) (h : UQ K) (ha : a < H.length) : UQ (lesK A H T K a e v) := by
  intro c c' h1 h2 h3
  have k1 := lesK_v (A := A) (H := H) (T := T) (K := K) (a := a) (e := e) (v := v) c
  have k2 := lesK_v (A := A) (H := H) (T := T) (K := K) (a := a) (e := e) (v := v) c'
  have lf : ∀ x, 0 < K x → K x < 100 → K x ≤ H.length := fun x g1 g2 => (hW.leaf g1 g2).1
  rcases k1 with ⟨a1, a2⟩ | ⟨a0, a1, a2⟩ | ⟨a0, a1, ⟨a2, a3⟩ | ⟨a2, a3⟩⟩ <;> rcases k2 with ⟨b1, b2⟩ | ⟨b0, b1, b2⟩ | ⟨b0, b1, ⟨b2, b3⟩ | ⟨b2, b3⟩⟩ <;> first | omega | skip
  · have := lf c' (by omega) (by omega); omega
  · have := lf c (by omega) (by omega); omega
  · exact h c c' (by omega) (by omega) (by omega)
/-- a leaf grows -/
theorem tree_grow {A : PM} {H T : List (List Nat)} {K : Nat → Nat} {w : List Nat} (hA : okM A) (hH : vH A H) (hW : TW H T K) (hS : SI A H T K) (hT : vH A T) (hw : vw (pl A) w) (h0 : K (sfP A T K w) = 0) (hU : UQ K) : TW (H ++ [w]) T (upN K (sfP A T K w) (1 + H.length)) ∧ SI A (H ++ [w]) T (upN K (sfP A T K w) (1 + H.length)) ∧ (H ++ [w]).length ≤ pn A ∧ UQ (upN K (sfP A T K w) (1 + H.length)) := by
  have h9 := hW.1
  have a8 := hA.1.2
  have hS' : SI A (H ++ [w]) T (upN K (sfP A T K w) (1 + H.length)) := by
    intro i hi
    rw [List.length_append, List.length_singleton] at hi
    show upN K (sfP A T K w) (1 + H.length) (sf A T (upN K (sfP A T K w) (1 + H.length)) (rn (pt A) 0 ((H ++ [w]).getD i [])) 8 0).2 = 1 + i
    rw [sf_new h0 (show 1 + H.length < 100 by omega)]
    by_cases e : i = H.length
    · subst e
      rw [show (H ++ [w]).getD H.length [] = w from qk_new _ _]
      exact if_pos rfl
    · rw [show (H ++ [w]).getD i [] = H.getD i [] from getD_snoc_old (by omega)]
      have := hS i (by omega)
      unfold sfP at this
      unfold upN
      rw [if_neg (fun q => by rw [q] at this; omega)]
      exact this
  have hl := len_of_un hA (vH_snoc hH hw) hS'.un
  have hend := sf_end hW (an4 hA hT (rn_lt hA hA.1.1 hw)) 8 0 (by omega) h9.1
  refine ⟨⟨⟨h9.1, h9.2.1, by omega⟩, fun c hc => ?_, fun c hc => ?_⟩, hS', hl, hU.grow hW h0⟩
  · unfold upN
    rw [if_neg (fun q => by have := hend.2; unfold sfP at q; omega)]
    exact hW.2.1 c hc
  · unfold upN
    by_cases q : c = sfP A T K w
    · rw [if_pos q]
      exact Or.inr (Or.inl ⟨H.length, by simp, rfl⟩)
    · rw [if_neg q]
      rcases hW.2.2 c hc with g | ⟨b, b1, g⟩ | g
      · exact Or.inl g
      · exact Or.inr (Or.inl ⟨b, by rw [List.length_append]; omega, g⟩)
      · exact Or.inr (Or.inr g)
/-- a leaf gives way -/
theorem tree_les {A : PM} {H T : List (List Nat)} {K : Nat → Nat} {a : Nat} {e v : List Nat} (hA : okM A) (hH : vH A H) (hW : TW H T K) (hS : SI A H T K) (hT : vH A T) (hv : vw (pl A) v) (he : vw (pl A) e) (ha : a < H.length) (hva : K (sfP A T K v) = 1 + a) (hne : an A 0 (H.getD a [] ++ e) ≠ an A 0 (v ++ e)) (hT7 : T.length ≤ H.length) (hU : UQ K) : T.length < 8 ∧ TW (H ++ [v]) (T ++ [e]) (lesK A H T K a e v) ∧ SI A (H ++ [v]) (T ++ [e]) (lesK A H T K a e v) ∧ (H ++ [v]).length ≤ pn A ∧ UQ (lesK A H T K a e v) := by
  have h9 := hW.1
  have a8 := hA.1.2
  have hl : (H ++ [v]).length ≤ pn A := by
    refine len_of_un hA (vH_snoc hH hv) (fun i j h1 h2 => ?_)
    rw [List.length_append, List.length_singleton] at h2
    rw [en_old (by omega)]
    by_cases q : j = H.length
    · subst q
      intro eq
      have eq : rn (pt A) 0 (H.getD i []) = rn (pt A) 0 ((H ++ [v]).getD H.length []) := eq
      rw [show (H ++ [v]).getD H.length [] = v from qk_new _ _] at eq
      have e1 := hS i h1
      unfold sfP at e1 hva
      rw [eq, hva] at e1
      have : i = a := by omega
      subst this
      apply hne
      rw [an_app, an_app, eq]
    · rw [en_old (by omega)]; exact hS.un i j h1 (by omega)
  rw [List.length_append, List.length_singleton] at hl
  have hT8 : T.length < 8 := by omega
  have hK : ∀ c, c < 4 * T.length → lesK A H T K a e v c = if K c = 1 + a then 100 + T.length else K c := fun c hc => by
    unfold lesK upN
    rw [if_neg (by omega), if_neg (by omega)]
  have n1 : lesK A H T K a e v (T.length * 4 + an A 0 (H.getD a [] ++ e)) = 1 + a := by
    unfold lesK upN
    rw [if_neg (by omega), if_pos rfl]
  have n2 : lesK A H T K a e v (T.length * 4 + an A 0 (v ++ e)) = 1 + H.length := by
    unfold lesK upN
    rw [if_pos rfl]
  have b1 := an_lt hA (vw_app.mpr ⟨hH _ (getD_mem ha), he⟩)
  have b2 := an_lt hA (vw_app.mpr ⟨hv, he⟩)
  have hend : ∀ q, q < pn A → K (sf A T K q 8 0).2 < 100 ∧ (sf A T K q 8 0).2 < 4 * T.length := fun q hq => sf_end hW (an4 hA hT hq) 8 0 (by omega) h9.1
  refine ⟨hT8, ⟨⟨by simp, by rw [List.length_append, List.length_singleton]; omega, by rw [List.length_append, List.length_singleton]; omega⟩, fun c hc => ?_, fun c hc => ?_⟩, fun i hi => ?_, by rw [List.length_append, List.length_singleton]; omega, hU.les hW ha⟩
  · rw [List.length_append, List.length_singleton] at hc
    unfold lesK upN
    rw [if_neg (by omega), if_neg (by omega)]
    have := hW.2.1 c (by omega)
    show (if K c = 1 + a then 100 + T.length else K c) = 0
    rw [this, if_neg (by omega)]
  · rw [List.length_append, List.length_singleton] at hc
    by_cases q : c < 4 * T.length
    · rw [hK c q]
      by_cases q2 : K c = 1 + a
      · rw [if_pos q2]
        exact Or.inr (Or.inr ⟨T.length, by omega, by simp, rfl⟩)
      · rw [if_neg q2]
        rcases hW.2.2 c q with g | ⟨b, b1, g⟩ | ⟨k, k1, k2, g⟩
        · exact Or.inl g
        · exact Or.inr (Or.inl ⟨b, by rw [List.length_append]; omega, g⟩)
        · exact Or.inr (Or.inr ⟨k, k1, by rw [List.length_append]; omega, g⟩)
    · by_cases q2 : c = T.length * 4 + an A 0 (v ++ e)
      · rw [q2, n2]; exact Or.inr (Or.inl ⟨H.length, by simp, rfl⟩)
      · by_cases q3 : c = T.length * 4 + an A 0 (H.getD a [] ++ e)
        · rw [q3, n1]; exact Or.inr (Or.inl ⟨a, by rw [List.length_append]; omega, rfl⟩)
        · refine Or.inl ?_
          unfold lesK upN
          rw [if_neg q2, if_neg q3]
          show (if K c = 1 + a then 100 + T.length else K c) = 0
          rw [hW.2.1 c (by omega), if_neg (by omega)]
  · rw [List.length_append, List.length_singleton] at hi
    unfold sfP
    have key : ∀ u, vw (pl A) u → lesK A H T K a e v (T.length * 4 + an A 0 (u ++ e)) < 100 → (K (sfP A T K u) ≠ 1 + a → (sf A (T ++ [e]) (lesK A H T K a e v) (rn (pt A) 0 u) 8 0).2 = sfP A T K u) ∧ (K (sfP A T K u) = 1 + a → (sf A (T ++ [e]) (lesK A H T K a e v) (rn (pt A) 0 u) 8 0).2 = T.length * 4 + an A 0 (u ++ e)) := fun u hu hlt => by
      rw [an_app] at hlt ⊢
      exact sf_kn (by omega) hW (an4 hA hT (rn_lt hA hA.1.1 hu)) hK hlt 8 8 0 (by omega) (by omega) h9.1
    have hany : ∀ c, T.length * 4 ≤ c → lesK A H T K a e v c < 100 := fun c hc => by
      unfold lesK upN
      by_cases q2 : c = T.length * 4 + an A 0 (v ++ e)
      · rw [if_pos q2]; omega
      · rw [if_neg q2]
        by_cases q3 : c = T.length * 4 + an A 0 (H.getD a [] ++ e)
        · rw [if_pos q3]; omega
        · rw [if_neg q3]
          show (if K c = 1 + a then 100 + T.length else K c) < 100
          rw [hW.2.1 c (by omega), if_neg (by omega)]; decide
    by_cases q : i = H.length
    · subst q
      rw [show (H ++ [v]).getD H.length [] = v from qk_new _ _]
      rw [(key v hv (hany _ (by omega))).2 hva, n2]
    · rw [show (H ++ [v]).getD i [] = H.getD i [] from getD_snoc_old (by omega)]
      have hi2 : i < H.length := by omega
      have e1 := hS i hi2
      by_cases q2 : i = a
      · subst q2
        rw [(key _ (hH _ (getD_mem hi2)) (hany _ (by omega))).2 e1, n1]
      · rw [(key _ (hH _ (getD_mem hi2)) (hany _ (by omega))).1 (by omega)]
        have hh := hend _ (rn_lt hA hA.1.1 (hH _ (getD_mem hi2)))
        rw [hK (sfP A T K (H.getD i [])) hh.2, if_neg (fun z => by omega)]
        exact e1
