/-! words by number, all of them; few words part the states; a table's words in order -/
def vlN (l : Nat) (m : List Nat) : Nat := m.foldl (fun a x => a * l + x) 0
theorem vlN_snoc (l : Nat) (m : List Nat) (x : Nat) : vlN l (m ++ [x]) = vlN l m * l + x := by unfold vlN; rw [List.foldl_append]; rfl
theorem vlN_lt {l : Nat} (m : List Nat) : vw l m → vlN l m < l ^ m.length := by
  induction m using snoc_ind with
  | h0 => intro _; show 0 < l ^ 0; rw [Nat.pow_zero]; decide
  | h1 u x ih =>
    intro h
    have g := vw_app.mp h
    have hx := g.2 x (by simp)
    have := ih g.1
    rw [vlN_snoc, List.length_append, List.length_singleton, Nat.pow_succ]
    have : (vlN l u + 1) * l ≤ l ^ u.length * l := Nat.mul_le_mul_right l this
    rw [Nat.add_mul, Nat.one_mul] at this
    omega
theorem dg_vl {l : Nat} (m : List Nat) : vw l m → dg l m.length (vlN l m) = m := by
  induction m using snoc_ind with
  | h0 => intro _; rfl
  | h1 u x ih =>
    intro h
    have g := vw_app.mp h
    have hx := g.2 x (by simp)
    rw [List.length_append, List.length_singleton, vlN_snoc]
    show dg l u.length ((vlN l u * l + x) / l) ++ [(vlN l u * l + x) % l] = _
    rw [ix_div hx, ix_mod hx, ih g.1]
def sG (l : Nat) : Nat → Nat → Nat
  | _, 0 => 0
  | n, i + 1 => l ^ n + sG l (n + 1) i
theorem sG_s (l : Nat) : ∀ i n, sG l n (i + 1) = sG l n i + l ^ (n + i)
  | 0, n => by show l ^ n + 0 = 0 + l ^ n; omega
  | i + 1, n => by
    show l ^ n + sG l (n + 1) (i + 1) = l ^ n + sG l (n + 1) i + l ^ (n + (i + 1))
    rw [sG_s l i (n + 1), show n + 1 + i = n + (i + 1) by omega]; omega
theorem sG_aU (l : Nat) : ∀ i, sG l 0 i = aU l i
  | 0 => rfl
  | i + 1 => by
    rw [sG_s, sG_aU l i, Nat.zero_add]; rfl
theorem kwf_at {l b : Nat} : ∀ i f n, i < f → b < l ^ (n + i) → kwf l f n (l ^ n) (sG l n i + b) = some (dg l (n + i) b)
  | _, 0, _, h, _ => by omega
  | 0, f + 1, n, _, hb => by
    show (if sG l n 0 + b < l ^ n then some (dg l n (sG l n 0 + b)) else _) = _
    have e : sG l n 0 + b = b := Nat.zero_add b
    have hb : b < l ^ n := hb
    rw [e, if_pos hb]; rfl
  | i + 1, f + 1, n, h, hb => by
    show (if sG l n (i + 1) + b < l ^ n then _ else kwf l f (n + 1) (l ^ n * l) (sG l n (i + 1) + b - l ^ n)) = _
    have e : sG l n (i + 1) + b = l ^ n + (sG l (n + 1) i + b) := by show l ^ n + sG l (n + 1) i + b = _; omega
    rw [e, if_neg (by omega), Nat.add_sub_cancel_left]
    have := kwf_at (l := l) (b := b) i f (n + 1) (by omega) (by rw [show n + 1 + i = n + (i + 1) by omega]; exact hb)
    rw [show n + 1 + i = n + (i + 1) by omega] at this
    exact this
theorem kw_at {l i b : Nat} (hi : i ≤ 30) (hb : b < l ^ i) : kw l (aU l i + b) = some (dg l i b) := by
  have := kwf_at (l := l) (b := b) i 31 0 (by omega) (by rw [Nat.zero_add]; exact hb)
  rw [Nat.pow_zero, Nat.zero_add, sG_aU] at this
  exact this
theorem aU_mono {l : Nat} : ∀ {n m}, n ≤ m → aU l n ≤ aU l m
  | n, 0, h => by rw [show n = 0 by omega]; exact Nat.le_refl _
  | n, m + 1, h => by
    by_cases e : n = m + 1
    · rw [e]; exact Nat.le_refl _
    · exact Nat.le_trans (aU_mono (n := n) (m := m) (by omega)) (Nat.le_add_right _ _)
/-- each word has its number -/
theorem kw_of {l k : Nat} {m : List Nat} (hm : vw l m) (hl : m.length ≤ k) (hk : k ≤ 30) : ∃ j, j < cU l k ∧ kw l j = some m := by
  have h1 := vlN_lt m hm
  refine ⟨aU l m.length + vlN l m, ?_, ?_⟩
  · rw [← aU_cU]
    have : aU l (m.length + 1) ≤ aU l (k + 1) := aU_mono (by omega)
    have e : aU l (m.length + 1) = aU l m.length + l ^ m.length := rfl
    omega
  · rw [kw_at (by omega) h1, dg_vl m hm]
/-- and each number its word -/
theorem kw_in {l : Nat} (h0 : 1 ≤ l) : ∀ k j, k ≤ 30 → j < cU l k → ∃ m, kw l j = some m ∧ vw l m ∧ m.length ≤ k := by
  intro k j hk hj
  rw [← aU_cU] at hj
  have : ∀ n, n ≤ k + 1 → j < aU l n → ∃ i, i < n ∧ aU l i ≤ j ∧ j < aU l i + l ^ i := by
    intro n
    induction n with
    | zero => intro _ h; exact absurd h (Nat.not_lt_zero _)
    | succ n ih =>
      intro hn h
      by_cases c : j < aU l n
      · obtain ⟨i, i1, i2⟩ := ih (by omega) c
        exact ⟨i, by omega, i2⟩
      · have e : aU l (n + 1) = aU l n + l ^ n := rfl
        exact ⟨n, by omega, by omega, by omega⟩
  obtain ⟨i, i1, i2, i3⟩ := this (k + 1) (Nat.le_refl _) hj
  refine ⟨dg l i (j - aU l i), ?_, dg_vw (by omega) _ _, by rw [dg_len]; omega⟩
  have := kw_at (l := l) (i := i) (b := j - aU l i) (by omega) (by omega)
  rw [show aU l i + (j - aU l i) = j by omega] at this
  exact this
-- how many words part states
def rlC (A : PM) (c s t : Nat) : Prop := ∀ u, vw (pl A) u → cd u < c → an A s u = an A t u
theorem rlC_eqv (A : PM) (c : Nat) : eqv (rlC A c) := ⟨fun _ _ _ _ => rfl, fun _ _ h u a b => (h u a b).symm, fun _ _ _ h g u a b => (h u a b).trans (g u a b)⟩
theorem part_few {G : PM} (hG : okM G) {L : List (List Nat)} (hnd : L.Nodup) (hL : ∀ w, w ∈ L → w ∈ enP G (pn G)) : L.length ≤ 7 := by
  have l3 := hG.2.1.2
  have fact : ∀ w, w ∈ L → vw (pl G) w ∧ ∃ p q, (p < pn G ∧ q < pn G) ∧ rlC G (cd w) p q ∧ ¬ rlC G (cd w + 1) p q := fun w hw => by
    obtain ⟨p, p1, p2⟩ := enP_mem.mp (hL w hw)
    obtain ⟨q, q1, q2, q3, q4⟩ := enQ_mem.mp p2
    rcases fuC_is hG hG rfl p1 q1 with ⟨e, _⟩ | ⟨v, h1, h2, e, h3, h4⟩
    · exact absurd e q3
    · have ev := wdC_of (vw_mono h1 (show pl G ≤ 4 by omega))
      rw [e, ev] at q4
      subst q4
      exact ⟨h1, p, q, ⟨p1, q1⟩, h4, fun z => h3 (z w h1 (by omega))⟩
  have key : ∀ c, (L.filter (fun w => decide (cd w < c))).length + 1 ≤ cR (rlC G c) (pn G) := by
    intro c
    induction c with
    | zero =>
      have e : (L.filter (fun w => decide (cd w < 0))).length = 0 := by
        rw [List.length_eq_zero_iff, List.filter_eq_nil_iff]
        intro w _; simp
      rw [e]; exact cR_pos hG.1.1
    | succ c ih =>
      have sub : ∀ L' : List (List Nat), (∀ w, w ∈ L → cd w < c + 1 → w ∈ L') → (L.filter (fun w => decide (cd w < c + 1))).length ≤ L'.length := fun L' h => nodupW_le (List.Nodup.sublist List.filter_sublist hnd) (fun x hx => by
        rw [List.mem_filter] at hx
        exact h x hx.1 (by simpa using hx.2))
      by_cases ex : ∃ w, w ∈ L ∧ cd w = c
      · obtain ⟨w, w1, w2⟩ := ex
        obtain ⟨wv, p, q, ⟨hp, hq⟩, g1, g2⟩ := fact w w1
        rw [w2] at g1 g2
        have h1 := cR_lt (R := rlC G c) (R' := rlC G (c + 1)) (n := pn G) (rlC_eqv G c) (rlC_eqv G (c + 1)) (fun a b _ _ h u hu hc => h u hu (by omega)) hp hq g1 g2
        have h2 := sub (w :: L.filter (fun w => decide (cd w < c))) (fun v hv hc => by
          by_cases z : cd v = c
          · have : v = w := cd_inj (vw_mono (fact v hv).1 (by omega)) (vw_mono wv (by omega)) (by omega)
            rw [this]; exact List.mem_cons_self
          · exact List.mem_cons_of_mem _ (List.mem_filter.mpr ⟨hv, by simp; omega⟩))
        rw [List.length_cons] at h2
        omega
      · have h1 := cR_fine (R := rlC G c) (R' := rlC G (c + 1)) (n := pn G) (fun a b _ _ h u hu hc => h u hu (by omega))
        have h2 := sub (L.filter (fun w => decide (cd w < c))) (fun v hv hc => List.mem_filter.mpr ⟨hv, by
          have : cd v ≠ c := fun z => ex ⟨v, hv, z⟩
          simp; omega⟩)
        omega
  have big := key (2 ^ 62)
  have all : L.filter (fun w => decide (cd w < 2 ^ 62)) = L := by
    rw [List.filter_eq_self]
    intro w hw
    have g := enP_ok hG (Nat.le_refl _) (hL w hw)
    have := cd31 (vw_mono g.1 (show pl G ≤ 4 by omega)) (show w.length ≤ 30 by omega)
    simpa using this
  rw [all] at big
  have := cR_le (rlC G (2 ^ 62)) (pn G)
  have := hG.1.2
  omega
-- the words of a table, by places
noncomputable def nzW (T : Nat → Nat) : Nat → List (List Nat)
  | 0 => []
  | i + 1 => nzW T i ++ (if T i = 0 then [] else [wdC (T i)])
theorem nzW_0 {T : Nat → Nat} {i : Nat} (h : T i = 0) : nzW T (i + 1) = nzW T i := by
  show nzW T i ++ (if T i = 0 then [] else [wdC (T i)]) = _
  rw [if_pos h, List.append_nil]
theorem nzW_1 {T : Nat → Nat} {i : Nat} (h : ¬ T i = 0) : nzW T (i + 1) = nzW T i ++ [wdC (T i)] := by
  show nzW T i ++ (if T i = 0 then [] else [wdC (T i)]) = _
  rw [if_neg h]
theorem nzW_mem {T : Nat → Nat} {w : List Nat} : ∀ {i}, w ∈ nzW T i ↔ ∃ j, j < i ∧ T j ≠ 0 ∧ w = wdC (T j)
  | 0 => ⟨fun h => by simp [nzW] at h, fun ⟨j, h, _⟩ => by omega⟩
  | i + 1 => by
    by_cases c : T i = 0
    · rw [nzW_0 c, nzW_mem]
      constructor
      · rintro ⟨j, a, b⟩; exact ⟨j, by omega, b⟩
      · rintro ⟨j, a, b1, b2⟩
        by_cases e : j = i
        · subst e; exact absurd c b1
        · exact ⟨j, by omega, b1, b2⟩
    · rw [nzW_1 c, List.mem_append, List.mem_singleton, nzW_mem]
      constructor
      · rintro (⟨j, a, b⟩ | h)
        · exact ⟨j, by omega, b⟩
        · exact ⟨i, by omega, c, h⟩
      · rintro ⟨j, a, b1, b2⟩
        by_cases e : j = i
        · subst e; exact Or.inr b2
        · exact Or.inl ⟨j, by omega, b1, b2⟩
/-- a place's word -/
theorem nz_wd {len : Nat} {T : Nat → Nat} {S : List (List Nat)} (hf : hset len T (wf S)) (hS : okL S) {j : Nat} (hj : j < len) (h0 : T j ≠ 0) : wdC (T j) ∈ S ∧ cd (wdC (T j)) = T j := by
  obtain ⟨w, w1, w2⟩ := (hf (T j)).mpr ⟨h0, j, hj, rfl⟩
  have := wdC_of (hS w w1).1
  rw [w2] at this
  rw [this]; exact ⟨w1, w2⟩
theorem nzW_nd {h : Nat → Nat} {len : Nat} {T : Nat → Nat} {S : List (List Nat)} (hi : hinv h len T) (hf : hset len T (wf S)) (hS : okL S) : ∀ i, i ≤ len → (nzW T i).Nodup
  | 0, _ => List.nodup_nil
  | i + 1, hl => by
    have ih := nzW_nd hi hf hS i (by omega)
    by_cases c : T i = 0
    · rw [nzW_0 c]; exact ih
    · rw [nzW_1 c]
      refine nodup_snoc ih (fun hm => ?_)
      obtain ⟨j, j1, j2, j3⟩ := nzW_mem.mp hm
      have a := (nz_wd hf hS (show i < len by omega) c).2
      have b := (nz_wd hf hS (show j < len by omega) j2).2
      have := hi.2 j i (by omega) (by omega) j2 (by rw [← b, ← j3, a])
      omega
theorem nzW_set {len : Nat} {T : Nat → Nat} {S : List (List Nat)} (hf : hset len T (wf S)) (hS : okL S) {w : List Nat} : w ∈ nzW T len ↔ w ∈ S := by
  rw [nzW_mem]
  constructor
  · rintro ⟨j, j1, j2, j3⟩
    rw [j3]; exact (nz_wd hf hS j1 j2).1
  · intro hw
    obtain ⟨c, k, k1, k2⟩ := (hf (cd w)).mp ⟨w, hw, rfl⟩
    refine ⟨k, k1, by rw [k2]; exact c, ?_⟩
    rw [k2, wdC_of (hS w hw).1]
