/-! tables by scattering: T tells what a place holds (0: nothing), a word's places are tried from h c on -/
def pr (h : Nat → Nat) (len c i : Nat) : Nat := (h c + i) % len
theorem pr_lt {h : Nat → Nat} {len c i : Nat} (hl : 0 < len) : pr h len c i < len := Nat.mod_lt _ hl
theorem pr_cov (h : Nat → Nat) {len c k : Nat} (hk : k < len) : ∃ i, i < len ∧ pr h len c i = k := by
  have hl : 0 < len := by omega
  refine ⟨(k + (len - h c % len)) % len, Nat.mod_lt _ hl, ?_⟩
  unfold pr
  rw [Nat.add_mod_mod]
  have e1 := Nat.div_add_mod (h c) len
  have e2 : h c % len < len := Nat.mod_lt _ hl
  have e3 : h c + (k + (len - h c % len)) = k + len * (h c / len + 1) := by
    rw [Nat.mul_add, Nat.mul_one]
    omega
  rw [e3, Nat.add_mul_mod_self_left, Nat.mod_eq_of_lt hk]
def nzc (T : Nat → Nat) : Nat → Nat
  | 0 => 0
  | k + 1 => nzc T k + if T k = 0 then 0 else 1
theorem nzc_le (T : Nat → Nat) : ∀ n, nzc T n ≤ n
  | 0 => Nat.le_refl _
  | n + 1 => by
    have := nzc_le T n
    show nzc T n + (if T n = 0 then 0 else 1) ≤ n + 1
    split <;> omega
theorem nzc_free {T : Nat → Nat} : ∀ {n}, nzc T n < n → ∃ k, k < n ∧ T k = 0
  | 0, h => absurd h (Nat.not_lt_zero _)
  | n + 1, h => by
    by_cases e : T n = 0
    · exact ⟨n, by omega, e⟩
    · have h2 : nzc T n + (if T n = 0 then 0 else 1) < n + 1 := h
      rw [if_neg e] at h2
      obtain ⟨k, h3, h4⟩ := nzc_free (T := T) (n := n) (by omega)
      exact ⟨k, by omega, h4⟩
def upN (T : Nat → Nat) (k c : Nat) : Nat → Nat := fun j => if j = k then c else T j
theorem nzc_ge {T : Nat → Nat} {k c : Nat} : ∀ {n}, n ≤ k → nzc (upN T k c) n = nzc T n
  | 0, _ => rfl
  | n + 1, h => by
    show nzc (upN T k c) n + (if upN T k c n = 0 then 0 else 1) = nzc T n + (if T n = 0 then 0 else 1)
    rw [nzc_ge (by omega), show upN T k c n = T n from if_neg (by omega)]
theorem nzc_up {T : Nat → Nat} {k c : Nat} (h0 : T k = 0) (hc : c ≠ 0) : ∀ {n}, k < n → nzc (upN T k c) n = nzc T n + 1
  | 0, h => absurd h (Nat.not_lt_zero _)
  | n + 1, h => by
    show nzc (upN T k c) n + (if upN T k c n = 0 then 0 else 1) = nzc T n + (if T n = 0 then 0 else 1) + 1
    by_cases e : n = k
    · subst e
      rw [nzc_ge (Nat.le_refl _), show upN T n c n = c from if_pos rfl, if_neg hc, if_pos h0]
    · rw [nzc_up h0 hc (by omega), show upN T k c n = T n from if_neg e]
      omega
theorem nzc_0 : ∀ n, nzc (fun _ => 0) n = 0
  | 0 => rfl
  | n + 1 => by
    show nzc (fun _ => 0) n + (if 0 = 0 then 0 else 1) = 0
    rw [nzc_0 n, if_pos rfl]
/-- each word lies where the trying comes to it -/
def hinv (h : Nat → Nat) (len : Nat) (T : Nat → Nat) : Prop := (∀ k, k < len → T k ≠ 0 → ∃ i, i < len ∧ pr h len (T k) i = k ∧ ∀ j, j < i → T (pr h len (T k) j) ≠ 0) ∧ ∀ k k', k < len → k' < len → T k ≠ 0 → T k = T k' → k = k'
/-- the table holds the words f -/
def hset (len : Nat) (T : Nat → Nat) (f : Nat → Prop) : Prop := ∀ c, f c ↔ c ≠ 0 ∧ ∃ k, k < len ∧ T k = c
theorem hinv_0 (h : Nat → Nat) (len : Nat) : hinv h len (fun _ => 0) := ⟨fun _ _ e => absurd rfl e, fun _ _ _ _ e => absurd rfl e⟩
theorem hset_0 (len : Nat) : hset len (fun _ => 0) (fun _ => False) := fun c => ⟨fun h => h.elim, fun ⟨h, _, _, e⟩ => h e.symm⟩
/-- where the trying stands still: i is the first that holds the word, or nothing -/
def stop (h : Nat → Nat) (len : Nat) (T : Nat → Nat) (c i : Nat) : Prop := i < len ∧ (T (pr h len c i) = c ∨ T (pr h len c i) = 0) ∧ ∀ j, j < i → T (pr h len c j) ≠ c ∧ T (pr h len c j) ≠ 0
theorem stop_in {h : Nat → Nat} {len : Nat} {T : Nat → Nat} {f : Nat → Prop} {c i : Nat} (hi : hinv h len T) (hs : hset len T f) (hc : c ≠ 0) (st : stop h len T c i) : f c ↔ T (pr h len c i) = c := by
  have hl : 0 < len := by have := st.1; omega
  constructor
  · intro hf
    obtain ⟨-, k, hk, e⟩ := (hs c).mp hf
    obtain ⟨i0, h1, h2, h3⟩ := hi.1 k hk (by rw [e]; exact hc)
    rw [e] at h2 h3
    rcases st.2.1 with g | g
    · exact g
    · exfalso
      rcases Nat.lt_trichotomy i i0 with q | q | q
      · exact h3 i q g
      · subst q; rw [h2, e] at g; exact hc g
      · exact (st.2.2 i0 q).1 (by rw [h2]; exact e)
  · intro e
    exact (hs c).mpr ⟨hc, _, pr_lt hl, e⟩
theorem ins_inv {h : Nat → Nat} {len : Nat} {T : Nat → Nat} {f : Nat → Prop} {c i : Nat} (hi : hinv h len T) (hs : hset len T f) (hc : c ≠ 0) (st : stop h len T c i) (h0 : T (pr h len c i) = 0) : hinv h len (upN T (pr h len c i) c) ∧ hset len (upN T (pr h len c i) c) (fun x => x = c ∨ f x) := by
  have hl : 0 < len := by have := st.1; omega
  have hno : ¬ f c := fun q => hc (by rw [← (stop_in hi hs hc st).mp q, h0])
  generalize hk : pr h len c i = k at h0
  have hkl : k < len := by rw [← hk]; exact pr_lt hl
  have uk : upN T k c k = c := if_pos rfl
  have un : ∀ j, j ≠ k → upN T k c j = T j := fun j hj => if_neg hj
  have nz : ∀ j, T j ≠ 0 → upN T k c j ≠ 0 := by
    intro j hj
    by_cases e : j = k
    · rw [e, uk]; exact hc
    · rw [un j e]; exact hj
  refine ⟨⟨fun j hj hz => ?_, fun j j' hj hj' hz e => ?_⟩, fun x => ?_⟩
  · by_cases e : j = k
    · subst e
      rw [uk]
      refine ⟨i, st.1, hk, fun j' hj' => nz _ (st.2.2 j' hj').2⟩
    · rw [un j e] at hz ⊢
      obtain ⟨i0, h1, h2, h3⟩ := hi.1 j hj hz
      exact ⟨i0, h1, h2, fun j' hj' => nz _ (h3 j' hj')⟩
  · by_cases e1 : j = k <;> by_cases e2 : j' = k
    · rw [e1, e2]
    · exfalso
      rw [e1, uk, un j' e2] at e
      exact hno ((hs c).mpr ⟨hc, j', hj', e.symm⟩)
    · exfalso
      rw [e2, uk, un j e1] at e
      exact hno ((hs c).mpr ⟨hc, j, hj, e⟩)
    · rw [un j e1] at hz e
      rw [un j' e2] at e
      exact hi.2 j j' hj hj' hz e
  · constructor
    · rintro (rfl | hx)
      · exact ⟨hc, k, hkl, uk⟩
      · obtain ⟨h1, j, hj, e⟩ := (hs x).mp hx
        refine ⟨h1, j, hj, ?_⟩
        by_cases ej : j = k
        · exfalso; rw [ej, h0] at e; exact h1 e.symm
        · rw [un j ej]; exact e
    · rintro ⟨h1, j, hj, e⟩
      by_cases ej : j = k
      · rw [ej, uk] at e; exact Or.inl e.symm
      · rw [un j ej] at e
        exact Or.inr ((hs x).mpr ⟨h1, j, hj, e⟩)
/-- the trying stands still where a place is free -/
theorem stop_ex {h : Nat → Nat} {len : Nat} {T : Nat → Nat} (c : Nat) (hf : nzc T len < len) : ∃ i, stop h len T c i := by
  obtain ⟨k, hk, h0⟩ := nzc_free hf
  obtain ⟨i, hi, e⟩ := pr_cov h (c := c) hk
  obtain ⟨i0, ⟨h1, h2⟩, h3⟩ := pk_least (fun i => i < len ∧ (T (pr h len c i) = c ∨ T (pr h len c i) = 0)) ⟨i, hi, Or.inr (by rw [e]; exact h0)⟩
  exact ⟨i0, h1, h2, fun j hj => ⟨fun q => h3 j hj ⟨by omega, Or.inl q⟩, fun q => h3 j hj ⟨by omega, Or.inr q⟩⟩⟩
/-- how many words: by any list of them, each once -/
def crd (f : Nat → Prop) (n : Nat) : Prop := ∃ L : List Nat, L.Nodup ∧ L.length = n ∧ ∀ c, f c ↔ c ∈ L
theorem nodup_le {L : List Nat} : ∀ {K : List Nat}, L.Nodup → (∀ x, x ∈ L → x ∈ K) → L.length ≤ K.length := by
  induction L with
  | nil => intro K _ _; exact Nat.zero_le _
  | cons a L ih =>
    intro K hn hs
    rw [List.nodup_cons] at hn
    have ha := hs a (by simp)
    have h1 := ih (K := K.erase a) hn.2 (fun x hx => by
      have hxa : x ≠ a := by intro e; rw [e] at hx; exact hn.1 hx
      exact (List.mem_erase_of_ne hxa).mpr (hs x (by simp [hx])))
    rw [List.length_erase_of_mem ha] at h1
    have := List.length_pos_of_mem ha
    rw [List.length_cons]; omega
theorem crd_un {f : Nat → Prop} {n m : Nat} (h : crd f n) (g : crd f m) : n = m := by
  obtain ⟨L, a1, a2, a3⟩ := h
  obtain ⟨K, b1, b2, b3⟩ := g
  have h1 := nodup_le a1 (fun x hx => (b3 x).mp ((a3 x).mpr hx))
  have h2 := nodup_le b1 (fun x hx => (a3 x).mp ((b3 x).mpr hx))
  omega
theorem crd_0 : crd (fun _ => False) 0 := ⟨[], List.nodup_nil, rfl, fun c => by simp⟩
theorem crd_in {f : Nat → Prop} {n c : Nat} (h : crd f n) (hc : ¬ f c) : crd (fun x => x = c ∨ f x) (n + 1) := by
  obtain ⟨L, a1, a2, a3⟩ := h
  refine ⟨c :: L, List.nodup_cons.mpr ⟨fun q => hc ((a3 c).mpr q), a1⟩, by rw [List.length_cons, a2], fun x => ?_⟩
  rw [List.mem_cons, ← a3 x]
theorem crd_cov {f : Nat → Prop} {n : Nat} (h : crd f n) {K : List Nat} (hk : ∀ c, f c → c ∈ K) : n ≤ K.length := by
  obtain ⟨L, a1, a2, a3⟩ := h
  rw [← a2]
  exact nodup_le a1 (fun x hx => hk x ((a3 x).mpr hx))
