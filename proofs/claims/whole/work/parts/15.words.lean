/-! words: lists of letters, and their codes -/
def cd (w : List Nat) : Nat := w.foldl (fun c x => 4 * c + x) 1
def vw (l : Nat) (w : List Nat) : Prop := ∀ x ∈ w, x < l
theorem cd_nil : cd [] = 1 := rfl
theorem cd_snoc (w : List Nat) (x : Nat) : cd (w ++ [x]) = 4 * cd w + x := by simp [cd, List.foldl_append]
theorem snoc_ind {P : List Nat → Prop} (h0 : P []) (h1 : ∀ w x, P w → P (w ++ [x])) (w : List Nat) : P w := by
  have h : ∀ n, ∀ w : List Nat, w.length = n → P w := by
    intro n
    induction n with
    | zero => intro w hw; rw [List.eq_nil_of_length_eq_zero hw]; exact h0
    | succ n ih =>
      intro w hw
      have hne : w ≠ [] := by intro h; rw [h] at hw; simp at hw
      rw [← List.dropLast_concat_getLast hne]
      exact h1 _ _ (ih _ (by rw [List.length_dropLast, hw]; rfl))
  exact h _ w rfl
theorem vw_nil (l : Nat) : vw l [] := fun _ h => by simp at h
theorem vw_app {l : Nat} {u v : List Nat} : vw l (u ++ v) ↔ vw l u ∧ vw l v := by
  unfold vw
  simp only [List.mem_append]
  exact ⟨fun h => ⟨fun x hx => h x (Or.inl hx), fun x hx => h x (Or.inr hx)⟩, fun h x hx => hx.elim (h.1 x) (h.2 x)⟩
theorem vw_cons {l x : Nat} {u : List Nat} : vw l (x :: u) ↔ x < l ∧ vw l u := by
  unfold vw
  simp only [List.mem_cons]
  exact ⟨fun h => ⟨h x (Or.inl rfl), fun y hy => h y (Or.inr hy)⟩, fun h y hy => hy.elim (fun e => by rw [e]; exact h.1) (h.2 y)⟩
theorem vw_mono {l k : Nat} {u : List Nat} (h : vw l u) (hk : l ≤ k) : vw k u := fun x hx => Nat.lt_of_lt_of_le (h x hx) hk
theorem vw_take {l : Nat} {u : List Nat} (h : vw l u) (n : Nat) : vw l (u.take n) := fun x hx => h x (List.mem_of_mem_take hx)
theorem vw_drop {l : Nat} {u : List Nat} (h : vw l u) (n : Nat) : vw l (u.drop n) := fun x hx => h x (List.mem_of_mem_drop hx)
theorem p4s (n : Nat) : 4 ^ (n + 1) = 4 * 4 ^ n := by rw [Nat.pow_succ, Nat.mul_comm]
theorem p4pos (n : Nat) : 0 < 4 ^ n := Nat.pow_pos (by decide)
theorem cd_lo (w : List Nat) : 4 ^ w.length ≤ cd w := by
  induction w using snoc_ind with
  | h0 => exact Nat.le_refl _
  | h1 w x ih => rw [cd_snoc, List.length_append, List.length_singleton, p4s]; omega
theorem cd_hi {w : List Nat} (h : vw 4 w) : cd w < 2 * 4 ^ w.length := by
  induction w using snoc_ind with
  | h0 => decide
  | h1 w x ih =>
    have h2 := vw_app.mp h
    have := ih h2.1
    have hx : x < 4 := h2.2 x (by simp)
    rw [cd_snoc, List.length_append, List.length_singleton, p4s]; omega
theorem cd_app (u v : List Nat) : cd (u ++ v) = cd u * 4 ^ v.length + (cd v - 4 ^ v.length) := by
  induction v using snoc_ind with
  | h0 => simp [cd_nil]
  | h1 v x ih =>
    have hlo := cd_lo v
    rw [← List.append_assoc, cd_snoc, ih, cd_snoc, List.length_append, List.length_singleton, p4s, Nat.mul_add]
    have e : cd u * (4 * 4 ^ v.length) = 4 * (cd u * 4 ^ v.length) := by rw [Nat.mul_left_comm]
    rw [e]
    omega
theorem cd_sub {v : List Nat} (h : vw 4 v) : cd v - 4 ^ v.length < 4 ^ v.length := by
  have := cd_lo v; have := cd_hi h; omega
theorem cd_div {u v : List Nat} (h : vw 4 v) : cd (u ++ v) / 4 ^ v.length = cd u := by
  rw [cd_app, Nat.add_comm, Nat.add_mul_div_right _ _ (p4pos _), Nat.div_eq_of_lt (cd_sub h), Nat.zero_add]
theorem cd_mod {u v : List Nat} (h : vw 4 v) : cd (u ++ v) % 4 ^ v.length = cd v - 4 ^ v.length := by
  rw [cd_app, Nat.mul_comm, Nat.mul_add_mod, Nat.mod_eq_of_lt (cd_sub h)]
theorem cd_pos (w : List Nat) : 1 ≤ cd w := Nat.le_trans (p4pos _) (cd_lo w)
theorem p4le {a b : Nat} (h : a ≤ b) : 4 ^ a ≤ 4 ^ b := Nat.pow_le_pow_right (by decide) h
theorem p4lt {a b : Nat} (h : a < b) : 4 ^ a * 4 ≤ 4 ^ b := by rw [← Nat.pow_succ]; exact p4le h
/-- a code tells the length -/
theorem cd_len {u v : List Nat} (hu : vw 4 u) (hv : vw 4 v) (h : cd u = cd v) : u.length = v.length := by
  have a := cd_lo u; have b := cd_hi hu; have c := cd_lo v; have e := cd_hi hv
  rcases Nat.lt_trichotomy u.length v.length with g | g | g
  · have := p4lt g; omega
  · exact g
  · have := p4lt g; omega
theorem cd_inj {u : List Nat} : ∀ {v : List Nat}, vw 4 u → vw 4 v → cd u = cd v → u = v := by
  induction u using snoc_ind with
  | h0 =>
    intro v _ hv h
    have := cd_len (vw_nil 4) hv h
    exact (List.eq_nil_of_length_eq_zero this.symm).symm
  | h1 u x ih =>
    intro v hu hv h
    have hl := cd_len hu hv h
    rw [List.length_append, List.length_singleton] at hl
    have hne : v ≠ [] := by intro e; rw [e] at hl; simp at hl
    obtain ⟨v', y, rfl⟩ : ∃ v' y, v = v' ++ [y] := ⟨_, _, (List.dropLast_concat_getLast hne).symm⟩
    rw [cd_snoc, cd_snoc] at h
    have a := vw_app.mp hu; have b := vw_app.mp hv
    have hx : x < 4 := a.2 x (by simp)
    have hy : y < 4 := b.2 y (by simp)
    have e1 : cd u = cd v' := by omega
    have e2 : x = y := by omega
    rw [ih a.1 b.1 e1, e2]
theorem cd30 {w : List Nat} (h : vw 4 w) (hl : w.length ≤ 30) : cd w < 2 ^ 61 := by
  have := cd_hi h; have := p4le hl
  have e : (2 : Nat) ^ 61 = 2 * 4 ^ 30 := by decide
  omega
theorem cd31 {w : List Nat} (h : vw 4 w) (hl : w.length ≤ 30) : cd w < 2 ^ 62 := by
  have := cd30 h hl; omega
/-- from a state by a word -/
def rn (t : Nat → Nat → Nat) (s : Nat) (w : List Nat) : Nat := w.foldl t s
theorem rn_nil (t : Nat → Nat → Nat) (s : Nat) : rn t s [] = s := rfl
theorem rn_app (t : Nat → Nat → Nat) (s : Nat) (u v : List Nat) : rn t s (u ++ v) = rn t (rn t s u) v := by simp [rn, List.foldl_append]
theorem rn_cons (t : Nat → Nat → Nat) (s x : Nat) (v : List Nat) : rn t s (x :: v) = rn t (t s x) v := rfl
theorem rn_snoc (t : Nat → Nat → Nat) (s x : Nat) (u : List Nat) : rn t s (u ++ [x]) = t (rn t s u) x := by rw [rn_app]; rfl
-- machines: states, letters, outputs, steps
abbrev PM : Type := Nat × Nat × (Nat → Nat) × (Nat → Nat → Nat)
def pn (A : PM) : Nat := A.1
def pl (A : PM) : Nat := A.2.1
def po (A : PM) : Nat → Nat := A.2.2.1
def pt (A : PM) : Nat → Nat → Nat := A.2.2.2
/-- a machine as the document has it -/
def okM (A : PM) : Prop := (1 ≤ pn A ∧ pn A ≤ 8) ∧ (1 ≤ pl A ∧ pl A ≤ 3) ∧ (∀ s, s < pn A → po A s < 4) ∧ ∀ s, s < pn A → ∀ x, x < pl A → pt A s x < pn A
theorem rn_lt {A : PM} (h : okM A) {s : Nat} (hs : s < pn A) {w : List Nat} (hw : vw (pl A) w) : rn (pt A) s w < pn A := by
  induction w using snoc_ind with
  | h0 => exact hs
  | h1 w x ih =>
    have h2 := vw_app.mp hw
    rw [rn_snoc]
    exact h.2.2.2 _ (ih h2.1) _ (h2.2 x (by simp))
