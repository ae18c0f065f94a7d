/-! what was asked, whatever the order; the rows of a table; first places -/
def eqS (s t : List (List Nat) × Nat) : Prop := (s.1.Nodup ∧ t.1.Nodup) ∧ (∀ w, w ∈ s.1 ↔ w ∈ t.1) ∧ s.2 = t.2
theorem nodupW_le {L : List (List Nat)} : ∀ {K : List (List Nat)}, L.Nodup → (∀ x, x ∈ L → x ∈ K) → L.length ≤ K.length := by
  induction L with
  | nil => intro K _ _; exact Nat.zero_le _
  | cons a L ih =>
    intro K hn hs
    rw [List.nodup_cons] at hn
    have ha := hs a (by simp)
    have h1 := ih (K := K.erase a) hn.2 (fun x hx => by
      have hxa : x ≠ a := by intro e; rw [e] at hx; exact hn.1 hx
      exact (List.mem_erase_of_ne hxa).mpr (hs x (by simp [hx])))
    rw [List.length_erase_of_mem ha] at h1
    have := List.length_pos_of_mem ha
    rw [List.length_cons]; omega
theorem eqS.len {s t : List (List Nat) × Nat} (h : eqS s t) : s.1.length = t.1.length :=
  Nat.le_antisymm (nodupW_le h.1.1 fun x hx => (h.2.1 x).mp hx) (nodupW_le h.1.2 fun x hx => (h.2.1 x).mpr hx)
theorem eqS.sy {s t : List (List Nat) × Nat} (h : eqS s t) : eqS t s := ⟨⟨h.1.2, h.1.1⟩, fun w => (h.2.1 w).symm, h.2.2.symm⟩
theorem eqS.tr {s t u : List (List Nat) × Nat} (h : eqS s t) (k : eqS t u) : eqS s u := ⟨⟨h.1.1, k.1.2⟩, fun w => (h.2.1 w).trans (k.2.1 w), h.2.2.trans k.2.2⟩
theorem eqS.rf {s : List (List Nat) × Nat} (h : s.1.Nodup) : eqS s s := ⟨⟨h, h⟩, fun _ => Iff.rfl, rfl⟩
/-- the price of a list of words -/
def pS (st sp : Nat) (L : List (List Nat)) : Nat := (L.map (fun w => st + sp * w.length)).sum
theorem pS_eq {st sp : Nat} {L K : List (List Nat)} (h1 : L.Nodup) (h2 : K.Nodup) (h : ∀ w, w ∈ L ↔ w ∈ K) : pS st sp L = pS st sp K :=
  List.Perm.sum_nat (((List.perm_ext_iff_of_nodup h1 h2).mpr h).map _)
theorem pS_snoc (st sp : Nat) (L : List (List Nat)) (w : List Nat) : pS st sp (L ++ [w]) = pS st sp L + (st + sp * w.length) := by
  unfold pS; simp
theorem aS_in {st sp : Nat} {s : List (List Nat) × Nat} {w : List Nat} (h : w ∈ s.1) : aS st sp s w = s := if_pos h
theorem aS_mem (st sp : Nat) (s : List (List Nat) × Nat) (w v : List Nat) : v ∈ (aS st sp s w).1 ↔ v ∈ s.1 ∨ v = w := by
  unfold aS
  by_cases h : w ∈ s.1
  · rw [if_pos h]
    exact ⟨Or.inl, fun g => g.elim id (fun e => by rw [e]; exact h)⟩
  · rw [if_neg h]; simp
theorem aS_nodup {st sp : Nat} {s : List (List Nat) × Nat} {w : List Nat} (h : s.1.Nodup) : (aS st sp s w).1.Nodup := by
  unfold aS
  by_cases c : w ∈ s.1
  · rw [if_pos c]; exact h
  · rw [if_neg c]; exact nodup_snoc h c
theorem aS_cost (st sp : Nat) (s : List (List Nat) × Nat) (w : List Nat) : (aS st sp s w).2 + pS st sp s.1 = s.2 + pS st sp (aS st sp s w).1 := by
  unfold aS
  by_cases c : w ∈ s.1
  · rw [if_pos c]
  · rw [if_neg c]
    show s.2 + (st + sp * w.length) + pS st sp s.1 = s.2 + pS st sp (s.1 ++ [w])
    rw [pS_snoc]; omega
/-- asking a list of words -/
def aSs (st sp : Nat) (s : List (List Nat) × Nat) (L : List (List Nat)) : List (List Nat) × Nat := L.foldl (aS st sp) s
theorem aSs_nil (st sp : Nat) (s : List (List Nat) × Nat) : aSs st sp s [] = s := rfl
theorem aSs_app (st sp : Nat) (s : List (List Nat) × Nat) (L K : List (List Nat)) : aSs st sp s (L ++ K) = aSs st sp (aSs st sp s L) K := by simp [aSs, List.foldl_append]
theorem aSs_snoc (st sp : Nat) (s : List (List Nat) × Nat) (L : List (List Nat)) (w : List Nat) : aSs st sp s (L ++ [w]) = aS st sp (aSs st sp s L) w := by rw [aSs_app]; rfl
theorem aSs_mem (st sp : Nat) (s : List (List Nat) × Nat) (L : List (List Nat)) (v : List Nat) : v ∈ (aSs st sp s L).1 ↔ v ∈ s.1 ∨ v ∈ L := by
  induction L generalizing s with
  | nil => simp [aSs]
  | cons a L ih =>
    show v ∈ (aSs st sp (aS st sp s a) L).1 ↔ _
    rw [ih, aS_mem, List.mem_cons, or_assoc]
theorem aSs_nodup {st sp : Nat} {s : List (List Nat) × Nat} {L : List (List Nat)} (h : s.1.Nodup) : (aSs st sp s L).1.Nodup := by
  induction L generalizing s with
  | nil => exact h
  | cons a L ih => exact ih (aS_nodup h)
theorem aSs_cost (st sp : Nat) (s : List (List Nat) × Nat) (L : List (List Nat)) : (aSs st sp s L).2 + pS st sp s.1 = s.2 + pS st sp (aSs st sp s L).1 := by
  induction L generalizing s with
  | nil => rfl
  | cons a L ih =>
    have h1 := ih (aS st sp s a)
    have h2 := aS_cost st sp s a
    show (aSs st sp (aS st sp s a) L).2 + _ = _ + pS st sp (aSs st sp (aS st sp s a) L).1
    omega
theorem aSs_eq {st sp : Nat} {s t : List (List Nat) × Nat} {L K : List (List Nat)} (h : eqS s t) (hL : ∀ w, (w ∈ s.1 ∨ w ∈ L) ↔ (w ∈ t.1 ∨ w ∈ K)) : eqS (aSs st sp s L) (aSs st sp t K) := by
  have n1 := aSs_nodup (st := st) (sp := sp) (L := L) h.1.1
  have n2 := aSs_nodup (st := st) (sp := sp) (L := K) h.1.2
  have m : ∀ w, w ∈ (aSs st sp s L).1 ↔ w ∈ (aSs st sp t K).1 := fun w => by rw [aSs_mem, aSs_mem]; exact hL w
  refine ⟨⟨n1, n2⟩, m, ?_⟩
  have h1 := aSs_cost st sp s L
  have h2 := aSs_cost st sp t K
  have e1 := pS_eq (st := st) (sp := sp) h.1.1 h.1.2 h.2.1
  have e2 := pS_eq (st := st) (sp := sp) n1 n2 m
  have e3 := h.2.2
  omega
theorem aSs_sup {st sp : Nat} {s t : List (List Nat) × Nat} {L : List (List Nat)} (h : eqS s t) (hL : ∀ w, w ∈ L → w ∈ t.1) : eqS (aSs st sp s L) t :=
  aSs_eq (K := []) h (fun w => by rw [h.2.1 w]; simp; exact fun q => hL w q)
theorem eqS.a {st sp : Nat} {s t : List (List Nat) × Nat} {w : List Nat} (h : eqS s t) : eqS (aS st sp s w) (aS st sp t w) :=
  aSs_eq (st := st) (sp := sp) (L := [w]) (K := [w]) h (fun v => by rw [h.2.1 v])
theorem eqS.as {st sp : Nat} {s t : List (List Nat) × Nat} {L : List (List Nat)} (h : eqS s t) : eqS (aSs st sp s L) (aSs st sp t L) :=
  aSs_eq h (fun v => by rw [h.2.1 v])
-- the rows of a table
def rwW (l : Nat) (H T : List (List Nat)) : List (List Nat) := H.flatMap fun h => T.flatMap fun e => (h ++ e) :: (List.range l).map fun x => h ++ [x] ++ e
theorem rwW_mem {l : Nat} {H T : List (List Nat)} {w : List Nat} : w ∈ rwW l H T ↔ ∃ h, h ∈ H ∧ ∃ e, e ∈ T ∧ (w = h ++ e ∨ ∃ x, x < l ∧ w = h ++ [x] ++ e) := by
  unfold rwW
  simp only [List.mem_flatMap, List.mem_cons, List.mem_map, List.mem_range]
  constructor
  · rintro ⟨h, h1, e, e1, g | ⟨x, x1, g⟩⟩
    · exact ⟨h, h1, e, e1, Or.inl g⟩
    · exact ⟨h, h1, e, e1, Or.inr ⟨x, x1, g.symm⟩⟩
  · rintro ⟨h, h1, e, e1, g | ⟨x, x1, g⟩⟩
    · exact ⟨h, h1, e, e1, Or.inl g⟩
    · exact ⟨h, h1, e, e1, Or.inr ⟨x, x1, g.symm⟩⟩
theorem rwW_mono {l : Nat} {H T H' T' : List (List Nat)} (h1 : ∀ w, w ∈ H → w ∈ H') (h2 : ∀ w, w ∈ T → w ∈ T') {w : List Nat} (h : w ∈ rwW l H T) : w ∈ rwW l H' T' := by
  obtain ⟨h, g1, e, g2, g3⟩ := rwW_mem.mp h
  exact rwW_mem.mpr ⟨h, h1 h g1, e, h2 e g2, g3⟩
theorem rwW_len (l : Nat) (H T : List (List Nat)) : (rwW l H T).length = H.length * (T.length * (l + 1)) := by
  have e1 : ∀ h : List Nat, (T.flatMap fun e => (h ++ e) :: (List.range l).map fun x => h ++ [x] ++ e).length = T.length * (l + 1) := by
    intro h
    induction T with
    | nil => simp
    | cons a T ih =>
      rw [List.flatMap_cons, List.length_append, ih]
      simp [Nat.add_mul]; omega
  unfold rwW
  induction H with
  | nil => simp
  | cons a H ih =>
    rw [List.flatMap_cons, List.length_append, ih, e1, List.length_cons, Nat.add_mul, Nat.one_mul, Nat.add_comm]
-- places by two numbers
theorem ix_div {l k x : Nat} (hx : x < l) : (k * l + x) / l = k := by
  rw [Nat.mul_comm, Nat.mul_add_div (by omega), Nat.div_eq_of_lt hx, Nat.add_zero]
theorem ix_mod {l k x : Nat} (hx : x < l) : (k * l + x) % l = x := by
  rw [Nat.mul_comm, Nat.mul_add_mod, Nat.mod_eq_of_lt hx]
theorem ix_lt {n l k x : Nat} (hk : k < n) (hx : x < l) : k * l + x < n * l := by
  have := Nat.mul_le_mul_right l (show k + 1 ≤ n by omega)
  rw [Nat.add_mul, Nat.one_mul] at this
  omega
theorem ix_sp {n l i : Nat} (h : i < n * l) : i / l < n ∧ i % l < l ∧ i = (i / l) * l + i % l := by
  have hl : 0 < l := by
    rcases Nat.eq_zero_or_pos l with e | e
    · rw [e, Nat.mul_zero] at h; omega
    · exact e
  refine ⟨(Nat.div_lt_iff_lt_mul hl).mpr h, Nat.mod_lt _ hl, ?_⟩
  rw [Nat.mul_comm]; exact (Nat.div_add_mod i l).symm
/-- the first of n, or none -/
noncomputable def ff (n : Nat) (P : Nat → Prop) : Option Nat := Classical.choose (isF_ex n P)
theorem ff_is (n : Nat) (P : Nat → Prop) : isF n P (ff n P) := Classical.choose_spec (isF_ex n P)
theorem ff_eq {n : Nat} {P : Nat → Prop} {o : Option Nat} (h : isF n P o) : ff n P = o := isF_un (ff_is n P) h
theorem ff_cg {n : Nat} {P P' : Nat → Prop} (h : ∀ j, j < n → (P j ↔ P' j)) : ff n P = ff n P' := ff_eq (isF_cg (ff_is n P') fun j hj => (h j hj).symm)
-- the pupil: method, asked and cost, lessons, heads, tails, places, guess
abbrev PS : Type := Nat × (List (List Nat) × Nat) × Nat × List (List Nat) × List (List Nat) × (Nat → Nat) × Option GU
def qm (p : PS) : Nat := p.1
def qs (p : PS) : List (List Nat) × Nat := p.2.1
def ql (p : PS) : Nat := p.2.2.1
def qH (p : PS) : List (List Nat) := p.2.2.2.1
def qT (p : PS) : List (List Nat) := p.2.2.2.2.1
def qK (p : PS) : Nat → Nat := p.2.2.2.2.2.1
def qg (p : PS) : Option GU := p.2.2.2.2.2.2
/-- a head and a letter with a line of no head -/
def opn (A : PM) (H T : List (List Nat)) (i : Nat) : Prop := ∀ k, k < H.length → ¬ lk A T (en A H k) (pt A (en A H (i / pl A)) (i % pl A))
noncomputable def fO (A : PM) (H T : List (List Nat)) : Option Nat := ff (H.length * pl A) (opn A H T)
/-- two heads with one line and unlike lines behind a letter -/
def ptX (A : PM) (H T : List (List Nat)) (a b x : Nat) : Prop := ¬ lk A T (pt A (en A H a) x) (pt A (en A H b) x)
def ptP (A : PM) (H T : List (List Nat)) (i : Nat) : Prop := i / H.length < i % H.length ∧ lk A T (en A H (i / H.length)) (en A H (i % H.length)) ∧ ∃ x, x < pl A ∧ ptX A H T (i / H.length) (i % H.length) x
noncomputable def fPt (A : PM) (H T : List (List Nat)) : Option Nat := ff (H.length * H.length) (ptP A H T)
noncomputable def fPx (A : PM) (H T : List (List Nat)) (a b : Nat) : Nat := (ff (pl A) (ptX A H T a b)).getD 0
noncomputable def fPe (A : PM) (T : List (List Nat)) (p q : Nat) : Nat := (ff T.length (fun j => ao A p (T.getD j []) ≠ ao A q (T.getD j []))).getD 0
noncomputable def nTl (A : PM) (H T : List (List Nat)) (i : Nat) : List Nat := fPx A H T (i / H.length) (i % H.length) :: T.getD (fPe A T (pt A (en A H (i / H.length)) (fPx A H T (i / H.length) (i % H.length))) (pt A (en A H (i % H.length)) (fPx A H T (i / H.length) (i % H.length)))) []
/-- access words of the guess of a table -/
noncomputable def aC (A : PM) (H T : List (List Nat)) : Nat → List (List Nat)
  | 0 => []
  | n + 1 => aC A H T n ++ @ite _ (∃ t, t < n ∧ lkH A T H t n) (Classical.propDecidable _) [] [H.getD n []]
noncomputable def aT (A : PM) (H T : List (List Nat)) : List (List Nat) := aC A H T H.length
noncomputable def gT (A : PM) (H T : List (List Nat)) : PM := ((aT A H T).length, pl A, fun s => po A (en A (aT A H T) s), fun s x => (ff (aT A H T).length (fun i => lk A T (en A (aT A H T) i) (pt A (en A (aT A H T) s) x))).getD 0)
theorem aC_yes {A : PM} {H T : List (List Nat)} {n : Nat} (h : ∃ t, t < n ∧ lkH A T H t n) : aC A H T (n + 1) = aC A H T n := by
  show aC A H T n ++ @ite _ (∃ t, t < n ∧ lkH A T H t n) (Classical.propDecidable _) [] [H.getD n []] = _
  rw [if_pos h, List.append_nil]
theorem aC_no {A : PM} {H T : List (List Nat)} {n : Nat} (h : ¬ ∃ t, t < n ∧ lkH A T H t n) : aC A H T (n + 1) = aC A H T n ++ [H.getD n []] := by
  show aC A H T n ++ @ite _ (∃ t, t < n ∧ lkH A T H t n) (Classical.propDecidable _) [] [H.getD n []] = _
  rw [if_neg h]
theorem aC_len (A : PM) (H T : List (List Nat)) : ∀ n, (aC A H T n).length = cR (lkH A T H) n
  | 0 => rfl
  | n + 1 => by
    by_cases h : ∃ t, t < n ∧ lkH A T H t n
    · rw [aC_yes h, cR_yes h]; exact aC_len A H T n
    · rw [aC_no h, cR_no h, List.length_append, aC_len A H T n]; rfl
/-- which head each is -/
theorem aC_at {A : PM} {H T : List (List Nat)} : ∀ {n j}, j < (aC A H T n).length → ∃ k, k < n ∧ (aC A H T n).getD j [] = H.getD k [] ∧ (¬ ∃ t, t < k ∧ lkH A T H t k) ∧ j = cR (lkH A T H) k
  | 0, j, h => by simp [aC] at h
  | n + 1, j, h => by
    by_cases c : ∃ t, t < n ∧ lkH A T H t n
    · rw [aC_yes c] at h ⊢
      obtain ⟨k, k1, k2⟩ := aC_at h
      exact ⟨k, by omega, k2⟩
    · rw [aC_no c] at h ⊢
      rw [List.length_append, List.length_singleton] at h
      by_cases e : j = (aC A H T n).length
      · refine ⟨n, by omega, ?_, c, by rw [e, aC_len]⟩
        rw [e]; simp [List.getD]
      · obtain ⟨k, k1, k2, k3⟩ := aC_at (A := A) (H := H) (T := T) (n := n) (j := j) (by omega)
        refine ⟨k, by omega, ?_, k3⟩
        rw [← k2]
        simp [List.getD, List.getElem?_append_left (show j < (aC A H T n).length by omega)]
theorem aC_of {A : PM} {H T : List (List Nat)} : ∀ {n k}, k < n → (¬ ∃ t, t < k ∧ lkH A T H t k) → cR (lkH A T H) k < (aC A H T n).length ∧ (aC A H T n).getD (cR (lkH A T H) k) [] = H.getD k []
  | 0, k, h, _ => absurd h (Nat.not_lt_zero _)
  | n + 1, k, h, hk => by
    by_cases c : ∃ t, t < n ∧ lkH A T H t n
    · rw [aC_yes c]
      refine aC_of ?_ hk
      apply Nat.lt_of_le_of_ne (by omega)
      intro e; subst e; exact hk c
    · rw [aC_no c, List.length_append, List.length_singleton, aC_len]
      have hm := cR_mono (R := lkH A T H) (show k ≤ n by omega)
      refine ⟨by omega, ?_⟩
      by_cases e : k = n
      · subst e
        rw [← aC_len A H T k]; simp [List.getD]
      · obtain ⟨g1, g2⟩ := aC_of (A := A) (H := H) (T := T) (n := n) (k := k) (by omega) hk
        rw [← g2]
        simp [List.getD, List.getElem?_append_left g1]
