/-! how many classes; what is like by short words is like -/
/-- how many of the first n are the least of their class -/
noncomputable def cR (R : Nat → Nat → Prop) : Nat → Nat
  | 0 => 0
  | n + 1 => cR R n + @ite Nat (∃ t, t < n ∧ R t n) (Classical.propDecidable _) 0 1
theorem cR_yes {R : Nat → Nat → Prop} {n : Nat} (h : ∃ t, t < n ∧ R t n) : cR R (n + 1) = cR R n := by
  show cR R n + @ite Nat (∃ t, t < n ∧ R t n) (Classical.propDecidable _) 0 1 = _
  rw [if_pos h]; rfl
theorem cR_no {R : Nat → Nat → Prop} {n : Nat} (h : ¬ ∃ t, t < n ∧ R t n) : cR R (n + 1) = cR R n + 1 := by
  show cR R n + @ite Nat (∃ t, t < n ∧ R t n) (Classical.propDecidable _) 0 1 = _
  rw [if_neg h]
theorem cR_le (R : Nat → Nat → Prop) : ∀ n, cR R n ≤ n
  | 0 => Nat.le_refl _
  | n + 1 => by
    have := cR_le R n
    by_cases h : ∃ t, t < n ∧ R t n
    · rw [cR_yes h]; omega
    · rw [cR_no h]; omega
theorem cR_mono {R : Nat → Nat → Prop} : ∀ {n m}, n ≤ m → cR R n ≤ cR R m
  | n, 0, h => by rw [show n = 0 by omega]; exact Nat.le_refl _
  | n, m + 1, h => by
    by_cases e : n = m + 1
    · rw [e]; exact Nat.le_refl _
    · have h1 := cR_mono (R := R) (n := n) (m := m) (by omega)
      by_cases h : ∃ t, t < m ∧ R t m
      · rw [cR_yes h]; exact h1
      · rw [cR_no h]; omega
theorem cR_fine {R R' : Nat → Nat → Prop} : ∀ {n}, (∀ a b, a < b → b < n → R' a b → R a b) → cR R n ≤ cR R' n
  | 0, _ => Nat.le_refl _
  | n + 1, h => by
    have h1 := cR_fine (R := R) (R' := R') (n := n) (fun a b h1 h2 => h a b h1 (by omega))
    by_cases e' : ∃ t, t < n ∧ R' t n
    · obtain ⟨t, t1, t2⟩ := e'
      rw [cR_yes ⟨t, t1, t2⟩, cR_yes ⟨t, t1, h t n t1 (by omega) t2⟩]; exact h1
    · rw [cR_no e']
      by_cases e : ∃ t, t < n ∧ R t n
      · rw [cR_yes e]; omega
      · rw [cR_no e]; omega
theorem cR_eq {R R' : Nat → Nat → Prop} {n : Nat} (h : ∀ a b, a < b → b < n → (R' a b ↔ R a b)) : cR R n = cR R' n :=
  Nat.le_antisymm (cR_fine fun a b h1 h2 => (h a b h1 h2).mp) (cR_fine fun a b h1 h2 => (h a b h1 h2).mpr)
theorem cR_rep {R R' : Nat → Nat → Prop} {s : Nat} : ∀ {n}, (∀ a b, a < b → b < n → R' a b → R a b) → s < n → (∃ t, t < s ∧ R t s) → (¬ ∃ t, t < s ∧ R' t s) → cR R n + 1 ≤ cR R' n
  | 0, _, hs, _, _ => absurd hs (Nat.not_lt_zero _)
  | n + 1, h, hs, h1, h2 => by
    by_cases e : s = n
    · subst e
      have := cR_fine (R := R) (R' := R') (n := s) (fun a b h1 h2 => h a b h1 (by omega))
      rw [cR_yes h1, cR_no h2]; omega
    · have ih := cR_rep (R := R) (R' := R') (s := s) (n := n) (fun a b h1 h2 => h a b h1 (by omega)) (by omega) h1 h2
      by_cases e' : ∃ t, t < n ∧ R' t n
      · obtain ⟨t, t1, t2⟩ := e'
        rw [cR_yes ⟨t, t1, t2⟩, cR_yes ⟨t, t1, h t n t1 (by omega) t2⟩]; exact ih
      · rw [cR_no e']
        by_cases e : ∃ t, t < n ∧ R t n
        · rw [cR_yes e]; omega
        · rw [cR_no e]; omega
def eqv (R : Nat → Nat → Prop) : Prop := (∀ a, R a a) ∧ (∀ a b, R a b → R b a) ∧ ∀ a b c, R a b → R b c → R a c
theorem leastR {R : Nat → Nat → Prop} (hR : eqv R) (s : Nat) : ∃ t, t ≤ s ∧ R t s ∧ ¬ ∃ u, u < t ∧ R u t := by
  obtain ⟨t, t1, t2⟩ := pk_least (fun t => R t s) ⟨s, hR.1 s⟩
  refine ⟨t, ?_, t1, fun ⟨u, u1, u2⟩ => t2 u u1 (hR.2.2 _ _ _ u2 t1)⟩
  apply Nat.le_of_not_lt
  intro h
  exact t2 s h (hR.1 s)
/-- a strictly finer one has more classes -/
theorem cR_lt {R R' : Nat → Nat → Prop} {n a b : Nat} (hR : eqv R) (hR' : eqv R') (h : ∀ a b, a < n → b < n → R' a b → R a b) (ha : a < n) (hb : b < n) (h1 : R a b) (h2 : ¬ R' a b) : cR R n + 1 ≤ cR R' n := by
  obtain ⟨x, x1, x2, x3⟩ := leastR hR' a
  obtain ⟨y, y1, y2, y3⟩ := leastR hR' b
  have hxy : x ≠ y := by
    intro e; subst e
    exact h2 (hR'.2.2 _ _ _ (hR'.2.1 _ _ x2) y2)
  have rxa := h x a (by omega) ha x2
  have ryb := h y b (by omega) hb y2
  have rxy : R x y := hR.2.2 _ _ _ rxa (hR.2.2 _ _ _ h1 (hR.2.1 _ _ ryb))
  rcases Nat.lt_trichotomy x y with g | g | g
  · exact cR_rep (fun a b h1 h2 => h a b (by omega) h2) (show y < n by omega) ⟨x, g, rxy⟩ y3
  · exact absurd g hxy
  · exact cR_rep (fun a b h1 h2 => h a b (by omega) h2) (show x < n by omega) ⟨y, g, hR.2.1 _ _ rxy⟩ x3
theorem cR_pos {R : Nat → Nat → Prop} {n : Nat} (hn : 0 < n) : 1 ≤ cR R n := by
  have := cR_mono (R := R) (n := 1) (m := n) hn
  rw [cR_no (fun ⟨t, h, _⟩ => by omega)] at this
  omega
theorem cR_two {R : Nat → Nat → Prop} {n a b : Nat} (hR : eqv R) (ha : a < n) (hb : b < n) (h : ¬ R a b) : 2 ≤ cR R n := by
  have h1 := cR_lt (R := fun _ _ => True) (R' := R) (n := n) ⟨fun _ => True.intro, fun _ _ _ => True.intro, fun _ _ _ _ _ => True.intro⟩ hR (fun _ _ _ _ _ => True.intro) ha hb True.intro h
  have := cR_pos (R := fun _ _ => True) (n := n) (by omega)
  omega
theorem eqK_eqv (A : PM) (k : Nat) : eqv (eqK A k) := ⟨eqK_rf A k, fun _ _ => eqK_sy, fun _ _ _ => eqK_tr⟩
/-- no more is parted from here on -/
theorem eqK_stay {A : PM} (hc : clM A) {k : Nat} (h : ∀ s t, s < pn A → t < pn A → eqK A k s t → eqK A (k + 1) s t) : ∀ j s t, s < pn A → t < pn A → eqK A k s t → eqK A (k + j) s t
  | 0, _, _, _, _, g => g
  | j + 1, s, t, hs, ht, g => by
    have g1 := h s t hs ht g
    refine ⟨?_, fun x hx => eqK_stay hc h j _ _ (hc s hs x hx) (hc t ht x hx) (g1.2 x hx)⟩
    exact g1.1
theorem eqK_le {A : PM} {k s t : Nat} : ∀ {j}, eqK A (k + j) s t → eqK A k s t
  | 0, h => h
  | j + 1, h => eqK_le (j := j) (eqK_dn (k := k + j) h)
theorem eqK_grow {A : PM} (hc : clM A) : ∀ k, (∀ j s t, s < pn A → t < pn A → eqK A k s t → eqK A (k + j) s t) ∨ cR (eqK A 0) (pn A) + k ≤ cR (eqK A k) (pn A)
  | 0 => Or.inr (Nat.le_refl _)
  | k + 1 => by
    rcases eqK_grow hc k with h | h
    · refine Or.inl fun j s t hs ht g => ?_
      rw [show k + 1 + j = k + (1 + j) by omega]
      exact h (1 + j) s t hs ht (eqK_dn g)
    · by_cases hst : ∀ s t, s < pn A → t < pn A → eqK A k s t → eqK A (k + 1) s t
      · refine Or.inl fun j s t hs ht g => ?_
        rw [show k + 1 + j = k + (1 + j) by omega]
        exact eqK_stay hc hst _ s t hs ht (eqK_dn g)
      · refine Or.inr ?_
        obtain ⟨s, hst⟩ := Classical.not_forall.mp hst
        obtain ⟨t, hst⟩ := Classical.not_forall.mp hst
        by_cases hs : s < pn A
        · by_cases ht : t < pn A
          · by_cases he : eqK A k s t
            · by_cases he' : eqK A (k + 1) s t
              · exact absurd (fun _ _ _ => he') hst
              · have := cR_lt (eqK_eqv A k) (eqK_eqv A (k + 1)) (fun a b _ _ => eqK_dn) hs ht he he'
                omega
            · exact absurd (fun _ _ g => absurd g he) hst
          · exact absurd (fun _ g => absurd g ht) hst
        · exact absurd (fun g => absurd g hs) hst
/-- N states: words of at most N - 2 letters tell all -/
theorem eqK_end {A : PM} (hc : clM A) {k : Nat} (hk : pn A ≤ k + 2) : ∀ j s t, s < pn A → t < pn A → eqK A k s t → eqK A (k + j) s t := by
  rcases eqK_grow hc k with h | h
  · exact h
  · by_cases he : ∀ s t, s < pn A → t < pn A → eqK A 0 s t
    · -- all answer alike
      have : ∀ m s t, s < pn A → t < pn A → eqK A m s t := by
        intro m
        induction m with
        | zero => exact he
        | succ m ih => exact fun s t hs ht => ⟨he s t hs ht, fun x hx => ih _ _ (hc s hs x hx) (hc t ht x hx)⟩
      exact fun j s t hs ht _ => this _ s t hs ht
    · obtain ⟨s, he⟩ := Classical.not_forall.mp he
      obtain ⟨t, he⟩ := Classical.not_forall.mp he
      have hs : s < pn A := Classical.byContradiction fun q => he (fun g => absurd g q)
      have ht : t < pn A := Classical.byContradiction fun q => he (fun _ g => absurd g q)
      have hn : ¬ eqK A 0 s t := fun q => he (fun _ _ => q)
      have h2 := cR_two (eqK_eqv A 0) hs ht hn
      -- as many classes as states
      have h3 : pn A ≤ cR (eqK A k) (pn A) := by omega
      have key : ∀ n, n ≤ cR (eqK A k) n → ∀ a b, a < b → b < n → ¬ eqK A k a b := by
        intro n
        induction n with
        | zero => intro _ a b _ hb; omega
        | succ n ih =>
          intro hn a b hab hb
          have hle := cR_le (eqK A k) n
          by_cases e : ∃ t, t < n ∧ eqK A k t n
          · rw [cR_yes e] at hn; omega
          · rw [cR_no e] at hn
            by_cases eb : b = n
            · subst eb; exact fun q => e ⟨a, hab, q⟩
            · exact ih (by omega) a b hab (by omega)
      intro j a b ha hb g
      rcases Nat.lt_trichotomy a b with q | q | q
      · exact absurd g (key _ h3 a b q hb)
      · subst q; exact eqK_rf A _ _
      · exact absurd (eqK_sy g) (key _ h3 b a q ha)
theorem eqK_an {A : PM} : ∀ {k s t}, eqK A k s t ↔ ∀ u, vw (pl A) u → u.length ≤ k → an A s u = an A t u
  | 0, s, t => ⟨fun h u _ hu => by rw [List.eq_nil_of_length_eq_zero (l := u) (by omega)]; exact h, fun h => h [] (vw_nil _) (Nat.le_refl _)⟩
  | k + 1, s, t => by
    constructor
    · intro h u hu hl
      cases u with
      | nil => exact h.1
      | cons x v =>
        have hv := vw_cons.mp hu
        exact eqK_an.mp (h.2 x hv.1) v hv.2 (by simpa using hl)
    · intro h
      exact ⟨h [] (vw_nil _) (Nat.zero_le _), fun x hx => eqK_an.mpr fun v hv hl => h (x :: v) (vw_cons.mpr ⟨hx, hv⟩) (by simpa using hl)⟩
/-- two machines as one -/
def unM (A B : PM) : PM := (pn A + pn B, pl A, fun s => if s < pn A then po A s else po B (s - pn A), fun s x => if s < pn A then pt A s x else pn A + pt B (s - pn A) x)
theorem unM_n (A B : PM) : pn (unM A B) = pn A + pn B := rfl
theorem unM_l (A B : PM) : pl (unM A B) = pl A := rfl
theorem unM_o (A B : PM) (s : Nat) : po (unM A B) s = if s < pn A then po A s else po B (s - pn A) := rfl
theorem unM_t (A B : PM) (s x : Nat) : pt (unM A B) s x = if s < pn A then pt A s x else pn A + pt B (s - pn A) x := rfl
theorem unM_cl {A B : PM} (hA : clM A) (hB : clM B) (hl : pl B = pl A) : clM (unM A B) := by
  intro s hs x hx
  rw [unM_n] at hs ⊢
  rw [unM_l] at hx
  rw [unM_t]
  by_cases h : s < pn A
  · rw [if_pos h]; have := hA s h x hx; omega
  · rw [if_neg h]; have := hB (s - pn A) (by omega) x (by omega); omega
theorem unM_a {A B : PM} (hA : clM A) {s : Nat} (hs : s < pn A) : ∀ u, vw (pl A) u → rn (pt (unM A B)) s u = rn (pt A) s u ∧ rn (pt A) s u < pn A := by
  intro u
  induction u using snoc_ind with
  | h0 => exact fun _ => ⟨rfl, hs⟩
  | h1 u x ih =>
    intro hu
    have h2 := vw_app.mp hu
    have hx : x < pl A := h2.2 x (by simp)
    obtain ⟨a, b⟩ := ih h2.1
    rw [rn_snoc, rn_snoc, a, unM_t, if_pos b]
    exact ⟨rfl, hA _ b _ hx⟩
theorem unM_b {A B : PM} (hB : clM B) (hl : pl B = pl A) {s : Nat} (hs : s < pn B) : ∀ u, vw (pl A) u → rn (pt (unM A B)) (pn A + s) u = pn A + rn (pt B) s u ∧ rn (pt B) s u < pn B := by
  intro u
  induction u using snoc_ind with
  | h0 => exact fun _ => ⟨rfl, hs⟩
  | h1 u x ih =>
    intro hu
    have h2 := vw_app.mp hu
    have hx : x < pl A := h2.2 x (by simp)
    obtain ⟨a, b⟩ := ih h2.1
    rw [rn_snoc, rn_snoc, a, unM_t, if_neg (by omega), Nat.add_sub_cancel_left]
    exact ⟨rfl, hB _ b _ (by omega)⟩
theorem okM.cl {A : PM} (h : okM A) : clM A := h.2.2.2
/-- unlike ones are told apart by 14 letters -/
theorem moore {A B : PM} (hA : okM A) (hB : okM B) (hl : pl B = pl A) {p q : Nat} (hp : p < pn A) (hq : q < pn B) (h : ∀ u, vw (pl A) u → u.length ≤ 14 → an A p u = an B q u) (u : List Nat) (hu : vw (pl A) u) : an A p u = an B q u := by
  have a1 := hA.1.2
  have b1 := hB.1.2
  have e1 : ∀ u, vw (pl A) u → an (unM A B) p u = an A p u := fun u hu => by
    obtain ⟨g1, g2⟩ := unM_a (B := B) hA.cl hp u hu
    unfold an
    rw [g1, unM_o, if_pos g2]
  have e2 : ∀ u, vw (pl A) u → an (unM A B) (pn A + q) u = an B q u := fun u hu => by
    obtain ⟨g1, g2⟩ := unM_b (A := A) hB.cl hl hq u hu
    unfold an
    rw [g1, unM_o, if_neg (by omega), Nat.add_sub_cancel_left]
  have k1 : eqK (unM A B) 14 p (pn A + q) := eqK_an.mpr fun u hu hl => by rw [e1 u hu, e2 u hu]; exact h u hu hl
  have k2 := eqK_end (unM_cl hA.cl hB.cl hl) (k := 14) (by rw [unM_n]; omega) u.length p (pn A + q) (by rw [unM_n]; omega) (by rw [unM_n]; omega) k1
  have := eqK_an.mp k2 u hu (by omega)
  rw [e1 u hu, e2 u hu] at this
  exact this
/-- 7 letters tell apart the states of one machine -/
theorem moore7 {A : PM} (hA : okM A) {p q : Nat} (hp : p < pn A) (hq : q < pn A) : eqK A 7 p q ↔ ∀ u, vw (pl A) u → an A p u = an A q u := by
  have a1 := hA.1.2
  constructor
  · intro h u hu
    exact eqK_an.mp (eqK_end hA.cl (k := 7) (by omega) u.length p q hp hq h) u hu (by omega)
  · intro h
    exact eqK_an.mpr fun u hu _ => h u hu
