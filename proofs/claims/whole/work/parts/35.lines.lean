/-! the class's Table: lines, found by states -/
theorem eo_inj {x y : Option Nat} (hx : ∀ j, x = some j → j < 2 ^ 31) (hy : ∀ j, y = some j → j < 2 ^ 31) : eo x = eo y ↔ x = y := by
  constructor
  · intro h
    cases x with
    | none =>
      cases y with
      | none => rfl
      | some j => exact absurd (show (-1 : Int32) < 0 by decide) (by rw [show (-1 : Int32) = nI j from h]; exact nI_pos (hy j rfl))
    | some i =>
      cases y with
      | none => exact absurd (show (-1 : Int32) < 0 by decide) (by rw [show (-1 : Int32) = nI i from Eq.symm h]; exact nI_pos (hx i rfl))
      | some j =>
        have h : nI i = nI j := h
        rw [nI_eq (hx i rfl) (hy j rfl)] at h
        rw [h]
  · intro h; rw [h]
/-- the first of n -/
def isF (n : Nat) (P : Nat → Prop) (o : Option Nat) : Prop := match o with
  | some k => k < n ∧ P k ∧ ∀ j, j < k → ¬ P j
  | none => ∀ j, j < n → ¬ P j
theorem isF_un {n : Nat} {P : Nat → Prop} {x y : Option Nat} (h : isF n P x) (g : isF n P y) : x = y := by
  cases x with
  | none =>
    cases y with
    | none => rfl
    | some j => exact absurd g.2.1 (h j g.1)
  | some i =>
    cases y with
    | none => exact absurd h.2.1 (g i h.1)
    | some j =>
      rcases Nat.lt_trichotomy i j with c | c | c
      · exact absurd h.2.1 (g.2.2 i c)
      · rw [c]
      · exact absurd g.2.1 (h.2.2 j c)
theorem isF_cg {n : Nat} {P P' : Nat → Prop} {x : Option Nat} (h : isF n P x) (hp : ∀ j, j < n → (P j ↔ P' j)) : isF n P' x := by
  cases x with
  | none => exact fun j hj q => h j hj ((hp j hj).mpr q)
  | some i => exact ⟨h.1, (hp i h.1).mp h.2.1, fun j hj q => h.2.2 j hj ((hp j (by have := h.1; omega)).mpr q)⟩
theorem isF_snoc {n : Nat} {P : Nat → Prop} {x : Option Nat} (h : isF n P x) : (x = none → P n → isF (n + 1) P (some n)) ∧ (x = none → ¬ P n → isF (n + 1) P none) ∧ ∀ k, x = some k → isF (n + 1) P x := by
  refine ⟨fun e hp => ?_, fun e hp => ?_, fun k e => ?_⟩
  · subst e; exact ⟨by omega, hp, h⟩
  · subst e
    intro j hj
    by_cases ej : j = n
    · subst ej; exact hp
    · exact h j (by omega)
  · subst e; exact ⟨by have := h.1; omega, h.2⟩
theorem isF_ex (n : Nat) (P : Nat → Prop) : ∃ x, isF n P x := by
  by_cases h : ∃ k, k < n ∧ P k
  · obtain ⟨k, ⟨k1, k2⟩, k3⟩ := pk_least (fun k => k < n ∧ P k) h
    exact ⟨some k, k1, k2, fun j hj q => k3 j hj ⟨by omega, q⟩⟩
  · exact ⟨none, fun j hj q => h ⟨j, hj, q⟩⟩
/-- what a word answers from a state on, where there is one -/
def ao (A : PM) (p : Nat) (e : List Nat) : Option Nat := ouO A (rnO A (some p) e)
theorem ao_b {A : PM} (hb : bdM A) (p : Nat) (e : List Nat) : ∀ j, ao A p e = some j → j < 4 := by
  intro j hj
  unfold ao ouO at hj
  split at hj
  · rename_i t _
    by_cases c : t < pn A
    · rw [if_pos c] at hj
      cases hj
      exact hb.2.2.1 t c
    · rw [if_neg c] at hj; cases hj
  · cases hj
theorem ao_ok {A : PM} (h : okM A) {p : Nat} (hp : p < pn A) {e : List Nat} (he : vw (pl A) e) : ao A p e = some (an A p e) := by
  unfold ao
  rw [rnO_ok h hp he]
  exact if_pos (rn_lt h hp he)
/-- alike by all tails -/
def lk (A : PM) (T : List (List Nat)) (p q : Nat) : Prop := ∀ e, e ∈ T → ao A p e = ao A q e
theorem lk_eqv (A : PM) (T : List (List Nat)) : eqv (lk A T) := ⟨fun _ _ _ => rfl, fun _ _ h e he => (h e he).symm, fun _ _ _ h g e he => (h e he).trans (g e he)⟩
theorem lk_snoc {A : PM} {T : List (List Nat)} {e : List Nat} {p q : Nat} : lk A (T ++ [e]) p q ↔ lk A T p q ∧ ao A p e = ao A q e := by
  unfold lk
  constructor
  · exact fun h => ⟨fun x hx => h x (by simp [hx]), h e (by simp)⟩
  · rintro ⟨h, g⟩ x hx
    rcases List.mem_append.mp hx with c | c
    · exact h x c
    · rw [List.mem_singleton] at c; subst c; exact g
theorem isLe {R : Nat → Nat → Prop} (hR : eqv R) {a b x y : Nat} (ha : isL R a x) (hb : isL R b y) : x = y ↔ R a b := by
  constructor
  · intro e; subst e
    exact hR.2.2 _ _ _ (hR.2.1 _ _ ha.2.1) hb.2.1
  · intro h
    rcases Nat.lt_trichotomy x y with c | c | c
    · exact absurd (hR.2.2 _ _ _ ha.2.1 h) (hb.2.2 _ c)
    · exact c
    · exact absurd (hR.2.2 _ _ _ hb.2.1 (hR.2.1 _ _ h)) (ha.2.2 _ c)
def TabSh (M : Mem) (b r : Nat) : Prop := NotSh M b r 4 ∧ (mR M b 9 = b + 11 ∧ mR M b 10 = b + 12 ∧ mR M b 11 = b + 13 ∧ mR M b 12 = b + 14 ∧ mR M b 13 = b + 15) ∧ (mK M (b + 11) = 1 ∧ mN M (b + 11) = 8) ∧ (mK M (b + 12) = 1 ∧ mN M (b + 12) = 8) ∧ (mK M (b + 13) = 1 ∧ mN M (b + 13) = 8) ∧ (mK M (b + 14) = 1 ∧ mN M (b + 14) = 8) ∧ mK M (b + 15) = 1 ∧ mN M (b + 15) = 128
theorem TabSh.sm {S : List Nat} {M M' : Mem} {b r : Nat} (h : Sm S M M') (hs : TabSh M b r) : TabSh M' b r := by
  obtain ⟨a, c⟩ := hs
  refine ⟨a.sm h, ?_⟩
  obtain ⟨-, h1, h2, h3, -, -⟩ := h
  rw [h1, h2, h3]; exact c
theorem TabSh.fm {S : List Nat} {M M' : Mem} {b r : Nat} (h : Fm S M M') (hl : b + 15 < mC M + 2) (hs : TabSh M b r) : TabSh M' b r := by
  obtain ⟨a, ⟨c1, c2, c3, c4, c5⟩, ⟨k1, n1⟩, ⟨k2, n2⟩, ⟨k3, n3⟩, ⟨k4, n4⟩, k5, n5⟩ := hs
  have a1 : mK M b = 8 := a.1.2
  have nv : ∀ j, ¬ vR (mK M b) j := fun j q => by rw [a1] at q; unfold vR at q; omega
  refine ⟨a.fm h (by omega), ⟨?_, ?_, ?_, ?_, ?_⟩, ⟨by rw [h.K (by omega)]; exact k1, by rw [h.N (by omega)]; exact n1⟩, ⟨by rw [h.K (by omega)]; exact k2, by rw [h.N (by omega)]; exact n2⟩, ⟨by rw [h.K (by omega)]; exact k3, by rw [h.N (by omega)]; exact n3⟩, ⟨by rw [h.K (by omega)]; exact k4, by rw [h.N (by omega)]; exact n4⟩, by rw [h.K hl]; exact k5, by rw [h.N hl]; exact n5⟩
  · rw [h.2.2.1 b 9 (by omega) (nv 9)]; exact c1
  · rw [h.2.2.1 b 10 (by omega) (nv 10)]; exact c2
  · rw [h.2.2.1 b 11 (by omega) (nv 11)]; exact c3
  · rw [h.2.2.1 b 12 (by omega) (nv 12)]; exact c4
  · rw [h.2.2.1 b 13 (by omega) (nv 13)]; exact c5
/-- the end of head h -/
def en (A : PM) (H : List (List Nat)) (h : Nat) : Nat := rn (pt A) 0 (H.getD h [])
section Lines
variable {d r b : Nat} {Q : Option Value → Mem → Prop} {M : Mem} {A : PM}
theorem w_X6_lineOf {s : Nat} (hd : 1 < d) (hs : TabSh M b r) (h8 : s < 8) (h : Q (some (.int (mI M (b + 11) s))) M) : ClD d mdX6_lineOf [.ref b, .int (nI s)] M Q := by
  obtain ⟨a, ⟨c1, c2, c3, c4, c5⟩, ⟨k1, n1⟩, -⟩ := hs
  refine ⟨1, hd, Cl.of moX6_lineOf (Nat.le_of_ble_eq_true rfl) (gX6_lineOf_0 a.1.2 (by rw [c1]; exact k1) (fun c => absurd c (nI_pos (by omega))) (fun _ _ => ?_) (fun _ _ => ⟨⟨_, rfl⟩, ?_⟩) (fun _ c => ?_))⟩
  · rw [c1, n1]; exact z_in h8 (by omega)
  · rw [c1, nI_clamp (by omega)]; exact h
  · exfalso; apply c; rw [c1, n1]; exact nI_lt h8 (by omega)
theorem w_X6_endOf {s : Nat} (hd : 1 < d) (hs : TabSh M b r) (h8 : s < 128) (h : Q (some (.int (mI M (b + 15) s))) M) : ClD d mdX6_endOf [.ref b, .int (nI s)] M Q := by
  obtain ⟨a, ⟨c1, c2, c3, c4, c5⟩, -, -, -, -, k1, n1⟩ := hs
  refine ⟨1, hd, Cl.of moX6_endOf (Nat.le_of_ble_eq_true rfl) (gX6_endOf_0 a.1.2 (by rw [c5]; exact k1) (fun c => absurd c (nI_pos (by omega))) (fun _ _ => ?_) (fun _ _ => ⟨⟨_, rfl⟩, ?_⟩) (fun _ c => ?_))⟩
  · rw [c5, n1]; exact z_in h8 (by omega)
  · rw [c5, nI_clamp (by omega)]; exact h
  · exfalso; apply c; rw [c5, n1]; exact nI_lt h8 (by omega)
theorem w_X6_headLike {s : Nat} (hd : 1 < d) (hs : TabSh M b r) (h8 : s < 8) (h : Q (some (.int (mI M (b + 14) s))) M) : ClD d mdX6_headLike [.ref b, .int (nI s)] M Q := by
  obtain ⟨a, ⟨c1, c2, c3, c4, c5⟩, -, -, -, ⟨k1, n1⟩, -⟩ := hs
  refine ⟨1, hd, Cl.of moX6_headLike (Nat.le_of_ble_eq_true rfl) (gX6_headLike_0 a.1.2 (by rw [c4]; exact k1) (fun c => absurd c (nI_pos (by omega))) (fun _ _ => ?_) (fun _ _ => ⟨⟨_, rfl⟩, ?_⟩) (fun _ c => ?_))⟩
  · rw [c4, n1]; exact z_in h8 (by omega)
  · rw [c4, nI_clamp (by omega)]; exact h
  · exfalso; apply c; rw [c4, n1]; exact nI_lt h8 (by omega)
theorem w_X6_leastAlike {s : Nat} {g : Nat → Nat} {a : Nat → Option Nat} (hd : 1 < d) (hs : TabSh M b r) (h8 : s < 8) (hg8 : ∀ t, t ≤ s → g t < 8) (hg : ∀ t, t ≤ s → mI M (b + 12) t = nI (g t)) (ha4 : ∀ t j, a t = some j → j < 4) (ha : ∀ t, t ≤ s → mI M (b + 13) t = eo (a t)) (h : ∀ t, isL (fun x y => g x = g y ∧ a x = a y) s t → Q (some (.int (nI t))) M) : ClD d mdX6_leastAlike [.ref b, .int (nI s)] M Q := by
  obtain ⟨a0, ⟨c1, c2, c3, c4, c5⟩, -, ⟨k2, n2⟩, ⟨k3, n3⟩, -⟩ := hs
  have haj : ∀ t u, a t = a u ↔ eo (a t) = eo (a u) := fun t u => (eo_inj (fun j e => by have := ha4 t j e; omega) (fun j e => by have := ha4 u j e; omega)).symm
  refine ⟨1, hd, Cl.of moX6_leastAlike (Nat.le_of_ble_eq_true rfl) (gX6_leastAlike_0 ?_)⟩
  refine upto s (fun t => (∀ i, i < t → ¬ (g i = g s ∧ a i = a s)) → Wp 1 mdX6_leastAlike 2 [(0, .ref b), (1, .int (nI s)), (2, .int (nI t))] [] M (fun r M' => ROK mdX6_leastAlike r ∧ Q r M')) ?_ 0 (Nat.zero_le _) (fun _ h => by omega)
  intro t ht ih hno
  have nx : t < s → ¬ (g t = g s ∧ a t = a s) → Wp 1 mdX6_leastAlike 2 [(0, .ref b), (1, .int (nI s)), (2, .int (nI t + nI 1))] [] M (fun r M' => ROK mdX6_leastAlike r ∧ Q r M') := by
    intro hts hne
    rw [nI_add]
    refine ih hts (fun i hi => ?_)
    by_cases e : i = t
    · subst e; exact hne
    · exact hno i (by omega)
  have gs := hg8 s (Nat.le_refl _)
  have gt := hg8 t ht
  refine gX6_leastAlike_2 a0.1.2 (by rw [c2]; exact k2) (by rw [c3]; exact k3) (fun c => ⟨⟨_, rfl⟩, ?_⟩) (fun _ c => ?_) (fun _ _ c => ?_) (fun _ _ _ => ?_) (fun _ _ _ => ?_) (fun c _ _ e => ?_) (fun _ _ _ _ => ?_) (fun _ _ _ _ => ?_) (fun c _ _ e e2 => ?_) (fun c _ _ e e2 => ⟨⟨_, rfl⟩, ?_⟩)
  · rw [nI_leI (by omega) (by omega)] at c
    exact h s ⟨Nat.le_refl _, ⟨rfl, rfl⟩, fun i hi => hno i (by omega)⟩
  · exfalso; rw [c2, n2] at c; exact nI_ge h8 (by omega) c
  · exfalso; rw [c3, n3] at c; exact nI_ge h8 (by omega) c
  · rw [c2, n2]; exact z_in (by omega) (by omega)
  · rw [c2, n2]; exact z_in h8 (by omega)
  · have hts : t < s := Nat.lt_of_not_le fun q => c (nI_le q (by omega))
    rw [c2, nI_clamp (by omega), nI_clamp (by omega), hg t ht, hg s (Nat.le_refl _), nI_eq (by omega) (by omega)] at e
    exact nx hts (fun q => e q.1)
  · rw [c3, n3]; exact z_in (by omega) (by omega)
  · rw [c3, n3]; exact z_in h8 (by omega)
  · have hts : t < s := Nat.lt_of_not_le fun q => c (nI_le q (by omega))
    rw [c3, nI_clamp (by omega), nI_clamp (by omega), ha t ht, ha s (Nat.le_refl _), ← haj] at e2
    exact nx hts (fun q => e2 q.2)
  · rw [c2, nI_clamp (by omega), nI_clamp (by omega), hg t ht, hg s (Nat.le_refl _), nI_eq (by omega) (by omega)] at e
    rw [c3, nI_clamp (by omega), nI_clamp (by omega), ha t ht, ha s (Nat.le_refl _), ← haj] at e2
    exact h t ⟨ht, ⟨e, e2⟩, hno⟩
theorem w_X6_splitLines {T : List (List Nat)} {e : List Nat} {g : Nat → Nat} (hd : 3 < d) (hs : TabSh M b r) (hak : mK M r = 4) (ha0 : mR M r 0 = 3) (hb4 : 4 < b) (hm : MacSh M 3) (hA0 : MacAt M 3 A) (hA : okM A) (he : vw 4 e) (hel : e.length ≤ 30) (hg : ∀ s, s < 8 → mI M (b + 11) s = nI (g s)) (hL : ∀ s, s < 8 → isL (lk A T) s (g s))
    (h : ∀ M' (g' : Nat → Nat), Sm [b + 11, b + 12, b + 13] M M' → (∀ s, s < 8 → mI M' (b + 11) s = nI (g' s)) → (∀ s, s < 8 → isL (lk A (T ++ [e])) s (g' s)) → Q none M') : ClD d mdX6_splitLines [.ref b, .long (lN (cd e))] M Q := by
  have hs0 := hs
  obtain ⟨a0, ⟨c1, c2, c3, c4, c5⟩, ⟨k1, n1⟩, ⟨k2, n2⟩, ⟨k3, n3⟩, -⟩ := hs
  have hmn : jmin (nI 8) (nI 8) = nI 8 := by decide
  have s8 : (nI 0).toNatClampNeg = 0 ∧ (nI 8).toNatClampNeg = 8 := by decide
  refine ⟨3, hd, Cl.of moX6_splitLines (Nat.le_of_ble_eq_true rfl) (gX6_splitLines_0 (by decide) a0.1.2 (by rw [c1]; exact k1) (by rw [c2]; exact k2) ?_ ?_)⟩
  · rw [c1, c2, n1, n2, hmn]
    exact ⟨by decide, by decide, by decide, by rw [n1]; decide, by rw [n2]; decide⟩
  · rw [c1, c2, n1, n2, hmn]
    have S0 : Sm [b + 11, b + 12, b + 13] M (cpM M (b + 11) (nI 0) (b + 12) (nI 0) (nI 8)) := by
      refine ⟨fun p hp => ⟨funext fun j => if_neg (fun e => hp (by simp [e])), rfl⟩, rfl, rfl, rfl, rfl, rfl⟩
    have bef : ∀ t, t < 8 → mI (cpM M (b + 11) (nI 0) (b + 12) (nI 0) (nI 8)) (b + 12) t = nI (g t) := by
      intro t ht
      have e1 : mI (cpM M (b + 11) (nI 0) (b + 12) (nI 0) (nI 8)) (b + 12) t = va_cpy (mI M (b + 11)) (mI M (b + 12)) (nI 0).toNatClampNeg (nI 0).toNatClampNeg (nI 8).toNatClampNeg t := if_pos rfl
      rw [e1, s8.1, s8.2]
      have e2 : va_cpy (mI M (b + 11)) (mI M (b + 12)) 0 0 8 t = mI M (b + 11) (0 + (t - 0)) := if_pos ⟨Nat.zero_le _, by omega⟩
      rw [e2, show 0 + (t - 0) = t by omega]
      exact hg t ht
    refine upto 8 (fun s => ∀ M1 (g' : Nat → Nat), Sm [b + 11, b + 12, b + 13] M M1 → (∀ t, t < 8 → mI M1 (b + 12) t = nI (g t)) → (∀ t, t < s → mI M1 (b + 13) t = eo (ao A t e)) → (∀ t, t < s → mI M1 (b + 11) t = nI (g' t)) → (∀ t, t < s → isL (lk A (T ++ [e])) t (g' t)) → Wp 3 mdX6_splitLines 28 [(0, .ref b), (1, .long (lN (cd e))), (3, .int (nI s))] [] M1 (fun r M' => ROK mdX6_splitLines r ∧ Q r M')) ?_ 0 (Nat.zero_le _) _ g S0 bef (fun _ h => by omega) (fun _ h => by omega) (fun _ h => by omega)
    intro s hs8 ih M1 g' S hb12 hb13 hb11 hL'
    have hs1 := hs0.sm S
    obtain ⟨a1, ⟨d1, d2, d3, d4, d5⟩, ⟨k1', n1'⟩, ⟨k2', n2'⟩, ⟨k3', n3'⟩, -⟩ := hs1
    have e0 : mR M1 r 0 = 3 := by rw [S.2.1]; exact ha0
    have e00 : mR M1 b 0 = r := a1.2.1.1
    have ek : mK M1 r = 4 := by rw [S.2.2.1]; exact hak
    have hm1 := hm.sm S
    have hA1 := hA0.sm S (by simp <;> omega) (by simp <;> omega) (by simp <;> omega)
    refine gX6_splitLines_28 a1.1.2 (by rw [d1]; exact k1') (by rw [d3]; exact k3') (by rw [e00]; exact ek) (by rw [e00, e0]; exact hm1.1.1) (fun c => ⟨rfl, ?_⟩) (fun c c' => ?_) (fun c c' => ?_)
    · rw [d1, n1', nI_leI (by omega) (by omega)] at c
      have es : s = 8 := by omega
      subst es
      exact h M1 g' S hb11 hL'
    · exfalso; rw [d3, n3'] at c'; apply c; rw [d1, n1']; exact c'
    · have hlt : s < 8 := Nat.lt_of_not_le fun q => c (by rw [d1, n1']; exact nI_le q (by omega))
      rw [e00, e0, d3]
      refine w_X2_endFrom (s := some s) (by decide) hm1 hA1 hA.bd (fun j e => by cases e; exact hlt) he hel ?_
      refine gX6_splitLines_70 hm1.1.1 (w_outO (by decide) hm1 hA1 hA.bd (rnO_lt hA.bd (fun j e => by cases e; exact hlt) e) ?_)
      refine gX6_splitLines_73 k3' a1.1.2 (by rw [n3']; exact z_in hlt (by omega)) ?_
      rw [nI_clamp (by omega)]
      have S2 : Sm [b + 11, b + 12, b + 13] M1 (sI M1 (b + 13) s (eo (ouO A (rnO A (some s) e)))) := Sm.sI (by simp) _ _ _
      have hs2 := (hs0.sm S).sm S2
      have hb13' : ∀ t, t ≤ s → mI (sI M1 (b + 13) s (eo (ouO A (rnO A (some s) e)))) (b + 13) t = eo (ao A t e) := by
        intro t ht
        by_cases et : t = s
        · subst et; exact rI_at _ _ _ _
        · rw [rI_nk et]; exact hb13 t (by omega)
      refine w_X6_leastAlike (g := g) (a := fun t => ao A t e) (by decide) hs2 hlt (fun t ht => by have := (hL t (by omega)).1; omega) (fun t ht => by rw [rI_np (by omega)]; exact hb12 t (by omega)) (fun t => ao_b hA.bd t e) hb13' (fun t hLt => ?_)
      have e11 : mR (sI M1 (b + 13) s (eo (ouO A (rnO A (some s) e)))) b 9 = b + 11 := d1
      rw [e11]
      refine gX6_splitLines_84 k1' (by show vp_in _ (mN M1 (b + 11)); rw [n1']; exact z_in hlt (by omega)) ?_
      rw [nI_add, nI_clamp (by omega)]
      have hLs : isL (lk A (T ++ [e])) s t := by
        refine ⟨hLt.1, lk_snoc.mpr ⟨(isLe (lk_eqv A T) (hL t (by have := hLt.1; omega)) (hL s hlt)).mp hLt.2.1.1, hLt.2.1.2⟩, fun i hi q => hLt.2.2 i hi ?_⟩
        have q := lk_snoc.mp q
        exact ⟨(isLe (lk_eqv A T) (hL i (by have := hLt.1; omega)) (hL s hlt)).mpr q.1, q.2⟩
      refine ih hlt _ (fun i => if i = s then t else g' i) ((S.tr S2).tr (Sm.sI (by simp) _ _ _)) (fun i hi => ?_) (fun i hi => ?_) (fun i hi => ?_) (fun i hi => ?_)
      · rw [rI_np (by omega), rI_np (by omega)]; exact hb12 i hi
      · rw [rI_np (by omega)]; exact hb13' i (by omega)
      · by_cases ei : i = s
        · subst ei; rw [rI_at, if_pos rfl]
        · rw [rI_nk ei, if_neg ei, rI_np (by omega)]; exact hb11 i (by omega)
      · by_cases ei : i = s
        · subst ei; rw [if_pos rfl]; exact hLs
        · rw [if_neg ei]; exact hL' i (by omega)
theorem w_X6_setFirstHead {h own : Nat} {g : Nat → Nat} {f : Nat → Option Nat} (hd : 2 < d) (hs : TabSh M b r) (ho : own < 8) (hh : h < 128) (hg : ∀ s, s < 8 → mI M (b + 11) s = nI (g s)) (hg8 : ∀ s, s < 8 → g s < 8) (hf8 : ∀ s j, f s = some j → j < 128) (hf : ∀ s, s < 8 → mI M (b + 14) s = eo (f s))
    (hq : ∀ M' (f' : Nat → Option Nat), Sm [b + 14] M M' → (∀ s, s < 8 → mI M' (b + 14) s = eo (f' s)) → (∀ s, s < 8 → (g s = own ∧ f s = none → f' s = some h) ∧ (¬ (g s = own ∧ f s = none) → f' s = f s)) → Q none M') : ClD d mdX6_setFirstHead [.ref b, .int (nI own), .int (nI h)] M Q := by
  have hs0 := hs
  refine ⟨2, hd, Cl.of moX6_setFirstHead (Nat.le_of_ble_eq_true rfl) (gX6_setFirstHead_0 ?_)⟩
  refine upto 8 (fun i => ∀ M1 (f' : Nat → Option Nat), Sm [b + 14] M M1 → (∀ s, s < 8 → mI M1 (b + 14) s = eo (f' s)) → (∀ s, s < 8 → (s < i ∧ g s = own ∧ f s = none → f' s = some h) ∧ (¬ (s < i ∧ g s = own ∧ f s = none) → f' s = f s)) → Wp 2 mdX6_setFirstHead 2 [(0, .ref b), (1, .int (nI own)), (2, .int (nI h)), (3, .int (nI i))] [] M1 (fun r M' => ROK mdX6_setFirstHead r ∧ Q r M')) ?_ 0 (Nat.zero_le _) M f (Sm.rf _ _) hf (fun s _ => ⟨fun q => by omega, fun _ => rfl⟩)
  intro i hi ih M1 f' S hf1 hf2
  have hs1 := hs0.sm S
  have hs1' := hs1
  obtain ⟨a1, ⟨d1, d2, d3, d4, d5⟩, ⟨k1', n1'⟩, -, -, ⟨k4', n4'⟩, -⟩ := hs1'
  refine gX6_setFirstHead_2 a1.1.2 (by rw [d4]; exact k4') (fun c => ⟨rfl, ?_⟩) (fun c => ?_)
  · rw [d4, n4', nI_leI (by omega) (by omega)] at c
    exact hq M1 f' S hf1 (fun s hs => ⟨fun q => (hf2 s hs).1 ⟨by omega, q⟩, fun q => (hf2 s hs).2 (fun q2 => q q2.2)⟩)
  · have hi8 : i < 8 := Nat.lt_of_not_le fun q => c (by rw [d4, n4']; exact nI_le q (by omega))
    refine w_X6_lineOf (by decide) hs1 hi8 ?_
    rw [S.I (by simp), hg i hi8]
    have gi := hg8 i hi8
    have fi : f' i = f i := (hf2 i hi8).2 (fun q => by omega)
    have b8 : ∀ j, f' i = some j → j < 2 ^ 31 := fun j hj => by rw [fi] at hj; have := hf8 i j hj; omega
    have nx : ¬ (g i = own ∧ f i = none) → Wp 2 mdX6_setFirstHead 2 [(0, .ref b), (1, .int (nI own)), (2, .int (nI h)), (3, .int (nI i + nI 1))] [] M1 (fun r M' => ROK mdX6_setFirstHead r ∧ Q r M') := by
      intro hne
      rw [nI_add]
      refine ih hi8 M1 f' S hf1 (fun s hs => ⟨fun q => ?_, fun q => ?_⟩)
      · by_cases e : s = i
        · subst e; exact absurd q.2 hne
        · exact (hf2 s hs).1 ⟨by omega, q.2⟩
      · exact (hf2 s hs).2 (fun q2 => q ⟨by omega, q2.2⟩)
    refine gX6_setFirstHead_16 a1.1.2 (by rw [d4]; exact k4') (fun c1 => ?_) (fun _ => ?_) (fun c1 c2 => ?_) (fun _ _ => ?_) (fun c1 c2 => ?_)
    · rw [nI_eq (by omega) (by omega)] at c1
      exact nx (fun q => c1 q.1)
    · rw [d4, n4']; exact z_in hi8 (by omega)
    · rw [d4, nI_clamp (by omega), hf1 i hi8] at c2
      refine nx (fun q => c2 ?_)
      rw [fi, q.2]; rfl
    · rw [d4, n4']; exact z_in hi8 (by omega)
    · rw [nI_eq (by omega) (by omega)] at c1
      rw [d4, nI_clamp (by omega), hf1 i hi8] at c2
      have e2 : f' i = none := (eo_inj b8 (fun j q => by cases q)).mp c2
      rw [d4, nI_add, nI_clamp (by omega)]
      refine ih hi8 _ (fun s => if s = i then some h else f' s) (S.tr (Sm.sI (by simp) _ _ _)) (fun s hs => ?_) (fun s hs => ?_)
      · by_cases e : s = i
        · subst e; rw [rI_at, if_pos rfl]; rfl
        · rw [rI_nk e, if_neg e]; exact hf1 s hs
      · by_cases e : s = i
        · subst e
          rw [if_pos rfl]
          exact ⟨fun _ => rfl, fun q => absurd ⟨by omega, c1, by rw [← fi]; exact e2⟩ q⟩
        · rw [if_neg e]
          exact ⟨fun q => (hf2 s hs).1 ⟨by omega, q.2⟩, fun q => (hf2 s hs).2 (fun q2 => q ⟨by omega, q2.2⟩)⟩
end Lines
