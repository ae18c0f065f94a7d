/-! the class's Machine and WordList -/
/-- a number that may be none -/
def eo : Option Nat → Int32
  | some j => nI j
  | none => (-1 : Int32)
def MacSh (M : Mem) (r : Nat) : Prop := (mK M r = 5 ∧ mR M r 2 = r + 1 ∧ mR M r 3 = r + 2 ∧ mR M r 4 = r + 3) ∧ (mK M (r + 1) = 1 ∧ mN M (r + 1) = 8) ∧ (mK M (r + 2) = 1 ∧ mN M (r + 2) = 24) ∧ (mK M (r + 3) = 1 ∧ mN M (r + 3) = 8)
def MacAt (M : Mem) (r : Nat) (A : PM) : Prop := (mI M r 0 = nI (pn A) ∧ mI M r 1 = nI (pl A)) ∧ (∀ s, s < pn A → mI M (r + 1) s = nI (po A s)) ∧ ∀ s, s < pn A → ∀ x, x < pl A → mI M (r + 2) (s * 3 + x) = nI (pt A s x)
/-- a machine's bounds: also one without states -/
def bdM (A : PM) : Prop := pn A ≤ 8 ∧ pl A ≤ 3 ∧ (∀ s, s < pn A → po A s < 4) ∧ ∀ s, s < pn A → ∀ x, x < pl A → pt A s x < 8
theorem okM.bd {A : PM} (h : okM A) : bdM A := ⟨h.1.2, h.2.1.2, h.2.2.1, fun s hs x hx => Nat.lt_of_lt_of_le (h.2.2.2 s hs x hx) h.1.2⟩
theorem z_in {j n : Nat} (h : j < n) (hn : n < 2 ^ 31) : vp_in (nI j) n := vp_in_nI h hn
theorem z_m1 : (-1 : Int32) < 0 := by decide
theorem fa_of {x y : Int32} (h : ¬ x < y) : y ≤ x := Int32.not_lt.mp h
section Mach
variable {d r : Nat} {Q : Option Value → Mem → Prop} {M : Mem} {A : PM}
theorem w_X2_outputOf {x : Int32} (hd : 1 < d) (hs : MacSh M r) (ha : MacAt M r A) (hb : bdM A) (h1 : ∀ s, s < pn A → x = nI s → Q (some (.int (nI (po A s)))) M) (h2 : (x < 0 ∨ nI (pn A) ≤ x) → Q (some (.int (-1 : Int32))) M) : ClD d mdX2_outputOf [.ref r, .int x] M Q := by
  obtain ⟨⟨a1, a2, a3, a4⟩, ⟨b1, b2⟩, -, -⟩ := hs
  obtain ⟨⟨c1, c2⟩, c3, c4⟩ := ha
  have hn := hb.1
  refine ⟨1, hd, Cl.of moX2_outputOf (Nat.le_of_ble_eq_true rfl) (gX2_outputOf_0 a1 (by rw [a2]; exact b1) (fun c => ⟨⟨_, rfl⟩, h2 (Or.inl c)⟩) (fun _ c => ⟨⟨_, rfl⟩, h2 (Or.inr (by rw [← c1]; exact c))⟩) (fun e1 e2 e3 => ?_) (fun e1 e2 e3 => ⟨⟨_, rfl⟩, ?_⟩) (fun e1 e2 e3 => ?_))⟩ <;> rw [c1] at e2 <;> rcases pk_ix x (show pn A < 2 ^ 31 by omega) with g | g | ⟨s, hs, rfl⟩ <;> first | exact absurd g e1 | exact absurd g e2 | skip
  · rw [a2, b2]; exact z_in (by omega) (by omega)
  · rw [a2, nI_clamp (by omega), c3 s hs]; exact h1 s hs rfl
  · exfalso; apply e3; rw [a2, b2]; exact nI_lt (by omega) (by omega)
theorem w_X2_nextOf {x y : Int32} (hd : 1 < d) (hs : MacSh M r) (ha : MacAt M r A) (hb : bdM A) (h1 : ∀ s z, s < pn A → z < pl A → x = nI s → y = nI z → Q (some (.int (nI (pt A s z)))) M) (h2 : (x < 0 ∨ nI (pn A) ≤ x ∨ y < 0 ∨ nI (pl A) ≤ y) → Q (some (.int (-1 : Int32))) M) : ClD d mdX2_nextOf [.ref r, .int x, .int y] M Q := by
  obtain ⟨⟨a1, a2, a3, a4⟩, -, ⟨b1, b2⟩, -⟩ := hs
  obtain ⟨⟨c1, c2⟩, c3, c4⟩ := ha
  have hn := hb.1
  have hm := hb.2.1
  refine ⟨1, hd, Cl.of moX2_nextOf (Nat.le_of_ble_eq_true rfl) (gX2_nextOf_0 a1 (by rw [a3]; exact b1) (fun c => ⟨⟨_, rfl⟩, h2 (Or.inl c)⟩) (fun _ c => ⟨⟨_, rfl⟩, h2 (Or.inr (Or.inl (by rw [← c1]; exact c)))⟩) (fun _ _ c => ⟨⟨_, rfl⟩, h2 (Or.inr (Or.inr (Or.inl c)))⟩) (fun e1 e2 e3 e4 e5 => ?_) (fun e1 e2 e3 e4 e5 => ?_) (fun e1 e2 e3 e4 e5 => ⟨⟨_, rfl⟩, ?_⟩) (fun e1 e2 e3 e4 => ⟨⟨_, rfl⟩, h2 (Or.inr (Or.inr (Or.inr (by rw [← c2]; exact fa_of e4))))⟩))⟩ <;> rw [c1] at e2 <;> rw [c2] at e4 <;> rcases pk_ix x (show pn A < 2 ^ 31 by omega) with g | g | ⟨s, hs, rfl⟩ <;> first | exact absurd g e1 | exact absurd g e2 | skip
  all_goals (rcases pk_ix y (show pl A < 2 ^ 31 by omega) with g | g | ⟨z, hz, rfl⟩ <;> first | exact absurd g e3 | (exfalso; rw [← Int32.not_lt] at g; exact g e4) | skip)
  · exfalso; revert e5
    rw [a3, b2, pk_mul, nI_add, nI_leI (by omega) (by omega)]; omega
  · rw [a3, b2, pk_mul, nI_add]; exact z_in (by omega) (by omega)
  · rw [a3, pk_mul, nI_add, nI_clamp (by omega), c4 s hs z hz]; exact h1 s z hs hz rfl rfl
theorem w_X2_shape {x y : Int32} (hd : 1 < d) (hs : MacSh M r) (h : Q none (sI (sI M r 0 x) r 1 y)) : ClD d mdX2_shape [.ref r, .int x, .int y] M Q :=
  ⟨1, hd, Cl.of moX2_shape (Nat.le_of_ble_eq_true rfl) (gX2_shape_0 hs.1.1 ⟨rfl, h⟩)⟩
theorem w_X2_setOutput {j : Nat} {y : Int32} (hd : 1 < d) (hs : MacSh M r) (hj : j < 8) (h : Q none (sI M (r + 1) j y)) : ClD d mdX2_setOutput [.ref r, .int (nI j), .int y] M Q := by
  obtain ⟨⟨a1, a2, a3, a4⟩, ⟨b1, b2⟩, -, -⟩ := hs
  refine ⟨1, hd, Cl.of moX2_setOutput (Nat.le_of_ble_eq_true rfl) (gX2_setOutput_0 a1 (by rw [a2]; exact b1) (fun c => absurd c (nI_pos (by omega))) (fun _ c => ?_) (fun _ _ => ?_) (fun _ _ => ⟨rfl, ?_⟩))⟩
  · rw [a2, b2, nI_leI (by omega) (by omega)] at c; omega
  · rw [a2, b2]; exact z_in hj (by omega)
  · rw [a2, nI_clamp (by omega)]; exact h
theorem w_X2_setNext {j x : Nat} {y : Int32} (hd : 1 < d) (hs : MacSh M r) (hj : j < 8) (hx : x < 3) (h : Q none (sI M (r + 2) (j * 3 + x) y)) : ClD d mdX2_setNext [.ref r, .int (nI j), .int (nI x), .int y] M Q := by
  obtain ⟨⟨a1, a2, a3, a4⟩, -, ⟨b1, b2⟩, -⟩ := hs
  refine ⟨1, hd, Cl.of moX2_setNext (Nat.le_of_ble_eq_true rfl) (gX2_setNext_0 a1 (by rw [a3]; exact b1) (fun c => absurd c (nI_pos (by omega))) (fun _ c => ?_) (fun _ _ c => ?_) (fun _ _ _ c => ?_) (fun _ _ _ _ => ?_) (fun _ _ _ _ => ⟨rfl, ?_⟩))⟩
  · rw [nI_leI (by omega) (by omega)] at c; omega
  · rw [pk_mul, nI_add] at c; exact absurd c (nI_pos (by omega))
  · rw [a3, b2, pk_mul, nI_add, nI_leI (by omega) (by omega)] at c; omega
  · rw [a3, b2, pk_mul, nI_add]; exact z_in (by omega) (by omega)
  · rw [a3, pk_mul, nI_add, nI_clamp (by omega)]; exact h
theorem w_X2_look {x y : Int32} (hd : 2 < d) (hs : MacSh M r) (ha : MacAt M r A) (hb : bdM A) (h0 : ∀ s, s < pn A → x = nI s → y = 0 → Q (some (.int (nI (po A s)))) M) (h1 : ∀ s z, s < pn A → z < pl A → x = nI s → y = nI (z + 1) → Q (some (.int (nI (pt A s z)))) M) (h2 : (x < 0 ∨ nI (pn A) ≤ x ∨ y < 0 ∨ nI (pl A) < y) → Q (some (.int (-1 : Int32))) M) : ClD d mdX2_look [.ref r, .int x, .int y] M Q := by
  have hm := hb.2.1
  refine ⟨2, hd, Cl.of moX2_look (Nat.le_of_ble_eq_true rfl) (gX2_look_0 hs.1.1 (fun c => ?_) (fun c => ?_))⟩
  · refine w_X2_nextOf (by decide) hs ha hb (fun s z hs hz e1 e2 => gX2_look_20 ⟨⟨_, rfl⟩, h1 s z hs hz e1 ?_⟩) (fun hc => gX2_look_20 ⟨⟨_, rfl⟩, h2 ?_⟩)
    · rw [← nI_1, ← e2]
      show y = y - 1 + 1
      rw [Int32.sub_add_cancel]
    · by_cases hy : y < 0
      · exact Or.inr (Or.inr (Or.inl hy))
      · obtain ⟨j, hj, rfl⟩ := nI_of hy
        have hj0 : j ≠ 0 := fun e => c (by rw [e]; rfl)
        rw [z_sub (by omega)] at hc
        rcases hc with hc | hc | hc | hc
        · exact Or.inl hc
        · exact Or.inr (Or.inl hc)
        · exact absurd hc (nI_pos (by omega))
        · rw [nI_leI (by omega) (by omega)] at hc
          exact Or.inr (Or.inr (Or.inr (nI_lt (by omega) (by omega))))
  · refine w_X2_outputOf (by decide) hs ha hb (fun s hs e => gX2_look_9 (gX2_look_20 ⟨⟨_, rfl⟩, h0 s hs e c⟩)) (fun hc => gX2_look_9 (gX2_look_20 ⟨⟨_, rfl⟩, h2 ?_⟩))
    rcases hc with hc | hc
    · exact Or.inl hc
    · exact Or.inr (Or.inl hc)
/-- a step, or none where state or letter is none -/
def nx (A : PM) (s : Option Nat) (x : Nat) : Option Nat := match s with
  | some s => if s < pn A ∧ x < pl A then some (pt A s x) else none
  | none => none
def rnO (A : PM) (s : Option Nat) (w : List Nat) : Option Nat := w.foldl (nx A) s
theorem rnO_snoc (A : PM) (s : Option Nat) (w : List Nat) (x : Nat) : rnO A s (w ++ [x]) = nx A (rnO A s w) x := by simp [rnO, List.foldl_append]
theorem rnO_ok {A : PM} (h : okM A) {s : Nat} (hs : s < pn A) {w : List Nat} (hw : vw (pl A) w) : rnO A (some s) w = some (rn (pt A) s w) := by
  induction w using snoc_ind with
  | h0 => rfl
  | h1 w x ih =>
    have h2 := vw_app.mp hw
    rw [rnO_snoc, rn_snoc, ih h2.1]
    exact if_pos ⟨rn_lt h hs h2.1, h2.2 x (by simp)⟩
theorem rnO_lt {A : PM} (hb : bdM A) {s : Option Nat} (hs : ∀ j, s = some j → j < 8) (w : List Nat) : ∀ j, rnO A s w = some j → j < 8 := by
  induction w using snoc_ind with
  | h0 => exact hs
  | h1 w x ih =>
    intro j hj
    rw [rnO_snoc] at hj
    cases e : rnO A s w with
    | none => rw [e] at hj; cases hj
    | some i =>
      rw [e] at hj
      have hj : (if i < pn A ∧ x < pl A then some (pt A i x) else none) = some j := hj
      by_cases c : i < pn A ∧ x < pl A
      · rw [if_pos c] at hj
        cases hj
        exact hb.2.2.2 _ c.1 _ c.2
      · rw [if_neg c] at hj; cases hj
theorem z_let {w : List Nat} (hw : vw 4 w) (hl : w.length ≤ 30) {k : Nat} (hk : k < w.length) : ((lN (cd w) >>> ((nI (2 * k)).toInt64 &&& 63)).toInt32) &&& nI 3 = nI (w.getD (w.length - 1 - k) 0) := by
  have h30 := cd30 hw hl
  have h := cd_at hw (i := w.length - 1 - k) (by omega)
  rw [show w.length - 1 - (w.length - 1 - k) = k by omega] at h
  rw [z_shr (by omega) (by omega), lN_i, nI_and3, p24, h]
theorem eo_neg {s : Option Nat} (h : s = none) : eo s < 0 := by rw [h]; decide
theorem w_nextO {s : Option Nat} {x : Nat} (hd : 1 < d) (hs : MacSh M r) (ha : MacAt M r A) (hb : bdM A) (h8 : ∀ j, s = some j → j < 8) (hx : x < 4) (h : Q (some (.int (eo (nx A s x)))) M) : ClD d mdX2_nextOf [.ref r, .int (eo s), .int (nI x)] M Q := by
  have hn := hb.1
  have hm := hb.2.1
  refine w_X2_nextOf hd hs ha hb (fun i z hi hz e1 e2 => ?_) (fun hc => ?_)
  · have e3 : x = z := (nI_eq (by omega) (by omega)).mp e2
    subst e3
    cases s with
    | none => exact absurd (show (-1 : Int32) < 0 by decide) (by rw [show (-1 : Int32) = nI i from e1]; exact nI_pos (by omega))
    | some j =>
      have := h8 j rfl
      have e4 : j = i := (nI_eq (by omega) (by omega)).mp e1
      subst e4
      have e5 : nx A (some j) x = some (pt A j x) := if_pos ⟨hi, hz⟩
      rw [e5] at h; exact h
  · have e5 : nx A s x = none := by
      cases s with
      | none => rfl
      | some j =>
        have := h8 j rfl
        refine if_neg (fun q => ?_)
        rcases hc with hc | hc | hc | hc
        · exact nI_pos (by omega) hc
        · exact nI_ge q.1 (by omega) hc
        · exact nI_pos (by omega) hc
        · exact nI_ge q.2 (by omega) hc
    rw [e5] at h; exact h
theorem z_m2 (n : Nat) : nI n + (-2 : Int32) = nI n - nI 2 := by rw [Int32.sub_eq_add_neg]; rfl
theorem w_X2_endFrom {s : Option Nat} {w : List Nat} (hd : 2 < d) (hs : MacSh M r) (ha : MacAt M r A) (hb : bdM A) (h8 : ∀ j, s = some j → j < 8) (hw : vw 4 w) (hl : w.length ≤ 30) (h : Q (some (.int (eo (rnO A s w)))) M) : ClD d mdX2_endFrom [.ref r, .int (eo s), .long (lN (cd w))] M Q := by
  refine ⟨2, hd, Cl.of moX2_endFrom (Nat.le_of_ble_eq_true rfl) (gX2_endFrom_0 (w_X1_length (by decide) hw hl (gX2_endFrom_8 ?_)))⟩
  rw [pk_mul]
  suffices H : ∀ k, k ≤ w.length → Wp 2 mdX2_endFrom 13 [(0, .ref r), (2, .long (lN (cd w))), (4, .int (eo (rnO A s (w.take (w.length - k))))), (5, .int (nI (2 * k) - nI 2))] [] M (fun r M' => ROK mdX2_endFrom r ∧ Q r M') by
    have := H w.length (Nat.le_refl _)
    rw [Nat.sub_self, List.take_zero] at this
    exact this
  intro k
  induction k with
  | zero =>
    intro _
    rw [Nat.sub_zero, List.take_length]
    exact gX2_endFrom_13 hs.1.1 (fun _ => ⟨⟨_, rfl⟩, h⟩) (fun c => absurd (by decide) c)
  | succ k ih =>
    intro hk
    rw [z_sub (by omega), show 2 * (k + 1) - 2 = 2 * k by omega]
    refine gX2_endFrom_13 hs.1.1 (fun c => absurd c (nI_pos (by omega))) (fun _ => ?_)
    rw [z_let hw hl (by omega)]
    have hlt : w.length - 1 - k < w.length := by omega
    have hx : w.getD (w.length - 1 - k) 0 < 4 := by
      rw [List.getD, List.getElem?_eq_getElem hlt]
      exact hw _ (List.getElem_mem hlt)
    refine w_nextO (by decide) hs ha hb (rnO_lt hb h8 _) hx (gX2_endFrom_31 ?_)
    rw [← rnO_snoc, z_m2]
    have e : w.take (w.length - (k + 1)) ++ [w.getD (w.length - 1 - k) 0] = w.take (w.length - k) := by
      rw [show w.length - k = (w.length - (k + 1)) + 1 by omega, List.take_add_one, show w.length - 1 - k = w.length - (k + 1) by omega]
      simp [List.getD, List.getElem?_eq_getElem (show w.length - (k + 1) < w.length by omega)]
    rw [e]
    exact ih (by omega)
/-- the answer of a word from a state on, or none -/
def ouO (A : PM) (s : Option Nat) : Option Nat := match s with
  | some s => if s < pn A then some (po A s) else none
  | none => none
theorem w_outO {s : Option Nat} (hd : 1 < d) (hs : MacSh M r) (ha : MacAt M r A) (hb : bdM A) (h8 : ∀ j, s = some j → j < 8) (h : Q (some (.int (eo (ouO A s)))) M) : ClD d mdX2_outputOf [.ref r, .int (eo s)] M Q := by
  have hn := hb.1
  refine w_X2_outputOf hd hs ha hb (fun i hi e1 => ?_) (fun hc => ?_)
  · cases s with
    | none => exact absurd (show (-1 : Int32) < 0 by decide) (by rw [show (-1 : Int32) = nI i from e1]; exact nI_pos (by omega))
    | some j =>
      have := h8 j rfl
      have e4 : j = i := (nI_eq (by omega) (by omega)).mp e1
      subst e4
      have e5 : ouO A (some j) = some (po A j) := if_pos hi
      rw [e5] at h; exact h
  · have e5 : ouO A s = none := by
      cases s with
      | none => rfl
      | some j =>
        have := h8 j rfl
        refine if_neg (fun q => ?_)
        rcases hc with hc | hc
        · exact nI_pos (by omega) hc
        · exact nI_ge q (by omega) hc
    rw [e5] at h; exact h
theorem w_X2_answer {w : List Nat} (hd : 3 < d) (hs : MacSh M r) (ha : MacAt M r A) (hb : bdM A) (hw : vw 4 w) (hl : w.length ≤ 30) (h : Q (some (.int (eo (ouO A (rnO A (some 0) w))))) M) : ClD d mdX2_answer [.ref r, .long (lN (cd w))] M Q :=
  ⟨3, hd, Cl.of moX2_answer (Nat.le_of_ble_eq_true rfl) (gX2_answer_0 hs.1.1 (w_X2_endFrom (s := some 0) (by decide) hs ha hb (fun j e => by cases e; decide) hw hl (gX2_answer_7 hs.1.1 (w_outO (by decide) hs ha hb (rnO_lt hb (fun j e => by cases e; decide) _) (gX2_answer_10 ⟨⟨_, rfl⟩, h⟩)))))⟩
end Mach
