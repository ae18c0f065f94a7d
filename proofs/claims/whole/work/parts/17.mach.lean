/-! the class's Machine and WordList -/
/-- a number that may be none -/
def eo : Option Nat → Int32
  | some j => nI j
  | none => (-1 : Int32)
def MacSh (M : Mem) (r : Nat) : Prop := (mK M r = 5 ∧ mR M r 2 = r + 1 ∧ mR M r 3 = r + 2 ∧ mR M r 4 = r + 3) ∧ (mK M (r + 1) = 1 ∧ mN M (r + 1) = 8) ∧ (mK M (r + 2) = 1 ∧ mN M (r + 2) = 24) ∧ (mK M (r + 3) = 1 ∧ mN M (r + 3) = 8)
def MacAt (M : Mem) (r : Nat) (A : PM) : Prop := (mI M r 0 = nI (pn A) ∧ mI M r 1 = nI (pl A)) ∧ (∀ s, s < pn A → mI M (r + 1) s = nI (po A s)) ∧ ∀ s, s < pn A → ∀ x, x < pl A → mI M (r + 2) (s * 3 + x) = nI (pt A s x)
/-- a machine's bounds: also one without states -/
def bdM (A : PM) : Prop := pn A ≤ 8 ∧ pl A ≤ 3 ∧ (∀ s, s < pn A → po A s < 4) ∧ ∀ s, s < pn A → ∀ x, x < pl A → pt A s x < 8
theorem okM.bd {A : PM} (h : okM A) : bdM A := ⟨h.1.2, h.2.1.2, h.2.2.1, fun s hs x hx => Nat.lt_of_lt_of_le (h.2.2.2 s hs x hx) h.1.2⟩
theorem z_in {j n : Nat} (h : j < n) (hn : n < 2 ^ 31) : vp_in (nI j) n := vp_in_nI h hn
theorem z_m1 : (-1 : Int32) < 0 := by decide
theorem fa_of {x y : Int32} (h : ¬ x < y) : y ≤ x := Int32.not_lt.mp h
section Mach
variable {d r : Nat} {Q : Option Value → Mem → Prop} {M : Mem} {A : PM}
theorem w_X2_outputOf {x : Int32} (hd : 1 < d) (hs : MacSh M r) (ha : MacAt M r A) (hb : bdM A) (h1 : ∀ s, s < pn A → x = nI s → Q (some (.int (nI (po A s)))) M) (h2 : (x < 0 ∨ nI (pn A) ≤ x) → Q (some (.int (-1 : Int32))) M) : ClD d mdX2_outputOf [.ref r, .int x] M Q := by
  obtain ⟨⟨a1, a2, a3, a4⟩, ⟨b1, b2⟩, -, -⟩ := hs
  obtain ⟨⟨c1, c2⟩, c3, c4⟩ := ha
  have hn := hb.1
  refine ⟨1, hd, Cl.of moX2_outputOf (Nat.le_of_ble_eq_true rfl) (gX2_outputOf_0 a1 (by rw [a2]; exact b1) (fun c => ⟨⟨_, rfl⟩, h2 (Or.inl c)⟩) (fun _ c => ⟨⟨_, rfl⟩, h2 (Or.inr (by rw [← c1]; exact c))⟩) (fun e1 e2 e3 => ?_) (fun e1 e2 e3 => ⟨⟨_, rfl⟩, ?_⟩) (fun e1 e2 e3 => ?_))⟩ <;> rw [c1] at e2 <;> rcases pk_ix x (show pn A < 2 ^ 31 by omega) with g | g | ⟨s, hs, rfl⟩ <;> first | exact absurd g e1 | exact absurd g e2 | skip
  · rw [a2, b2]; exact z_in (by omega) (by omega)
  · rw [a2, nI_clamp (by omega), c3 s hs]; exact h1 s hs rfl
  · exfalso; apply e3; rw [a2, b2]; exact nI_lt (by omega) (by omega)
theorem w_X2_nextOf {x y : Int32} (hd : 1 < d) (hs : MacSh M r) (ha : MacAt M r A) (hb : bdM A) (h1 : ∀ s z, s < pn A → z < pl A → x = nI s → y = nI z → Q (some (.int (nI (pt A s z)))) M) (h2 : (x < 0 ∨ nI (pn A) ≤ x ∨ y < 0 ∨ nI (pl A) ≤ y) → Q (some (.int (-1 : Int32))) M) : ClD d mdX2_nextOf [.ref r, .int x, .int y] M Q := by
  obtain ⟨⟨a1, a2, a3, a4⟩, -, ⟨b1, b2⟩, -⟩ := hs
  obtain ⟨⟨c1, c2⟩, c3, c4⟩ := ha
  have hn := hb.1
  have hm := hb.2.1
  refine ⟨1, hd, Cl.of moX2_nextOf (Nat.le_of_ble_eq_true rfl) (gX2_nextOf_0 a1 (by rw [a3]; exact b1) (fun c => ⟨⟨_, rfl⟩, h2 (Or.inl c)⟩) (fun _ c => ⟨⟨_, rfl⟩, h2 (Or.inr (Or.inl (by rw [← c1]; exact c)))⟩) (fun _ _ c => ⟨⟨_, rfl⟩, h2 (Or.inr (Or.inr (Or.inl c)))⟩) (fun e1 e2 e3 e4 e5 => ?_) (fun e1 e2 e3 e4 e5 => ?_) (fun e1 e2 e3 e4 e5 => ⟨⟨_, rfl⟩, ?_⟩) (fun e1 e2 e3 e4 => ⟨⟨_, rfl⟩, h2 (Or.inr (Or.inr (Or.inr (by rw [← c2]; exact fa_of e4))))⟩))⟩ <;> rw [c1] at e2 <;> rw [c2] at e4 <;> rcases pk_ix x (show pn A < 2 ^ 31 by omega) with g | g | ⟨s, hs, rfl⟩ <;> first | exact absurd g e1 | exact absurd g e2 | skip
  all_goals (rcases pk_ix y (show pl A < 2 ^ 31 by omega) with g | g | ⟨z, hz, rfl⟩ <;> first | exact absurd g e3 | (exfalso; rw [← Int32.not_lt] at g; exact g e4) | skip)
  · exfalso; revert e5
    rw [a3, b2, pk_mul, nI_add, nI_leI (by omega) (by omega)]; omega
  · rw [a3, b2, pk_mul, nI_add]; exact z_in (by omega) (by omega)
  · rw [a3, pk_mul, nI_add, nI_clamp (by omega), c4 s hs z hz]; exact h1 s z hs hz rfl rfl
end Mach
