/-! THE TEXT: what can be read of it, and how the class reads it -/
def sg (X : List Nat) (p : Nat) : Option Nat := if p < X.length then some (X.getD p 0) else none
def dgk (X : List Nat) (p b : Nat) : Prop := p < X.length ∧ 48 ≤ X.getD p 0 ∧ X.getD p 0 < 48 + b
/-- the letters that the first state tells -/
def l0 (X : List Nat) : Nat := if sg X 3 = some 44 then (if sg X 5 = some 44 then 3 else 2) else 1
theorem l0_b (X : List Nat) : 1 ≤ l0 X ∧ l0 X ≤ 3 := by unfold l0; split <;> (try split) <;> omega
/-- the sign at place j of state s is right -/
def gj (X : List Nat) (l s j : Nat) : Prop := if j = 0 then dgk X (s * (2 * l + 2) + j) 4 else if j = 1 then sg X (s * (2 * l + 2) + j) = some 58 else if j = 2 * l + 1 then sg X (s * (2 * l + 2) + j) = some 59 ∧ s + 1 < 8 else if j % 2 = 0 then dgk X (s * (2 * l + 2) + j) 8 else sg X (s * (2 * l + 2) + j) = some 44
def gp (X : List Nat) (l p : Nat) : Prop := gj X l (p / (2 * l + 2)) (p % (2 * l + 2))
theorem gp_j {X : List Nat} {l s j : Nat} (hj : j < 2 * l + 2) : gp X l (s * (2 * l + 2) + j) ↔ gj X l s j := by
  unfold gp
  rw [show (s * (2 * l + 2) + j) / (2 * l + 2) = s by rw [Nat.mul_comm, Nat.mul_add_div (by omega), Nat.div_eq_of_lt hj, Nat.add_zero], show (s * (2 * l + 2) + j) % (2 * l + 2) = j by rw [Nat.mul_comm, Nat.mul_add_mod, Nat.mod_eq_of_lt hj]]
theorem sg_lt {X : List Nat} {p v : Nat} (h : sg X p = some v) : p < X.length := by
  unfold sg at h
  by_cases e : p < X.length
  · exact e
  · rw [if_neg e] at h; cases h
theorem gp_lt {X : List Nat} {l p : Nat} (h : gp X l p) : p < X.length := by
  have e : p / (2 * l + 2) * (2 * l + 2) + p % (2 * l + 2) = p := Nat.div_add_mod' p (2 * l + 2)
  unfold gp gj at h
  rw [e] at h
  by_cases h0 : p % (2 * l + 2) = 0
  · rw [if_pos h0] at h; exact h.1
  · rw [if_neg h0] at h
    by_cases h1 : p % (2 * l + 2) = 1
    · rw [if_pos h1] at h; exact sg_lt h
    · rw [if_neg h1] at h
      by_cases h2 : p % (2 * l + 2) = 2 * l + 1
      · rw [if_pos h2] at h; exact sg_lt h.1
      · rw [if_neg h2] at h
        by_cases h3 : p % (2 * l + 2) % 2 = 0
        · rw [if_pos h3] at h; exact h.1
        · rw [if_neg h3] at h; exact sg_lt h
def gUp (X : List Nat) (l at' : Nat) : Prop := ∀ p, p < at' → gp X l p
def prE (X : List Nat) (p : Nat) : Prop := gUp X (l0 X) p ∧ ¬ gp X (l0 X) p ∧ ¬ (p = X.length ∧ p % (2 * l0 X + 2) = 2 * l0 X + 1)
def prK (X : List Nat) (n : Nat) : Prop := (1 ≤ n ∧ n ≤ 8) ∧ X.length + 1 = n * (2 * l0 X + 2) ∧ gUp X (l0 X) X.length
theorem prE_un {X : List Nat} {p q : Nat} (h : prE X p) (g : prE X q) : p = q := by
  rcases Nat.lt_trichotomy p q with c | c | c
  · exact absurd (g.1 p c) h.2.1
  · exact c
  · exact absurd (h.1 q c) g.2.1
theorem prK_un {X : List Nat} {p q : Nat} (h : prK X p) (g : prK X q) : p = q := by
  have h1 := h.2.1
  have h2 := g.2.1
  rw [h1] at h2
  exact Nat.eq_of_mul_eq_mul_right (by omega) h2
theorem pr_not {X : List Nat} {p n : Nat} (h : prE X p) (g : prK X n) : False := by
  obtain ⟨h1, h2, h3⟩ := h
  obtain ⟨g1, g2, g3⟩ := g
  rcases Nat.lt_trichotomy p X.length with c | c | c
  · exact h2 (g3 p c)
  · apply h3
    refine ⟨c, ?_⟩
    obtain ⟨m, rfl⟩ : ∃ m, n = m + 1 := ⟨n - 1, by omega⟩
    rw [Nat.add_mul, Nat.one_mul] at g2
    rw [show p = (2 * l0 X + 2) * m + (2 * l0 X + 1) by rw [Nat.mul_comm]; omega, Nat.mul_add_mod, Nat.mod_eq_of_lt (by omega)]
  · exact Nat.lt_irrefl _ (gp_lt (h1 _ c))
/-- the machine told -/
def tA (X : List Nat) (n : Nat) : PM := (n, l0 X, fun s => X.getD (s * (2 * l0 X + 2)) 0 - 48, fun s x => X.getD (s * (2 * l0 X + 2) + 2 + 2 * x) 0 - 48)
theorem tA_n (X : List Nat) (n : Nat) : pn (tA X n) = n := rfl
theorem tA_l (X : List Nat) (n : Nat) : pl (tA X n) = l0 X := rfl
theorem tA_o (X : List Nat) (n s : Nat) : po (tA X n) s = X.getD (s * (2 * l0 X + 2)) 0 - 48 := rfl
theorem tA_t (X : List Nat) (n s x : Nat) : pt (tA X n) s x = X.getD (s * (2 * l0 X + 2) + 2 + 2 * x) 0 - 48 := rfl
theorem gj_o {X : List Nat} {l s : Nat} (h : gj X l s 0) : dgk X (s * (2 * l + 2)) 4 := by
  unfold gj at h; rw [if_pos rfl] at h; exact h
theorem gj_t {X : List Nat} {l s x : Nat} (hx : x < l) : gj X l s (2 + 2 * x) ↔ dgk X (s * (2 * l + 2) + 2 + 2 * x) 8 := by
  unfold gj
  rw [if_neg (by omega), if_neg (by omega), if_neg (by omega), if_pos (by omega), ← Nat.add_assoc]
theorem mul_lt {s n k j : Nat} (hs : s < n) (hj : j < k) : s * k + j < n * k := by
  have h1 : (s + 1) * k ≤ n * k := Nat.mul_le_mul_right k hs
  rw [Nat.add_mul, Nat.one_mul] at h1
  omega
theorem tA_bd {X : List Nat} {n : Nat} (h : prK X n) : bdM (tA X n) := by
  obtain ⟨h1, h2, h3⟩ := h
  have hl := l0_b X
  refine ⟨h1.2, hl.2, fun s hs => ?_, fun s hs x hx => ?_⟩
  · rw [tA_n] at hs
    have h4 := mul_lt (k := 2 * l0 X + 2) (j := 1) hs (by omega)
    have g := gj_o ((gp_j (s := s) (j := 0) (by omega)).mp (h3 _ (by omega)))
    have := g.2.2
    rw [tA_o]; omega
  · rw [tA_n] at hs
    rw [tA_l] at hx
    have h4 := mul_lt (k := 2 * l0 X + 2) (j := 2 + 2 * x + 1) hs (by omega)
    have g := (gj_t hx).mp ((gp_j (s := s) (j := 2 + 2 * x) (by omega)).mp (h3 _ (by omega)))
    have := g.2.2
    rw [tA_t]; omega
def TxtSh (M : Mem) (r : Nat) : Prop := mK M r = 9 ∧ mR M r 1 = r + 1 ∧ mK M (r + 1) = 1 ∧ mN M (r + 1) = 64
def TxtAt (M : Mem) (r : Nat) (X : List Nat) : Prop := mI M r 0 = nI X.length ∧ X.length ≤ 64 ∧ (∀ j, j < X.length → mI M (r + 1) j = nI (X.getD j 0)) ∧ ∀ j, X.getD j 0 < 256
theorem TxtSh.sm {S : List Nat} {M M' : Mem} {r : Nat} (h : Sm S M M') (hs : TxtSh M r) : TxtSh M' r := by
  obtain ⟨-, h1, h2, h3, -, -⟩ := h
  unfold TxtSh at hs ⊢
  rw [h1, h2, h3]; exact hs
section Text
variable {d r : Nat} {Q : Option Value → Mem → Prop} {M : Mem} {X : List Nat}
theorem w_X7_signHere {p : Nat} (hd : 1 < d) (hs : TxtSh M r) (ha : TxtAt M r X) (hp : mI M r 2 = nI p) (hp2 : p < 1000) (h : Q (some (.int (eo (sg X p)))) M) : ClD d mdX7_signHere [.ref r] M Q := by
  obtain ⟨a1, a2, a3, a4⟩ := hs
  obtain ⟨b1, b2, b3, b4⟩ := ha
  refine ⟨1, hd, Cl.of moX7_signHere (Nat.le_of_ble_eq_true rfl) (gX7_signHere_0 a1 (by rw [a2]; exact a3) (fun c => ⟨⟨_, rfl⟩, ?_⟩) (fun c c2 => ?_) (fun c c2 => ?_) (fun c c2 => ⟨⟨_, rfl⟩, ?_⟩))⟩ <;> rw [hp, b1, nI_leI (by omega) (by omega)] at c
  · rw [show sg X p = none from if_neg (by omega)] at h; exact h
  · exfalso; rw [hp, a2, a4, nI_leI (by omega) (by omega)] at c2; omega
  · rw [hp, a2, a4]; exact z_in (by omega) (by omega)
  · rw [hp, a2, nI_clamp (by omega), b3 p (by omega)]
    rw [show sg X p = some (X.getD p 0) from if_pos (by omega)] at h; exact h
theorem sg_val {X : List Nat} (hb : ∀ j, X.getD j 0 < 256) {p v : Nat} (hv : v < 256) : eo (sg X p) = nI v ↔ sg X p = some v := by
  unfold sg
  by_cases e : p < X.length
  · rw [if_pos e]
    have := hb p
    constructor
    · intro h
      have h : nI (X.getD p 0) = nI v := h
      rw [nI_eq (by omega) (by omega)] at h
      rw [h]
    · intro h; cases h; rfl
  · rw [if_neg e]
    constructor
    · intro h
      exact absurd (show (-1 : Int32) < 0 by decide) (by rw [show (-1 : Int32) = nI v from h]; exact nI_pos (by omega))
    · intro h; cases h
theorem w_X7_takes {p v : Nat} (hd : 2 < d) (hs : TxtSh M r) (ha : TxtAt M r X) (hp : mI M r 2 = nI p) (hp2 : p < 1000) (hv : v < 256) (h1 : sg X p = some v → Q (some (.int (nI 1))) (sI M r 2 (nI (p + 1)))) (h2 : ¬ sg X p = some v → Q (some (.int (nI 0))) M) : ClD d mdX7_takes [.ref r, .int (nI v)] M Q := by
  refine ⟨2, hd, Cl.of moX7_takes (Nat.le_of_ble_eq_true rfl) (gX7_takes_0 hs.1 (w_X7_signHere (by decide) hs ha hp hp2 (gX7_takes_4 hs.1 (fun c => ⟨⟨_, rfl, by decide⟩, ?_⟩) (fun c => ⟨⟨_, rfl, by decide⟩, h2 (fun q => c ((sg_val ha.2.2.2 hv).mpr q))⟩))))⟩
  rw [hp, nI_add]; exact h1 ((sg_val ha.2.2.2 hv).mp c)
theorem w_X7_digitBelow {p b : Nat} (hd : 2 < d) (hs : TxtSh M r) (ha : TxtAt M r X) (hp : mI M r 2 = nI p) (hp2 : p < 1000) (hv : b < 100) (h1 : dgk X p b → Q (some (.int (nI (X.getD p 0 - 48)))) (sI M r 2 (nI (p + 1)))) (h2 : ¬ dgk X p b → Q (some (.int (-1 : Int32))) M) : ClD d mdX7_digitBelow [.ref r, .int (nI b)] M Q := by
  have hb := ha.2.2.2 p
  refine ⟨2, hd, Cl.of moX7_digitBelow (Nat.le_of_ble_eq_true rfl) (gX7_digitBelow_0 hs.1 (w_X7_signHere (by decide) hs ha hp hp2 ?_))⟩
  by_cases e : p < X.length
  · have e1 : eo (sg X p) = nI (X.getD p 0) := by rw [show sg X p = some (X.getD p 0) from if_pos e]; rfl
    rw [e1]
    by_cases e2 : 48 ≤ X.getD p 0
    · refine gX7_digitBelow_4 hs.1 (fun c => ?_) (fun c c2 => ⟨⟨_, rfl⟩, ?_⟩) (fun c c2 => ⟨⟨_, rfl⟩, h2 (fun q => c2 ?_)⟩)
      · exfalso; rw [z_sub e2] at c; exact nI_pos (by omega) c
      · rw [z_sub e2] at c2 ⊢
        rw [nI_ltI (by omega) (by omega)] at c2
        rw [hp, nI_add]; exact h1 ⟨e, e2, by omega⟩
      · rw [z_sub e2]; exact nI_lt (by have := q.2.2; omega) (by omega)
    · refine gX7_digitBelow_4 hs.1 (fun c => ⟨⟨_, rfl⟩, h2 (fun q => e2 q.2.1)⟩) (fun c c2 => absurd ?_ c) (fun c c2 => ⟨⟨_, rfl⟩, h2 (fun q => e2 q.2.1)⟩)
      have : ∀ v, v < 48 → nI v - nI 48 < 0 := by decide +kernel
      exact this _ (by omega)
  · have e1 : eo (sg X p) = (-1 : Int32) := by rw [show sg X p = none from if_neg e]; rfl
    rw [e1]
    exact gX7_digitBelow_4 hs.1 (fun c => ⟨⟨_, rfl⟩, h2 (fun q => e q.1)⟩) (fun c _ => absurd (by decide) c) (fun c _ => absurd (by decide) c)
end Text
