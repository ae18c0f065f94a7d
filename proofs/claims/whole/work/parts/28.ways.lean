/-! of how many words of a length each pair is the end -/
def gX (W : Nat → Nat) (t : Nat → Nat → Nat) (c i : Nat) : Nat → Nat
  | 0 => 0
  | x + 1 => gX W t c i x + if t i x = c then W i else 0
def gN (l : Nat) (W : Nat → Nat) (t : Nat → Nat → Nat) (c : Nat) : Nat → Nat
  | 0 => 0
  | i + 1 => gN l W t c i + gX W t c i l
def wy (l : Nat) (t : Nat → Nat → Nat) : Nat → Nat → Nat
  | 0, c => if c = 0 then 1 else 0
  | k + 1, c => gN l (wy l t k) t c 64
def smN (f : Nat → Nat) : Nat → Nat
  | 0 => 0
  | n + 1 => smN f n + f n
def uW (A B : PM) (W : Nat → Nat) : Nat → Nat
  | 0 => 0
  | i + 1 => uW A B W i + if po A (i / 8) = po B (i % 8) then 0 else W i
/-- the words of less than n letters that two answer unlike -/
def uT (A B : PM) : Nat → Nat
  | 0 => 0
  | n + 1 => uT A B n + uW A B (wy (pl A) (stP A B) n) 64
def vW (A B : PM) (W : Nat → Nat) : Prop := ∀ c, c < 64 → W c ≠ 0 → c / 8 < pn A ∧ c % 8 < pn B
theorem gX_0 {W : Nat → Nat} {t : Nat → Nat → Nat} {c i : Nat} (h : W i = 0) : ∀ x, gX W t c i x = 0
  | 0 => rfl
  | x + 1 => by
    show gX W t c i x + (if t i x = c then W i else 0) = 0
    rw [gX_0 h x, h]; split <;> rfl
theorem smN_add (f g : Nat → Nat) : ∀ n, smN (fun c => f c + g c) n = smN f n + smN g n
  | 0 => rfl
  | n + 1 => by
    show smN _ n + (f n + g n) = (smN f n + f n) + (smN g n + g n)
    rw [smN_add f g n]; omega
theorem smN_0 : ∀ n, smN (fun _ => 0) n = 0
  | 0 => rfl
  | n + 1 => by show smN _ n + 0 = 0; rw [smN_0 n]
theorem smN_one {a v : Nat} : ∀ {n}, smN (fun c => if a = c then v else 0) n = if a < n then v else 0
  | 0 => by rw [if_neg (Nat.not_lt_zero _)]; rfl
  | n + 1 => by
    show smN (fun c => if a = c then v else 0) n + (if a = n then v else 0) = _
    rw [smN_one]
    rcases Nat.lt_trichotomy a n with h | h | h
    · rw [if_pos h, if_neg (by omega), if_pos (by omega)]; rfl
    · subst h; rw [if_neg (by omega), if_pos rfl, if_pos (by omega), Nat.zero_add]
    · rw [if_neg (by omega), if_neg (by omega), if_neg (by omega)]
theorem smN_congr {f g : Nat → Nat} : ∀ {n}, (∀ c, c < n → f c = g c) → smN f n = smN g n
  | 0, _ => rfl
  | n + 1, h => by
    show smN f n + f n = smN g n + g n
    rw [smN_congr (fun c hc => h c (by omega)), h n (by omega)]
theorem smN_gX {W : Nat → Nat} {t : Nat → Nat → Nat} {i : Nat} : ∀ {x}, (W i ≠ 0 → ∀ y, y < x → t i y < 64) → smN (fun c => gX W t c i x) 64 = x * W i
  | 0, _ => by rw [Nat.zero_mul]; exact smN_0 64
  | x + 1, h => by
    by_cases hz : W i = 0
    · rw [smN_congr (fun c _ => gX_0 hz (x + 1)), hz]; exact smN_0 64
    · have h1 : smN (fun c => gX W t c i (x + 1)) 64 = smN (fun c => gX W t c i x + if t i x = c then W i else 0) 64 := rfl
      rw [h1, smN_add (fun c => gX W t c i x) (fun c => if t i x = c then W i else 0), smN_gX (fun h0 y hy => h h0 y (by omega)), smN_one, if_pos (h hz x (by omega)), Nat.add_mul, Nat.one_mul]
theorem smN_gN {l : Nat} {W : Nat → Nat} {t : Nat → Nat → Nat} : ∀ {n}, (∀ i, i < n → W i ≠ 0 → ∀ y, y < l → t i y < 64) → smN (fun c => gN l W t c n) 64 = l * smN W n
  | 0, _ => by show smN (fun _ => 0) 64 = _; rw [smN_0]; rfl
  | n + 1, h => by
    have h1 : smN (fun c => gN l W t c (n + 1)) 64 = smN (fun c => gN l W t c n + gX W t c n l) 64 := rfl
    rw [h1, smN_add (fun c => gN l W t c n) (fun c => gX W t c n l), smN_gN (fun i hi => h i (by omega)), smN_gX (fun h0 => h n (by omega) h0)]
    show _ = l * (smN W n + W n)
    rw [Nat.mul_add]
theorem smN_ge {f : Nat → Nat} {c : Nat} : ∀ {n}, c < n → f c ≤ smN f n
  | 0, h => absurd h (Nat.not_lt_zero _)
  | n + 1, h => by
    show f c ≤ smN f n + f n
    by_cases e : c = n
    · subst e; omega
    · have := smN_ge (f := f) (c := c) (n := n) (by omega)
      omega
theorem gX_nz {W : Nat → Nat} {t : Nat → Nat → Nat} {c i : Nat} : ∀ {x}, gX W t c i x ≠ 0 → W i ≠ 0 ∧ ∃ y, y < x ∧ t i y = c
  | 0, h => absurd rfl h
  | x + 1, h => by
    have h2 : gX W t c i x + (if t i x = c then W i else 0) ≠ 0 := h
    by_cases e : gX W t c i x = 0
    · by_cases e2 : t i x = c
      · rw [e, if_pos e2] at h2
        exact ⟨by omega, x, by omega, e2⟩
      · rw [e, if_neg e2] at h2; exact absurd rfl h2
    · obtain ⟨a, y, b, c⟩ := gX_nz e
      exact ⟨a, y, by omega, c⟩
theorem gN_nz {l : Nat} {W : Nat → Nat} {t : Nat → Nat → Nat} {c : Nat} : ∀ {n}, gN l W t c n ≠ 0 → ∃ i, i < n ∧ W i ≠ 0 ∧ ∃ y, y < l ∧ t i y = c
  | 0, h => absurd rfl h
  | n + 1, h => by
    have h2 : gN l W t c n + gX W t c n l ≠ 0 := h
    by_cases e : gN l W t c n = 0
    · obtain ⟨a, y, b, c⟩ := gX_nz (show gX W t c n l ≠ 0 by omega)
      exact ⟨n, by omega, a, y, b, c⟩
    · obtain ⟨i, a, b⟩ := gN_nz e
      exact ⟨i, by omega, b⟩
theorem wy_v {A B : PM} (hA : okM A) (hB : okM B) (hl : pl B = pl A) : ∀ k, vW A B (wy (pl A) (stP A B) k)
  | 0 => by
    intro c hc h
    have h : (if c = 0 then 1 else 0) ≠ 0 := h
    by_cases e : c = 0
    · subst e; exact ⟨hA.1.1, hB.1.1⟩
    · rw [if_neg e] at h; exact absurd rfl h
  | k + 1 => by
    intro c hc h
    obtain ⟨i, h1, h2, y, h3, h4⟩ := gN_nz h
    obtain ⟨v1, v2⟩ := wy_v hA hB hl k i h1 h2
    have t1 := hA.2.2.2 _ v1 y h3
    have t2 := hB.2.2.2 _ v2 y (by omega)
    have b8 := hB.1.2
    unfold stP at h4
    omega
theorem wy_sum {A B : PM} (hA : okM A) (hB : okM B) (hl : pl B = pl A) : ∀ k, smN (wy (pl A) (stP A B) k) 64 = pl A ^ k
  | 0 => by
    show smN (fun c => if c = 0 then 1 else 0) 64 = 1
    have : smN (fun c => if c = 0 then 1 else 0) 64 = smN (fun c => if 0 = c then 1 else 0) 64 := smN_congr (fun c _ => by
      by_cases e : c = 0
      · subst e; rfl
      · rw [if_neg e, if_neg (Ne.symm e)])
    rw [this, smN_one]; rfl
  | k + 1 => by
    have h1 : smN (wy (pl A) (stP A B) (k + 1)) 64 = smN (fun c => gN (pl A) (wy (pl A) (stP A B) k) (stP A B) c 64) 64 := rfl
    rw [h1, smN_gN (fun i hi h0 y hy => ?_), wy_sum hA hB hl k, Nat.pow_succ, Nat.mul_comm]
    obtain ⟨v1, v2⟩ := wy_v hA hB hl k i hi h0
    have t1 := hA.2.2.2 _ v1 y hy
    have t2 := hB.2.2.2 _ v2 y (by omega)
    have a8 := hA.1.2
    have b8 := hB.1.2
    unfold stP
    omega
theorem wy_le {A B : PM} (hA : okM A) (hB : okM B) (hl : pl B = pl A) {k c : Nat} (hk : k ≤ 9) (hc : c < 64) : wy (pl A) (stP A B) k c ≤ 19683 := by
  have h1 := smN_ge (f := wy (pl A) (stP A B) k) hc
  rw [wy_sum hA hB hl k] at h1
  have h2 : pl A ^ k ≤ 3 ^ k := Nat.pow_le_pow_left hA.2.1.2 k
  have h3 : 3 ^ k ≤ 3 ^ 9 := Nat.pow_le_pow_right (by decide) hk
  have e : (3 : Nat) ^ 9 = 19683 := by decide
  omega
/-- frames that make no cell -/
def Fe (S : List Nat) (M M' : Mem) : Prop := Fm S M M' ∧ mC M' = mC M ∧ mS M' = mS M
theorem Fe.rf (S : List Nat) (M : Mem) : Fe S M M := ⟨Fm.rf S M, rfl, rfl⟩
theorem Sm.fe {S : List Nat} {M M' : Mem} (h : Sm S M M') : Fe S M M' := ⟨h.fm, h.2.2.2.2.1, h.2.2.2.2.2⟩
theorem Fe.tr {S : List Nat} {M M1 M2 : Mem} (h : Fe S M M1) (k : Fe S M1 M2) : Fe S M M2 := ⟨h.1.tr k.1 (fun _ hp => Or.inl hp), k.2.1.trans h.2.1, k.2.2.trans h.2.2⟩
theorem Fe.mono {S T : List Nat} {M M1 : Mem} (h : Fe S M M1) (hs : ∀ p, p ∈ S → p ∈ T) : Fe T M M1 := ⟨h.1.mono hs, h.2⟩
def WysAt (M : Mem) (r : Nat) (W : Nat → Nat) : Prop := ∀ c, c < 64 → mI M (mR M r 3) c = nI (W c)
theorem z_d8 {c : Nat} (h : c < 64) : nI c / nI 8 = nI (c / 8) := pk_div (by omega) (by decide) (by decide)
theorem z_r8 {c : Nat} (h : c < 64) : nI c - nI (c / 8) * nI 8 = nI (c % 8) := by rw [← z_d8 h]; exact pk_rem (by omega) (by decide) (by decide)
section Ways
variable {d r : Nat} {Q : Option Value → Mem → Prop} {M : Mem} {A B : PM} {a b : Nat} {W : Nat → Nat}
theorem SeaSh.w (hs : SeaSh M r) : mK M (mR M r 3) = 1 ∧ mN M (mR M r 3) = 64 ∧ mK M (mR M r 4) = 1 ∧ mN M (mR M r 4) = 64 ∧ mR M r 3 ≠ mR M r 4 ∧ (mR M r 3 = r + 3 ∨ mR M r 3 = r + 4) ∧ (mR M r 4 = r + 3 ∨ mR M r 4 = r + 4) := by
  obtain ⟨-, h, -, -, ⟨c1, c2⟩, c3, c4⟩ := hs
  rcases h with ⟨h1, h2⟩ | ⟨h1, h2⟩ <;> rw [h1, h2]
  · exact ⟨c1, c2, c3, c4, by omega, Or.inl rfl, Or.inr rfl⟩
  · exact ⟨c3, c4, c1, c2, by omega, Or.inr rfl, Or.inl rfl⟩
theorem w_X5_unlikeWays (hd : 2 < d) (hs : SeaSh M r) (hw : WysAt M r W) (hv : vW A B W) (hb20 : ∀ c, c < 64 → W c ≤ 19683) (ha : MacSh M a) (hA0 : MacAt M a A) (hA : okM A) (hb : MacSh M b) (hB0 : MacAt M b B) (hB : okM B) (h : Q (some (.int (nI (uW A B W 64)))) M) : ClD d mdX5_unlikeWays [.ref r, .ref a, .ref b] M Q := by
  have w := hs.w
  refine ⟨2, hd, Cl.of moX5_unlikeWays (Nat.le_of_ble_eq_true rfl) (gX5_unlikeWays_0 ?_)⟩
  refine upto 64 (fun i => Wp 2 mdX5_unlikeWays 5 [(0, .ref r), (1, .ref a), (2, .ref b), (3, .int (nI (uW A B W i))), (4, .int (nI i))] [] M (fun r M' => ROK mdX5_unlikeWays r ∧ Q r M')) ?_ 0 (Nat.zero_le _)
  intro i hi ih
  refine gX5_unlikeWays_5 hs.1.1 w.1 ha.1.1 (fun c => ⟨⟨_, rfl⟩, ?_⟩) (fun c => ?_)
  · rw [w.2.1, nI_leI (by omega) (by omega)] at c
    have e : i = 64 := by omega
    subst e; exact h
  · have hi6 : i < 64 := Nat.lt_of_not_le fun z => c (by rw [w.2.1]; exact nI_le z (by omega))
    rw [z_d8 hi6]
    refine w_outO (s := some (i / 8)) (by decide) ha hA0 hA.bd (fun j e => by cases e; omega) ?_
    refine gX5_unlikeWays_24 hb.1.1 ?_
    rw [z_d8 hi6, z_r8 hi6]
    refine w_outO (s := some (i % 8)) (by decide) hb hB0 hB.bd (fun j e => by cases e; omega) ?_
    have hu : uW A B W (i + 1) = uW A B W i + if po A (i / 8) = po B (i % 8) then 0 else W i := rfl
    refine gX5_unlikeWays_33 hs.1.1 w.1 (fun c2 => ?_) (fun c2 => ?_) (fun c2 => ?_)
    · rw [nI_add]
      by_cases hz : W i = 0
      · have e : uW A B W (i + 1) = uW A B W i := by rw [hu, hz]; split <;> rfl
        rw [← e]; exact ih hi6
      · obtain ⟨v1, v2⟩ := hv i hi6 hz
        rw [show ouO A (some (i / 8)) = some (po A (i / 8)) from if_pos v1, show ouO B (some (i % 8)) = some (po B (i % 8)) from if_pos v2] at c2
        have c3 : nI (po A (i / 8)) = nI (po B (i % 8)) := c2
        have o1 := hA.2.2.1 _ v1
        have o2 := hB.2.2.1 _ v2
        rw [nI_eq (by omega) (by omega)] at c3
        have e : uW A B W (i + 1) = uW A B W i := by rw [hu, if_pos c3]; rfl
        rw [← e]; exact ih hi6
    · rw [w.2.1]; exact z_in hi6 (by omega)
    · rw [nI_add, nI_clamp (by omega), hw i hi6, nI_add]
      have e : uW A B W (i + 1) = uW A B W i + W i := by
        by_cases hz : W i = 0
        · rw [hu, hz]; split <;> rfl
        · obtain ⟨v1, v2⟩ := hv i hi6 hz
          rw [show ouO A (some (i / 8)) = some (po A (i / 8)) from if_pos v1, show ouO B (some (i % 8)) = some (po B (i % 8)) from if_pos v2] at c2
          rw [hu, if_neg (fun q => c2 (by rw [q]))]
      rw [← e]; exact ih hi6
end Ways
