/-! the class's Text: append, shorten, read -/
/-- byte k of an int, the highest first -/
def byt (v : Int32) (k : Nat) : Nat := v.toBitVec.toNat / 2 ^ (24 - 8 * k) % 256
def bts (v : Int32) : Nat → List Nat
  | 0 => []
  | k + 1 => bts v k ++ [byt v k]
theorem bts_len (v : Int32) : ∀ k, (bts v k).length = k
  | 0 => rfl
  | k + 1 => by simp [bts, bts_len v k]
theorem byt_lt (v : Int32) (k : Nat) : byt v k < 256 := Nat.mod_lt _ (by decide)
theorem getD_app {X Y : List Nat} {j : Nat} : (X ++ Y).getD j 0 = if j < X.length then X.getD j 0 else Y.getD (j - X.length) 0 := by
  by_cases h : j < X.length
  · rw [if_pos h]; simp [List.getD, List.getElem?_append_left h]
  · rw [if_neg h]; simp [List.getD, List.getElem?_append_right (Nat.le_of_not_lt h)]
theorem getD_one {j x : Nat} : [x].getD j 0 = if j = 0 then x else 0 := by
  cases j with
  | zero => rfl
  | succ j => rfl
theorem z_byt (x : Int32) {k : Nat} (hk : k < 4) : ((x.toUInt32 >>> ((nI (24 - 8 * k)).toUInt32 &&& Int32.toUInt32 31)).toInt32) &&& (nI 255) = nI (byt x k) := by
  rw [pk_and _ 8 (by decide)]
  have : ((nI (24 - 8 * k)).toUInt32 &&& Int32.toUInt32 31).toBitVec % 32 = BitVec.ofNat 32 (24 - 8 * k) := by
    have h : ∀ k, k < 4 → ((nI (24 - 8 * k)).toUInt32 &&& Int32.toUInt32 31).toBitVec % 32 = BitVec.ofNat 32 (24 - 8 * k) := by decide +kernel
    exact h k hk
  rw [pk_ushr x _ (24 - 8 * k) (by rw [this, BitVec.toNat_ofNat, Nat.mod_eq_of_lt (by omega)])]
  rfl
section Text2
variable {d r : Nat} {Q : Option Value → Mem → Prop} {M : Mem} {X : List Nat} {a : Nat}
theorem TxtAt.snoc {M : Mem} {v : Nat} (h : TxtAt M r X) (hl : X.length < 64) (hv : v < 256) : TxtAt (sI (sI M r 0 (nI (X.length + 1))) (r + 1) X.length (nI v)) r (X ++ [v]) := by
  obtain ⟨b1, b2, b3, b4⟩ := h
  refine ⟨?_, by simp; omega, fun j hj => ?_, fun j => ?_⟩
  · rw [rI_np (by omega), rI_at, List.length_append, List.length_singleton]
  · rw [List.length_append, List.length_singleton] at hj
    rw [getD_app]
    by_cases e : j = X.length
    · subst e
      rw [rI_at, if_neg (Nat.lt_irrefl _), Nat.sub_self]; rfl
    · rw [rI_nk e, rI_np (by omega), if_pos (by omega)]; exact b3 j (by omega)
  · rw [getD_app]
    split
    · exact b4 j
    · rw [getD_one]; split <;> omega
theorem w_X7_append {v : Int32} (hd : 1 < d) (hs : TxtSh M r) (ha : TxtAt M r X) (h1 : X.length + 4 ≤ 64 → ∀ M', Sm [r, r + 1] M M' → TxtAt M' r (X ++ bts v 4) → Q (some (.int (nI (X.length + 4)))) M') (h2 : ¬ X.length + 4 ≤ 64 → Q (some (.int (-1 : Int32))) M) : ClD d mdX7_append [.ref r, .int v] M Q := by
  have b2 := ha.2.1
  refine ⟨1, hd, Cl.of moX7_append (Nat.le_of_ble_eq_true rfl) (gX7_append_0 hs.1 (by rw [hs.2.1]; exact hs.2.2.1) (fun c => ?_) (fun c => ⟨⟨_, rfl⟩, h2 (fun q => c ?_)⟩))⟩
  · rw [ha.1, hs.2.1, hs.2.2.2, nI_add, nI_leI (by omega) (by omega)] at c
    refine upto 4 (fun k => ∀ M1, Sm [r, r + 1] M M1 → TxtAt M1 r (X ++ bts v k) → ∀ z : Int32, (k < 4 → z = nI (24 - 8 * k)) → (k = 4 → z = (-8 : Int32)) → Wp 1 mdX7_append 19 [(0, .ref r), (1, .int v), (2, .int z)] [] M1 (fun r M' => ROK mdX7_append r ∧ Q r M')) ?_ 0 (Nat.zero_le _) M (Sm.rf _ _) (by rw [show X ++ bts v 0 = X from List.append_nil X]; exact ha) _ (fun _ => rfl) (fun h => by omega)
    intro k hk ih M1 S T z hz hz4
    have hs1 := hs.sm S
    have hlen : (X ++ bts v k).length = X.length + k := by rw [List.length_append, bts_len]
    by_cases e : k = 4
    · subst e
      rw [hz4 rfl]
      refine gX7_append_19 hs1.1 (by rw [hs1.2.1]; exact hs1.2.2.1) (fun _ => ⟨⟨_, rfl⟩, ?_⟩) (fun c => absurd (by decide) c) (fun c => absurd (by decide) c)
      rw [T.1, hlen]
      exact h1 c M1 S T
    · rw [hz (by omega)]
      refine gX7_append_19 hs1.1 (by rw [hs1.2.1]; exact hs1.2.2.1) (fun c => absurd c (nI_pos (by omega))) (fun _ => ?_) (fun _ => ?_)
      · show vp_in _ (mN M1 (mR M1 r 1))
        rw [T.1, hs1.2.1, hs1.2.2.2, hlen]; exact z_in (by omega) (by omega)
      · rw [z_byt v (by omega), hs1.2.1, T.1, nI_clamp (by omega), nI_add]
        have T2 := T.snoc (by omega) (byt_lt v k)
        rw [List.append_assoc] at T2
        refine ih (by omega) _ ((S.tr (Sm.sI (by simp) _ _ _)).tr (Sm.sI (by simp) _ _ _)) T2 _ (fun hk3 => ?_) (fun hk3 => ?_)
        · have h : ∀ k, k < 3 → nI (24 - 8 * k) + (-8 : Int32) = nI (24 - 8 * (k + 1)) := by decide +kernel
          exact h k (by omega)
        · have e3 : k = 3 := by omega
          subst e3; decide
  · rw [ha.1, hs.2.1, hs.2.2.2, nI_add]; exact nI_le q (by omega)
theorem TxtAt.cut {M : Mem} {n : Nat} (h : TxtAt M r X) (hn : n ≤ X.length) : TxtAt (sI M r 0 (nI n)) r (X.take n) := by
  obtain ⟨b1, b2, b3, b4⟩ := h
  have hlen : (X.take n).length = n := by rw [List.length_take]; omega
  have hg : ∀ j, (X.take n).getD j 0 = if j < n then X.getD j 0 else 0 := fun j => by
    simp only [List.getD, List.getElem?_take]
    split <;> rfl
  refine ⟨by rw [hlen]; exact rI_at _ _ _ _, by omega, fun j hj => ?_, fun j => ?_⟩
  · rw [hlen] at hj
    rw [rI_np (by omega), hg, if_pos hj]; exact b3 j (by omega)
  · rw [hg]
    split
    · exact b4 j
    · omega
theorem w_X7_shorten {x : Int32} (hd : 1 < d) (hs : TxtSh M r) (ha : TxtAt M r X) (h1 : ∀ n, n ≤ X.length → x = nI n → Q (some (.int (nI 1))) (sI M r 0 (nI n))) (h2 : (x < 0 ∨ nI X.length < x) → Q (some (.int (nI 0))) M) : ClD d mdX7_shorten [.ref r, .int x] M Q := by
  have b2 := ha.2.1
  refine ⟨1, hd, Cl.of moX7_shorten (Nat.le_of_ble_eq_true rfl) (gX7_shorten_0 hs.1 (fun c => ⟨⟨_, rfl, by decide⟩, h2 (Or.inl c)⟩) (fun c c2 => ⟨⟨_, rfl, by decide⟩, ?_⟩) (fun c c2 => ⟨⟨_, rfl, by decide⟩, h2 (Or.inr (by rw [← ha.1]; exact Int32.not_le.mp c2))⟩))⟩
  obtain ⟨n, hn, rfl⟩ := nI_of c
  rw [ha.1, nI_leI (by omega) (by omega)] at c2
  exact h1 n c2 rfl
theorem w_X7_read (hd : 4 < d) (hs : TxtSh M r) (ha : TxtAt M r X) (hm : MacSh M a) (hd1 : r + 1 < a ∨ a + 3 < r)
    (h1 : ∀ M' n, Sm [r, a, a + 1, a + 2] M M' → TxtAt M' r X → prK X n → MacAt M' a (tA X n) → Q (some (.int (nI n))) M')
    (h2 : ∀ M' p, p < 1000 → Sm [r, a, a + 1, a + 2] M M' → TxtAt M' r X → prE X p → Q (some (.int ((-21 : Int32) - nI p))) M') : ClD d mdX7_read [.ref r, .ref a] M Q := by
  have hl := l0_b X
  refine ⟨4, hd, Cl.of moX7_read (Nat.le_of_ble_eq_true rfl) (gX7_read_0 hs.1 ?_)⟩
  have I0 : RdI M r a X (0 * (2 * l0 X + 2)) (sI M r 2 (nI 0)) := by
    rw [Nat.zero_mul]
    exact ⟨Sm.sI (by simp) _ _ _, ha.np (Or.inr (by decide)) (by omega), rI_at _ _ _ _, fun p hp => by omega, fun s _ hp => by omega, fun s x _ _ hp => by omega⟩
  refine upto 7 (fun s => ∀ M1, RdI M r a X (s * (2 * l0 X + 2)) M1 → (s ≠ 0 → mI M1 a 1 = nI (l0 X)) → Wp 4 mdX7_read 7 [(0, .ref r), (1, .ref a), (2, .int (nI s))] [] M1 (fun r M' => ROK mdX7_read r ∧ Q r M')) ?_ 0 (Nat.zero_le _) _ I0 (fun h => absurd rfl h)
  intro s hs7 ih M1 I1 hlt
  have hk : s * (2 * l0 X + 2) + 10 < 1000 := by
    have : s * (2 * l0 X + 2) ≤ 7 * 8 := Nat.mul_le_mul (by omega) (by omega)
    omega
  have S1 := I1.1
  refine gX7_read_7 (hs.sm S1).1 (fun c => absurd c (nI_ge (by omega) (by decide))) (fun _ => ?_)
  refine w_X7_readState (by decide) (hs.sm S1) (hm.sm S1) hd1 (by omega) (M := M1) ⟨Sm.rf _ _, I1.2⟩ hlt (fun M2 I2 hl2 => ?_) (fun M2 p hp S2 T2 P2 e2 => ?_)
  · obtain ⟨S2, T2, P2, G2, D2⟩ := I2
    have S2 := S1.tr S2
    refine gX7_read_19 (hm.sm S2).1.1 (hs.sm S2).1 (fun _ => ?_) (fun c => absurd c (by decide))
    rw [hl2, nI_add]
    refine w_X2_shape (by decide) (hm.sm S2) ?_
    obtain ⟨M3, hM3⟩ : ∃ M3, M3 = sI (sI M2 a 0 (nI (s + 1))) a 1 (nI (l0 X)) := ⟨_, rfl⟩
    have S3 : Sm [r, a, a + 1, a + 2] M M3 := by subst hM3; exact (S2.tr (Sm.sI (by simp) _ _ _)).tr (Sm.sI (by simp) _ _ _)
    have T3 : TxtAt M3 r X := by subst hM3; exact (T2.np (Or.inl (by omega)) (by omega)).np (Or.inl (by omega)) (by omega)
    have P3 : mI M3 r 2 = nI (s * (2 * l0 X + 2) + 2 * l0 X + 1) := by subst hM3; rw [rI_np (by omega), rI_np (by omega)]; exact P2
    have D3 : DrU M3 a X (s * (2 * l0 X + 2) + 2 * l0 X + 1) := by subst hM3; exact (D2.np (by omega) (by omega)).np (by omega) (by omega)
    have A0 : mI M3 a 0 = nI (s + 1) := by subst hM3; rw [rI_nk (by decide)]; exact rI_at _ _ _ _
    have A1 : mI M3 a 1 = nI (l0 X) := by subst hM3; exact rI_at _ _ _ _
    rw [← hM3]
    clear hM3
    have hX := T3.2.1
    have gjj : gp X (l0 X) (s * (2 * l0 X + 2) + 2 * l0 X + 1) ↔ sg X (s * (2 * l0 X + 2) + 2 * l0 X + 1) = some 59 ∧ s + 1 < 8 := by
      rw [show s * (2 * l0 X + 2) + 2 * l0 X + 1 = s * (2 * l0 X + 2) + (2 * l0 X + 1) by omega, gp_j (by omega)]
      unfold gj
      rw [if_neg (by omega), if_neg (by omega), if_pos rfl]
    refine gX7_read_41 (hs.sm S3).1 (hm.sm S3).1.1 (fun c c2 => ⟨⟨_, rfl⟩, ?_⟩) (fun c c2 => ?_) (fun c => ⟨⟨_, rfl⟩, ?_⟩) <;> rw [P3, T3.1, nI_eq (by omega) (by omega)] at c
    · rw [P3]
      rw [nI_add, nI_eq (by omega) (by omega)] at c2
      exact h2 M3 _ (by omega) S3 T3 ⟨G2, fun q => by have := (gjj.mp q).2; omega, fun q => c q.1⟩
    · rw [nI_add, nI_eq (by omega) (by omega)] at c2
      refine w_X7_takes (by decide) (hs.sm S3) T3 P3 (by omega) (by decide) (fun e => ?_) (fun e => ?_)
      · refine gX7_read_71 (hs.sm S3).1 (fun _ => ?_) (fun c => absurd c (by decide))
        rw [nI_add]
        have g := gjj.mpr ⟨e, by omega⟩
        have hn : (s + 1) * (2 * l0 X + 2) = s * (2 * l0 X + 2) + 2 * l0 X + 1 + 1 := by rw [Nat.add_mul, Nat.one_mul]; omega
        refine ih (by omega) _ ⟨S3.tr (Sm.sI (by simp) _ _ _), T3.np (Or.inr (by decide)) (by omega), ?_, ?_, ?_⟩ (fun _ => by rw [rI_np (by omega)]; exact A1)
        · rw [hn]; exact rI_at _ _ _ _
        · rw [hn]; exact G2.snoc g
        · rw [hn]
          have := DrU.skip (s := s) (j := 2 * l0 X + 1) (by rw [show s * (2 * l0 X + 2) + (2 * l0 X + 1) = s * (2 * l0 X + 2) + 2 * l0 X + 1 by omega]; exact D3) (by omega) (by omega)
          exact DrU.np (by omega) (by omega) this
      · refine gX7_read_71 (hs.sm S3).1 (fun c => absurd rfl c) (fun _ => ⟨⟨_, rfl⟩, ?_⟩)
        rw [P3]
        exact h2 M3 _ (by omega) S3 T3 ⟨G2, fun q => e (gjj.mp q).1, fun q => c q.1⟩
    · rw [A0]
      refine h1 M3 (s + 1) S3 T3 ⟨⟨by omega, by omega⟩, by rw [← c, Nat.add_mul, Nat.one_mul]; omega, by rw [← c]; exact G2⟩ ⟨⟨A0, A1⟩, fun s' hs' => ?_, fun s' hs' x hx => ?_⟩
      · rw [tA_n] at hs'
        rw [tA_o]
        have h4 := mul_lt (k := 2 * l0 X + 2) (j := 1) hs' (by omega)
        rw [Nat.add_mul, Nat.one_mul] at h4
        exact D3.1 s' (by omega) (by omega)
      · rw [tA_n] at hs'
        rw [tA_l] at hx
        rw [tA_t]
        have h4 := mul_lt (k := 2 * l0 X + 2) (j := 2 + 2 * x + 1) hs' (by omega)
        rw [Nat.add_mul, Nat.one_mul] at h4
        exact D3.2 s' x (by omega) hx (by omega)
  · refine gX7_read_19 (hm.sm (S1.tr S2)).1.1 (hs.sm (S1.tr S2)).1 (fun c => absurd rfl c) (fun _ => ⟨⟨_, rfl⟩, ?_⟩)
    rw [P2]
    exact h2 M2 p hp (S1.tr S2) T2 e2
end Text2
