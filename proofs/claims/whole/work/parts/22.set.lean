/-! memories with new cells; the class's WordSet -/
/-- the references that may change: a WordSet's places, a Search's ways, a Pupil's notes -/
def vR (kd j : Nat) : Prop := (kd = 12 ∧ j = 1) ∨ (kd = 7 ∧ (j = 3 ∨ j = 4)) ∨ (kd = 6 ∧ j = 3)
/-- of the old labels only S may differ -/
def Fm (S : List Nat) (M M' : Mem) : Prop := (∀ p, p < mC M + 2 → p ∉ S → mI M' p = mI M p ∧ mJ M' p = mJ M p ∧ mR M' p = mR M p) ∧ (∀ p, p < mC M + 2 → mK M' p = mK M p ∧ mN M' p = mN M p) ∧ (∀ p j, p < mC M + 2 → ¬ vR (mK M p) j → mR M' p j = mR M p j) ∧ mC M ≤ mC M' ∧ mS M ≤ mS M'
theorem Fm.rf (S : List Nat) (M : Mem) : Fm S M M := ⟨fun _ _ _ => ⟨rfl, rfl, rfl⟩, fun _ _ => ⟨rfl, rfl⟩, fun _ _ _ _ => rfl, Nat.le_refl _, Nat.le_refl _⟩
theorem Sm.fm {S : List Nat} {M M' : Mem} (h : Sm S M M') : Fm S M M' := by
  obtain ⟨h1, h2, h3, h4, h5, h6⟩ := h
  exact ⟨fun p _ hp => ⟨(h1 p hp).1, (h1 p hp).2, by rw [h2]⟩, fun p _ => ⟨by rw [h3], by rw [h4]⟩, fun p j _ _ => by rw [h2], by rw [h5]; exact Nat.le_refl _, by rw [h6]; exact Nat.le_refl _⟩
theorem Fm.tr {S T : List Nat} {M M1 M2 : Mem} (h : Fm S M M1) (k : Fm T M1 M2) (hs : ∀ p, p ∈ T → p ∈ S ∨ mC M + 2 ≤ p) : Fm S M M2 := by
  obtain ⟨a1, a2, a3, a4, a5⟩ := h
  obtain ⟨b1, b2, b3, b4, b5⟩ := k
  refine ⟨fun p hp hn => ?_, fun p hp => ?_, fun p j hp hv => ?_, by omega, by omega⟩
  · have hT : p ∉ T := fun q => by
      rcases hs p q with c | c
      · exact hn c
      · omega
    have e1 := a1 p hp hn
    have e2 := b1 p (by omega) hT
    exact ⟨e2.1.trans e1.1, e2.2.1.trans e1.2.1, e2.2.2.trans e1.2.2⟩
  · exact ⟨(b2 p (by omega)).1.trans (a2 p hp).1, (b2 p (by omega)).2.trans (a2 p hp).2⟩
  · exact (b3 p j (by omega) (by rw [(a2 p hp).1]; exact hv)).trans (a3 p j hp hv)
theorem Fm.mono {S T : List Nat} {M M1 : Mem} (h : Fm S M M1) (hs : ∀ p, p ∈ S → p ∈ T) : Fm T M M1 := ⟨fun p hp hn => h.1 p hp (fun q => hn (hs p q)), h.2⟩
theorem Fm.I {S : List Nat} {M M' : Mem} (h : Fm S M M') {p : Nat} (hl : p < mC M + 2) (hp : p ∉ S) : mI M' p = mI M p := (h.1 p hl hp).1
theorem Fm.J {S : List Nat} {M M' : Mem} (h : Fm S M M') {p : Nat} (hl : p < mC M + 2) (hp : p ∉ S) : mJ M' p = mJ M p := (h.1 p hl hp).2.1
theorem Fm.K {S : List Nat} {M M' : Mem} (h : Fm S M M') {p : Nat} (hl : p < mC M + 2) : mK M' p = mK M p := (h.2.1 p hl).1
theorem Fm.N {S : List Nat} {M M' : Mem} (h : Fm S M M') {p : Nat} (hl : p < mC M + 2) : mN M' p = mN M p := (h.2.1 p hl).2
theorem MacSh.fm {S : List Nat} {M M' : Mem} {r : Nat} (h : Fm S M M') (hl : r + 3 < mC M + 2) (hs : MacSh M r) : MacSh M' r := by
  obtain ⟨⟨a1, a2, a3, a4⟩, ⟨b1, b2⟩, ⟨c1, c2⟩, d1, d2⟩ := hs
  have nv : ∀ j, ¬ vR (mK M r) j := fun j q => by rw [a1] at q; unfold vR at q; omega
  refine ⟨⟨by rw [h.K (by omega)]; exact a1, ?_, ?_, ?_⟩, ⟨by rw [h.K (by omega)]; exact b1, by rw [h.N (by omega)]; exact b2⟩, ⟨by rw [h.K (by omega)]; exact c1, by rw [h.N (by omega)]; exact c2⟩, by rw [h.K (by omega)]; exact d1, by rw [h.N (by omega)]; exact d2⟩
  · rw [h.2.2.1 r 2 (by omega) (nv 2)]; exact a2
  · rw [h.2.2.1 r 3 (by omega) (nv 3)]; exact a3
  · rw [h.2.2.1 r 4 (by omega) (nv 4)]; exact a4
theorem MacAt.fm {S : List Nat} {M M' : Mem} {r : Nat} {A : PM} (h : Fm S M M') (hl : r + 3 < mC M + 2) (ha : MacAt M r A) (h0 : r ∉ S) (h1 : r + 1 ∉ S) (h2 : r + 2 ∉ S) : MacAt M' r A := by
  unfold MacAt at ha ⊢
  rw [h.I (by omega) h0, h.I (by omega) h1, h.I (by omega) h2]; exact ha
theorem LstSh.fm {S : List Nat} {M M' : Mem} {r cap : Nat} (h : Fm S M M') (hl : r + 1 < mC M + 2) (hs : LstSh M r cap) : LstSh M' r cap := by
  obtain ⟨a1, a2, a3, a4⟩ := hs
  refine ⟨by rw [h.K (by omega)]; exact a1, ?_, by rw [h.K (by omega)]; exact a3, by rw [h.N (by omega)]; exact a4⟩
  rw [h.2.2.1 r 1 (by omega) (fun q => by rw [a1] at q; unfold vR at q; omega)]; exact a2
theorem LstAt.fm {S : List Nat} {M M' : Mem} {r : Nat} {L : List (List Nat)} (h : Fm S M M') (hl : r + 1 < mC M + 2) (ha : LstAt M r L) (h0 : r ∉ S) (h1 : r + 1 ∉ S) : LstAt M' r L := by
  unfold LstAt at ha ⊢
  rw [h.I (by omega) h0, h.J (by omega) h1]; exact ha
/-- where the class begins to try -/
def hX (c : Nat) : Nat := c * 6364136223846793005 % 2 ^ 64 / 2 ^ 40
theorem hX_lt (c : Nat) : hX c < 2 ^ 24 := by
  have h : c * 6364136223846793005 % 2 ^ 64 < 2 ^ 64 := Nat.mod_lt _ (by decide)
  unfold hX
  omega
theorem hX_eq (c : Nat) : (((lN c * lN 6364136223846793005).toUInt64 >>> ((nI 40).toInt64.toUInt64 &&& Int64.toUInt64 63)).toInt64).toInt32 = nI (hX c) := by
  rw [lN_mul, wb_mod, wb_shr (Nat.mod_lt _ (by decide)) (by decide), lN_i]
  rfl
/-- a WordSet: 2^k places, what they hold, how many are taken -/
def SetAt (M : Mem) (r k : Nat) (T : Nat → Nat) (n : Nat) : Prop := (mK M r = 12 ∧ mK M (mR M r 1) = 2 ∧ mN M (mR M r 1) = 2 ^ k ∧ mI M r 0 = nI n ∧ mR M r 1 < mC M + 2) ∧ (∀ j, j < 2 ^ k → mJ M (mR M r 1) j = lN (T j) ∧ T j < 2 ^ 61) ∧ hinv hX (2 ^ k) T ∧ nzc T (2 ^ k) = n ∧ 8 ≤ k ∧ k ≤ 14
theorem p2k {k : Nat} (h1 : 8 ≤ k) (h2 : k ≤ 14) : 256 ≤ 2 ^ k ∧ 2 ^ k ≤ 16384 := ⟨Nat.le_trans (by decide) (Nat.pow_le_pow_right (show 0 < 2 by decide) h1), Nat.le_trans (Nat.pow_le_pow_right (show 0 < 2 by decide) h2) (by decide)⟩
theorem z_pr {c i k : Nat} (h1 : 8 ≤ k) (h2 : k ≤ 14) (hi : i < 2 ^ k) : (nI (hX c) + nI i) &&& (nI (2 ^ k) - nI 1) = nI (pr hX (2 ^ k) c i) := by
  have hk := p2k h1 h2
  have hh := hX_lt c
  rw [nI_add, z_sub (by omega)]
  exact pk_andN (by omega) k (pk_tn (by omega))
section Sets
variable {d r : Nat} {Q : Option Value → Mem → Prop} {M : Mem}
theorem w_place {k c : Nat} {T : Nat → Nat} (hd : 1 < d) (a1 : mK M r = 12) (a2 : mK M (mR M r 1) = 2) (a3 : mN M (mR M r 1) = 2 ^ k) (b : ∀ j, j < 2 ^ k → mJ M (mR M r 1) j = lN (T j) ∧ T j < 2 ^ 61) (hz : nzc T (2 ^ k) < 2 ^ k) (k1 : 8 ≤ k) (k2 : k ≤ 14) (hc : c < 2 ^ 61) (h : ∀ i, stop hX (2 ^ k) T c i → Q (some (.int (nI (pr hX (2 ^ k) c i)))) M) : ClD d mdX10_placeOf [.ref r, .long (lN c)] M Q := by
  have hk := p2k k1 k2
  refine ⟨1, hd, Cl.of moX10_placeOf (Nat.le_of_ble_eq_true rfl) (gX10_placeOf_0 ?_)⟩
  rw [hX_eq]
  obtain ⟨i0, hst⟩ := stop_ex (h := hX) (T := T) (len := 2 ^ k) c (by omega)
  refine upto i0 (fun i => Wp 1 mdX10_placeOf 13 [(0, .ref r), (1, .long (lN c)), (3, .int (nI (hX c))), (4, .int (nI i))] [] M (fun r M' => ROK mdX10_placeOf r ∧ Q r M')) ?_ 0 (Nat.zero_le _)
  intro i hi0 ih
  have hil : i < 2 ^ k := Nat.lt_of_le_of_lt hi0 hst.1
  have hp : pr hX (2 ^ k) c i < 2 ^ k := pr_lt (by omega)
  have e1 := b _ hp
  refine gX10_placeOf_13 a1 a2 (fun c0 => ?_) (fun _ c1 => ?_) (fun _ _ _ => ?_) (fun _ _ _ c1 => ⟨⟨_, rfl⟩, ?_⟩) (fun _ _ _ _ => ?_) (fun _ _ _ c1 c2 => ?_) (fun _ _ _ c1 c2 => ⟨⟨_, rfl⟩, ?_⟩) (fun _ _ c2 => ?_)
  · rw [a3, nI_leI (by omega) (by omega)] at c0; omega
  · rw [a3, z_pr k1 k2 hil] at c1; exact absurd c1 (nI_pos (by omega))
  · rw [a3, z_pr k1 k2 hil]; exact z_in hp (by omega)
  · rw [a3, z_pr k1 k2 hil] at c1 ⊢
    rw [nI_clamp (by omega), e1.1, pk_lEQ (by omega) (by omega)] at c1
    have : i = i0 := by
      rcases Nat.lt_trichotomy i i0 with q | q | q
      · exact absurd c1 (hst.2.2 i q).1
      · exact q
      · omega
    subst this
    exact h i hst
  · rw [a3, z_pr k1 k2 hil]; exact z_in hp (by omega)
  · rw [a3, z_pr k1 k2 hil, nI_clamp (by omega), e1.1, pk_lEQ (by omega) (by omega)] at c1 c2
    rw [nI_add]
    refine ih ?_
    rcases Nat.lt_or_ge i i0 with q | q
    · exact q
    · exfalso
      have : i = i0 := by omega
      subst this
      rcases hst.2.1 with g | g
      · exact c1 g
      · exact c2 g
  · rw [a3, z_pr k1 k2 hil] at c1 c2 ⊢
    rw [nI_clamp (by omega), e1.1, pk_lEQ (by omega) (by omega)] at c1 c2
    have : i = i0 := by
      rcases Nat.lt_trichotomy i i0 with q | q | q
      · exact absurd c2 (hst.2.2 i q).2
      · exact q
      · omega
    subst this
    exact h i hst
  · exfalso; apply c2; rw [a3, z_pr k1 k2 hil]; exact nI_lt hp (by omega)
theorem w_X10_placeOf {k n c : Nat} {T : Nat → Nat} (hd : 1 < d) (hs : SetAt M r k T n) (hn : n < 2 ^ k) (hc : c < 2 ^ 61) (h : ∀ i, stop hX (2 ^ k) T c i → Q (some (.int (nI (pr hX (2 ^ k) c i)))) M) : ClD d mdX10_placeOf [.ref r, .long (lN c)] M Q :=
  w_place hd hs.1.1 hs.1.2.1 hs.1.2.2.1 hs.2.1 (by rw [hs.2.2.2.1]; exact hn) hs.2.2.2.2.1 hs.2.2.2.2.2 hc h
theorem w_X10_at {k n j : Nat} {T : Nat → Nat} (hd : 1 < d) (hs : SetAt M r k T n) (hj : j < 2 ^ k) (h : Q (some (.long (lN (T j)))) M) : ClD d mdX10_at [.ref r, .int (nI j)] M Q := by
  obtain ⟨⟨a1, a2, a3, a4, a5⟩, b, hi, hz, k1, k2⟩ := hs
  have hk := p2k k1 k2
  refine ⟨1, hd, Cl.of moX10_at (Nat.le_of_ble_eq_true rfl) (gX10_at_0 a1 a2 (fun c => absurd c (nI_pos (by omega))) (fun _ _ => ?_) (fun _ _ => ⟨⟨_, rfl⟩, ?_⟩) (fun _ c => ?_))⟩
  · rw [a3]; exact z_in hj (by omega)
  · rw [nI_clamp (by omega), (b j hj).1]; exact h
  · exfalso; apply c; rw [a3]; exact nI_lt hj (by omega)
theorem w_X10_places {k n : Nat} {T : Nat → Nat} (hd : 1 < d) (hs : SetAt M r k T n) (h : Q (some (.int (nI (2 ^ k)))) M) : ClD d mdX10_places [.ref r] M Q := by
  obtain ⟨⟨a1, a2, a3, a4, a5⟩, -⟩ := hs
  refine ⟨1, hd, Cl.of moX10_places (Nat.le_of_ble_eq_true rfl) (gX10_places_0 a1 a2 ⟨⟨_, rfl⟩, ?_⟩)⟩
  rw [a3]; exact h
theorem w_X10_has {k n c : Nat} {T : Nat → Nat} {f : Nat → Prop} (hd : 2 < d) (hs : SetAt M r k T n) (hf : hset (2 ^ k) T f) (hn : n < 2 ^ k) (hc0 : 1 ≤ c) (hc : c < 2 ^ 61) (h1 : f c → Q (some (.int (nI 1))) M) (h2 : ¬ f c → Q (some (.int (nI 0))) M) : ClD d mdX10_has [.ref r, .long (lN c)] M Q := by
  have hs' := hs
  obtain ⟨⟨a1, a2, a3, a4, a5⟩, b, hi, hz, k1, k2⟩ := hs'
  have hk := p2k k1 k2
  refine ⟨2, hd, Cl.of moX10_has (Nat.le_of_ble_eq_true rfl) (gX10_has_0 a1 (fun q => ?_) (fun _ => ?_))⟩
  · exfalso; rw [pk_lLE (by omega) (by decide)] at q; omega
  · refine w_X10_placeOf (by decide) hs hn hc (fun i hst => gX10_has_12 a1 (w_X10_at (by decide) hs (pr_lt (by omega)) ?_))
    have e := stop_in hi hf (by omega) hst
    have hT := (b _ (pr_lt (h := hX) (c := c) (i := i) (show 0 < 2 ^ k by omega))).2
    refine gX10_has_15 (fun q => ⟨⟨_, rfl, by decide⟩, h2 (fun g => q ?_)⟩) (fun q => ⟨⟨_, rfl, by decide⟩, h1 ?_⟩)
    · rw [e.mp g]
    · rw [pk_lEQ (by omega) (by omega)] at q
      exact e.mpr q
theorem SetAt.ins {k n c j : Nat} {T : Nat → Nat} {f : Nat → Prop} {i : Nat} (hs : SetAt M r k T n) (hf : hset (2 ^ k) T f) (hc0 : 1 ≤ c) (hc : c < 2 ^ 61) (hst : stop hX (2 ^ k) T c i) (hj : j = pr hX (2 ^ k) c i) (h0 : T j = 0) : SetAt (sI (sJ M (mR M r 1) j (lN c)) r 0 (nI (n + 1))) r k (upN T j c) (n + 1) ∧ hset (2 ^ k) (upN T j c) (fun x => x = c ∨ f x) := by
  subst hj
  obtain ⟨⟨a1, a2, a3, a4, a5⟩, b, hi, hz, k1, k2⟩ := hs
  have hk := p2k k1 k2
  obtain ⟨g1, g2⟩ := ins_inv hi hf (by omega) hst h0
  refine ⟨⟨⟨a1, a2, a3, rI_at _ _ _ _, a5⟩, fun j hj => ?_, g1, ?_, k1, k2⟩, g2⟩
  · show mJ (sJ M (mR M r 1) (pr hX (2 ^ k) c i) (lN c)) (mR M r 1) j = _ ∧ _
    by_cases e : j = pr hX (2 ^ k) c i
    · subst e
      rw [rJ_at, show upN T (pr hX (2 ^ k) c i) c (pr hX (2 ^ k) c i) = c from if_pos rfl]
      exact ⟨rfl, hc⟩
    · rw [rJ_nk e, show upN T (pr hX (2 ^ k) c i) c j = T j from if_neg e]
      exact b j hj
  · rw [nzc_up h0 (by omega) (pr_lt (by omega)), hz]
theorem w_X10_add {k n c : Nat} {T : Nat → Nat} {f : Nat → Prop} (hd : 2 < d) (hs : SetAt M r k T n) (hf : hset (2 ^ k) T f) (hn : n < 2 ^ k) (hc0 : 1 ≤ c) (hc : c < 2 ^ 61) (h1 : f c → Q (some (.int (nI 0))) M) (h2 : ¬ f c → ∀ T' M', Sm [r, mR M r 1] M M' → SetAt M' r k T' (n + 1) → hset (2 ^ k) T' (fun x => x = c ∨ f x) → Q (some (.int (nI 1))) M') : ClD d mdX10_add [.ref r, .long (lN c)] M Q := by
  have hs' := hs
  obtain ⟨⟨a1, a2, a3, a4, a5⟩, b, hi, hz, k1, k2⟩ := hs'
  have hk := p2k k1 k2
  refine ⟨2, hd, Cl.of moX10_add (Nat.le_of_ble_eq_true rfl) (gX10_add_0 a1 (w_X10_placeOf (by decide) hs hn hc (fun i hst => ?_)))⟩
  have hp : pr hX (2 ^ k) c i < 2 ^ k := pr_lt (by omega)
  have hT := b _ hp
  have e := stop_in hi hf (by omega) hst
  refine gX10_add_5 a1 a2 (fun q => ?_) (fun _ q => absurd q (nI_pos (by omega))) (fun _ _ q => ?_) (fun _ _ _ => ?_) (fun _ _ _ _ => ?_) (fun _ _ _ q => ⟨⟨_, rfl, by decide⟩, ?_⟩) (fun _ _ _ q => ⟨⟨_, rfl, by decide⟩, h1 ?_⟩)
  · exfalso; rw [pk_lLT (by omega) (by decide)] at q; omega
  · exfalso; rw [a3, nI_leI (by omega) (by omega)] at q; omega
  · rw [a3]; exact z_in hp (by omega)
  · rw [a3]; exact z_in hp (by omega)
  · rw [nI_clamp (by omega)] at q ⊢
    rw [hT.1, pk_lEQ (by omega) (by omega)] at q
    have h0 : T (pr hX (2 ^ k) c i) = 0 := hst.2.1.resolve_left q
    have e4 : mI (sJ M (mR M r 1) (pr hX (2 ^ k) c i) (lN c)) r 0 = nI n := a4
    rw [e4, nI_add]
    obtain ⟨s1, s2⟩ := hs.ins hf hc0 hc hst rfl h0
    exact h2 (fun g => q (e.mp g)) _ _ ((Sm.sJ (by simp) _ _ _).tr (Sm.sI (by simp) _ _ _)) s1 s2
  · rw [nI_clamp (by omega), hT.1, pk_lEQ (by omega) (by omega)] at q
    exact e.mpr q
end Sets
