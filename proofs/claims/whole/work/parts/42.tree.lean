/-! the class's Tree -/
/-- what lies at a place: 0 nothing, 1 + a leaf, 100 + a knot -/
def kcI (v : Nat) : Int32 := if v = 0 then (-1 : Int32) else if v < 100 then nI (v - 1) else nI v
theorem kc_leaf {a : Nat} (h : a < 99) : kcI (1 + a) = nI a := by
  unfold kcI
  rw [if_neg (by omega), if_pos (by omega), show 1 + a - 1 = a by omega]
theorem kc_knot (k : Nat) : kcI (100 + k) = nI (100 + k) := by
  unfold kcI
  rw [if_neg (by omega), if_neg (by omega)]
def TW (H T : List (List Nat)) (K : Nat → Nat) : Prop := (0 < T.length ∧ T.length ≤ 8 ∧ H.length ≤ 8) ∧ (∀ c, 4 * T.length ≤ c → K c = 0) ∧ ∀ c, c < 4 * T.length → K c = 0 ∨ (∃ a, a < H.length ∧ K c = 1 + a) ∨ ∃ k, c / 4 < k ∧ k < T.length ∧ K c = 100 + k
/-- a sift from a state: how many knots, the last place -/
def sf (A : PM) (T : List (List Nat)) (K : Nat → Nat) (q : Nat) : Nat → Nat → Nat × Nat
  | 0, _ => (0, 0)
  | f + 1, k => if K (k * 4 + an A q (T.getD k [])) < 100 then (1, k * 4 + an A q (T.getD k [])) else ((sf A T K q f (K (k * 4 + an A q (T.getD k [])) - 100)).1 + 1, (sf A T K q f (K (k * 4 + an A q (T.getD k [])) - 100)).2)
/-- the words that a sift asks -/
def sw (A : PM) (T : List (List Nat)) (K : Nat → Nat) (w : List Nat) : Nat → Nat → List (List Nat)
  | 0, _ => []
  | f + 1, k => (w ++ T.getD k []) :: (if K (k * 4 + an A (rn (pt A) 0 w) (T.getD k [])) < 100 then [] else sw A T K w f (K (k * 4 + an A (rn (pt A) 0 w) (T.getD k [])) - 100))
def sfM (A : PM) (T : List (List Nat)) (K : Nat → Nat) (w : List Nat) : Nat := (sf A T K (rn (pt A) 0 w) 8 0).1
def sfP (A : PM) (T : List (List Nat)) (K : Nat → Nat) (w : List Nat) : Nat := (sf A T K (rn (pt A) 0 w) 8 0).2
theorem an_app (A : PM) (w e : List Nat) : an A 0 (w ++ e) = an A (rn (pt A) 0 w) e := by unfold an; rw [rn_app]
theorem sw_mem {A : PM} {T : List (List Nat)} {K : Nat → Nat} {w v : List Nat} : ∀ {f k}, (∀ c, K c < 100 ∨ K c - 100 < T.length) → k < T.length → v ∈ sw A T K w f k → ∃ e, e ∈ T ∧ v = w ++ e
  | 0, _, _, _, h => by simp [sw] at h
  | f + 1, k, hK, hk, h => by
    rcases List.mem_cons.mp h with e | e
    · exact ⟨_, getD_mem hk, e⟩
    · by_cases c : K (k * 4 + an A (rn (pt A) 0 w) (T.getD k [])) < 100
      · rw [if_pos c] at e; simp at e
      · rw [if_neg c] at e
        exact sw_mem hK ((hK _).resolve_left c) e
theorem TW.kn {H T : List (List Nat)} {K : Nat → Nat} (h : TW H T K) : ∀ c, K c < 100 ∨ K c - 100 < T.length := by
  intro c
  by_cases hc : c < 4 * T.length
  · rcases h.2.2 c hc with e | ⟨a, a1, e⟩ | ⟨k, k1, k2, e⟩
    · omega
    · have := h.1.2.2; omega
    · omega
  · rw [h.2.1 c (by omega)]; omega
theorem TW.le {H T : List (List Nat)} {K : Nat → Nat} (h : TW H T K) : ∀ c, K c ≤ 108 := by
  intro c
  have := h.kn c
  have := h.1
  omega
def RI (z : Nat) (M : Mem) (b r : Nat) (A : PM) (st sp : Nat) (s : List (List Nat) × Nat) (H T : List (List Nat)) (K : Nat → Nat) : Prop := (NotSh M b r 6 ∧ mR M b 8 = b + 11 ∧ mK M (b + 11) = 1 ∧ mN M (b + 11) = 32) ∧ AI z M r A st sp s ∧ (LstAt M (b + 1) H ∧ LstAt M (b + 3) T) ∧ (okV A H ∧ okV A T) ∧ (∀ c, c < 32 → mI M (b + 11) c = kcI (K c)) ∧ b + 12 ≤ z ∧ r + 2 < b
section TreeA
variable {z d r b st sp : Nat} {Q : Option Value → Mem → Prop} {M : Mem} {A : PM} {s : List (List Nat) × Nat} {H T : List (List Nat)} {K : Nat → Nat}
theorem TrSh.fm {S : List Nat} {M M' : Mem} (h : Fm S M M') (hl : b + 11 < mC M + 2) (hs : NotSh M b r 6 ∧ mR M b 8 = b + 11 ∧ mK M (b + 11) = 1 ∧ mN M (b + 11) = 32) : NotSh M' b r 6 ∧ mR M' b 8 = b + 11 ∧ mK M' (b + 11) = 1 ∧ mN M' (b + 11) = 32 := by
  obtain ⟨a, c1, c2, c3⟩ := hs
  have a1 : mK M b = 10 := a.1.2
  refine ⟨a.fm h (by omega), ?_, by rw [h.K hl]; exact c2, by rw [h.N hl]; exact c3⟩
  rw [h.2.2.1 b 8 (by omega) (fun q => by rw [a1] at q; unfold vR at q; omega)]; exact c1
theorem RI.fm {S : List Nat} {M' : Mem} (h : Fm S M M') (hS : ∀ p, p ∈ S → p = b ∨ (b + 5 ≤ p ∧ p < b + 11)) (hi : RI z M b r A st sp s H T K) : RI z M' b r A st sp s H T K := by
  obtain ⟨a, c, ⟨e1, e2⟩, f, g, k, l⟩ := hi
  have q0 := c.2.2.2.2.2
  have ni : ∀ p, p < b ∨ (b < p ∧ p < b + 5) ∨ b + 11 ≤ p → p ∉ S := fun p hp q => by
    have := hS p q; omega
  refine ⟨TrSh.fm h (by omega) a, c.fm h (ni _ (by omega)) (ni _ (by omega)) (ni _ (by omega)) (ni _ (by omega)) (ni _ (by omega)) (ni _ (by omega)), ⟨e1.fm h (by omega) (ni _ (by omega)) (ni _ (by omega)), e2.fm h (by omega) (ni _ (by omega)) (ni _ (by omega))⟩, f, fun c hc => by rw [h.I (by omega) (ni _ (by omega))]; exact g c hc, k, l⟩
theorem RI.fa {S : List Nat} {M' : Mem} {s' : List (List Nat) × Nat} (h : Fa r S M M') (hS : ∀ p, p ∈ S → p = r ∨ p = r + 1 ∨ p = b ∨ (b + 5 ≤ p ∧ p < b + 11)) (hi : RI z M b r A st sp s H T K) (ha : AI z M' r A st sp s') : RI z M' b r A st sp s' H T K := by
  obtain ⟨a, c, ⟨e1, e2⟩, f, g, k, l⟩ := hi
  have q0 := c.2.2.2.2.2
  have ni : ∀ p, (b < p ∧ p < b + 5) ∨ (b + 11 ≤ p ∧ p < z) → p ∉ slq M r :: S := fun p hp => nq q0.1 (by omega) (by omega) (fun q => by have := hS p q; omega)
  exact ⟨TrSh.fm h.1 (by omega) a, ha, ⟨e1.fm h.1 (by omega) (ni _ (by omega)) (ni _ (by omega)), e2.fm h.1 (by omega) (ni _ (by omega)) (ni _ (by omega))⟩, f, fun c hc => by rw [h.1.I (by omega) (ni _ (by omega))]; exact g c hc, k, l⟩
theorem RI.fb {S : List Nat} {M' : Mem} {p : Nat} (hi : RI z M b r A st sp s H T K) (h : Fa r S M M') (hp : b ≤ p ∧ p < z) (hS : p ∉ S) : mI M' p = mI M p := by
  obtain ⟨a, c, ⟨e1, e2⟩, f, g, k, l⟩ := hi
  have q0 := c.2.2.2.2.2
  exact h.1.I (by omega) (nq q0.1 (by omega) (by omega) hS)
theorem RI.r0 (hi : RI z M b r A st sp s H T K) : mK M b = 10 ∧ mK M r = 4 ∧ mR M r 0 = 3 ∧ mR M b 0 = r ∧ okM A ∧ 7 < r := ⟨hi.1.1.1.2, hi.2.1.1.1, hi.2.1.1.2.1, hi.1.1.2.1.1, hi.2.1.2.2.2.2.1, hi.2.1.2.2.2.2.2.2.2.1⟩
theorem RI.nd (hi : RI z M b r A st sp s H T K) : s.1.Nodup := hi.2.1.2.1.2.1.2
theorem RI.ask {w : List Nat} (hd : 3 < d) (hi : RI z M b r A st sp s H T K) (hw : vw (pl A) w) (hl : w.length ≤ 30) (hn : s.1.length < 8192)
    (h : ∀ M', Fa r [r, r + 1] M M' → RI z M' b r A st sp (aS st sp s w) H T K → Q (some (.int (nI (an A 0 w)))) M') : ClD d mdX0_ask [.ref r, .long (lN (cd w))] M Q :=
  w_ask hd hi.2.1 hw hl hn fun M' F I => h M' F (hi.fa F (fun p hp => by simp at hp; omega) I)
theorem w_X8_link {c : Nat} {x : Int32} (hd : 1 < d) (hk : mK M b = 10) (h8 : mR M b 8 = b + 11) (hl : mK M (b + 11) = 1 ∧ mN M (b + 11) = 32) (hc : c < 32) (h : Q none (sI M (b + 11) c x)) : ClD d mdX8_link [.ref b, .int (nI c), .int x] M Q := by
  refine ⟨1, hd, Cl.of moX8_link (Nat.le_of_ble_eq_true rfl) (gX8_link_0 hk (by rw [h8]; exact hl.1) (fun c => absurd c (nI_pos (by omega))) (fun _ c => ?_) (fun _ _ => ?_) (fun _ _ => ⟨rfl, ?_⟩))⟩
  · rw [h8, hl.2, nI_leI (by omega) (by omega)] at c; omega
  · rw [h8, hl.2]; exact z_in hc (by omega)
  · rw [h8, nI_clamp (by omega)]; exact h
theorem w_X8_linkAt {c : Nat} (hd : 1 < d) (hk : mK M b = 10) (h8 : mR M b 8 = b + 11) (hl : mK M (b + 11) = 1 ∧ mN M (b + 11) = 32) (hc : c < 32) (h : Q (some (.int (mI M (b + 11) c))) M) : ClD d mdX8_linkAt [.ref b, .int (nI c)] M Q := by
  refine ⟨1, hd, Cl.of moX8_linkAt (Nat.le_of_ble_eq_true rfl) (gX8_linkAt_0 hk (by rw [h8]; exact hl.1) (fun c => absurd c (nI_pos (by omega))) (fun _ _ => ?_) (fun _ _ => ⟨⟨_, rfl⟩, ?_⟩) (fun _ c => ?_))⟩
  · rw [h8, hl.2]; exact z_in hc (by omega)
  · rw [h8, nI_clamp (by omega)]; exact h
  · exfalso; apply c; rw [h8, hl.2]; exact nI_lt hc (by omega)
theorem RI.addH {w : List Nat} (hi : RI z M b r A st sp s H T K) (hw : vw (pl A) w ∧ w.length ≤ 30) : RI z (lAdd M (b + 1) H.length w) b r A st sp s (H ++ [w]) T K := by
  obtain ⟨a, c, ⟨e1, e2⟩, f, g, k, l⟩ := hi
  have q0 := c.2.2.2.2.2
  have S : Sm [b + 1, b + 2] M (lAdd M (b + 1) H.length w) := Sm.lAdd (by simp) (by simp) _ _ _
  have ni : ∀ p, p < b + 1 ∨ b + 2 < p → p ∉ [b + 1, b + 2] := fun p hp q => by simp at q; omega
  refine ⟨TrSh.fm S.fm (by omega) a, c.fm S.fm (ni _ (by omega)) (ni _ (by omega)) (fun q => ?_) (ni _ (by omega)) (ni _ (by omega)) (ni _ (by omega)), ⟨e1.add w, e2.sm S (ni _ (by omega)) (ni _ (by omega))⟩, ⟨fun v hv => ?_, f.2⟩, fun c hc => by rw [S.I (ni _ (by omega))]; exact g c hc, k, l⟩
  · simp at q; omega
  · rcases List.mem_append.mp hv with h | h
    · exact f.1 v h
    · rw [List.mem_singleton] at h; rw [h]; exact hw
theorem RI.addT {w : List Nat} (hi : RI z M b r A st sp s H T K) (hw : vw (pl A) w ∧ w.length ≤ 30) : RI z (lAdd M (b + 3) T.length w) b r A st sp s H (T ++ [w]) K := by
  obtain ⟨a, c, ⟨e1, e2⟩, f, g, k, l⟩ := hi
  have q0 := c.2.2.2.2.2
  have S : Sm [b + 3, b + 4] M (lAdd M (b + 3) T.length w) := Sm.lAdd (by simp) (by simp) _ _ _
  have ni : ∀ p, p < b + 3 ∨ b + 4 < p → p ∉ [b + 3, b + 4] := fun p hp q => by simp at q; omega
  refine ⟨TrSh.fm S.fm (by omega) a, c.fm S.fm (ni _ (by omega)) (ni _ (by omega)) (fun q => ?_) (ni _ (by omega)) (ni _ (by omega)) (ni _ (by omega)), ⟨e1.sm S (ni _ (by omega)) (ni _ (by omega)), e2.add w⟩, ⟨f.1, fun v hv => ?_⟩, fun c hc => by rw [S.I (ni _ (by omega))]; exact g c hc, k, l⟩
  · simp at q; omega
  · rcases List.mem_append.mp hv with h | h
    · exact f.2 v h
    · rw [List.mem_singleton] at h; rw [h]; exact hw
/-- a place is written -/
theorem RI.put {p v : Nat} {x : Int32} (hi : RI z M b r A st sp s H T K) (hx : x = kcI v) : RI z (sI M (b + 11) p x) b r A st sp s H T (upN K p v) := by
  obtain ⟨a, c, ⟨e1, e2⟩, f, g, k, l⟩ := hi
  have q0 := c.2.2.2.2.2
  have S : Sm [b + 11] M (sI M (b + 11) p x) := Sm.sI (by simp) _ _ _
  have ni : ∀ p, p < b + 11 → p ∉ [b + 11] := fun p hp q => by simp at q; omega
  refine ⟨TrSh.fm S.fm (by omega) a, c.fm S.fm (ni _ (by omega)) (ni _ (by omega)) (fun q => ?_) (ni _ (by omega)) (ni _ (by omega)) (ni _ (by omega)), ⟨e1.sm S (ni _ (by omega)) (ni _ (by omega)), e2.sm S (ni _ (by omega)) (ni _ (by omega))⟩, f, fun c hc => ?_, k, l⟩
  · simp at q; omega
  · by_cases e : c = p
    · subst e; rw [rI_at, hx]; unfold upN; rw [if_pos rfl]
    · rw [rI_nk e, g c hc]; unfold upN; rw [if_neg e]
theorem w_X8_addLeaf {c : Nat} {w : List Nat} (hd : 2 < d) (hi : RI z M b r A st sp s H T K) (hc : c < 32) (hH : H.length < 99) (hw : vw (pl A) w ∧ w.length ≤ 30) (h : ∀ M', Sm [b + 1, b + 2, b + 11] M M' → RI z M' b r A st sp s (H ++ [w]) T (upN K c (1 + H.length)) → Q none M') : ClD d mdX8_addLeaf [.ref b, .int (nI c), .long (lN (cd w))] M Q := by
  have e1 : mR M b 1 = b + 1 := hi.1.1.2.1.2.1
  have k8 := hi.r0.1
  have n1 : mI M (b + 1) 0 = nI H.length := hi.2.2.1.1.1
  refine ⟨2, hd, Cl.of moX8_addLeaf (Nat.le_of_ble_eq_true rfl) (gX8_addLeaf_0 k8 (by rw [e1]; exact hi.1.1.2.2.1.1) ?_)⟩
  rw [e1, n1]
  refine w_X8_link (by decide) k8 hi.1.2.1 hi.1.2.2 hc ?_
  have I2 := hi.put (p := c) (v := 1 + H.length) (x := nI H.length) (kc_leaf hH).symm
  refine gX8_addLeaf_12 k8 ?_ ?_
  · show mK M (mR M b 1) = 11
    rw [e1]; exact hi.1.1.2.2.1.1
  · show ClD 2 mdX9_add [.ref (mR M b 1), .long (lN (cd w))] _ _
    rw [e1]
    refine w_X9_add (cap := 128) (by decide) I2.1.1.2.2.1 I2.2.2.1.1 (by omega) (by decide) (gX8_addLeaf_20 ⟨rfl, h _ ((Sm.sI (by simp) _ _ _).tr (Sm.lAdd (by simp) (by simp) _ _ _)) (I2.addH hw)⟩)
theorem w_X8_descend {w : List Nat} {X : List (List Nat)} (hd : 4 < d) (hi : RI z M b r A st sp s H T K) (hW : TW H T K) (hw : vw (pl A) w) (hlen : ∀ e, e ∈ T → w.length + e.length ≤ 30) (hX : ∀ v, v ∈ s.1 → v ∈ X) (hX2 : ∀ e, e ∈ T → w ++ e ∈ X) (hX3 : X.length < 8192)
    (h : ∀ M', Fa r [r, r + 1, b] M M' → RI z M' b r A st sp (aSs st sp s (sw A T K w 8 0)) H T K → (mI M' b 9 = nI (sfP A T K w) ∧ mI M' b 7 = nI (sfM A T K w)) → (∀ j, j ≠ 7 → j ≠ 9 → mI M' b j = mI M b j) → sfP A T K w < 32 → Q (some (.int (kcI (K (sfP A T K w))))) M') : ClD d mdX8_descend [.ref b, .long (lN (cd w))] M Q := by
  obtain ⟨k8, rk, r0, b0, hA, r7⟩ := hi.r0
  have l3 := hA.2.1.2
  have hz := hi.2.2.2.2.2.1
  have hrb := hi.2.2.2.2.2.2
  have hw1 := hW.1
  refine ⟨4, hd, Cl.of moX8_descend (Nat.le_of_ble_eq_true rfl) (gX8_descend_0 k8 ?_)⟩
  have S0 : Sm [b] M (sI M b 7 (nI 0)) := Sm.sI (by simp) _ _ _
  unfold sfP sfM at h
  suffices G : ∀ f k j s1 M1, T.length ≤ k + f → k < T.length → j + f ≤ 8 → Fa r [r, r + 1, b] M M1 → RI z M1 b r A st sp s1 H T K → (∀ v, v ∈ s1.1 → v ∈ X) → mI M1 b 7 = nI j → (∀ j, j ≠ 7 → j ≠ 9 → mI M1 b j = mI M b j) → (∀ M', Fa r [r, r + 1, b] M M' → RI z M' b r A st sp (aSs st sp s1 (sw A T K w f k)) H T K → (mI M' b 9 = nI (sf A T K (rn (pt A) 0 w) f k).2 ∧ mI M' b 7 = nI (j + (sf A T K (rn (pt A) 0 w) f k).1)) → (∀ j, j ≠ 7 → j ≠ 9 → mI M' b j = mI M b j) → (sf A T K (rn (pt A) 0 w) f k).2 < 32 → Q (some (.int (kcI (K (sf A T K (rn (pt A) 0 w) f k).2)))) M') → Wp 4 mdX8_descend 8 [(0, .ref b), (1, .long (lN (cd w))), (3, .int (nI (100 + k)))] [] M1 (fun r M' => ROK mdX8_descend r ∧ Q r M') by
    refine G 8 0 0 s _ (by omega) (by omega) (by omega) ((S0.mono (fun p hp => by simp at hp; simp [hp])).fa) (hi.fm S0.fm (fun p hp => by simp at hp; omega)) hX (rI_at _ _ _ _) (fun j j7 _ => rI_nk j7) (fun M' a1 a2 a3 => ?_)
    rw [Nat.zero_add] at a3
    exact h M' a1 a2 a3
  intro f
  induction f with
  | zero => intro k j s1 M1 h1 h2; omega
  | succ f ih =>
    intro k j s1 M1 h1 h2 h3 F I hXs i7 ij hq
    obtain ⟨k81, rk1, r01, b01, -, -⟩ := I.r0
    have e2 : mR M1 b 2 = b + 3 := I.1.1.2.1.2.2.1
    have e8 : mR M1 b 8 = b + 11 := I.1.2.1
    refine gX8_descend_8 k81 (by rw [e8]; exact I.1.2.2.1) (by rw [e2]; exact I.1.1.2.2.2.1.1) (fun c => ?_) (fun _ c => ?_) (fun _ _ => ?_)
    · rw [nI_ltI (by omega) (by omega)] at c; omega
    · rw [e8, I.1.2.2.2, i7, nI_leI (by omega) (by omega)] at c; omega
    · rw [z_sub (by omega), show 100 + k - 100 = k by omega, pk_mul, e2, b01]
      have hg := hi.2.2.2.1.2.get h2
      have hln := hlen _ (getD_mem h2)
      refine w_lget (cap := 128) (by decide) I.1.1.2.2.2.1 I.2.2.1.2 (by omega) (by decide) h2 (gX8_descend_51 (w_X1_join (by decide) (vw_mono hw (by omega)) (vw_mono hg.1 (by omega)) hln ?_))
      have hwd : vw (pl A) (w ++ T.getD k []) := vw_app.mpr ⟨hw, hg.1⟩
      have ha4 : an A (rn (pt A) 0 w) (T.getD k []) < 4 := by rw [← an_app]; exact an_lt hA hwd
      refine gX8_descend_54 rk1 (I.ask (by decide) hwd (by rw [List.length_append]; omega) (Nat.lt_of_le_of_lt (nodupW_le I.nd hXs) hX3) (fun M2 F2 I2 => ?_))
      rw [an_app] 
      obtain ⟨c, hc⟩ : ∃ c, c = k * 4 + an A (rn (pt A) 0 w) (T.getD k []) := ⟨_, rfl⟩
      refine gX8_descend_57 I2.r0.1 I2.r0.1 ?_
      rw [nI_add, rI_at, ← hc]
      have S3 : Sm [b] M2 (sI M2 b 9 (nI c)) := Sm.sI (by simp) _ _ _
      have I3 := I2.fm S3.fm (fun p hp => by simp at hp; omega)
      have hb2 : mI M2 b = mI M1 b := I.fb F2 (by omega) (by simp <;> omega)
      have c32 : c < 32 := by omega
      have c4 : c / 4 = k := by omega
      refine w_X8_linkAt (by decide) I3.r0.1 I3.1.2.1 I3.1.2.2 c32 ?_
      rw [I3.2.2.2.2.1 c c32]
      refine gX8_descend_69 I3.r0.1 ?_
      rw [show mI (sI M2 b 9 (nI c)) b 7 = nI j by rw [rI_nk (by decide), hb2]; exact i7, nI_add]
      have S4 : Sm [b] (sI M2 b 9 (nI c)) (sI (sI M2 b 9 (nI c)) b 7 (nI (j + 1))) := Sm.sI (by simp) _ _ _
      have I4 := I3.fm S4.fm (fun p hp => by simp at hp; omega)
      have F4 : Fa r [r, r + 1, b] M (sI (sI M2 b 9 (nI c)) b 7 (nI (j + 1))) := (F.tr (F2.mono (fun p hp => by simp at hp; simp <;> omega))).tr (((S3.tr S4).mono (fun p hp => by simp at hp; simp [hp])).fa)
      have g7 : mI (sI (sI M2 b 9 (nI c)) b 7 (nI (j + 1))) b 7 = nI (j + 1) := rI_at _ _ _ _
      have g9 : mI (sI (sI M2 b 9 (nI c)) b 7 (nI (j + 1))) b 9 = nI c := (rI_nk (by decide)).trans (rI_at _ _ _ _)
      have gj : ∀ i, i ≠ 7 → i ≠ 9 → mI (sI (sI M2 b 9 (nI c)) b 7 (nI (j + 1))) b i = mI M b i := fun i j7 j9 => by rw [rI_nk j7, rI_nk j9, hb2]; exact ij i j7 j9
      have sfe : K c < 100 → sf A T K (rn (pt A) 0 w) (f + 1) k = (1, c) ∧ sw A T K w (f + 1) k = [w ++ T.getD k []] := fun hlt => by
        rw [hc] at hlt
        constructor
        · rw [hc]; exact if_pos hlt
        · show (w ++ T.getD k []) :: (if _ then _ else _) = _
          rw [if_pos hlt]
      have sfk : ¬ K c < 100 → sf A T K (rn (pt A) 0 w) (f + 1) k = ((sf A T K (rn (pt A) 0 w) f (K c - 100)).1 + 1, (sf A T K (rn (pt A) 0 w) f (K c - 100)).2) ∧ sw A T K w (f + 1) k = (w ++ T.getD k []) :: sw A T K w f (K c - 100) := fun hlt => by
        rw [hc] at hlt ⊢
        constructor
        · exact if_neg hlt
        · show (w ++ T.getD k []) :: (if _ then _ else _) = _
          rw [if_neg hlt]
      have stop : K c < 100 → ∀ x : Int32, x = kcI (K c) → x < nI 100 → Wp 4 mdX8_descend 8 [(0, .ref b), (1, .long (lN (cd w))), (3, .int x)] [] (sI (sI M2 b 9 (nI c)) b 7 (nI (j + 1))) (fun r M' => ROK mdX8_descend r ∧ Q r M') := by
        intro hlt x hx hx2
        have g := sfe hlt
        rw [g.1, g.2] at hq
        refine gX8_descend_8 I4.r0.1 (by rw [I4.1.2.1]; exact I4.1.2.2.1) (by rw [I4.1.1.2.1.2.2.1]; exact I4.1.1.2.2.2.1.1) (fun _ => ⟨⟨_, rfl⟩, ?_⟩) (fun c _ => absurd hx2 c) (fun c _ => absurd hx2 c)
        rw [hx]
        exact hq _ F4 I4 ⟨g9, g7⟩ gj c32
      rcases hW.2.2 c (by omega) with e | ⟨a, a1, e⟩ | ⟨k', k1, k2, e⟩
      · refine stop (by omega) _ rfl ?_
        rw [e]; show (-1 : Int32) < nI 100; decide
      · refine stop (by omega) _ rfl ?_
        rw [e, kc_leaf (by omega)]; exact nI_lt (by omega) (by omega)
      · have g := sfk (by omega)
        rw [g.1, g.2] at hq
        rw [e, kc_knot]
        rw [e, show 100 + k' - 100 = k' by omega] at hq
        refine ih k' (j + 1) _ _ (by omega) k2 (by omega) F4 I4 (fun v hv => ?_) g7 gj (fun M' a1 a2 a3 a4 a5 => hq M' a1 a2 ⟨a3.1, ?_⟩ a4 a5)
        · rcases (aS_mem _ _ _ _ _).mp hv with q | q
          · exact hXs v q
          · rw [q]; exact hX2 _ (getD_mem h2)
        · rw [a3.2]
          show nI (j + 1 + _) = nI (j + (_ + 1))
          rw [Nat.add_assoc, Nat.add_comm 1]
end TreeA
