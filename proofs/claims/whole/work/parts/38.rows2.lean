/-! the class's Table: rows, what is asked, the heads and tails that come -/
def pY : Nat → Option Nat
  | 0 => none
  | y + 1 => some y
/-- a head alone, or with a letter -/
def rwd (h : List Nat) : Nat → List Nat
  | 0 => h
  | x + 1 => h ++ [x]
theorem nI_m1 {l : Nat} (hl : l < 2 ^ 31) : ¬ nI l ≤ (-1 : Int32) := by
  intro h
  have h1 := Int32.le_iff_toInt_le.mp h
  have h2 := Int32.le_iff_toInt_le.mp (Int32.not_lt.mp (nI_pos (n := l) hl))
  have e1 : (-1 : Int32).toInt = -1 := by decide
  have e2 : (0 : Int32).toInt = 0 := by decide
  omega
theorem pY_nx (y : Nat) : eo (pY y) + nI 1 = eo (pY (y + 1)) := by
  cases y with
  | zero => show (-1 : Int32) + nI 1 = nI 0; decide
  | succ y => exact nI_add y 1
theorem pY_le {l y : Nat} (hl : l < 2 ^ 31) (hy : y < 2 ^ 31) : nI l ≤ eo (pY y) ↔ l < y := by
  cases y with
  | zero => exact ⟨fun h => absurd h (nI_m1 hl), fun h => by omega⟩
  | succ y =>
    show nI l ≤ nI y ↔ _
    rw [nI_leI hl (by omega)]; omega
theorem rwd_in {l : Nat} {H T : List (List Nat)} {k y e : Nat} (hk : k < H.length) (hy : y ≤ l) (he : e < T.length) : rwd (H.getD k []) y ++ T.getD e [] ∈ rwW l H T := by
  refine rwW_mem.mpr ⟨_, getD_mem hk, _, getD_mem he, ?_⟩
  cases y with
  | zero => exact Or.inl rfl
  | succ x => exact Or.inr ⟨x, by omega, rfl⟩
theorem rwd_of {l : Nat} {H T : List (List Nat)} {w : List Nat} (h : w ∈ rwW l H T) : ∃ k y e, k < H.length ∧ y ≤ l ∧ e < T.length ∧ w = rwd (H.getD k []) y ++ T.getD e [] := by
  obtain ⟨u, h1, e, h2, g⟩ := rwW_mem.mp h
  obtain ⟨k, k1, rfl⟩ := mem_getD h1
  obtain ⟨j, j1, rfl⟩ := mem_getD h2
  rcases g with g | ⟨x, x1, g⟩
  · exact ⟨k, 0, j, k1, Nat.zero_le _, j1, g⟩
  · exact ⟨k, x + 1, j, k1, by omega, j1, g⟩
theorem rwd_ok {A : PM} {h : List Nat} {y : Nat} (hh : vw (pl A) h) (hy : y ≤ pl A) : vw (pl A) (rwd h y) := by
  cases y with
  | zero => exact hh
  | succ x => exact vw_app.mpr ⟨hh, fun v hv => by simp at hv; omega⟩
theorem rwd_len (h : List Nat) (y : Nat) : (rwd h y).length ≤ h.length + 1 := by
  cases y with
  | zero => exact Nat.le_succ _
  | succ x => simp [rwd]
/-- how many -/
noncomputable def cP (P : Nat → Prop) : Nat → Nat
  | 0 => 0
  | n + 1 => cP P n + @ite Nat (P n) (Classical.propDecidable _) 1 0
theorem cP_yes {P : Nat → Prop} {n : Nat} (h : P n) : cP P (n + 1) = cP P n + 1 := by
  show cP P n + @ite Nat (P n) (Classical.propDecidable _) 1 0 = _
  rw [if_pos h]
theorem cP_no {P : Nat → Prop} {n : Nat} (h : ¬ P n) : cP P (n + 1) = cP P n := by
  show cP P n + @ite Nat (P n) (Classical.propDecidable _) 1 0 = _
  rw [if_neg h]; rfl
theorem cP_le (P : Nat → Prop) : ∀ n, cP P n ≤ n
  | 0 => Nat.le_refl _
  | n + 1 => by
    have := cP_le P n
    by_cases h : P n
    · rw [cP_yes h]; omega
    · rw [cP_no h]; omega
theorem cP_cg {P P' : Nat → Prop} : ∀ {n}, (∀ i, i < n → (P i ↔ P' i)) → cP P n = cP P' n
  | 0, _ => rfl
  | n + 1, h => by
    have e := cP_cg (P := P) (P' := P') (n := n) (fun i hi => h i (by omega))
    by_cases c : P n
    · rw [cP_yes c, cP_yes ((h n (by omega)).mp c), e]
    · rw [cP_no c, cP_no (fun q => c ((h n (by omega)).mpr q)), e]
section TabA
variable {z d r b st sp : Nat} {Q : Option Value → Mem → Prop} {M : Mem} {A : PM} {s : List (List Nat) × Nat} {H T : List (List Nat)}
theorem TI.nd (hi : TI z M b r A st sp s H T) : s.1.Nodup := hi.2.1.2.1.2.1.2
theorem TI.fa {S : List Nat} {M' : Mem} {s' : List (List Nat) × Nat} (h : Fa r S M M') (hS : ∀ p, p ∈ S → p = r ∨ p = r + 1 ∨ p = b ∨ (b + 5 ≤ p ∧ p < b + 16)) (hi : TI z M b r A st sp s H T) (ha : AI z M' r A st sp s') : TI z M' b r A st sp s' H T := by
  obtain ⟨a, c, ⟨e1, e2⟩, f, g, k, l⟩ := hi
  have q0 := c.2.2.2.2.2
  have ni : ∀ p, (b < p ∧ p < b + 5) → p ∉ slq M r :: S := fun p hp => nq q0.1 (by omega) (by omega) (fun q => by have := hS p q; omega)
  exact ⟨a.fm h.1 (by omega), ha, ⟨e1.fm h.1 (by omega) (ni _ (by omega)) (ni _ (by omega)), e2.fm h.1 (by omega) (ni _ (by omega)) (ni _ (by omega))⟩, f, g, k, l⟩
theorem TI.fb {S : List Nat} {M' : Mem} {p : Nat} (hi : TI z M b r A st sp s H T) (h : Fa r S M M') (hp : b ≤ p ∧ p < z) (hS : p ∉ S) : mI M' p = mI M p := by
  obtain ⟨a, c, ⟨e1, e2⟩, f, g, k, l⟩ := hi
  have q0 := c.2.2.2.2.2
  exact h.1.I (by omega) (nq q0.1 (by omega) (by omega) hS)
theorem TI.ask {w : List Nat} (hd : 3 < d) (hi : TI z M b r A st sp s H T) (hw : vw (pl A) w) (hl : w.length ≤ 30) (hn : s.1.length < 8192)
    (h : ∀ M', Fa r [r, r + 1] M M' → TI z M' b r A st sp (aS st sp s w) H T → Q (some (.int (nI (an A 0 w)))) M') : ClD d mdX0_ask [.ref r, .long (lN (cd w))] M Q :=
  w_ask hd hi.2.1 hw hl hn fun M' F I => h M' F (hi.fa F (fun p hp => by simp at hp; omega) I)
theorem w_X6_begin (hd : 1 < d) (hk : mK M b = 8) (h : Q none (sI (sI M b 7 (nI 0)) b 8 (nI 0))) : ClD d mdX6_begin [.ref b] M Q :=
  ⟨1, hd, Cl.of moX6_begin (Nat.le_of_ble_eq_true rfl) (gX6_begin_0 hk ⟨rfl, h⟩)⟩
theorem w_X6_firstUnfilled {k fh ft : Nat} (hd : 1 < d) (hk8 : mK M b = 8) (h7 : mI M b 7 = nI fh) (h8 : mI M b 8 = nI ft) (hfh : fh < 2 ^ 31) (hk : k < 2 ^ 31) (h : Q (some (.int (nI (if k < fh then ft else 0)))) M) : ClD d mdX6_firstUnfilled [.ref b, .int (nI k)] M Q := by
  refine ⟨1, hd, Cl.of moX6_firstUnfilled (Nat.le_of_ble_eq_true rfl) (gX6_firstUnfilled_0 hk8 (fun c => ⟨⟨_, rfl⟩, ?_⟩) (fun c => ⟨⟨_, rfl⟩, ?_⟩))⟩ <;> rw [h7, nI_leI hfh hk] at c
  · rw [if_neg (by omega)] at h; exact h
  · rw [if_pos (by omega)] at h; rw [h8]; exact h
theorem w_X6_rowWord {k y : Nat} (hd : 2 < d) (hi : TI z M b r A st sp s H T) (hk : k < H.length) (hy : y ≤ pl A) (h : Q (some (.long (lN (cd (rwd (H.getD k []) y))))) M) : ClD d mdX6_rowWord [.ref b, .int (nI k), .int (eo (pY y))] M Q := by
  have hA := hi.r0.2.2.2.1
  have e1 : mR M b 1 = b + 1 := hi.1.1.2.1.2.1
  have hL1 := hi.2.2.2.2.1.1
  have l3 := hA.2.1.2
  refine ⟨2, hd, Cl.of moX6_rowWord (Nat.le_of_ble_eq_true rfl) (gX6_rowWord_0 hi.1.1.1.2 (by rw [e1]; exact hi.1.1.2.2.1.1) (fun c => ?_) (fun c => ?_))⟩ <;> rw [e1]
  · refine w_lget (cap := 128) (by decide) hi.1.1.2.2.1 hi.2.2.1.1 hL1 (by decide) hk ?_
    cases y with
    | zero => exact absurd rfl c
    | succ x => exact gX6_rowWord_24 (w_X1_then (by decide) (by omega) (gX6_rowWord_28 ⟨⟨_, rfl⟩, h⟩))
  · refine w_lget (cap := 128) (by decide) hi.1.1.2.2.1 hi.2.2.1.1 hL1 (by decide) hk ?_
    cases y with
    | zero => exact gX6_rowWord_13 (gX6_rowWord_28 ⟨⟨_, rfl⟩, h⟩)
    | succ x =>
      have c : nI x = (-1 : Int32) := c
      exact absurd z_m1 (by rw [← c]; exact nI_pos (by omega))
/-- all w e, all w x e are asked -/
theorem w_X6_askAll {fh ft : Nat} {X : List (List Nat)} (hd : 4 < d) (hi : TI z M b r A st sp s H T) (h7 : mI M b 7 = nI fh) (h8 : mI M b 8 = nI ft) (hfh : fh ≤ H.length) (hft : ft ≤ T.length) (hfl : ∀ k y e, k < fh → y ≤ pl A → e < ft → rwd (H.getD k []) y ++ T.getD e [] ∈ s.1) (hlen : ∀ h e, h ∈ H → e ∈ T → h.length + 1 + e.length ≤ 30) (hX : ∀ w, w ∈ s.1 → w ∈ X) (hX2 : ∀ w, w ∈ rwW (pl A) H T → w ∈ X) (hX3 : X.length < 8192)
    (h : ∀ M' s', Fa r [r, r + 1, b] M M' → TI z M' b r A st sp s' H T → eqS s' (aSs st sp s (rwW (pl A) H T)) → mI M' b 7 = nI H.length → mI M' b 8 = nI T.length → (∀ j, j ≠ 7 → j ≠ 8 → mI M' b j = mI M b j) → (∀ p, b < p → p < z → mI M' p = mI M p) → Q none M') : ClD d mdX6_askAll [.ref b] M Q := by
  obtain ⟨rk, r0, b0, hA, r7⟩ := hi.r0
  have l3 := hA.2.1.2
  have hL1 := hi.2.2.2.2.1.1
  have hL2 := hi.2.2.2.2.1.2
  have hz := hi.2.2.2.2.2.1
  have hrb := hi.2.2.2.2.2.2
  have bnd : ∀ L : List (List Nat), (∀ w, w ∈ L → w ∈ rwW (pl A) H T) → (aSs st sp s L).1.length < 8192 := fun L hL => by
    refine Nat.lt_of_le_of_lt (nodupW_le (aSs_nodup hi.nd) (fun w hw => ?_)) hX3
    rcases (aSs_mem st sp s L w).mp hw with g | g
    · exact hX w g
    · exact hX2 w (hL w g)
  refine ⟨4, hd, Cl.of moX6_askAll (Nat.le_of_ble_eq_true rfl) (gX6_askAll_0 ?_)⟩
  refine upto H.length (fun k => ∀ M1 L, Fa r [r, r + 1] M M1 → TI z M1 b r A st sp (aSs st sp s L) H T → (∀ w, w ∈ L → w ∈ rwW (pl A) H T) → (∀ k' y' e', k' < k → y' ≤ pl A → e' < T.length → rwd (H.getD k' []) y' ++ T.getD e' [] ∈ (aSs st sp s L).1) → Wp 4 mdX6_askAll 2 [(0, .ref b), (1, .int (nI k))] [] M1 (fun r M' => ROK mdX6_askAll r ∧ Q r M')) ?_ 0 (Nat.zero_le _) M [] (Fa.rf _ _ _) hi (fun w hw => by simp at hw) (fun _ _ _ hk => by omega)
  intro k hk ih M1 L F I hLr hdn
  have hs1 := I.1
  have e1 : mR M1 b 1 = b + 1 := hs1.1.2.1.2.1
  have e2 : mR M1 b 2 = b + 3 := hs1.1.2.1.2.2.1
  have n1 : mI M1 (b + 1) 0 = nI H.length := I.2.2.1.1.1
  have n2 : mI M1 (b + 3) 0 = nI T.length := I.2.2.1.2.1
  refine gX6_askAll_2 hs1.1.1.2 (by rw [e1]; exact hs1.1.2.2.1.1) (by show mK M1 (mR M1 b 2) = 11; rw [e2]; exact hs1.1.2.2.2.1.1) (fun c => ⟨rfl, ?_⟩) (fun c => ?_)
  · rw [e1, n1, nI_leI (by omega) (by omega)] at c
    have ek : k = H.length := by omega
    subst ek
    have e3 : mI (sI M1 b 7 (mI M1 (mR M1 b 1) 0)) (mR (sI M1 b 7 (mI M1 (mR M1 b 1) 0)) b 2) 0 = nI T.length := by
      show mI (sI M1 b 7 (mI M1 (mR M1 b 1) 0)) (mR M1 b 2) 0 = _
      rw [e2, rI_np (by omega)]; exact n2
    rw [e3, e1, n1]
    have S2 : Sm [b] M1 (sI (sI M1 b 7 (nI H.length)) b 8 (nI T.length)) := (Sm.sI (by simp) _ _ _).tr (Sm.sI (by simp) _ _ _)
    have hb1 : mI M1 b = mI M b := hi.fb F (by omega) (by simp; omega)
    refine h _ _ ((F.mono (fun p hp => by simp at hp; simp; omega)).tr ((S2.mono (fun p hp => by simp at hp; simp [hp])).fa)) (I.fm S2.fm (fun p hp => by simp at hp; omega)) (aSs_eq (eqS.rf hi.nd) (fun w => ⟨fun g => g.imp id (hLr w), fun g => ?_⟩)) ?_ ?_ (fun j j7 j8 => ?_) (fun p p1 p2 => ?_)
    · rcases g with g | g
      · exact Or.inl g
      · obtain ⟨k, y, e, k1, y1, e1, rfl⟩ := rwd_of g
        exact (aSs_mem st sp s L _).mp (hdn k y e k1 y1 e1)
    · rw [rI_nk (by decide)]; exact rI_at _ _ _ _
    · exact rI_at _ _ _ _
    · rw [rI_nk j8, rI_nk j7, hb1]
    · rw [rI_np (by omega), rI_np (by omega)]
      exact hi.fb F (by omega) (by simp; omega)
  · have hkl : k < H.length := Nat.lt_of_not_le fun q => c (by rw [e1, n1]; exact nI_le q (by omega))
    refine upto (pl A + 1) (fun y => ∀ M1 L, Fa r [r, r + 1] M M1 → TI z M1 b r A st sp (aSs st sp s L) H T → (∀ w, w ∈ L → w ∈ rwW (pl A) H T) → (∀ k' y' e', k' < k ∨ k' = k ∧ y' < y → y' ≤ pl A → e' < T.length → rwd (H.getD k' []) y' ++ T.getD e' [] ∈ (aSs st sp s L).1) → Wp 4 mdX6_askAll 15 [(0, .ref b), (1, .int (nI k)), (2, .int (eo (pY y)))] [] M1 (fun r M' => ROK mdX6_askAll r ∧ Q r M')) ?_ 0 (Nat.zero_le _) M1 L F I hLr (fun k' y' e' hc hy he => hdn k' y' e' (by omega) hy he)
    intro y hy ih2 M2 L2 F2 I2 hLr2 hdn2
    obtain ⟨rk2, r02, b02, -, -⟩ := I2.r0
    have hm2 := I2.2.1.2.2.1
    have hA2 := I2.2.1.2.2.2.1
    refine gX6_askAll_15 I2.1.1.1.2 (by rw [b02]; exact rk2) (by rw [b02, r02]; exact hm2.1.1) (fun c1 => ?_) (fun c1 => ?_) <;> rw [b02, r02, hA2.1.2, pY_le (by omega) (by omega)] at c1
    · rw [nI_add]
      exact ih hkl M2 L2 F2 I2 hLr2 (fun k' y' e' hk' hy' he' => hdn2 k' y' e' (by omega) hy' he')
    · have hyl : y ≤ pl A := by omega
      refine w_X6_rowWord (by decide) I2 hkl hyl (gX6_askAll_35 I2.1.1.1.2 ?_)
      have hb2 : mI M2 b = mI M b := hi.fb F2 (by omega) (by simp; omega)
      refine w_X6_firstUnfilled (by decide) I2.1.1.1.2 (by rw [hb2]; exact h7) (by rw [hb2]; exact h8) (by omega) (by omega) (gX6_askAll_41 ?_)
      have hrow := rwd_ok (y := y) (hi.2.2.2.1.1.get hkl).1 hyl
      refine upto T.length (fun e => ∀ M1 L, Fa r [r, r + 1] M M1 → TI z M1 b r A st sp (aSs st sp s L) H T → (∀ w, w ∈ L → w ∈ rwW (pl A) H T) → (∀ k' y' e', k' < k ∨ k' = k ∧ (y' < y ∨ y' = y ∧ e' < e) → y' ≤ pl A → e' < T.length → rwd (H.getD k' []) y' ++ T.getD e' [] ∈ (aSs st sp s L).1) → Wp 4 mdX6_askAll 43 [(0, .ref b), (1, .int (nI k)), (2, .int (eo (pY y))), (3, .long (lN (cd (rwd (H.getD k []) y)))), (5, .int (nI e))] [] M1 (fun r M' => ROK mdX6_askAll r ∧ Q r M')) ?_ (if k < fh then ft else 0) (by split <;> omega) M2 L2 F2 I2 hLr2 (fun k' y' e' hc hy' he' => ?_)
      · intro e he ih3 M3 L3 F3 I3 hLr3 hdn3
        obtain ⟨rk3, r03, b03, -, -⟩ := I3.r0
        have e23 : mR M3 b 2 = b + 3 := I3.1.1.2.1.2.2.1
        have n23 : mI M3 (b + 3) 0 = nI T.length := I3.2.2.1.2.1
        refine gX6_askAll_43 I3.1.1.1.2 (by rw [e23]; exact I3.1.1.2.2.2.1.1) (fun c2 => ?_) (fun c2 => ?_) <;> rw [e23, n23, nI_leI (by omega) (by omega)] at c2
        · rw [pY_nx]
          exact ih2 (by omega) M3 L3 F3 I3 hLr3 (fun k' y' e' hk' hy' he' => hdn3 k' y' e' (by omega) hy' he')
        · have hel : e < T.length := by omega
          rw [e23, b03]
          refine w_lget (cap := 128) (by decide) I3.1.1.2.2.2.1 I3.2.2.1.2 hL2 (by decide) hel ?_
          have hg := hi.2.2.2.1.2.get hel
          have hln := hlen _ _ (getD_mem hkl) (getD_mem hel)
          have hrl := rwd_len (H.getD k []) y
          refine gX6_askAll_69 (w_X1_join (by decide) (vw_mono hrow (by omega)) (vw_mono hg.1 (by omega)) (by omega) ?_)
          refine gX6_askAll_72 rk3 (I3.ask (by decide) (vw_app.mpr ⟨hrow, hg.1⟩) (by rw [List.length_append]; omega) (bnd L3 hLr3) (fun M4 F4 I4 => gX6_askAll_75 ?_))
          rw [nI_add]
          rw [← aSs_snoc] at I4
          refine ih3 hel M4 (L3 ++ [rwd (H.getD k []) y ++ T.getD e []]) (F3.tr F4) I4 (fun w hw => ?_) (fun k' y' e' hc hy' he' => ?_)
          · rcases List.mem_append.mp hw with g | g
            · exact hLr3 w g
            · rw [List.mem_singleton] at g; rw [g]; exact rwd_in hkl hyl hel
          · rw [aSs_snoc, aS_mem]
            by_cases q : k' < k ∨ k' = k ∧ (y' < y ∨ y' = y ∧ e' < e)
            · exact Or.inl (hdn3 k' y' e' q hy' he')
            · have q1 : k' = k ∧ y' = y ∧ e' = e := by omega
              obtain ⟨rfl, rfl, rfl⟩ := q1
              exact Or.inr rfl
      · by_cases q : k' < k ∨ k' = k ∧ y' < y
        · exact hdn2 k' y' e' q hy' he'
        · have q1 : k' = k ∧ y' = y := by omega
          obtain ⟨rfl, rfl⟩ := q1
          by_cases q2 : k' < fh
          · rw [if_pos q2] at hc
            rw [aSs_mem]
            exact Or.inl (hfl k' y' e' q2 hyl (by omega))
          · rw [if_neg q2] at hc; omega
theorem w_has {w : List Nat} (hd : 2 < d) (hi : AI z M r A st sp s) (hw : vw 4 w) (hl : w.length ≤ 30) (h1 : w ∈ s.1 → Q (some (.int (nI 1))) M) (h2 : w ∉ s.1 → Q (some (.int (nI 0))) M) : ClD d mdX10_has [.ref (r + 1), .long (lN (cd w))] M Q := by
  obtain ⟨-, ⟨-, ⟨a1, -⟩, k, T, a2, a3, a4⟩, -⟩ := hi
  exact w_X10_has hd a2 a3 a4 (cd_pos w) (cd30 hw hl) (fun c => h1 ((wf_in a1 hw).mp c)) (fun c => h2 (fun q => c ((wf_in a1 hw).mpr q)))
theorem w_X6_isAsked {k y e0 : Nat} (hd : 3 < d) (hi : TI z M b r A st sp s H T) (hk : k < H.length) (hy : y ≤ pl A) (he0 : e0 ≤ T.length) (hlen : ∀ h e, h ∈ H → e ∈ T → h.length + 1 + e.length ≤ 30) (h1 : (∀ e, e0 ≤ e → e < T.length → rwd (H.getD k []) y ++ T.getD e [] ∈ s.1) → Q (some (.int (nI 1))) M) (h2 : (∃ e, e < T.length ∧ rwd (H.getD k []) y ++ T.getD e [] ∉ s.1) → Q (some (.int (nI 0))) M) : ClD d mdX6_isAsked [.ref b, .long (lN (cd (rwd (H.getD k []) y))), .int (nI e0)] M Q := by
  obtain ⟨rk, r0, b0, hA, r7⟩ := hi.r0
  have l3 := hA.2.1.2
  have hL2 := hi.2.2.2.2.1.2
  have e2 : mR M b 2 = b + 3 := hi.1.1.2.1.2.2.1
  have n2 : mI M (b + 3) 0 = nI T.length := hi.2.2.1.2.1
  have hrow := rwd_ok (y := y) (hi.2.2.2.1.1.get hk).1 hy
  refine ⟨3, hd, Cl.of moX6_isAsked (Nat.le_of_ble_eq_true rfl) (gX6_isAsked_0 ?_)⟩
  refine upto T.length (fun e => (∀ e', e0 ≤ e' → e' < e → rwd (H.getD k []) y ++ T.getD e' [] ∈ s.1) → Wp 3 mdX6_isAsked 3 [(0, .ref b), (1, .long (lN (cd (rwd (H.getD k []) y)))), (4, .int (nI e))] [] M (fun r M' => ROK mdX6_isAsked r ∧ Q r M')) ?_ e0 he0 (fun _ h1 h2 => by omega)
  intro e he ih hdn
  refine gX6_isAsked_3 hi.1.1.1.2 (by rw [e2]; exact hi.1.1.2.2.2.1.1) (by rw [b0]; exact rk) (fun c => ⟨⟨_, rfl, by decide⟩, h1 ?_⟩) (fun c => ?_) <;> rw [e2, n2, nI_leI (by omega) (by omega)] at c
  · exact fun e' g1 g2 => hdn e' g1 (by omega)
  · have hel : e < T.length := by omega
    rw [e2, b0, hi.2.1.1.2.2.1]
    refine w_lget (cap := 128) (by decide) hi.1.1.2.2.2.1 hi.2.2.1.2 hL2 (by decide) hel ?_
    have hg := hi.2.2.2.1.2.get hel
    have hln := hlen _ _ (getD_mem hk) (getD_mem hel)
    have hrl := rwd_len (H.getD k []) y
    refine gX6_isAsked_32 (w_X1_join (by decide) (vw_mono hrow (by omega)) (vw_mono hg.1 (by omega)) (by omega) ?_)
    refine gX6_isAsked_35 hi.2.1.1.2.2.2 (w_has (by decide) hi.2.1 (vw_mono (vw_app.mpr ⟨hrow, hg.1⟩) (by omega)) (by rw [List.length_append]; omega) (fun hin => gX6_isAsked_38 (fun _ => ?_) (fun q => absurd q (by decide))) (fun hin => gX6_isAsked_38 (fun q => absurd rfl q) (fun _ => ⟨⟨_, rfl, by decide⟩, h2 ⟨e, hel, hin⟩⟩)))
    rw [nI_add]
    refine ih hel (fun e' g1 g2 => ?_)
    by_cases q : e' = e
    · subst q; exact hin
    · exact hdn e' g1 (by omega)
theorem w_X6_isFull {fh ft : Nat} (hd : 4 < d) (hi : TI z M b r A st sp s H T) (h7 : mI M b 7 = nI fh) (h8 : mI M b 8 = nI ft) (hfh : fh ≤ H.length) (hft : ft ≤ T.length) (hfl : ∀ k y e, k < fh → y ≤ pl A → e < ft → rwd (H.getD k []) y ++ T.getD e [] ∈ s.1) (hlen : ∀ h e, h ∈ H → e ∈ T → h.length + 1 + e.length ≤ 30) (h1 : (∀ w, w ∈ rwW (pl A) H T → w ∈ s.1) → Q (some (.int (nI 1))) M) (h2 : (¬ ∀ w, w ∈ rwW (pl A) H T → w ∈ s.1) → Q (some (.int (nI 0))) M) : ClD d mdX6_isFull [.ref b] M Q := by
  obtain ⟨rk, r0, b0, hA, r7⟩ := hi.r0
  have l3 := hA.2.1.2
  have hL1 := hi.2.2.2.2.1.1
  have hL2 := hi.2.2.2.2.1.2
  have e1 : mR M b 1 = b + 1 := hi.1.1.2.1.2.1
  have n1 : mI M (b + 1) 0 = nI H.length := hi.2.2.1.1.1
  have hm := hi.2.1.2.2.1
  have hA0 := hi.2.1.2.2.2.1
  refine ⟨4, hd, Cl.of moX6_isFull (Nat.le_of_ble_eq_true rfl) (gX6_isFull_0 ?_)⟩
  refine upto H.length (fun k => (∀ k' y' e', k' < k → y' ≤ pl A → e' < T.length → rwd (H.getD k' []) y' ++ T.getD e' [] ∈ s.1) → Wp 4 mdX6_isFull 2 [(0, .ref b), (1, .int (nI k))] [] M (fun r M' => ROK mdX6_isFull r ∧ Q r M')) ?_ 0 (Nat.zero_le _) (fun _ _ _ h => by omega)
  intro k hk ih hdn
  refine gX6_isFull_2 hi.1.1.1.2 (by rw [e1]; exact hi.1.1.2.2.1.1) (fun c => ⟨⟨_, rfl, by decide⟩, h1 ?_⟩) (fun c => ?_) <;> rw [e1, n1, nI_leI (by omega) (by omega)] at c
  · intro w hw
    obtain ⟨k', y', e', g1, g2, g3, rfl⟩ := rwd_of hw
    exact hdn k' y' e' (by omega) g2 g3
  · have hkl : k < H.length := by omega
    refine upto (pl A + 1) (fun y => (∀ y' e', y' < y → e' < T.length → rwd (H.getD k []) y' ++ T.getD e' [] ∈ s.1) → Wp 4 mdX6_isFull 15 [(0, .ref b), (1, .int (nI k)), (2, .int (eo (pY y)))] [] M (fun r M' => ROK mdX6_isFull r ∧ Q r M')) ?_ 0 (Nat.zero_le _) (fun _ _ h => by omega)
    intro y hy ih2 hdn2
    refine gX6_isFull_15 hi.1.1.1.2 (by rw [b0]; exact rk) (by rw [b0, r0]; exact hm.1.1) (fun c1 => ?_) (fun c1 => ?_) <;> rw [b0, r0, hA0.1.2, pY_le (by omega) (by omega)] at c1
    · rw [nI_add]
      refine ih hkl (fun k' y' e' hk' hy' he' => ?_)
      by_cases q : k' = k
      · subst q; exact hdn2 y' e' (by omega) he'
      · exact hdn k' y' e' (by omega) hy' he'
    · have hyl : y ≤ pl A := by omega
      refine w_X6_rowWord (by decide) hi hkl hyl (gX6_isFull_36 hi.1.1.1.2 (w_X6_firstUnfilled (by decide) hi.1.1.1.2 h7 h8 (by omega) (by omega) (gX6_isFull_41 hi.1.1.1.2 (w_X6_isAsked (by decide) hi hkl hyl (by split <;> omega) hlen (fun hin => gX6_isFull_44 (fun _ => ?_) (fun q => absurd q (by decide))) (fun hin => gX6_isFull_44 (fun q => absurd rfl q) (fun _ => ⟨⟨_, rfl, by decide⟩, h2 ?_⟩))))))
      · rw [pY_nx]
        refine ih2 (by omega) (fun y' e' hy' he' => ?_)
        by_cases q : y' = y
        · subst q
          by_cases q2 : k < fh
          · rw [if_pos q2] at hin
            by_cases q3 : ft ≤ e'
            · exact hin e' q3 he'
            · exact hfl k y' e' q2 hyl (by omega)
          · rw [if_neg q2] at hin; exact hin e' (Nat.zero_le _) he'
        · exact hdn2 y' e' (by omega) he'
      · obtain ⟨e, g1, g2⟩ := hin
        exact fun q => g2 (q _ (rwd_in hkl hyl g1))
end TabA
