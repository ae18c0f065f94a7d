/-! the class's Table: what it reads of its lines -/
def okV (A : PM) (L : List (List Nat)) : Prop := ∀ w, w ∈ L → vw (pl A) w ∧ w.length ≤ 30
theorem okV.get {A : PM} {L : List (List Nat)} (h : okV A L) {j : Nat} (hj : j < L.length) : vw (pl A) (L.getD j []) ∧ (L.getD j []).length ≤ 30 := by
  rw [List.getD, List.getElem?_eq_getElem hj]
  exact h _ (List.getElem_mem hj)
theorem okV.L {A : PM} {L : List (List Nat)} (hA : okM A) (h : okV A L) : okL L := fun w hw => ⟨vw_mono (h w hw).1 (by have := hA.2.1.2; omega), (h w hw).2⟩
theorem getD_mem {L : List (List Nat)} {j : Nat} (hj : j < L.length) : L.getD j [] ∈ L := by
  rw [List.getD, List.getElem?_eq_getElem hj]; exact List.getElem_mem hj
theorem mem_getD {L : List (List Nat)} {w : List Nat} (h : w ∈ L) : ∃ j, j < L.length ∧ L.getD j [] = w := by
  obtain ⟨j, hj, e⟩ := List.getElem_of_mem h
  exact ⟨j, hj, by rw [List.getD, List.getElem?_eq_getElem hj]; exact e⟩
def TI (z : Nat) (M : Mem) (b r : Nat) (A : PM) (st sp : Nat) (s : List (List Nat) × Nat) (H T : List (List Nat)) : Prop := TabSh M b r ∧ AI z M r A st sp s ∧ (LstAt M (b + 1) H ∧ LstAt M (b + 3) T) ∧ (okV A H ∧ okV A T) ∧ (H.length ≤ 128 ∧ T.length ≤ 128) ∧ b + 16 ≤ z ∧ r + 2 < b
/-- labels that a Table's lists and its Asking do not stand at -/
def tS (b : Nat) (S : List Nat) : Prop := ∀ p, p ∈ S → p = b ∨ (b + 5 ≤ p ∧ p < b + 16)
theorem TI.fm {z b r st sp : Nat} {A : PM} {s : List (List Nat) × Nat} {H T : List (List Nat)} {S : List Nat} {M M' : Mem} (h : Fm S M M') (hS : tS b S) (hi : TI z M b r A st sp s H T) : TI z M' b r A st sp s H T := by
  obtain ⟨a, c, ⟨e1, e2⟩, f, g, k, l⟩ := hi
  have q0 := c.2.2.2.2.2
  have ni : ∀ p, p < b ∨ (b < p ∧ p < b + 5) ∨ b + 16 ≤ p → p ∉ S := fun p hp q => by
    have := hS p q; omega
  refine ⟨a.fm h (by omega), c.fm h (ni _ (by omega)) (ni _ (by omega)) (ni _ (by omega)) (ni _ (by omega)) (ni _ (by omega)) (ni _ (by omega)), ⟨e1.fm h (by omega) (ni _ (by omega)) (ni _ (by omega)), e2.fm h (by omega) (ni _ (by omega)) (ni _ (by omega))⟩, f, g, k, l⟩
def LnsAt (M : Mem) (b : Nat) (A : PM) (T H : List (List Nat)) : Prop := ∃ (g : Nat → Nat) (f : Nat → Option Nat), (∀ s, s < 8 → mI M (b + 11) s = nI (g s)) ∧ (∀ s, s < 8 → isL (lk A T) s (g s)) ∧ (∀ h, h < H.length → mI M (b + 15) h = nI (en A H h)) ∧ ∀ s, s < 8 → mI M (b + 14) s = eo (f s) ∧ isF H.length (fun h => lk A T (en A H h) s) (f s)
theorem LnsAt.fm {S : List Nat} {M M' : Mem} {b : Nat} {A : PM} {T H : List (List Nat)} (h : Fm S M M') (hl : b + 15 < mC M + 2) (hs : LnsAt M b A T H) (h1 : b + 11 ∉ S) (h2 : b + 14 ∉ S) (h3 : b + 15 ∉ S) : LnsAt M' b A T H := by
  unfold LnsAt at hs ⊢
  rw [h.I (by omega) h1, h.I (by omega) h2, h.I (by omega) h3]; exact hs
theorem en_lt {A : PM} {H : List (List Nat)} (hA : okM A) (h : okV A H) {j : Nat} (hj : j < H.length) : en A H j < pn A := rn_lt hA hA.1.1 (h.get hj).1
section Table
variable {z d r b st sp : Nat} {Q : Option Value → Mem → Prop} {M : Mem} {A : PM} {s : List (List Nat) × Nat} {H T : List (List Nat)}
theorem take_snoc {L : List (List Nat)} {i : Nat} (hi : i < L.length) : L.take i ++ [L.getD i []] = L.take (i + 1) := by
  rw [List.take_add_one]
  simp [List.getD, List.getElem?_eq_getElem hi]
theorem TI.r0 (hi : TI z M b r A st sp s H T) : mK M r = 4 ∧ mR M r 0 = 3 ∧ mR M b 0 = r ∧ okM A ∧ 7 < r := ⟨hi.2.1.1.1, hi.2.1.1.2.1, hi.1.1.2.1.1, hi.2.1.2.2.2.2.1, hi.2.1.2.2.2.2.2.2.2.1⟩
theorem w_X6_findLines (hd : 4 < d) (hi : TI z M b r A st sp s H T) (h : ∀ M', Sm [b + 11, b + 12, b + 13, b + 14, b + 15] M M' → LnsAt M' b A T H → Q none M') : ClD d mdX6_findLines [.ref b] M Q := by
  obtain ⟨rk, r0, b0, hA, r7⟩ := hi.r0
  have a8 := hA.1.2
  have hs := hi.1
  have hs' := hs
  obtain ⟨a0, ⟨c1, c2, c3, c4, c5⟩, ⟨k1, n1⟩, ⟨k2, n2⟩, ⟨k3, n3⟩, ⟨k4, n4⟩, k5, n5⟩ := hs'
  have hb := hi.2.2.2.2.2.2
  have tSS : tS b [b + 11, b + 12, b + 13, b + 14, b + 15] := fun p hp => by simp at hp; omega
  have hL1 := hi.2.2.2.2.1.1
  have hL2 := hi.2.2.2.2.1.2
  refine ⟨4, hd, Cl.of moX6_findLines (Nat.le_of_ble_eq_true rfl) (gX6_findLines_0 a0.1.2 ?_)⟩
  rw [c1]
  refine w_fillI (by decide) k1 (by rw [n1]; decide) (fun M1 S1 hz => gX6_findLines_8 ?_)
  rw [n1] at hz
  refine upto T.length (fun i => ∀ M1 (g : Nat → Nat), Sm [b + 11, b + 12, b + 13, b + 14, b + 15] M M1 → (∀ s, s < 8 → mI M1 (b + 11) s = nI (g s)) → (∀ s, s < 8 → isL (lk A (T.take i)) s (g s)) → Wp 4 mdX6_findLines 10 [(0, .ref b), (1, .int (nI i))] [] M1 (fun r M' => ROK mdX6_findLines r ∧ Q r M')) ?_ 0 (Nat.zero_le _) M1 (fun _ => 0) (S1.mono (by simp)) (fun s hs => hz s hs) (fun s hs => ⟨Nat.zero_le _, fun e he => by simp at he, fun i hi => by omega⟩)
  intro i hi' ih M1 g S hg hL
  have hi1 := hi.fm S.fm tSS
  have hs1 := hi1.1
  have t0 : mI M1 (b + 3) 0 = nI T.length := hi1.2.2.1.2.1
  have e2 : mR M1 b 2 = b + 3 := hs1.1.2.1.2.2.1
  refine gX6_findLines_10 hs1.1.1.2 (by rw [e2]; exact hs1.1.2.2.2.1.1) (fun c => ?_) (fun c => ?_)
  · rw [e2, t0, nI_leI (by omega) (by omega)] at c
    have ei : i = T.length := by omega
    subst ei
    rw [List.take_length] at hL
    rw [hs1.2.1.2.2.2.1]
    have n4' : mN M1 (b + 14) = 8 := hs1.2.2.2.2.2.1.2
    refine w_fillI (by decide) hs1.2.2.2.2.2.1.1 (by rw [n4']; decide) (fun M2 S2 hf => gX6_findLines_47 ?_)
    rw [n4'] at hf
    have S02 := S.tr (S2.mono (T := [b + 11, b + 12, b + 13, b + 14, b + 15]) (by simp))
    refine upto H.length (fun j => ∀ M3 (f : Nat → Option Nat), Sm [b + 11, b + 12, b + 13, b + 14, b + 15] M M3 → (∀ s, s < 8 → mI M3 (b + 11) s = nI (g s)) → (∀ h, h < j → mI M3 (b + 15) h = nI (en A H h)) → (∀ s, s < 8 → mI M3 (b + 14) s = eo (f s) ∧ isF j (fun h => lk A T (en A H h) s) (f s)) → Wp 4 mdX6_findLines 49 [(0, .ref b), (1, .int (nI j))] [] M3 (fun r M' => ROK mdX6_findLines r ∧ Q r M')) ?_ 0 (Nat.zero_le _) M2 (fun _ => none) S02 (fun s hs => by rw [S2.I (by simp)]; exact hg s hs) (fun _ h => by omega) (fun s hs => ⟨hf s hs, fun j hj => by omega⟩)
    intro j hj ih2 M3 f S3 g3 e3 f3
    have hi3 := hi.fm S3.fm tSS
    have hs3 := hi3.1
    obtain ⟨rk3, r03, b03, -, -⟩ := hi3.r0
    have h0 : mI M3 (b + 1) 0 = nI H.length := hi3.2.2.1.1.1
    have e1 : mR M3 b 1 = b + 1 := hs3.1.2.1.2.1
    have e5 : mR M3 b 13 = b + 15 := hs3.2.1.2.2.2.2
    have n5' : mN M3 (b + 15) = 128 := hs3.2.2.2.2.2.2.2
    refine gX6_findLines_49 hs3.1.1.2 (by rw [e1]; exact hs3.1.2.2.1.1) (by rw [e5]; exact hs3.2.2.2.2.2.2.1) (by rw [b03]; exact rk3) (fun c => ⟨rfl, ?_⟩) (fun c c2 => ?_) (fun c c2 => ?_)
    · rw [e1, h0, nI_leI (by omega) (by omega)] at c
      have ej : j = H.length := by omega
      subst ej
      exact h M3 S3 ⟨g, f, g3, hL, e3, f3⟩
    · exfalso; rw [e5, n5', nI_leI (by omega) (by omega)] at c2
      exact c (by rw [e1, h0]; exact nI_le (by omega) (by omega))
    · have hjl : j < H.length := Nat.lt_of_not_le fun q => c (by rw [e1, h0]; exact nI_le q (by omega))
      rw [e1, b03, r03, e5]
      refine w_lget (cap := 128) (by decide) hs3.1.2.2.1 hi3.2.2.1.1 hL1 (by decide) hjl ?_
      have hw := hi3.2.2.2.1.1.get hjl
      have hA3 := hi3.2.1.2.2.2.1
      have hm3 := hi3.2.1.2.2.1
      refine gX6_findLines_90 hm3.1.1 (w_X2_endFrom (s := some 0) (by decide) hm3 hA3 hA.bd (fun j e => by cases e; decide) (vw_mono hw.1 (by have := hA.2.1.2; omega)) hw.2 ?_)
      rw [rnO_ok hA hA.1.1 hw.1]
      have hen := en_lt hA hi3.2.2.2.1.1 hjl
      have hst : (some (rn (pt A) 0 (H.getD j []))) = some (en A H j) := rfl
      rw [hst]
      show Wp 4 mdX6_findLines 93 _ [.int (nI (en A H j)), .int (nI j), .ref (b + 15)] _ _
      have S4 : Sm [b + 11, b + 12, b + 13, b + 14, b + 15] M (sI M3 (b + 15) j (nI (en A H j))) := S3.tr (Sm.sI (by simp) _ _ _)
      have hi4 := hi.fm S4.fm tSS
      have e54 : mR (sI M3 (b + 15) j (nI (en A H j))) b 13 = b + 15 := e5
      refine gX6_findLines_93 hs3.2.2.2.2.2.2.1 hs3.1.1.2 ?_ ?_ ?_ ?_
      · rw [nI_clamp (by omega), e54]; exact hs3.2.2.2.2.2.2.1
      · rw [n5']; exact z_in (by omega) (by omega)
      · rw [nI_clamp (by omega), e54]
        show vp_in _ (mN M3 (b + 15))
        rw [n5']; exact z_in (by omega) (by omega)
      · rw [nI_clamp (by omega), e54, rI_at]
        have g4 : ∀ s, s < 8 → mI (sI M3 (b + 15) j (nI (en A H j))) (b + 11) s = nI (g s) := fun s hs => by rw [rI_np (by omega)]; exact g3 s hs
        refine w_X6_lineOf (by decide) hi4.1 (by omega) ?_
        rw [g4 _ (by omega)]
        have gg8 : ∀ s, s < 8 → g s < 8 := fun s hs => by have := (hL s hs).1; omega
        have fb : ∀ s k, (if s < 8 then f s else none) = some k → k < 128 := by
          intro s k hk
          by_cases h8 : s < 8
          · rw [if_pos h8] at hk
            have := (f3 s h8).2
            rw [hk] at this
            have := this.1; omega
          · rw [if_neg h8] at hk; cases hk
        refine gX6_findLines_105 hi4.1.1.1.2 (w_X6_setFirstHead (f := fun s => if s < 8 then f s else none) (by decide) hi4.1 (gg8 _ (by omega)) (by omega) g4 gg8 fb (fun s hs => by rw [rI_np (by omega), if_pos hs]; exact (f3 s hs).1) (fun M5 f' S5 f5 f6 => gX6_findLines_109 ?_))
        rw [nI_add]
        refine ih2 hjl M5 f' (S4.tr (S5.mono (by simp))) (fun s hs => by rw [S5.I (by simp)]; exact g4 s hs) (fun h hh => ?_) (fun s hs => ⟨f5 s hs, ?_⟩)
        · rw [S5.I (by simp)]
          by_cases eh : h = j
          · subst eh; exact rI_at _ _ _ _
          · rw [rI_nk eh]; exact e3 h (by omega)
        · have k1 := f6 s hs
          rw [if_pos hs] at k1
          have k2 := (f3 s hs).2
          have k3 := isF_snoc k2
          have heq : g s = g (en A H j) ↔ lk A T (en A H j) s := (isLe (lk_eqv A T) (hL s hs) (hL _ (by omega))).trans ⟨fun q => (lk_eqv A T).2.1 _ _ q, fun q => (lk_eqv A T).2.1 _ _ q⟩
          cases hfs : f s with
          | some k =>
            rw [k1.2 (fun q => by rw [hfs] at q; cases q.2)]
            exact k3.2.2 k hfs
          | none =>
            by_cases hp : lk A T (en A H j) s
            · rw [k1.1 ⟨heq.mpr hp, hfs⟩]; exact k3.1 hfs hp
            · rw [k1.2 (fun q => hp (heq.mp q.1)), hfs]; exact k3.2.1 hfs hp
  · have hlt : i < T.length := Nat.lt_of_not_le fun q => c (by rw [e2, t0]; exact nI_le q (by omega))
    rw [e2]
    refine w_lget (cap := 128) (by decide) hs1.1.2.2.2.1 hi1.2.2.1.2 hL2 (by decide) hlt ?_
    obtain ⟨rk1, r01, b01, -, -⟩ := hi1.r0
    have hw := hi1.2.2.2.1.2.get hlt
    refine gX6_findLines_30 hs1.1.1.2 (w_X6_splitLines (by decide) hs1 rk1 r01 (by omega) hi1.2.1.2.2.1 hi1.2.1.2.2.2.1 hA (vw_mono hw.1 (by have := hA.2.1.2; omega)) hw.2 hg hL (fun M2 g' S2 g2 L2 => gX6_findLines_33 ?_))
    rw [nI_add]
    rw [take_snoc hlt] at L2
    exact ih hlt M2 g' (S.tr (S2.mono (by simp))) g2 L2
def lkH (A : PM) (T H : List (List Nat)) (i j : Nat) : Prop := lk A T (en A H i) (en A H j)
/-- the first head with the line of a head and a letter -/
def hbF (A : PM) (T H : List (List Nat)) (h x : Nat) (o : Option Nat) : Prop := isF H.length (fun k => lk A T (en A H k) (pt A (en A H h) x)) o
theorem isF_b {n : Nat} {P : Nat → Prop} {o : Option Nat} (h : isF n P o) (hn : n ≤ 128) : ∀ j, o = some j → j < 128 := fun j e => by
  subst e
  have := h.1
  omega
theorem w_X6_headBehind {k x : Nat} (hd : 2 < d) (hi : TI z M b r A st sp s H T) (hL : LnsAt M b A T H) (hk : k < H.length) (hx : x < pl A) (h : ∀ o, hbF A T H k x o → Q (some (.int (eo o))) M) : ClD d mdX6_headBehind [.ref b, .int (nI k), .int (nI x)] M Q := by
  obtain ⟨rk, r0, b0, hA, r7⟩ := hi.r0
  obtain ⟨g, f, g1, g2, g3, g4⟩ := hL
  have a8 := hA.1.2
  have hen := en_lt hA hi.2.2.2.1.1 hk
  have hx3 := hA.2.1.2
  have hL1 := hi.2.2.2.2.1.1
  have ht := hA.2.2.2 _ hen x hx
  refine ⟨2, hd, Cl.of moX6_headBehind (Nat.le_of_ble_eq_true rfl) (gX6_headBehind_0 hi.1.1.1.2 (by rw [b0]; exact rk) (w_X6_endOf (by decide) hi.1 (by omega) ?_))⟩
  rw [b0, r0, g3 k hk]
  refine gX6_headBehind_13 hi.2.1.2.2.1.1.1 (w_nextO (s := some (en A H k)) (by decide) hi.2.1.2.2.1 hi.2.1.2.2.2.1 hA.bd (fun j e => by cases e; omega) (by omega) ?_)
  rw [show nx A (some (en A H k)) x = some (pt A (en A H k) x) from if_pos ⟨hen, hx⟩]
  refine gX6_headBehind_17 hi.1.1.1.2 (w_X6_headLike (by decide) hi.1 (by omega) ?_)
  rw [(g4 _ (by omega)).1]
  exact gX6_headBehind_20 ⟨⟨_, rfl⟩, h _ (g4 _ (by omega)).2⟩
theorem w_X6_isFirstOfLine {k : Nat} (hd : 2 < d) (hi : TI z M b r A st sp s H T) (hL : LnsAt M b A T H) (hk : k < H.length) (h1 : (¬ ∃ t, t < k ∧ lkH A T H t k) → Q (some (.int (nI 1))) M) (h2 : (∃ t, t < k ∧ lkH A T H t k) → Q (some (.int (nI 0))) M) : ClD d mdX6_isFirstOfLine [.ref b, .int (nI k)] M Q := by
  obtain ⟨rk, r0, b0, hA, r7⟩ := hi.r0
  obtain ⟨g, f, g1, g2, g3, g4⟩ := hL
  have a8 := hA.1.2
  have hen := en_lt hA hi.2.2.2.1.1 hk
  have hL1 := hi.2.2.2.2.1.1
  refine ⟨2, hd, Cl.of moX6_isFirstOfLine (Nat.le_of_ble_eq_true rfl) (gX6_isFirstOfLine_0 hi.1.1.1.2 (w_X6_endOf (by decide) hi.1 (by omega) ?_))⟩
  rw [g3 k hk]
  refine gX6_isFirstOfLine_6 hi.1.1.1.2 (w_X6_headLike (by decide) hi.1 (by omega) ?_)
  obtain ⟨q1, q2⟩ := g4 _ (show en A H k < 8 by omega)
  rw [q1]
  have q3 : eo (f (en A H k)) = nI k ↔ f (en A H k) = some k := eo_inj (y := some k) (fun j e => by have := isF_b q2 hL1 j e; omega) (fun j e => by cases e; omega)
  refine gX6_isFirstOfLine_9 (fun c => ⟨⟨_, rfl, by decide⟩, h2 ?_⟩) (fun c => ⟨⟨_, rfl, by decide⟩, h1 ?_⟩)
  · refine Classical.byContradiction fun hno => c (q3.mpr ?_)
    refine isF_un q2 ⟨hk, (lk_eqv A T).1 _, fun j hj q => hno ⟨j, hj, q⟩⟩
  · rw [q3.mp c] at q2
    rintro ⟨t, t1, t2⟩
    exact q2.2.2 t t1 t2
theorem w_X6_unlikeLines (hd : 3 < d) (hi : TI z M b r A st sp s H T) (hL : LnsAt M b A T H) (h : Q (some (.int (nI (cR (lkH A T H) H.length)))) M) : ClD d mdX6_unlikeLines [.ref b] M Q := by
  have hL1 := hi.2.2.2.2.1.1
  refine ⟨3, hd, Cl.of moX6_unlikeLines (Nat.le_of_ble_eq_true rfl) (gX6_unlikeLines_0 ?_)⟩
  refine upto H.length (fun k => Wp 3 mdX6_unlikeLines 4 [(0, .ref b), (1, .int (nI (cR (lkH A T H) k))), (2, .int (nI k))] [] M (fun r M' => ROK mdX6_unlikeLines r ∧ Q r M')) ?_ 0 (Nat.zero_le _)
  intro k hk ih
  have h0 : mI M (b + 1) 0 = nI H.length := hi.2.2.1.1.1
  have e1 : mR M b 1 = b + 1 := hi.1.1.2.1.2.1
  refine gX6_unlikeLines_4 hi.1.1.1.2 (by rw [e1]; exact hi.1.1.2.2.1.1) (fun c => ⟨⟨_, rfl⟩, ?_⟩) (fun c => ?_)
  · rw [e1, h0, nI_leI (by omega) (by omega)] at c
    have : k = H.length := by omega
    subst this; exact h
  · have hkl : k < H.length := Nat.lt_of_not_le fun q => c (by rw [e1, h0]; exact nI_le q (by omega))
    refine w_X6_isFirstOfLine (by decide) hi hL hkl (fun hn => gX6_unlikeLines_20 (fun c => absurd c (by decide)) (fun _ => ?_)) (fun hn => gX6_unlikeLines_20 (fun _ => ?_) (fun c => absurd rfl c))
    · rw [nI_add, nI_add, ← cR_no hn]; exact ih hkl
    · rw [nI_add, ← cR_yes hn]; exact ih hkl
end Table
