/-! the class's Table: the guess, settle, beginnings and ends -/
theorem TI.addH {z b r st sp : Nat} {M : Mem} {A : PM} {s : List (List Nat) × Nat} {H T : List (List Nat)} {w : List Nat} (hi : TI z M b r A st sp s H T) (hl : H.length < 128) (hw : vw (pl A) w ∧ w.length ≤ 30) : TI z (lAdd M (b + 1) H.length w) b r A st sp s (H ++ [w]) T := by
  obtain ⟨a, c, ⟨e1, e2⟩, f, g, k, l⟩ := hi
  have q0 := c.2.2.2.2.2
  have S : Sm [b + 1, b + 2] M (lAdd M (b + 1) H.length w) := Sm.lAdd (by simp) (by simp) _ _ _
  have ni : ∀ p, p < b ∨ b + 2 < p → p ∉ [b + 1, b + 2] := fun p hp q => by simp at q; omega
  refine ⟨a.sm S, c.fm S.fm (ni _ (by omega)) (ni _ (by omega)) (fun q => ?_) (ni _ (by omega)) (ni _ (by omega)) (ni _ (by omega)), ⟨e1.add w, e2.sm S (ni _ (by omega)) (ni _ (by omega))⟩, ⟨fun v hv => ?_, f.2⟩, ⟨by rw [List.length_append, List.length_singleton]; omega, g.2⟩, k, l⟩
  · simp at q; omega
  · rcases List.mem_append.mp hv with h | h
    · exact f.1 v h
    · rw [List.mem_singleton] at h; rw [h]; exact hw
theorem TI.addT {z b r st sp : Nat} {M : Mem} {A : PM} {s : List (List Nat) × Nat} {H T : List (List Nat)} {w : List Nat} (hi : TI z M b r A st sp s H T) (hl : T.length < 128) (hw : vw (pl A) w ∧ w.length ≤ 30) : TI z (lAdd M (b + 3) T.length w) b r A st sp s H (T ++ [w]) := by
  obtain ⟨a, c, ⟨e1, e2⟩, f, g, k, l⟩ := hi
  have q0 := c.2.2.2.2.2
  have S : Sm [b + 3, b + 4] M (lAdd M (b + 3) T.length w) := Sm.lAdd (by simp) (by simp) _ _ _
  have ni : ∀ p, p < b + 3 ∨ b + 4 < p → p ∉ [b + 3, b + 4] := fun p hp q => by simp at q; omega
  refine ⟨a.sm S, c.fm S.fm (ni _ (by omega)) (ni _ (by omega)) (fun q => ?_) (ni _ (by omega)) (ni _ (by omega)) (ni _ (by omega)), ⟨e1.sm S (ni _ (by omega)) (ni _ (by omega)), e2.add w⟩, ⟨f.1, fun v hv => ?_⟩, ⟨g.1, by rw [List.length_append, List.length_singleton]; omega⟩, k, l⟩
  · simp at q; omega
  · rcases List.mem_append.mp hv with h | h
    · exact f.2 v h
    · rw [List.mem_singleton] at h; rw [h]; exact hw
/-- beginnings of a word, the shortest first, that are not there -/
def nB (L : List (List Nat)) (w : List Nat) : Nat → List (List Nat)
  | 0 => L
  | n + 1 => if w.take n ∈ nB L w n then nB L w n else nB L w n ++ [w.take n]
/-- ends of a word, the shortest first, that are not there -/
def nE (L : List (List Nat)) (w : List Nat) : Nat → List (List Nat)
  | 0 => L
  | n + 1 => if w.drop (w.length - n) ∈ nE L w n then nE L w n else nE L w n ++ [w.drop (w.length - n)]
theorem nB_len1 (L : List (List Nat)) (w : List Nat) (n : Nat) : (nB L w n).length ≤ (nB L w (n + 1)).length := by
  show _ ≤ (if w.take n ∈ nB L w n then nB L w n else nB L w n ++ [w.take n]).length
  split
  · exact Nat.le_refl _
  · simp
theorem nE_len1 (L : List (List Nat)) (w : List Nat) (n : Nat) : (nE L w n).length ≤ (nE L w (n + 1)).length := by
  show _ ≤ (if w.drop (w.length - n) ∈ nE L w n then nE L w n else nE L w n ++ [w.drop (w.length - n)]).length
  split
  · exact Nat.le_refl _
  · simp
theorem nB_mono (L : List (List Nat)) (w : List Nat) : ∀ {n m}, n ≤ m → (nB L w n).length ≤ (nB L w m).length
  | n, 0, h => by rw [show n = 0 by omega]; exact Nat.le_refl _
  | n, m + 1, h => by
    by_cases e : n = m + 1
    · rw [e]; exact Nat.le_refl _
    · exact Nat.le_trans (nB_mono L w (n := n) (m := m) (by omega)) (nB_len1 L w m)
theorem nE_mono (L : List (List Nat)) (w : List Nat) : ∀ {n m}, n ≤ m → (nE L w n).length ≤ (nE L w m).length
  | n, 0, h => by rw [show n = 0 by omega]; exact Nat.le_refl _
  | n, m + 1, h => by
    by_cases e : n = m + 1
    · rw [e]; exact Nat.le_refl _
    · exact Nat.le_trans (nE_mono L w (n := n) (m := m) (by omega)) (nE_len1 L w m)
section TabC
variable {z d r b st sp : Nat} {Q : Option Value → Mem → Prop} {M : Mem} {A : PM} {s : List (List Nat) × Nat} {H T : List (List Nat)}
theorem w_X6_joinStates (hd : 3 < d) (hi : TI z M b r A st sp s H T) (hL : LnsAt M b A T H) (h5 : LstAt M (b + 5) []) (hcl : isF (H.length * pl A) (opn A H T) none)
    (h : ∀ M', Sm [b + 5, b + 6, b + 9] M M' → LstAt M' (b + 5) (aT A H T) → (∀ s x, s < (aT A H T).length → x < pl A → mI M' (b + 9) (s * 3 + x) = nI (pt (gT A H T) s x)) → Q none M') : ClD d mdX6_joinStates [.ref b] M Q := by
  obtain ⟨rk, r0, b0, hA, r7⟩ := hi.r0
  have l3 := hA.2.1.2
  have hL1 := hi.2.2.2.2.1.1
  have hz := hi.2.2.2.2.2.1
  have hzz := hi.2.1.2.2.2.2.2.2.1
  have tSS : tS b [b + 5, b + 6, b + 9] := fun p hp => by simp at hp; omega
  have ni : ∀ p, p ≠ b + 5 → p ≠ b + 6 → p ≠ b + 9 → p ∉ [b + 5, b + 6, b + 9] := fun p g1 g2 g3 q => by simp at q; omega
  have tI : ∀ {M1}, Sm [b + 5, b + 6, b + 9] M M1 → TI z M1 b r A st sp s H T ∧ LnsAt M1 b A T H := fun S => ⟨hi.fm S.fm tSS, hL.fm S.fm (by omega) (ni _ (by omega) (by omega) (by omega)) (ni _ (by omega) (by omega) (by omega)) (ni _ (by omega) (by omega) (by omega))⟩
  have a8 : ∀ n, n ≤ H.length → (aC A H T n).length ≤ 8 := fun n hn => aT_len8 hA hi.2.2.2.1.1 hn
  have aH8 : (aT A H T).length ≤ 8 := a8 _ (Nat.le_refl _)
  refine ⟨3, hd, Cl.of moX6_joinStates (Nat.le_of_ble_eq_true rfl) (gX6_joinStates_0 ?_)⟩
  refine upto H.length (fun k => ∀ M1, Sm [b + 5, b + 6, b + 9] M M1 → LstAt M1 (b + 5) (aC A H T k) → Wp 3 mdX6_joinStates 2 [(0, .ref b), (1, .int (nI k))] [] M1 (fun r M' => ROK mdX6_joinStates r ∧ Q r M')) ?_ 0 (Nat.zero_le _) M (Sm.rf _ _) h5
  intro k hk ih M1 S hl5
  obtain ⟨hi1, hLn1⟩ := tI S
  have e1 : mR M1 b 1 = b + 1 := hi1.1.1.2.1.2.1
  have e3 : mR M1 b 3 = b + 5 := hi1.1.1.2.1.2.2.2.1
  have n1 : mI M1 (b + 1) 0 = nI H.length := hi1.2.2.1.1.1
  have k8 := hi1.1.1.1.2
  have sh5 := hi1.1.1.2.2.2.2.1
  refine gX6_joinStates_2 k8 (by rw [e1]; exact hi1.1.1.2.2.1.1) (fun c => ?_) (fun c => ?_) <;> rw [e1, n1, nI_leI (by omega) (by omega)] at c
  · have ek : k = H.length := by omega
    subst ek
    refine upto H.length (fun k => ∀ M1, Sm [b + 5, b + 6, b + 9] M M1 → LstAt M1 (b + 5) (aT A H T) → (∀ s x, s < (aT A H T).length → x < pl A → (∃ j, j < k ∧ H.getD j [] = (aT A H T).getD s []) → mI M1 (b + 9) (s * 3 + x) = nI (pt (gT A H T) s x)) → Wp 3 mdX6_joinStates 44 [(0, .ref b), (1, .int (nI k))] [] M1 (fun r M' => ROK mdX6_joinStates r ∧ Q r M')) ?_ 0 (Nat.zero_le _) M1 S hl5 (fun _ _ _ _ ⟨j, hj, _⟩ => by omega)
    intro k hk ih2 M2 S2 hl2 hdn
    obtain ⟨hi2, hLn2⟩ := tI S2
    have e1 : mR M2 b 1 = b + 1 := hi2.1.1.2.1.2.1
    have e3 : mR M2 b 3 = b + 5 := hi2.1.1.2.1.2.2.2.1
    have n1 : mI M2 (b + 1) 0 = nI H.length := hi2.2.2.1.1.1
    have sh5 := hi2.1.1.2.2.2.2.1
    refine gX6_joinStates_44 hi2.1.1.1.2 (by rw [e1]; exact hi2.1.1.2.2.1.1) (fun c => ⟨rfl, ?_⟩) (fun c => ?_) <;> rw [e1, n1, nI_leI (by omega) (by omega)] at c
    · have ek : k = H.length := by omega
      subst ek
      refine h M2 S2 hl2 (fun s x hs hx => hdn s x hs hx ?_)
      obtain ⟨k, k1, k2, -⟩ := aC_at hs
      exact ⟨k, k1, k2.symm⟩
    · have hkl : k < H.length := by omega
      rw [e1, e3]
      have hw := hi.2.2.2.1.1.get hkl
      have hok : okL (aT A H T) := okV.L hA (okV.aT hi.2.2.2.1.1 (Nat.le_refl _))
      refine w_lget (cap := 128) (by decide) hi2.1.1.2.2.1 hi2.2.2.1.1 hL1 (by decide) hkl (gX6_joinStates_67 sh5.1 ?_)
      refine w_X9_indexOf (cap := 8) (by decide) sh5 hl2 aH8 (by decide) hok (vw_mono hw.1 (by omega)) hw.2 (fun j hj ej _ => gX6_joinStates_70 ?_) (fun hno => gX6_joinStates_70 ?_)
      · have enj : en A (aT A H T) j = en A H k := by unfold en; rw [ej]
        refine upto (pl A) (fun x => ∀ M1, Sm [b + 5, b + 6, b + 9] M M1 → LstAt M1 (b + 5) (aT A H T) → (∀ s x', s < (aT A H T).length → x' < pl A → (∃ j, j < k ∧ H.getD j [] = (aT A H T).getD s []) ∨ (s = j ∧ x' < x) → mI M1 (b + 9) (s * 3 + x') = nI (pt (gT A H T) s x')) → Wp 3 mdX6_joinStates 73 [(0, .ref b), (1, .int (nI k)), (2, .int (nI j)), (3, .int (nI x))] [] M1 (fun r M' => ROK mdX6_joinStates r ∧ Q r M')) ?_ 0 (Nat.zero_le _) M2 S2 hl2 (fun s x' hs hx' hc => hdn s x' hs hx' (hc.elim id (fun q => by omega)))
        intro x hx ih3 M3 S3 hl3 hdn3
        obtain ⟨hi3, hLn3⟩ := tI S3
        obtain ⟨rk3, r03, b03, -, -⟩ := hi3.r0
        have hm3 := hi3.2.1.2.2.1
        have hA3 := hi3.2.1.2.2.2.1
        have e1 : mR M3 b 1 = b + 1 := hi3.1.1.2.1.2.1
        have e3 : mR M3 b 3 = b + 5 := hi3.1.1.2.1.2.2.2.1
        have e4 : mR M3 b 4 = b + 7 := hi3.1.1.2.1.2.2.2.2
        have sh5 := hi3.1.1.2.2.2.2.1
        have mg3 := hi3.1.1.2.2.2.2.2
        refine gX6_joinStates_73 hi3.1.1.1.2 (by rw [b03]; exact rk3) (by rw [b03, r03]; exact hm3.1.1) (fun c1 => ?_) (fun c1 c2 => ?_) (fun c1 c2 => ?_) <;> rw [b03, r03, hA3.1.2, nI_leI (by omega) (by omega)] at c1
        · have ex : x = pl A := by omega
          subst ex
          rw [nI_add]
          refine ih2 hkl M3 S3 hl3 (fun s x' hs hx' ⟨i, hi', ei⟩ => hdn3 s x' hs hx' ?_)
          by_cases q : i = k
          · subst q
            refine Or.inr ⟨?_, hx'⟩
            refine aT_un hs hj ?_
            have : en A (aT A H T) s = en A (aT A H T) j := by unfold en; rw [← ei, ej]
            rw [this]; exact (lk_eqv A T).1 _
          · exact Or.inl ⟨i, by omega, ei⟩
        · exact absurd z_m1 (by rw [← c2]; exact nI_pos (by omega))
        · have hxl : x < pl A := by omega
          rw [e1, e3, e4]
          refine w_X6_headBehind (by decide) hi3 hLn3 hkl hxl (fun o ho => ?_)
          cases o with
          | none => exact absurd ((hbF_no hxl ho).mp rfl) (hcl _ (ix_lt hkl hxl))
          | some k2 =>
            obtain ⟨p1, p2, p3⟩ := ho
            obtain ⟨q1, q2⟩ := aC_of (A := A) (T := T) (n := H.length) (k := k2) p1 (fun ⟨t, t1, t2⟩ => p3 t t1 ((lk_eqv A T).2.2 _ _ _ t2 p2))
            have hw2 := hi.2.2.2.1.1.get p1
            refine gX6_joinStates_112 hi3.1.1.2.2.1.1 ?_
            show ClD 3 mdX9_get [.ref (b + 1), .int (nI k2)] _ _
            refine w_lget (cap := 128) (by decide) hi3.1.1.2.2.1 hi3.2.2.1.1 hL1 (by decide) p1 (gX6_joinStates_115 sh5.1 ?_)
            refine w_X9_indexOf (cap := 8) (by decide) sh5 hl3 aH8 (by decide) hok (vw_mono hw2.1 (by omega)) hw2.2 (fun j2 hj2 ej2 _ => gX6_joinStates_118 mg3.1.1 ?_) (fun hno => absurd q2 (hno _ q1))
            have hgt : pt (gT A H T) j x = j2 := by
              refine gT_t hj2 ?_
              have : en A (aT A H T) j2 = en A H k2 := by unfold en; rw [ej2]
              rw [this, enj]; exact p2
            refine w_X2_setNext (r := b + 7) (by decide) mg3 (by omega) (by omega) (gX6_joinStates_121 ?_)
            rw [nI_add]
            refine ih3 hxl _ (S3.tr (Sm.sI (by simp) _ _ _)) (hl3.sm (S := [b + 9]) (Sm.sI (by simp) _ _ _) (by simp) (by simp)) (fun s x' hs hx' hc => ?_)
            by_cases q : s = j ∧ x' = x
            · obtain ⟨rfl, rfl⟩ := q
              rw [hgt]; exact rI_at _ _ _ _
            · rw [rI_nk (by omega)]
              refine hdn3 s x' hs hx' (hc.imp id (fun g => ⟨g.1, ?_⟩))
              have : ¬ x' = x := fun e => q ⟨g.1, e⟩
              omega
      · have hbk : ∀ j, H.getD k [] ≠ (aT A H T).getD j [] ∨ (aT A H T).length ≤ j := fun j => by
          by_cases q : j < (aT A H T).length
          · exact Or.inl (fun e => hno j q e.symm)
          · exact Or.inr (by omega)
        have nxt : Wp 3 mdX6_joinStates 44 [(0, .ref b), (1, .int (nI k + nI 1))] [] M2 (fun r M' => ROK mdX6_joinStates r ∧ Q r M') := by
          rw [nI_add]
          refine ih2 hkl M2 S2 hl2 (fun s x' hs hx' ⟨i, hi', ei⟩ => hdn s x' hs hx' ?_)
          by_cases q : i = k
          · subst q
            rcases hbk s with g | g
            · exact absurd ei g
            · omega
          · exact ⟨i, by omega, ei⟩
        obtain ⟨rk3, r03, b03, -, -⟩ := hi2.r0
        have hm3 := hi2.2.1.2.2.1
        exact gX6_joinStates_73 hi2.1.1.1.2 (by rw [b03]; exact rk3) (by rw [b03, r03]; exact hm3.1.1) (fun _ => nxt) (fun _ _ => nxt) (fun _ c2 => absurd rfl c2)
  · have hkl : k < H.length := by omega
    refine w_X6_isFirstOfLine (by decide) hi1 hLn1 hkl (fun hn => gX6_joinStates_18 k8 (by rw [e1]; exact hi1.1.1.2.2.1.1) (fun c => absurd c (by decide)) (fun _ => ?_)) (fun hn => gX6_joinStates_18 k8 (by rw [e1]; exact hi1.1.1.2.2.1.1) (fun _ => gX6_joinStates_36 ?_) (fun c => absurd rfl c))
    · rw [e1, e3]
      have h8 := a8 (k + 1) (by omega)
      have e9 := aC_no hn
      rw [e9, List.length_append, List.length_singleton] at h8
      refine w_lget (cap := 128) (by decide) hi1.1.1.2.2.1 hi1.2.2.1.1 hL1 (by decide) hkl (gX6_joinStates_33 sh5.1 (w_X9_add (cap := 8) (by decide) sh5 hl5 (by omega) (by decide) (gX6_joinStates_36 ?_)))
      rw [nI_add]
      refine ih hkl _ (S.tr (Sm.lAdd (by simp) (by simp) _ _ _)) ?_
      rw [e9]; exact hl5.add _
    · rw [nI_add]
      refine ih hkl M1 S ?_
      rw [aC_yes hn]; exact hl5
theorem w_X3_settle {cn : Nat} {L : List (List Nat)} {G : PM} (hd : 4 < d) (hbl : b + 11 ≤ z) (hbr : r + 2 < b) (hs : NotSh M b r cn) (hi : AI z M r A st sp s) (h5 : LstAt M (b + 5) L) (hL8 : L.length ≤ 8) (hLv : okV A L) (hLs : ∀ w, w ∈ L → w ∈ s.1) (hn8 : s.1.length < 8192) (hG : okM G) (hGn : pn G = L.length) (hGl : pl G = pl A) (hGo : ∀ j, j < L.length → po G j = an A 0 (L.getD j [])) (hGt : ∀ j x, j < L.length → x < pl A → mI M (b + 9) (j * 3 + x) = nI (pt G j x))
    (h : ∀ M', Fa r [r, r + 1, b + 7, b + 8] M M' → AI z M' r A st sp s → GueAt M' b (some (L, G)) → Q none M') : ClD d mdX3_settle [.ref b] M Q := by
  have hA := hi.2.2.2.2.1
  have l3 := hA.2.1.2
  have q0 := hi.2.2.2.2.2
  have hs0 := hs
  obtain ⟨⟨n1, a1⟩, ⟨b0, b1, b2, b3, b4⟩, c1, c2, c3, c4⟩ := hs
  refine ⟨4, hd, Cl.of moX3_settle (Nat.le_of_ble_eq_true rfl) (gX3_settle_0 n1 a1 (by rw [b3]; exact c3.1) (by rw [b0]; exact hi.1.1) (by rw [b0, hi.1.2.1]; exact hi.2.2.1.1.1) (by rw [b4]; exact c4.1.1) ?_)⟩
  rw [b3, b4, b0, hi.1.2.1, h5.1, hi.2.2.2.1.1.2]
  refine w_X2_shape (by decide) c4 (gX3_settle_24 ?_)
  have S0 : Sm [b + 7] M (sI (sI M (b + 7) 0 (nI L.length)) (b + 7) 1 (nI (pl A))) := (Sm.sI (by simp) _ _ _).tr (Sm.sI (by simp) _ _ _)
  have nin : ∀ p, p < z → p ≠ r + 2 → p ≠ r → p ≠ r + 1 → p ≠ b + 7 → p ≠ b + 8 → p ∉ slq M r :: [r, r + 1, b + 7, b + 8] := fun p g1 g2 g3 g4 g5 g6 => nq q0.1 g1 g2 (fun q => by simp at q; omega)
  refine upto L.length (fun j => ∀ M1, Fa r [r, r + 1, b + 7, b + 8] M M1 → AI z M1 r A st sp s → (mI M1 (b + 7) 0 = nI L.length ∧ mI M1 (b + 7) 1 = nI (pl A)) → (∀ i, i < j → mI M1 (b + 8) i = nI (po G i)) → Wp 4 mdX3_settle 26 [(0, .ref b), (1, .int (nI j))] [] M1 (fun r M' => ROK mdX3_settle r ∧ Q r M')) ?_ 0 (Nat.zero_le _) _ ((S0.mono (fun p hp => by simp at hp; simp [hp])).fa) (hi.fm S0.fm (by simp <;> omega) (by simp <;> omega) (by simp <;> omega) (by simp <;> omega) (by simp <;> omega) (by simp <;> omega)) ⟨by rw [rI_nk (by decide)]; exact rI_at _ _ _ _, rI_at _ _ _ _⟩ (fun _ h => by omega)
  intro j hj ih M1 F I hsh hout
  have hs1 := hs0.fm F.1 (by omega)
  obtain ⟨⟨n1', a1'⟩, ⟨b0', b1', b2', b3', b4'⟩, c1', c2', c3', c4'⟩ := hs1
  have l5 : LstAt M1 (b + 5) L := h5.fm F.1 (by omega) (nin _ (by omega) (by omega) (by omega) (by omega) (by omega) (by omega)) (nin _ (by omega) (by omega) (by omega) (by omega) (by omega) (by omega))
  refine gX3_settle_26 n1' a1' (by rw [b3']; exact c3'.1) (fun c => ⟨rfl, ?_⟩) (fun c => ?_) <;> rw [b3', l5.1, nI_leI (by omega) (by omega)] at c
  · have ej : j = L.length := by omega
    subst ej
    refine h M1 F I ⟨⟨l5, ⟨by show _ ∧ _; rw [hGn, hGl]; exact hsh, fun i hi' => hout i (by rw [hGn] at hi'; exact hi'), fun i hi' x hx => ?_⟩⟩, hG, hGn.symm⟩
    have e9 : mI M1 (b + 9) = mI M (b + 9) := F.1.I (by omega) (nin _ (by omega) (by omega) (by omega) (by omega) (by omega) (by omega))
    show mI M1 (b + 9) (i * 3 + x) = _
    rw [e9]
    exact hGt i x (by rw [← hGn]; exact hi') (by rw [← hGl]; exact hx)
  · have hjl : j < L.length := by omega
    rw [b3', b0', b4']
    have hw := hLv.get hjl
    refine w_lget (cap := 8) (by decide) c3' l5 hL8 (by decide) hjl (gX3_settle_54 I.1.1 (w_ask (by decide) I hw.1 hw.2 hn8 (fun M2 F2 I2 => gX3_settle_57 ?_ ?_)))
    · rw [(c4'.fm F2.1 (by have := I.2.2.2.2.2; omega)).1.1]
    · have hsh2 := c4'.fm F2.1 (by have := I.2.2.2.2.2; omega)
      rw [aS_in (hLs _ (getD_mem hjl))] at I2
      refine w_X2_setOutput (by decide) hsh2 (by omega) (gX3_settle_60 ?_)
      rw [nI_add]
      have q1 := I.2.2.2.2.2
      have nin1 : ∀ p, p < z → p ≠ r + 2 → p ≠ r → p ≠ r + 1 → p ∉ slq M1 r :: [r, r + 1] := fun p g1 g2 g3 g4 => nq q1.1 g1 g2 (fun q => by simp at q; omega)
      have e7 : mI M2 (b + 7) = mI M1 (b + 7) := F2.1.I (by omega) (nin1 _ (by omega) (by omega) (by omega) (by omega))
      have e8 : mI M2 (b + 8) = mI M1 (b + 8) := F2.1.I (by omega) (nin1 _ (by omega) (by omega) (by omega) (by omega))
      have S3 : Sm [b + 8] M2 (sI M2 (b + 7 + 1) j (nI (an A 0 (L.getD j [])))) := Sm.sI (by simp) _ _ _
      refine ih hjl _ ((F.tr (F2.mono (fun p hp => by simp at hp; simp <;> omega))).tr (S3.mono (fun p hp => by simp at hp; simp [hp])).fa) (I2.fm S3.fm (by simp <;> omega) (by simp <;> omega) (by have := I2.2.2.2.2.2; simp; omega) (by simp <;> omega) (by simp <;> omega) (by simp <;> omega)) ⟨by rw [rI_np (by omega), e7]; exact hsh.1, by rw [rI_np (by omega), e7]; exact hsh.2⟩ (fun i hi' => ?_)
      by_cases q : i = j
      · subst q
        rw [hGo i hjl]; exact rI_at _ _ _ _
      · rw [rI_nk q]
        show mI M2 (b + 8) i = _
        rw [e8]; exact hout i (by omega)
theorem w_X6_noteBeginnings {w : List Nat} (hd : 3 < d) (hi : TI z M b r A st sp s H T) (hw : vw (pl A) w) (hl : w.length ≤ 30) (hcap : (nB H w (w.length + 1)).length ≤ 128)
    (h : ∀ M', Sm [b + 1, b + 2] M M' → TI z M' b r A st sp s (nB H w (w.length + 1)) T → Q none M') : ClD d mdX6_noteBeginnings [.ref b, .long (lN (cd w))] M Q := by
  obtain ⟨rk, r0, b0, hA, r7⟩ := hi.r0
  have l3 := hA.2.1.2
  have hw4 := vw_mono hw (show pl A ≤ 4 by omega)
  refine ⟨3, hd, Cl.of moX6_noteBeginnings (Nat.le_of_ble_eq_true rfl) (gX6_noteBeginnings_0 (w_X1_length (by decide) hw4 hl (gX6_noteBeginnings_4 ?_)))⟩
  refine upto (w.length + 1) (fun n => ∀ M1, Sm [b + 1, b + 2] M M1 → TI z M1 b r A st sp s (nB H w n) T → Wp 3 mdX6_noteBeginnings 8 [(0, .ref b), (1, .long (lN (cd w))), (3, .int (nI w.length)), (4, .int (nI n))] [] M1 (fun r M' => ROK mdX6_noteBeginnings r ∧ Q r M')) ?_ 0 (Nat.zero_le _) M (Sm.rf _ _) hi
  intro n hn ih M1 S I
  have e1 : mR M1 b 1 = b + 1 := I.1.1.2.1.2.1
  refine gX6_noteBeginnings_8 (fun c => ⟨rfl, ?_⟩) (fun c => ?_) <;> rw [nI_ltI (by omega) (by omega)] at c
  · have : n = w.length + 1 := by omega
    subst this; exact h M1 S I
  · have hnw : n ≤ w.length := by omega
    have ht : vw 4 (w.take n) := vw_take hw4 n
    have htl : (w.take n).length ≤ 30 := by rw [List.length_take]; omega
    refine w_X1_first (by decide) hw4 hl hnw (gX6_noteBeginnings_20 I.1.1.1.2 (by rw [e1]; exact I.1.1.2.2.1.1) ?_)
    rw [e1]
    have sh1 := I.1.1.2.2.1
    refine w_X9_has (cap := 128) (by decide) sh1 I.2.2.1.1 I.2.2.2.2.1.1 (by decide) (okV.L hA I.2.2.2.1.1) ht htl (fun hin => gX6_noteBeginnings_31 I.1.1.1.2 (by rw [e1]; exact sh1.1) (fun _ => gX6_noteBeginnings_43 ?_) (fun c => absurd c (by decide))) (fun hin => gX6_noteBeginnings_31 I.1.1.1.2 (by rw [e1]; exact sh1.1) (fun c => absurd rfl c) (fun _ => ?_))
    · rw [nI_add]
      refine ih (by omega) M1 S ?_
      rw [show nB H w (n + 1) = nB H w n from if_pos hin]; exact I
    · rw [e1]
      have e2 : nB H w (n + 1) = nB H w n ++ [w.take n] := if_neg hin
      have hlt : (nB H w n).length < 128 := by
        have := nB_mono H w (show n + 1 ≤ w.length + 1 by omega)
        rw [e2, List.length_append, List.length_singleton] at this
        omega
      refine w_X9_add (cap := 128) (by decide) sh1 I.2.2.1.1 hlt (by decide) (gX6_noteBeginnings_43 ?_)
      rw [nI_add]
      refine ih (by omega) _ (S.tr (Sm.lAdd (by simp) (by simp) _ _ _)) ?_
      rw [e2]; exact I.addH hlt ⟨vw_take hw n, htl⟩
theorem w_X6_noteEnds {w : List Nat} (hd : 3 < d) (hi : TI z M b r A st sp s H T) (hw : vw (pl A) w) (hl : w.length ≤ 30) (hcap : (nE T w (w.length + 1)).length ≤ 128)
    (h : ∀ M', Sm [b + 3, b + 4] M M' → TI z M' b r A st sp s H (nE T w (w.length + 1)) → Q none M') : ClD d mdX6_noteEnds [.ref b, .long (lN (cd w))] M Q := by
  obtain ⟨rk, r0, b0, hA, r7⟩ := hi.r0
  have l3 := hA.2.1.2
  have hw4 := vw_mono hw (show pl A ≤ 4 by omega)
  refine ⟨3, hd, Cl.of moX6_noteEnds (Nat.le_of_ble_eq_true rfl) (gX6_noteEnds_0 (w_X1_length (by decide) hw4 hl (gX6_noteEnds_4 ?_)))⟩
  suffices G : ∀ n, n ≤ w.length + 1 → ∀ M1, Sm [b + 3, b + 4] M M1 → TI z M1 b r A st sp s H (nE T w n) → Wp 3 mdX6_noteEnds 5 [(0, .ref b), (1, .long (lN (cd w))), (3, .int (nI (w.length + 1 - n) - nI 1))] [] M1 (fun r M' => ROK mdX6_noteEnds r ∧ Q r M') by
    have g := G 0 (Nat.zero_le _) M (Sm.rf _ _) hi
    rw [Nat.sub_zero, z_sub (by omega), Nat.add_sub_cancel] at g
    exact g
  refine upto (w.length + 1) _ (fun n hn ih M1 S I => ?_)
  have e2 : mR M1 b 2 = b + 3 := I.1.1.2.1.2.2.1
  by_cases en : n = w.length + 1
  · subst en
    rw [Nat.sub_self]
    exact gX6_noteEnds_5 (fun _ => ⟨rfl, h M1 S I⟩) (fun c => absurd (by decide) c)
  · have hnw : n ≤ w.length := by omega
    rw [z_sub (by omega), show w.length + 1 - n - 1 = w.length - n by omega]
    refine gX6_noteEnds_5 (fun c => absurd c (nI_pos (by omega))) (fun _ => ?_)
    have ht : vw 4 (w.drop (w.length - n)) := vw_drop hw4 _
    have htl : (w.drop (w.length - n)).length ≤ 30 := by rw [List.length_drop]; omega
    refine w_X1_behind (by decide) hw4 hl (by omega) (gX6_noteEnds_14 I.1.1.1.2 (by rw [e2]; exact I.1.1.2.2.2.1.1) ?_)
    rw [e2]
    have sh1 := I.1.1.2.2.2.1
    have nx : Wp 3 mdX6_noteEnds 5 [(0, .ref b), (1, .long (lN (cd w))), (3, .int (nI (w.length + 1 - (n + 1)) - nI 1))] [] M1 (fun r M' => ROK mdX6_noteEnds r ∧ Q r M') → Wp 3 mdX6_noteEnds 5 [(0, .ref b), (1, .long (lN (cd w))), (3, .int (nI (w.length - n) + (-1 : Int32)))] [] M1 (fun r M' => ROK mdX6_noteEnds r ∧ Q r M') := fun g => by
      have e : nI (w.length - n) + (-1 : Int32) = nI (w.length + 1 - (n + 1)) - nI 1 := by
        rw [Int32.sub_eq_add_neg, show w.length + 1 - (n + 1) = w.length - n by omega]; rfl
      rw [e]; exact g
    refine w_X9_has (cap := 128) (by decide) sh1 I.2.2.1.2 I.2.2.2.2.1.2 (by decide) (okV.L hA I.2.2.2.1.2) ht htl (fun hin => gX6_noteEnds_25 I.1.1.1.2 (by rw [e2]; exact sh1.1) (fun _ => gX6_noteEnds_37 (nx ?_)) (fun c => absurd c (by decide))) (fun hin => gX6_noteEnds_25 I.1.1.1.2 (by rw [e2]; exact sh1.1) (fun c => absurd rfl c) (fun _ => ?_))
    · refine ih (by omega) M1 S ?_
      rw [show nE T w (n + 1) = nE T w n from if_pos hin]; exact I
    · rw [e2]
      have e3 : nE T w (n + 1) = nE T w n ++ [w.drop (w.length - n)] := if_neg hin
      have hlt : (nE T w n).length < 128 := by
        have := nE_mono T w (show n + 1 ≤ w.length + 1 by omega)
        rw [e3, List.length_append, List.length_singleton] at this
        omega
      refine w_X9_add (cap := 128) (by decide) sh1 I.2.2.1.2 hlt (by decide) (gX6_noteEnds_37 ?_)
      have e : nI (w.length - n) + (-1 : Int32) = nI (w.length + 1 - (n + 1)) - nI 1 := by
        rw [Int32.sub_eq_add_neg, show w.length + 1 - (n + 1) = w.length - n by omega]; rfl
      rw [e]
      refine ih (by omega) _ (S.tr (Sm.lAdd (by simp) (by simp) _ _ _)) ?_
      rw [e3]; exact I.addT hlt ⟨vw_drop hw _, htl⟩
end TabC
