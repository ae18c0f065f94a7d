/-! the class's Search: pairs of states by words -/
def SeaSh (M : Mem) (r : Nat) : Prop := (mK M r = 7 ∧ mR M r 0 = r + 1 ∧ mR M r 1 = r + 2) ∧ ((mR M r 3 = r + 3 ∧ mR M r 4 = r + 4) ∨ (mR M r 3 = r + 4 ∧ mR M r 4 = r + 3)) ∧ (mK M (r + 1) = 2 ∧ mN M (r + 1) = 64) ∧ (mK M (r + 2) = 1 ∧ mN M (r + 2) = 64) ∧ (mK M (r + 3) = 1 ∧ mN M (r + 3) = 64) ∧ mK M (r + 4) = 1 ∧ mN M (r + 4) = 64
theorem SeaSh.sm {S : List Nat} {M M' : Mem} {r : Nat} (h : Sm S M M') (hs : SeaSh M r) : SeaSh M' r := by
  obtain ⟨-, h1, h2, h3, -, -⟩ := h
  unfold SeaSh at hs ⊢
  rw [h1, h2, h3]; exact hs
/-- what has been found so far -/
def BA (M : Mem) (r : Nat) (t : Nat → Nat → Nat) (c : Nat) (q : List (List Nat)) : Prop := mI M r 2 = nI q.length ∧ (∀ k, k < q.length → mI M (r + 2) k = nI (nd t c q k)) ∧ (∀ k, k < q.length → mJ M (r + 1) (nd t c q k) = lN (cd (qk q k))) ∧ ∀ e, e < 64 → (∀ k, k < q.length → nd t c q k ≠ e) → mJ M (r + 1) e = lN 0
def FR (c : Nat) : Prop := c < 1073741824
theorem FR_d : dcl FR := fun a b h1 h2 => Nat.lt_of_le_of_lt h1 h2
theorem FR_len {u : List Nat} (h : FP FR u) : u.length ≤ 15 := by
  induction u using snoc_ind with
  | h0 => exact Nat.zero_le _
  | h1 v y _ =>
    have h1 : cd v < 1073741824 := h v y rfl
    have h2 := cd_lo v
    rw [List.length_append, List.length_singleton]
    apply Nat.le_of_not_lt
    intro hc
    have h3 : 4 ^ 15 ≤ 4 ^ v.length := p4le (by omega)
    have e : (4 : Nat) ^ 15 = 1073741824 := by decide
    omega
section Search
variable {d r : Nat} {Q : Option Value → Mem → Prop} {M : Mem}
theorem w_X5_pairOf {p q : Nat} (hd : 1 < d) (hp : p < 8) (hq : q < 8) (h : Q (some (.int (nI (8 * p + q)))) M) : ClD d mdX5_pairOf [.int (nI p), .int (nI q)] M Q := by
  refine ⟨1, hd, Cl.of moX5_pairOf (Nat.le_of_ble_eq_true rfl) (gX5_pairOf_0 (fun c => absurd c (nI_pos (by omega))) (fun _ c => absurd c (nI_ge hp (by omega))) (fun _ _ c => absurd c (nI_pos (by omega))) (fun _ _ _ _ => ⟨⟨_, rfl⟩, ?_⟩) (fun _ _ _ c => absurd (nI_lt hq (by omega)) c))⟩
  rw [pk_mul, nI_add, Nat.mul_comm p 8]; exact h
theorem w_X5_firstTo {p q : Nat} (hd : 2 < d) (hs : SeaSh M r) (hp : p < 8) (hq : q < 8) (h : Q (some (.long (mJ M (r + 1) (8 * p + q)))) M) : ClD d mdX5_firstTo [.ref r, .int (nI p), .int (nI q)] M Q := by
  obtain ⟨⟨a1, a2, a3⟩, -, ⟨b1, b2⟩, -⟩ := hs
  refine ⟨2, hd, Cl.of moX5_firstTo (Nat.le_of_ble_eq_true rfl) (gX5_firstTo_0 (w_X5_pairOf (by decide) hp hq (gX5_firstTo_5 a1 (by rw [a2]; exact b1) (fun c => absurd c (nI_pos (by omega))) (fun _ _ => ?_) (fun _ _ => ⟨⟨_, rfl⟩, ?_⟩) (fun _ c => ?_))))⟩
  · rw [a2, b2]; exact z_in (by omega) (by omega)
  · rw [a2, nI_clamp (by omega)]; exact h
  · exfalso; apply c; rw [a2, b2]; exact nI_lt (by omega) (by omega)
theorem w_X5_comeTo {t : Nat → Nat → Nat} {c p q' : Nat} {q : List (List Nat)} {v : List Nat} (hd : 2 < d) (hs : SeaSh M r) (ha : BA M r t c q) (hw : ∀ k, k < q.length → vw 4 (qk q k) ∧ (qk q k).length ≤ 30) (hp : p < 8) (hq : q' < 8) (hl : (∀ k, k < q.length → nd t c q k ≠ 8 * p + q') → q.length < 64) (h64 : ∀ k, k < q.length → nd t c q k < 64) (h1 : (∃ k, k < q.length ∧ nd t c q k = 8 * p + q') → Q none M) (h2 : (∀ k, k < q.length → nd t c q k ≠ 8 * p + q') → (rn t c v = 8 * p + q') → ∀ M', Sm [r, r + 1, r + 2] M M' → BA M' r t c (q ++ [v]) → Q none M') (hv : rn t c v = 8 * p + q') : ClD d mdX5_comeTo [.ref r, .int (nI p), .int (nI q'), .long (lN (cd v))] M Q := by
  obtain ⟨⟨a1, a2, a3⟩, a4, ⟨b1, b2⟩, ⟨c1, c2⟩, -⟩ := hs
  obtain ⟨f1, f2, f3, f4⟩ := ha
  have r1 : mR (sJ M (r + 1) (8 * p + q') (lN (cd v))) r 1 = r + 2 := a3
  have n1 : mN (sJ M (r + 1) (8 * p + q') (lN (cd v))) (r + 2) = 64 := c2
  have i1 : mI (sJ M (r + 1) (8 * p + q') (lN (cd v))) r 2 = nI q.length := f1
  refine ⟨2, hd, Cl.of moX5_comeTo (Nat.le_of_ble_eq_true rfl) (gX5_comeTo_0 (w_X5_pairOf (by decide) hp hq ?_))⟩
  have key : mJ M (r + 1) (8 * p + q') = lN 0 → ∀ k, k < q.length → nd t c q k ≠ 8 * p + q' := by
    intro e k hk e2
    have e3 := f3 k hk
    rw [e2, e] at e3
    have g := hw k hk
    have g1 := cd30 g.1 g.2
    have g2 := cd_pos (qk q k)
    rw [pk_lEQ (by decide) (by omega)] at e3
    omega
  refine gX5_comeTo_5 a1 (by rw [a2]; exact b1) ?_ (fun c => absurd c (nI_pos (by omega))) (fun _ c => ?_) (fun _ _ => ?_) (fun _ _ _ => ?_) (fun _ _ e c => ?_) (fun _ _ e _ => ?_) (fun _ _ e _ => ⟨rfl, ?_⟩) (fun _ _ e => ⟨rfl, h1 ?_⟩)
  · show mK M (mR M r 1) = 1
    rw [a3]; exact c1
  · exfalso; rw [a2, b2] at c; exact nI_ge (show 8 * p + q' < 64 by omega) (by omega) c
  · rw [a2, b2]; exact z_in (by omega) (by omega)
  · rw [a2, b2]; exact z_in (by omega) (by omega)
  · exfalso
    rw [a2, nI_clamp (by omega)] at e c
    have := hl (key e)
    rw [r1, n1, i1] at c
    exact nI_ge this (by omega) c
  · rw [a2, nI_clamp (by omega)] at e ⊢
    have := hl (key e)
    show vp_in (mI (sJ M (r + 1) (8 * p + q') (lN (cd v))) r 2) (mN M (mR M r 1))
    rw [i1, a3, c2]; exact z_in this (by omega)
  · rw [a2, nI_clamp (by omega)] at e ⊢
    have hnew := key e
    have hlt := hl hnew
    rw [r1, i1, nI_add, nI_clamp (by omega)]
    refine h2 hnew hv _ (((Sm.sJ (by simp) _ _ _).tr (Sm.sI (by simp) _ _ _)).tr (Sm.sI (by simp) _ _ _)) ⟨?_, fun k hk => ?_, fun k hk => ?_, fun e' he' hno => ?_⟩
    · rw [rI_np (by omega), rI_at, List.length_append, List.length_singleton]
    · rw [List.length_append, List.length_singleton] at hk
      by_cases ek : k = q.length
      · subst ek
        rw [rI_at]; unfold nd; rw [qk_new, hv]
      · have hk' : k < q.length := by omega
        rw [rI_nk ek, rI_np (by omega)]
        unfold nd; rw [qk_old hk']; exact f2 k hk'
    · rw [List.length_append, List.length_singleton] at hk
      show mJ (sJ M (r + 1) (8 * p + q') (lN (cd v))) (r + 1) _ = _
      by_cases ek : k = q.length
      · subst ek
        unfold nd; rw [qk_new, hv]; exact rJ_at _ _ _ _
      · have hk' : k < q.length := by omega
        have e1 : nd t c (q ++ [v]) k = nd t c q k := by unfold nd; rw [qk_old hk']
        rw [e1, qk_old hk', rJ_nk (hnew k hk')]; exact f3 k hk'
    · show mJ (sJ M (r + 1) (8 * p + q') (lN (cd v))) (r + 1) _ = _
      rw [List.length_append, List.length_singleton] at hno
      have e1 := hno q.length (by omega)
      unfold nd at e1; rw [qk_new, hv] at e1
      rw [rJ_nk (Ne.symm e1)]
      refine f4 e' he' (fun k hk => ?_)
      have e2 := hno k (by omega)
      unfold nd at e2 ⊢; rw [qk_old hk] at e2; exact e2
  · rw [a2, nI_clamp (by omega)] at e
    refine Classical.byContradiction fun hno => e (f4 _ (by omega) (fun k hk e2 => hno ⟨k, hk, e2⟩))
theorem stP_lt {A B : PM} (hA : okM A) (hB : okM B) (hl : pl B = pl A) {p q : Nat} (hp : p < pn A) (hq : q < pn B) {w : List Nat} (hw : vw (pl A) w) : rn (stP A B) (8 * p + q) w / 8 < pn A ∧ rn (stP A B) (8 * p + q) w % 8 < pn B ∧ rn (stP A B) (8 * p + q) w < 64 ∧ rn (stP A B) (8 * p + q) w / 8 = rn (pt A) p w ∧ rn (stP A B) (8 * p + q) w % 8 = rn (pt B) q w := by
  have h1 := rn_lt hA hp hw
  have h2 := rn_lt hB hq (w := w) (by rw [hl]; exact hw)
  have a1 := hA.1.2
  have b1 := hB.1.2
  rw [rn_pair hA hB hl hp hq hw]
  omega
theorem w_fu {A B : PM} {a b p q0 : Nat} (hd : 3 < d) (hs : SeaSh M r) (ha : MacSh M a) (hA0 : MacAt M a A) (hA : okM A) (hb : MacSh M b) (hB0 : MacAt M b B) (hB : okM B) (hl : pl B = pl A) (hp : p < pn A) (hq : q0 < pn B) (na : ∀ i, i < 3 → a + i ∉ [r, r + 1, r + 2]) (nb : ∀ i, i < 3 → b + i ∉ [r, r + 1, r + 2])
    (h1 : ∀ M' w, Sm [r, r + 1, r + 2] M M' → vw (pl A) w → an A p w ≠ an B q0 w → (∀ u, vw (pl A) u → cd u < cd w → an A p u = an B q0 u) → Q (some (.long (lN (cd w)))) M')
    (h2 : ∀ M' q, Sm [r, r + 1, r + 2] M M' → BA M' r (stP A B) (8 * p + q0) q → BI (stP A B) (8 * p + q0) (pl A) FR q q.length 0 → (∀ k, k < q.length → an A p (qk q k) = an B q0 (qk q k)) → Q (some (.long (lN 0))) M') : ClD d mdX5_firstUnlike [.ref r, .ref a, .int (nI p), .ref b, .int (nI q0)] M Q := by
  have a8 := hA.1.2
  have b8 := hB.1.2
  have l3 := hA.2.1.2
  refine ⟨3, hd, Cl.of moX5_firstUnlike (Nat.le_of_ble_eq_true rfl) (gX5_firstUnlike_0 hs.1.1 ?_)⟩
  rw [hs.1.2.1]
  refine w_fillJ (by decide) hs.2.2.1.1 (by rw [hs.2.2.1.2]; decide) (fun M1 S1 hz => ?_)
  rw [hs.2.2.1.2] at hz
  have hs1 := hs.sm S1
  refine gX5_firstUnlike_8 hs1.1.1 ?_
  have S2 : Sm [r, r + 1, r + 2] M (sI M1 r 2 (nI 0)) := (S1.mono (by simp)).tr (Sm.sI (by simp) _ _ _)
  have BA0 : BA (sI M1 r 2 (nI 0)) r (stP A B) (8 * p + q0) [] := ⟨rI_at _ _ _ _, fun k hk => by simp at hk, fun k hk => by simp at hk, fun e he _ => hz e he⟩
  refine w_X5_comeTo (v := []) (by decide) (hs.sm S2) BA0 (fun k hk => by simp at hk) (by omega) (by omega) (fun _ => by decide) (fun k hk => by simp at hk) (fun ⟨k, hk, _⟩ => by simp at hk) (fun _ _ M2 S3 hBA => ?_) rfl
  have hn0 : nd (stP A B) (8 * p + q0) [[]] 0 = 8 * p + q0 := rfl
  have ndl : ∀ {q : List (List Nat)} {i x : Nat}, BI (stP A B) (8 * p + q0) (pl A) FR q i x → ∀ k, k < q.length → nd (stP A B) (8 * p + q0) q k / 8 < pn A ∧ nd (stP A B) (8 * p + q0) q k % 8 < pn B ∧ nd (stP A B) (8 * p + q0) q k < 64 ∧ nd (stP A B) (8 * p + q0) q k / 8 = rn (pt A) p (qk q k) ∧ nd (stP A B) (8 * p + q0) q k % 8 = rn (pt B) q0 (qk q k) := fun hI k hk => stP_lt hA hB hl hp hq (hI.2.1 k hk).1
  have lenl : ∀ {q : List (List Nat)} {i x : Nat}, BI (stP A B) (8 * p + q0) (pl A) FR q i x → q.length ≤ 64 := fun hI => hI.len (fun k hk => (ndl hI k hk).2.2.1)
  have wdl : ∀ {q : List (List Nat)} {i x : Nat}, BI (stP A B) (8 * p + q0) (pl A) FR q i x → ∀ k, k < q.length → vw 4 (qk q k) ∧ (qk q k).length ≤ 15 := fun hI k hk => ⟨vw_mono (hI.2.1 k hk).1 (by omega), FR_len (hI.2.1 k hk).2.2⟩
  refine gX5_firstUnlike_21 (upto 64 (fun i => ∀ M1 q, Sm [r, r + 1, r + 2] M M1 → BA M1 r (stP A B) (8 * p + q0) q → BI (stP A B) (8 * p + q0) (pl A) FR q i 0 → i ≤ q.length → (∀ k, k < i → an A p (qk q k) = an B q0 (qk q k)) → Wp 3 mdX5_firstUnlike 24 [(0, .ref r), (1, .ref a), (3, .ref b), (5, .int (nI i))] [] M1 (fun r M' => ROK mdX5_firstUnlike r ∧ Q r M')) ?_ 0 (Nat.zero_le _) M2 [[]] (S2.tr S3) hBA (BI.init l3) (by simp) (fun k hk => by omega))
  intro i hi ih M1 q S hBA hBI hiq heq
  have hr1 := hs.sm S
  have hlen := lenl hBI
  have e2 : mR M1 r 1 = r + 2 := hr1.1.2.2
  have e3 : mN M1 (r + 2) = 64 := hr1.2.2.2.1.2
  have q2 := hBA.1
  refine gX5_firstUnlike_24 hr1.1.1 (by rw [e2]; exact hr1.2.2.2.1.1) (fun c => ⟨⟨_, rfl⟩, ?_⟩) (fun c c2 => ?_) (fun c c2 => ?_) (fun c c2 => ?_)
  · rw [q2, nI_leI (by omega) (by omega)] at c
    have ei : i = q.length := by omega
    subst ei
    exact h2 M1 q S hBA hBI heq
  · exfalso
    rw [e2, e3, nI_leI (by omega) (by omega)] at c2
    exact c (by rw [q2]; exact nI_le (by omega) (by omega))
  · have : i < q.length := Nat.lt_of_not_le fun z => c (by rw [q2]; exact nI_le z (by omega))
    rw [e2, e3]; exact z_in (by omega) (by omega)
  · have hiq : i < q.length := Nat.lt_of_not_le fun z => c (by rw [q2]; exact nI_le z (by omega))
    obtain ⟨n1, n2, n3, n4, n5⟩ := ndl hBI i hiq
    obtain ⟨cc, hcc⟩ : ∃ cc, cc = nd (stP A B) (8 * p + q0) q i := ⟨_, rfl⟩
    have hw := wdl hBI i hiq
    have v1 := (hBI.2.1 i hiq).1
    rw [e2, nI_clamp (by omega), hBA.2.1 i hiq, pk_rem (by omega) (by decide) (by decide), pk_div (by omega) (by decide) (by decide), ← hcc]
    rw [← hcc] at n1 n2 n3 n4 n5
    refine w_X5_firstTo (by decide) hr1 (by omega) (by omega) ?_
    rw [show 8 * (cc / 8) + cc % 8 = cc by omega]
    have e4 := hBA.2.2.1 i hiq
    rw [← hcc] at e4
    rw [e4]
    have ha1 := ha.sm S
    have hb1 := hb.sm S
    have hA1 := hA0.sm S (na 0 (by omega)) (na 1 (by omega)) (na 2 (by omega))
    have hB1 := hB0.sm S (nb 0 (by omega)) (nb 1 (by omega)) (nb 2 (by omega))
    refine gX5_firstUnlike_74 ha1.1.1 (w_outO (s := some (cc / 8)) (by decide) ha1 hA1 hA.bd (fun j e => by cases e; omega) ?_)
    rw [show ouO A (some (cc / 8)) = some (po A (cc / 8)) from if_pos n1]
    refine gX5_firstUnlike_82 hb1.1.1 (w_outO (s := some (cc % 8)) (by decide) hb1 hB1 hB.bd (fun j e => by cases e; omega) ?_)
    rw [show ouO B (some (cc % 8)) = some (po B (cc % 8)) from if_pos n2]
    have o1 := hA.2.2.1 _ n1
    have o2 := hB.2.2.1 _ n2
    have an1 : an A p (qk q i) = po A (cc / 8) := by unfold an; rw [n4]
    have an2 : an B q0 (qk q i) = po B (cc % 8) := by unfold an; rw [n5]
    refine gX5_firstUnlike_88 (fun c3 => ?_) (fun c3 => ⟨⟨_, rfl⟩, ?_⟩)
    · have c4 : nI (po A (cc / 8)) = nI (po B (cc % 8)) := c3
      rw [nI_eq (by omega) (by omega)] at c4
      have heq' : ∀ k, k < i + 1 → an A p (qk q k) = an B q0 (qk q k) := by
        intro k hk
        by_cases ek : k = i
        · subst ek; rw [an1, an2]; exact c4
        · exact heq k (by omega)
      obtain ⟨w, hww⟩ : ∃ w, w = qk q i := ⟨_, rfl⟩
      rw [← hww] at hw v1 n4 n5
      rw [← hww]
      refine upto (pl A) (fun x => ∀ M2 q', Sm [r, r + 1, r + 2] M M2 → BA M2 r (stP A B) (8 * p + q0) q' → BI (stP A B) (8 * p + q0) (pl A) FR q' i x → i < q'.length → qk q' i = w → (∀ k, k < i + 1 → an A p (qk q' k) = an B q0 (qk q' k)) → Wp 3 mdX5_firstUnlike 97 [(0, .ref r), (1, .ref a), (3, .ref b), (5, .int (nI i)), (7, .int (nI (cc / 8))), (8, .int (nI (cc % 8))), (9, .long (lN (cd w))), (11, .int (nI x))] [] M2 (fun r M' => ROK mdX5_firstUnlike r ∧ Q r M')) ?_ 0 (Nat.zero_le _) M1 q S hBA hBI hiq hww.symm heq'
      intro x hx ih2 M2 q' S' hBA' hBI' hiq' hwq' heq2
      have hr2 := hs.sm S'
      have ha2 := ha.sm S'
      have hb2 := hb.sm S'
      have hA2 := hA0.sm S' (na 0 (by omega)) (na 1 (by omega)) (na 2 (by omega))
      have hB2 := hB0.sm S' (nb 0 (by omega)) (nb 1 (by omega)) (nb 2 (by omega))
      have hlen' := lenl hBI'
      have hcd := cd30 hw.1 (by omega)
      have go : (pl A ≤ x ∨ ¬ FR (cd w)) → Wp 3 mdX5_firstUnlike 24 [(0, .ref r), (1, .ref a), (3, .ref b), (5, .int (nI i + nI 1))] [] M2 (fun r M' => ROK mdX5_firstUnlike r ∧ Q r M') := by
        intro hc
        rw [nI_add]
        exact ih (by omega) M2 q' S' hBA' (hBI'.next (by omega) hiq' (by rw [hwq']; exact hc)) (by omega) heq2
      refine gX5_firstUnlike_97 ha2.1.1 (fun c5 => ?_) (fun c5 c6 => ?_) (fun c5 c6 => ?_)
      · rw [hA2.1.2, nI_leI (by omega) (by omega)] at c5
        exact go (Or.inl c5)
      · rw [pk_lLE (by decide) (by omega)] at c6
        exact go (Or.inr (by unfold FR; omega))
      · have hxl : x < pl A := Nat.lt_of_not_le fun z => c5 (by rw [hA2.1.2]; exact nI_le z (by omega))
        rw [pk_lLE (by decide) (by omega)] at c6
        have hF : FR (cd w) := by unfold FR; omega
        have t1 := hA.2.2.2 _ n1 x hxl
        have t2 := hB.2.2.2 _ n2 x (by omega)
        refine w_nextO (s := some (cc / 8)) (by decide) ha2 hA2 hA.bd (fun j e => by cases e; omega) (by omega) ?_
        rw [show nx A (some (cc / 8)) x = some (pt A (cc / 8) x) from if_pos ⟨n1, hxl⟩]
        refine gX5_firstUnlike_124 hb2.1.1 (w_nextO (s := some (cc % 8)) (by decide) hb2 hB2 hB.bd (fun j e => by cases e; omega) (by omega) ?_)
        rw [show nx B (some (cc % 8)) x = some (pt B (cc % 8) x) from if_pos ⟨n2, by omega⟩]
        refine gX5_firstUnlike_132 (w_X1_then (by decide) (by omega) (gX5_firstUnlike_139 hr2.1.1 ?_))
        have e5 : nd (stP A B) (8 * p + q0) q' i = cc := by rw [hcc]; unfold nd; rw [hwq', hww]
        have e6 : stP A B (nd (stP A B) (8 * p + q0) q' i) x = 8 * pt A (cc / 8) x + pt B (cc % 8) x := by rw [e5]; rfl
        have e7 : rn (stP A B) (8 * p + q0) (w ++ [x]) = 8 * pt A (cc / 8) x + pt B (cc % 8) x := by rw [rn_snoc, ← hwq']; exact e6
        refine w_X5_comeTo (by decide) hr2 hBA' (fun k hk => ⟨(wdl hBI' k hk).1, by have := (wdl hBI' k hk).2; omega⟩) (by omega) (by omega) (fun hno => ?_) (fun k hk => (ndl hBI' k hk).2.2.1) (fun hex => ?_) (fun hno _ M3 S3 hBA3 => ?_) e7
        · have hnew := hBI'.new l3 FR_d hiq' hxl (by rw [hwq']; exact hF) (fun k hk => by rw [e6]; exact hno k hk)
          have := lenl hnew
          rw [List.length_append, List.length_singleton] at this
          omega
        · refine gX5_firstUnlike_142 ?_
          rw [nI_add]
          exact ih2 hxl M2 q' S' hBA' (hBI'.old (by rw [e6]; exact hex)) hiq' hwq' heq2
        · refine gX5_firstUnlike_142 ?_
          rw [nI_add]
          have hnew := hBI'.new l3 FR_d hiq' hxl (by rw [hwq']; exact hF) (fun k hk => by rw [e6]; exact hno k hk)
          rw [hwq'] at hnew
          refine ih2 hxl M3 _ (S'.tr S3) hBA3 hnew (by rw [List.length_append]; omega) (by rw [qk_old hiq']; exact hwq') (fun k hk => ?_)
          rw [qk_old (by omega)]; exact heq2 k hk
    · refine h1 M1 (qk q i) S v1 (fun e => c3 ?_) (fun u hu hlt => ?_)
      · show nI (po A (cc / 8)) = nI (po B (cc % 8))
        rw [← an1, ← an2, e]
      · obtain ⟨k, k1, k2⟩ := hBI.ahead l3 FR_d hiq u hu hlt
        have g := heq k k1
        obtain ⟨-, -, -, m4, m5⟩ := ndl hBI k (by omega)
        obtain ⟨-, -, -, m4', m5'⟩ := stP_lt hA hB hl hp hq hu
        unfold an at g ⊢
        rw [← m4, ← m5, k2, m4', m5'] at g
        exact g
end Search
