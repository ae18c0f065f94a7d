/-! the class's Notes: heads, tails, access, guess of a Table or Tree at label b, its Asking at label r, the machine told at label 3 -/
/-- an Asking in place: z is the first label behind all that stays -/
def AI (z : Nat) (M : Mem) (r : Nat) (A : PM) (st sp : Nat) (s : List (List Nat) × Nat) : Prop := AskSh M r 3 ∧ AskAt M r st sp s ∧ MacSh M 3 ∧ MacAt M 3 A ∧ okM A ∧ (slq M r = r + 2 ∨ z ≤ slq M r) ∧ z ≤ mC M + 2 ∧ 7 < r ∧ r + 35 ≤ z
theorem Fa.out {r : Nat} {S : List Nat} {M M' : Mem} (h : Fa r S M M') : Fm (slq M r :: S) M M' := h.1
theorem nq {z r p : Nat} {S : List Nat} {M : Mem} (h : slq M r = r + 2 ∨ z ≤ slq M r) (hp : p < z) (h2 : p ≠ r + 2) (hS : p ∉ S) : p ∉ slq M r :: S := fun q => by
  simp only [List.mem_cons] at q
  rcases q with e | e
  · omega
  · exact hS e
theorem AI.fa {z r st sp : Nat} {S : List Nat} {M M' : Mem} {A : PM} {s s' : List (List Nat) × Nat} (h : Fa r S M M') (hi : AI z M r A st sp s) (ha : AskAt M' r st sp s') (h3 : 3 ∉ S) (h4 : 4 ∉ S) (h5 : 5 ∉ S) : AI z M' r A st sp s' := by
  obtain ⟨a, b, c, e, f, g, k, l, n⟩ := hi
  have g3 := h.1.2.2.2.1
  refine ⟨a.fm h.1 (by omega), ha, c.fm h.1 (by omega), e.fm h.1 (by omega) (nq g (by omega) (by omega) h3) (nq g (by omega) (by omega) h4) (nq g (by omega) (by omega) h5), f, ?_, by omega, l, n⟩
  rcases h.2.1 with q | q
  · rw [q]; exact g
  · exact Or.inr (by omega)
theorem AI.fm {z r st sp : Nat} {S : List Nat} {M M' : Mem} {A : PM} {s : List (List Nat) × Nat} (h : Fm S M M') (hi : AI z M r A st sp s) (h0 : r ∉ S) (h1 : r + 1 ∉ S) (h2 : slq M r ∉ S) (h3 : 3 ∉ S) (h4 : 4 ∉ S) (h5 : 5 ∉ S) : AI z M' r A st sp s := by
  obtain ⟨a, b, c, e, f, g, k, l, n⟩ := hi
  have g3 := h.2.2.2.1
  refine ⟨a.fm h (by omega), b.fm h (by omega) h0 h1 h2, c.fm h (by omega), e.fm h (by omega) h3 h4 h5, f, ?_, by omega, l, n⟩
  have : slq M' r = slq M r := by unfold slq; rw [(h.1 (r + 1) (by omega) h1).2.2]
  rw [this]; exact g
def NotSh (M : Mem) (b r cn : Nat) : Prop := (NT cn ∧ mK M b = cn + 4) ∧ (mR M b 0 = r ∧ mR M b 1 = b + 1 ∧ mR M b 2 = b + 3 ∧ mR M b 3 = b + 5 ∧ mR M b 4 = b + 7) ∧ LstSh M (b + 1) 128 ∧ LstSh M (b + 3) 128 ∧ LstSh M (b + 5) 8 ∧ MacSh M (b + 7)
theorem NotSh.fm {S : List Nat} {M M' : Mem} {b r cn : Nat} (h : Fm S M M') (hl : b + 10 < mC M + 2) (hs : NotSh M b r cn) : NotSh M' b r cn := by
  obtain ⟨⟨n1, a1⟩, ⟨b0, b1, b2, b3, b4⟩, c1, c2, c3, c4⟩ := hs
  have nv : ∀ j, ¬ vR (mK M b) j := fun j q => by rw [a1] at q; unfold NT at n1; unfold vR at q; omega
  refine ⟨⟨n1, by rw [h.K (by omega)]; exact a1⟩, ⟨?_, ?_, ?_, ?_, ?_⟩, c1.fm h (by omega), c2.fm h (by omega), c3.fm h (by omega), c4.fm h (by omega)⟩
  · rw [h.2.2.1 b 0 (by omega) (nv 0)]; exact b0
  · rw [h.2.2.1 b 1 (by omega) (nv 1)]; exact b1
  · rw [h.2.2.1 b 2 (by omega) (nv 2)]; exact b2
  · rw [h.2.2.1 b 3 (by omega) (nv 3)]; exact b3
  · rw [h.2.2.1 b 4 (by omega) (nv 4)]; exact b4
theorem NotSh.sm {S : List Nat} {M M' : Mem} {b r cn : Nat} (h : Sm S M M') (hs : NotSh M b r cn) : NotSh M' b r cn := by
  obtain ⟨-, h1, h2, h3, -, -⟩ := h
  unfold NotSh LstSh MacSh at hs ⊢
  rw [h1, h2, h3]; exact hs
/-- a guess: its access words and its machine -/
abbrev GU : Type := List (List Nat) × PM
def GueAt (M : Mem) (b : Nat) (g : Option GU) : Prop := match g with
  | none => mI M (b + 7) 0 = nI 0 ∧ LstAt M (b + 5) []
  | some q => (LstAt M (b + 5) q.1 ∧ MacAt M (b + 7) q.2) ∧ okM q.2 ∧ q.1.length = pn q.2
theorem GueAt.fm {S : List Nat} {M M' : Mem} {b : Nat} {g : Option GU} (h : Fm S M M') (hl : b + 10 < mC M + 2) (hs : GueAt M b g) (h5 : b + 5 ∉ S) (h6 : b + 6 ∉ S) (h7 : b + 7 ∉ S) (h8 : b + 8 ∉ S) (h9 : b + 9 ∉ S) : GueAt M' b g := by
  cases g with
  | none => exact ⟨by rw [h.I (by omega) h7]; exact hs.1, hs.2.fm h (by omega) h5 h6⟩
  | some q => exact ⟨⟨hs.1.1.fm h (by omega) h5 h6, hs.1.2.fm h (by omega) h7 h8 h9⟩, hs.2⟩
section Notes
variable {z d r b cn st sp : Nat} {Q : Option Value → Mem → Prop} {M : Mem} {s : List (List Nat) × Nat} {A : PM}
theorem w_ask {w : List Nat} (hd : 3 < d) (hi : AI z M r A st sp s) (hw : vw (pl A) w) (hl : w.length ≤ 30) (hn : s.1.length < 8192)
    (h : ∀ M', Fa r [r, r + 1] M M' → AI z M' r A st sp (aS st sp s w) → Q (some (.int (nI (an A 0 w)))) M') : ClD d mdX0_ask [.ref r, .long (lN (cd w))] M Q := by
  have hi0 := hi
  obtain ⟨a, b, c, e, f, g, k, l, n⟩ := hi
  exact w_X0_ask hd a b c e f hw hl hn (by omega) (by omega) (fun i hi => by omega) (by omega) (fun M' F a2 => h M' F (AI.fa F hi0 a2 (by simp; omega) (by simp; omega) (by simp; omega)))
theorem w_X3_hasGuess {g : Option GU} (hd : 1 < d) (hs : NotSh M b r cn) (hg : GueAt M b g) (h1 : g = none → Q (some (.int (nI 0))) M) (h2 : ∀ q, g = some q → Q (some (.int (nI 1))) M) : ClD d mdX3_hasGuess [.ref b] M Q := by
  obtain ⟨⟨n1, a1⟩, ⟨b0, b1, b2, b3, b4⟩, c1, c2, c3, c4⟩ := hs
  refine ⟨1, hd, Cl.of moX3_hasGuess (Nat.le_of_ble_eq_true rfl) (gX3_hasGuess_0 n1 a1 (by rw [b4]; exact c4.1.1) (fun c => ⟨⟨_, rfl, by decide⟩, ?_⟩) (fun c => ⟨⟨_, rfl, by decide⟩, ?_⟩))⟩ <;> rw [b4] at c
  · cases g with
    | none => exact h1 rfl
    | some q =>
      exfalso
      have := hg.2.1.1
      rw [hg.1.2.1.1, show (0 : Int32) = nI 0 from rfl, nI_leI (by omega) (by omega)] at c
      omega
  · cases g with
    | none => exfalso; apply c; rw [hg.1]; decide
    | some q => exact h2 q rfl
theorem w_X3_dropGuess (hd : 2 < d) (hs : NotSh M b r cn) (h : ∀ M', Sm [b + 5, b + 7] M M' → GueAt M' b none → Q none M') : ClD d mdX3_dropGuess [.ref b] M Q := by
  have hs0 := hs
  obtain ⟨⟨n1, a1⟩, ⟨b0, b1, b2, b3, b4⟩, c1, c2, c3, c4⟩ := hs
  refine ⟨2, hd, Cl.of moX3_dropGuess (Nat.le_of_ble_eq_true rfl) (gX3_dropGuess_0 n1 a1 (by rw [b4]; exact c4.1.1) ?_)⟩
  rw [b4]
  refine w_X2_shape (by decide) c4 (gX3_dropGuess_9 n1 a1 ?_ ?_)
  · show mK M (mR M b 3) = 11
    rw [b3]; exact c3.1
  · show ClD 2 mdX9_clear [.ref (mR M b 3)] _ _
    rw [b3]
    refine w_X9_clear (cap := 8) (by decide) c3 (gX3_dropGuess_16 ⟨rfl, h _ (((Sm.sI (by simp) _ _ _).tr (Sm.sI (by simp) _ _ _)).tr (Sm.sI (by simp) _ _ _)) ⟨?_, LstAt.nil⟩⟩)
    rw [rI_np (by omega), rI_nk (by decide)]; exact rI_at _ _ _ _
/-- the access word of the state to which a word comes -/
def acc (g : GU) (w : List Nat) : List Nat := g.1.getD (rn (pt g.2) 0 w) []
theorem w_X3_accessBy {g : GU} {w : List Nat} (hd : 3 < d) (hs : NotSh M b r cn) (hg : GueAt M b (some g)) (hw : vw (pl g.2) w) (hl : w.length ≤ 30) (h : Q (some (.long (lN (cd (acc g w))))) M) : ClD d mdX3_accessBy [.ref b, .long (lN (cd w))] M Q := by
  obtain ⟨⟨n1, a1⟩, ⟨b0, b1, b2, b3, b4⟩, c1, c2, c3, c4⟩ := hs
  obtain ⟨⟨g1, g2⟩, g3, g4⟩ := hg
  have g8 := g3.1.2
  refine ⟨3, hd, Cl.of moX3_accessBy (Nat.le_of_ble_eq_true rfl) (gX3_accessBy_0 n1 a1 (by rw [b4]; exact c4.1.1) ?_)⟩
  rw [b4, b3]
  refine w_X2_endFrom (s := some 0) (by decide) c4 g2 g3.bd (fun j e => by cases e; decide) (vw_mono hw (by have := g3.2.1.2; omega)) hl ?_
  rw [rnO_ok g3 g3.1.1 hw]
  have hr := rn_lt g3 g3.1.1 hw
  exact gX3_accessBy_13 c3.1 (w_lget (by decide) c3 g1 (by omega) (by decide) (by omega) (gX3_accessBy_16 ⟨⟨_, rfl⟩, h⟩))
/-- the parting place of a wrongly answered word: low, high, what was asked -/
def pA (st sp : Nat) (A : PM) (g : GU) (w : List Nat) (its : Nat) : Nat → Nat → Nat → List (List Nat) × Nat → Nat × Nat × (List (List Nat) × Nat)
  | 0, lo, hi, s => (lo, hi, s)
  | f + 1, lo, hi, s => if hi ≤ lo + 1 then (lo, hi, s) else if an A 0 (acc g (w.take ((lo + hi) / 2)) ++ w.drop ((lo + hi) / 2)) = its then pA st sp A g w its f ((lo + hi) / 2) hi (aS st sp s (acc g (w.take ((lo + hi) / 2)) ++ w.drop ((lo + hi) / 2))) else pA st sp A g w its f lo ((lo + hi) / 2) (aS st sp s (acc g (w.take ((lo + hi) / 2)) ++ w.drop ((lo + hi) / 2)))
theorem aS_len (st sp : Nat) (s : List (List Nat) × Nat) (w : List Nat) : (aS st sp s w).1.length ≤ s.1.length + 1 := by
  unfold aS
  split
  · omega
  · simp
theorem an_lt {A : PM} (h : okM A) {w : List Nat} (hw : vw (pl A) w) : an A 0 w < 4 := h.2.2.1 _ (rn_lt h h.1.1 hw)
theorem w_X3_partingAt {g : GU} {w : List Nat} {its : Nat} (hd : 4 < d) (hbl : b + 10 < z) (hbr : r + 2 < b) (hs : NotSh M b r cn) (hi : AI z M r A st sp s) (hg : GueAt M b (some g)) (hgl : pl g.2 = pl A) (hac : ∀ u, u ∈ g.1 → vw (pl A) u ∧ u.length ≤ 15) (hw : vw (pl A) w) (hl : w.length ≤ 15) (hits : its < 4) (hn : s.1.length + 16 < 8192)
    (h : ∀ M', Fa r [r, r + 1] M M' → AI z M' r A st sp (pA st sp A g w its 15 0 w.length s).2.2 → Q (some (.int (nI (pA st sp A g w its 15 0 w.length s).2.1))) M') : ClD d mdX3_partingAt [.ref b, .long (lN (cd w)), .int (nI its)] M Q := by
  have l3 := hi.2.2.2.2.1.2.1.2
  refine ⟨4, hd, Cl.of moX3_partingAt (Nat.le_of_ble_eq_true rfl) (gX3_partingAt_0 (w_X1_length (by decide) (vw_mono hw (by omega)) (by omega) (gX3_partingAt_7 ?_)))⟩
  suffices H : ∀ f lo hi' s M1 i, Fa r [r, r + 1] M M1 → AI z M1 r A st sp s → s.1.length + f + 1 < 8192 → i + f ≤ 15 → hi' ≤ w.length → hi' ≤ lo + 1 + f → lo ≤ 15 → (∀ M', Fa r [r, r + 1] M M' → AI z M' r A st sp (pA st sp A g w its f lo hi' s).2.2 → Q (some (.int (nI (pA st sp A g w its f lo hi' s).2.1))) M') → Wp 4 mdX3_partingAt 12 [(0, .ref b), (1, .long (lN (cd w))), (3, .int (nI its)), (4, .int (nI lo)), (5, .int (nI hi')), (6, .int (nI i))] [] M1 (fun r M' => ROK mdX3_partingAt r ∧ Q r M') from H 15 0 w.length s M 0 (Fa.rf _ _ _) hi (by omega) (by omega) (Nat.le_refl _) (by omega) (by omega) h
  intro f
  induction f with
  | zero =>
    intro lo hi' s M1 i F I _ _ h1 h2 hlo h
    refine gX3_partingAt_12 (fun _ => ⟨⟨_, rfl⟩, h M1 F I⟩) (fun _ _ => ⟨⟨_, rfl⟩, h M1 F I⟩) (fun _ c => ?_)
    exfalso; apply c; rw [nI_add]; exact nI_le (by omega) (by omega)
  | succ f ih =>
    intro lo hi' s M1 i F I hn1 hn2 h1 h2 hlo h
    by_cases c0 : hi' ≤ lo + 1
    · have e : pA st sp A g w its (f + 1) lo hi' s = (lo, hi', s) := if_pos c0
      rw [e] at h
      refine gX3_partingAt_12 (fun _ => ⟨⟨_, rfl⟩, h M1 F I⟩) (fun _ _ => ⟨⟨_, rfl⟩, h M1 F I⟩) (fun _ c => ?_)
      exfalso; apply c; rw [nI_add]; exact nI_le (by omega) (by omega)
    · refine gX3_partingAt_12 (fun c => absurd c (nI_ge (by omega) (by decide))) (fun _ c => ?_) (fun _ _ => ?_)
      · exfalso; rw [nI_add, nI_leI (by omega) (by omega)] at c; omega
      · have hz := I.2.2.2.2.2.2
        have F0 : Fm (slq M r :: [r, r + 1]) M M1 := F.1
        have q0 := hi.2.2.2.2.2.1
        have zz := hi.2.2.2.2.2.2.1
        have nb : ∀ i, i < 11 → b + i ∉ slq M r :: [r, r + 1] := fun i hi => nq q0 (by omega) (by omega) (by simp; omega)
        have hs1 := hs.fm F0 (by omega)
        have hg1 := hg.fm F0 (by omega) (nb 5 (by omega)) (nb 6 (by omega)) (nb 7 (by omega)) (nb 8 (by omega)) (nb 9 (by omega))
        obtain ⟨mid, hmid⟩ : ∃ mid, mid = (lo + hi') / 2 := ⟨_, rfl⟩
        rw [nI_add, pk_div (by omega) (by decide) (by decide), ← hmid]
        have ht := vw_take hw mid
        have hacc : vw (pl A) (acc g (w.take mid)) ∧ (acc g (w.take mid)).length ≤ 15 := by
          have hr := rn_lt hg.2.1 hg.2.1.1.1 (w := w.take mid) (by rw [hgl]; exact ht)
          unfold acc
          rw [List.getD, List.getElem?_eq_getElem (by have := hg.2.2; omega)]
          exact hac _ (List.getElem_mem _)
        refine w_X1_first (by decide) (vw_mono hw (by omega)) (by omega) (by omega) ?_
        refine gX3_partingAt_44 hs1.1.1 hs1.1.2 (w_X3_accessBy (by decide) hs1 hg1 (by rw [hgl]; exact ht) (by rw [List.length_take]; omega) ?_)
        refine gX3_partingAt_47 hs1.1.1 hs1.1.2 (w_X1_behind (by decide) (vw_mono hw (by omega)) (by omega) (by omega) ?_)
        have hdr := vw_drop hw mid
        have hdl : (w.drop mid).length ≤ 15 := by rw [List.length_drop]; omega
        refine gX3_partingAt_61 (w_X1_join (by decide) (vw_mono hacc.1 (by omega)) (vw_mono hdr (by omega)) (by omega) ?_)
        rw [hs1.2.1.1]
        have hwd : vw (pl A) (acc g (w.take mid) ++ w.drop mid) := vw_app.mpr ⟨hacc.1, hdr⟩
        refine gX3_partingAt_64 I.1.1 (w_ask (by decide) I hwd (by rw [List.length_append]; omega) (by omega) (fun M2 F2 I2 => ?_))
        have hlt := an_lt I.2.2.2.2.1 hwd
        have hlen := aS_len st sp s (acc g (w.take mid) ++ w.drop mid)
        refine gX3_partingAt_67 (fun c => ?_) (fun c => ?_)
        · have c : ¬ an A 0 (acc g (w.take mid) ++ w.drop mid) = its := fun q => c (by rw [q])
          have e : pA st sp A g w its (f + 1) lo hi' s = pA st sp A g w its f lo mid (aS st sp s (acc g (w.take mid) ++ w.drop mid)) := by
            rw [hmid] at c ⊢
            exact (if_neg c0).trans (if_neg c)
          rw [e] at h
          rw [nI_add]
          exact ih lo mid _ M2 (i + 1) (F.tr F2) I2 (by omega) (by omega) (by omega) (by omega) (by omega) h
        · rw [nI_eq (by omega) (by omega)] at c
          have e : pA st sp A g w its (f + 1) lo hi' s = pA st sp A g w its f mid hi' (aS st sp s (acc g (w.take mid) ++ w.drop mid)) := by
            rw [hmid] at c ⊢
            exact (if_neg c0).trans (if_pos c)
          rw [e] at h
          rw [nI_add]
          exact ih mid hi' _ M2 (i + 1) (F.tr F2) I2 (by omega) (by omega) (by omega) (by omega) (by omega) h
end Notes
