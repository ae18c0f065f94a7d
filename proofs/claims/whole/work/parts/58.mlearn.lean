/-! the reference: what a lesson needs -/
section MLe
variable {d m u st sp : Nat} {Q : Option Value → Mem → Prop} {M M' : Mem} {A : PM} {s : List (List Nat) × Nat} {H T : List (List Nat)} {g : GU} {K : Nat → Nat}
theorem w_X12_endInGuess {w : List Nat} (hd : 3 < d) (hs : MoSh M m) (hu : u < 2) (hg : MoG M m u (some g)) (hw : vw (pl g.2) w) (hl : w.length ≤ 30) (h : Q (some (.int (nI (rn (pt g.2) 0 w)))) M) : ClD d mdX12_endInGuess [.ref m, .int (nI u), .long (lN (cd w))] M Q := by
  obtain ⟨-, -, g3, g4, -⟩ := hg
  refine ⟨3, hd, Cl.of moX12_endInGuess (Nat.le_of_ble_eq_true rfl) (gX12_endInGuess_0 hs.1 ?_)⟩
  rw [nI_add]
  exact w_X12_endFrom (by decide) hs (by omega) g3 g4 g4.1.1 hw hl (gX12_endInGuess_9 ⟨⟨_, rfl⟩, h⟩)
theorem w_X12_accessOf {k : Nat} (hd : 1 < d) (hs : MoSh M m) (hu : u < 2) (hg : MoG M m u (some g)) (hk : k < pn g.2) (h : Q (some (.long (lN (cd (g.1.getD k []))))) M) : ClD d mdX12_accessOf [.ref m, .int (nI u), .int (nI k)] M Q := by
  obtain ⟨-, g2, g3, g4, g5⟩ := hg
  have f := hs.f21
  have g8 := g4.1.2
  refine ⟨1, hd, Cl.of moX12_accessOf (Nat.le_of_ble_eq_true rfl) (gX12_accessOf_0 hs.1 (by rw [f.1]; exact f.2.1) ?_ ⟨⟨_, rfl⟩, ?_⟩)⟩ <;> rw [f.1, pk_mul, nI_add]
  · rw [f.2.2]; exact z_in (by omega) (by omega)
  · rw [nI_clamp (by omega), g2 k (by omega)]; exact h
theorem w_X12_isHead {w : List Nat} (hd : 2 < d) (hi : MoT M m u A st sp s H T) (hw : vw 4 w) (hl : w.length ≤ 30) (h1 : w ∈ H → Q (some (.int (nI 1))) M) (h0 : w ∉ H → Q (some (.int (nI 0))) M) : ClD d mdX12_isHead [.ref m, .int (nI u), .long (lN (cd w))] M Q := by
  have hA := hi.ok
  have l3 := hA.2.1.2
  have a2 := hi.1.2
  have f := hi.sh.f11
  refine ⟨2, hd, Cl.of moX12_isHead (Nat.le_of_ble_eq_true rfl) (gX12_isHead_0 ?_)⟩
  refine upto H.length (fun k => (∀ j, j < k → H.getD j [] ≠ w) → Wp 2 mdX12_isHead 3 [(0, .ref m), (1, .int (nI u)), (2, .long (lN (cd w))), (4, .int (nI k))] [] M (fun r M' => ROK mdX12_isHead r ∧ Q r M')) ?_ 0 (Nat.zero_le _) (fun j h => by omega)
  intro k hk ih hno
  have hn := hi.n.1.1
  have hlen := hi.n.2.1
  refine gX12_isHead_3 hi.sh.1 (by rw [f.1]; exact f.2.1) (by rw [f.1, f.2.2]; exact z_in a2 (by omega)) (fun c => ⟨⟨_, rfl, by decide⟩, ?_⟩) (fun c => ?_) <;> rw [f.1, nI_clamp (by omega), hn, nI_leI (by omega) (by omega)] at c
  · refine h0 (fun hm => ?_)
    obtain ⟨j, hj, e⟩ := mem_getD hm
    exact hno j (by omega) e
  · have hkl : k < H.length := by omega
    have hg := hi.2.2.2.2.2.2.2.1.1.get hkl
    have c1 := cd30 hw hl
    have c2 := cd30 (vw_mono hg.1 (show pl A ≤ 4 by omega)) hg.2
    refine w_X12_headOf (by decide) hi hkl (gX12_isHead_21 (fun c => ?_) (fun c => ⟨⟨_, rfl, by decide⟩, ?_⟩)) <;> rw [pk_lEQ (by omega) (by omega)] at c
    · rw [nI_add]
      refine ih hkl (fun j hj => ?_)
      by_cases e : j = k
      · subst e; exact fun q => c (by rw [q])
      · exact hno j (by omega)
    · exact h1 (by rw [← cd_inj (vw_mono hg.1 (by omega)) hw c]; exact getD_mem hkl)
theorem w_X12_isTail {w : List Nat} (hd : 2 < d) (hi : MoT M m u A st sp s H T) (hw : vw 4 w) (hl : w.length ≤ 30) (h1 : w ∈ T → Q (some (.int (nI 1))) M) (h0 : w ∉ T → Q (some (.int (nI 0))) M) : ClD d mdX12_isTail [.ref m, .int (nI u), .long (lN (cd w))] M Q := by
  have hA := hi.ok
  have l3 := hA.2.1.2
  have a2 := hi.1.2
  have f := hi.sh.f12
  refine ⟨2, hd, Cl.of moX12_isTail (Nat.le_of_ble_eq_true rfl) (gX12_isTail_0 ?_)⟩
  refine upto T.length (fun k => (∀ j, j < k → T.getD j [] ≠ w) → Wp 2 mdX12_isTail 3 [(0, .ref m), (1, .int (nI u)), (2, .long (lN (cd w))), (4, .int (nI k))] [] M (fun r M' => ROK mdX12_isTail r ∧ Q r M')) ?_ 0 (Nat.zero_le _) (fun j h => by omega)
  intro k hk ih hno
  have hn := hi.n.1.2
  have hlen := hi.n.2.2.1
  refine gX12_isTail_3 hi.sh.1 (by rw [f.1]; exact f.2.1) (by rw [f.1, f.2.2]; exact z_in a2 (by omega)) (fun c => ⟨⟨_, rfl, by decide⟩, ?_⟩) (fun c => ?_) <;> rw [f.1, nI_clamp (by omega), hn, nI_leI (by omega) (by omega)] at c
  · refine h0 (fun hm => ?_)
    obtain ⟨j, hj, e⟩ := mem_getD hm
    exact hno j (by omega) e
  · have hkl : k < T.length := by omega
    have hg := hi.2.2.2.2.2.2.2.1.2.get hkl
    have c1 := cd30 hw hl
    have c2 := cd30 (vw_mono hg.1 (show pl A ≤ 4 by omega)) hg.2
    refine w_X12_tailOf (by decide) hi hkl (gX12_isTail_21 (fun c => ?_) (fun c => ⟨⟨_, rfl, by decide⟩, ?_⟩)) <;> rw [pk_lEQ (by omega) (by omega)] at c
    · rw [nI_add]
      refine ih hkl (fun j hj => ?_)
      by_cases e : j = k
      · subst e; exact fun q => c (by rw [q])
      · exact hno j (by omega)
    · exact h1 (by rw [← cd_inj (vw_mono hg.1 (by omega)) hw c]; exact getD_mem hkl)
theorem MoG.fu (F : Fu m u M M') (S : Sm [m + 6, m + 7, m + 8, m + 9, m + 10, m + 11, m + 12, m + 13, m + 17] M M') {g : Option GU} (h : MoG M m u g) : MoG M' m u g := by
  cases g with
  | none => show mI M' (m + 15) u = nI 0; rw [S.I (by simp)]; exact h
  | some g =>
    obtain ⟨g1, g2, g3, g4, g5⟩ := h
    refine ⟨by rw [S.I (by simp)]; exact g1, fun j hj => by rw [S.J (by simp)]; exact g2 j hj, g3.sm S (by simp) (by simp) (by simp), g4, g5⟩
theorem w_X12_lowOf {w : List Nat} {its : Nat} (hd : 5 < d) (hi : MoT M m u A st sp s H T) (hg : MoG M m u (some g)) (hgl : pl g.2 = pl A) (hac : ∀ v, v ∈ g.1 → vw (pl A) v ∧ v.length ≤ 15) (hw : vw (pl A) w) (hl : w.length ≤ 15) (hw1 : 1 ≤ w.length) (hits : its < 4) (hn : s.1.length + 16 < 8192)
    (h : ∀ M', Sm [m + 11, m + 12, m + 13] M M' → Fu m u M M' → MoT M' m u A st sp (pA st sp A g w its 15 0 w.length s).2.2 H T → Q (some (.int (nI (pA st sp A g w its 15 0 w.length s).1))) M') : ClD d mdX12_lowOf [.ref m, .int (nI u), .long (lN (cd w)), .int (nI its)] M Q := by
  have hA := hi.ok
  have l3 := hA.2.1.2
  have a2 := hi.1.2
  have hw4 := vw_mono hw (show pl A ≤ 4 by omega)
  refine ⟨5, hd, Cl.of moX12_lowOf (Nat.le_of_ble_eq_true rfl) (gX12_lowOf_0 (w_X12_lengthOf (by decide) hw4 (by omega) (gX12_lowOf_7 ?_)))⟩
  suffices G : ∀ f lo hi' s M1, lo < hi' → hi' ≤ w.length → hi' ≤ lo + 1 + f → s.1.length + f + 1 < 8192 → Sm [m + 11, m + 12, m + 13] M M1 → Fu m u M M1 → MoT M1 m u A st sp s H T → (∀ M', Sm [m + 11, m + 12, m + 13] M M' → Fu m u M M' → MoT M' m u A st sp (pA st sp A g w its f lo hi' s).2.2 H T → Q (some (.int (nI (pA st sp A g w its f lo hi' s).1))) M') → Wp 5 mdX12_lowOf 9 [(0, .ref m), (1, .int (nI u)), (2, .long (lN (cd w))), (4, .int (nI its)), (5, .int (nI lo)), (6, .int (nI hi'))] [] M1 (fun r M' => ROK mdX12_lowOf r ∧ Q r M') from G 15 0 w.length s M (by omega) (Nat.le_refl _) (by omega) (by omega) (Sm.rf _ _) (Fu.rf _ _ _) hi h
  intro f
  induction f with
  | zero =>
    intro lo hi' s M1 h0 h1 h2 _ S F I hq
    exact gX12_lowOf_9 (fun _ => ⟨⟨_, rfl⟩, hq M1 S F I⟩) (fun c => absurd (by rw [nI_add]; exact nI_le (by omega) (by omega)) c)
  | succ f ih =>
    intro lo hi' s M1 h0 h1 h2 hn1 S F I hq
    by_cases c0 : hi' ≤ lo + 1
    · have e : pA st sp A g w its (f + 1) lo hi' s = (lo, hi', s) := if_pos c0
      rw [e] at hq
      exact gX12_lowOf_9 (fun _ => ⟨⟨_, rfl⟩, hq M1 S F I⟩) (fun c => absurd (by rw [nI_add]; exact nI_le (by omega) (by omega)) c)
    · refine gX12_lowOf_9 (fun c => ?_) (fun _ => ?_)
      · exfalso; rw [nI_add, nI_leI (by omega) (by omega)] at c; omega
      · obtain ⟨mid, hmid⟩ : ∃ mid, mid = (lo + hi') / 2 := ⟨_, rfl⟩
        rw [nI_add, pk_div (by omega) (by decide) (by decide), ← hmid]
        have ht := vw_take hw mid
        have hg1 : MoG M1 m u (some g) := hg.fu F (S.mono (by simp <;> omega))
        have hr := rn_lt hg1.2.2.2.1 hg1.2.2.2.1.1.1 (w := w.take mid) (by rw [hgl]; exact ht)
        have hacc : vw (pl A) (acc g (w.take mid)) ∧ (acc g (w.take mid)).length ≤ 15 := hac _ (getD_mem (by rw [hg1.2.2.2.2]; exact hr))
        refine w_X12_firstOf (by decide) hw4 (by omega) (by omega) (gX12_lowOf_37 I.sh.1 (w_X12_endInGuess (by decide) I.sh a2 hg1 (by rw [hgl]; exact ht) (by rw [List.length_take]; omega) (gX12_lowOf_40 I.sh.1 (w_X12_accessOf (by decide) I.sh a2 hg1 hr (gX12_lowOf_43 ?_)))))
        have hdr := vw_drop hw mid
        have hdl : (w.drop mid).length ≤ 15 := by rw [List.length_drop]; omega
        refine w_X12_behind (by decide) hw4 (by omega) (by omega) (gX12_lowOf_55 (w_X12_both (by decide) (vw_mono hacc.1 (by omega)) (vw_mono hdr (by omega)) (by show (acc g (w.take mid)).length + _ ≤ 30; omega) ?_))
        have hwd : vw (pl A) (acc g (w.take mid) ++ w.drop mid) := vw_app.mpr ⟨hacc.1, hdr⟩
        refine gX12_lowOf_58 I.sh.1 (I.ask (w := acc g (w.take mid) ++ w.drop mid) (by decide) (by omega) hwd (by rw [List.length_append]; omega) (fun M2 S2 F2 I2 => ?_))
        have hlt := an_lt hA hwd
        have hlen := aS_len st sp s (acc g (w.take mid) ++ w.drop mid)
        refine gX12_lowOf_61 (fun c => ?_) (fun c => ?_)
        · have c : ¬ an A 0 (acc g (w.take mid) ++ w.drop mid) = its := fun q => c (by rw [q])
          have e : pA st sp A g w its (f + 1) lo hi' s = pA st sp A g w its f lo mid (aS st sp s (acc g (w.take mid) ++ w.drop mid)) := by
            rw [hmid] at c ⊢
            exact (if_neg c0).trans (if_neg c)
          rw [e] at hq
          exact ih lo mid _ M2 (by omega) (by omega) (by omega) (by omega) (S.tr S2) (F.tr F2) I2 hq
        · rw [nI_eq (by omega) (by omega)] at c
          have e : pA st sp A g w its (f + 1) lo hi' s = pA st sp A g w its f mid hi' (aS st sp s (acc g (w.take mid) ++ w.drop mid)) := by
            rw [hmid] at c ⊢
            exact (if_neg c0).trans (if_pos c)
          rw [e] at hq
          exact ih mid hi' _ M2 (by omega) (by omega) (by omega) (by omega) (S.tr S2) (F.tr F2) I2 hq
end MLe
