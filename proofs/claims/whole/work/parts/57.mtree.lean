/-! the reference: a tree -/
/-- the places of the reference's pupil u -/
def MoK (M : Mem) (m u : Nat) (T : List (List Nat)) (K : Nat → Nat) : Prop := ∀ c, c < 4 * T.length → mI M (m + 17) (512 * u + c) = nI (K c)
theorem MoK.sm {S : List Nat} {M M' : Mem} {m u : Nat} {T : List (List Nat)} {K : Nat → Nat} (h : Sm S M M') (hs : MoK M m u T K) (h1 : m + 17 ∉ S) : MoK M' m u T K := by
  unfold MoK at hs ⊢
  rw [h.I h1]; exact hs
section MTr
variable {d m u st sp : Nat} {Q : Option Value → Mem → Prop} {M M' : Mem} {A : PM} {s s' : List (List Nat) × Nat} {H T : List (List Nat)} {K : Nat → Nat}
theorem MoT.i {j : Nat} {v : Int32} (hj : j = 24 ∨ j = 25) (hi : MoT M m u A st sp s H T) : MoT (sI M m j v) m u A st sp s H T := by
  have F : Fu m u M (sI M m j v) := Fu.i M hj
  have S : Sm [m] M (sI M m j v) := Sm.sI (by simp) _ _ _
  exact hi.fu F (hi.2.2.2.2.1.sm S (by simp) (by simp) (by simp)) ⟨by rw [S.I (by simp)], by rw [S.I (by simp)]⟩ ⟨rfl, S.I (by simp), rfl⟩
theorem w_X12_sifts {w : List Nat} {X : List (List Nat)} (hd : 5 < d) (hi : MoT M m u A st sp s H T) (hK : MoK M m u T K) (hW : TW H T K) (hw : vw (pl A) w) (hlen : ∀ e, e ∈ T → w.length + e.length ≤ 30) (hX : ∀ v, v ∈ s.1 → v ∈ X) (hX2 : ∀ e, e ∈ T → w ++ e ∈ X) (hX3 : X.length < 8192)
    (h : ∀ M', Sm [m, m + 11, m + 12, m + 13] M M' → Fu m u M M' → MoT M' m u A st sp (aSs st sp s (sw A T K w 8 0)) H T → (mI M' m 24 = nI (sfM A T K w) ∧ mI M' m 25 = nI (512 * u + sfP A T K w)) → Q (some (.int (kcI (K (sfP A T K w))))) M') : ClD d mdX12_sifts [.ref m, .int (nI u), .long (lN (cd w))] M Q := by
  have hA := hi.ok
  have l3 := hA.2.1.2
  have hw1 := hW.1
  have a2 := hi.1.2
  refine ⟨5, hd, Cl.of moX12_sifts (Nat.le_of_ble_eq_true rfl) (gX12_sifts_0 hi.sh.1 ?_)⟩
  unfold sfP sfM at h
  have S0 : Sm [m, m + 11, m + 12, m + 13] M (sI M m 24 (nI 0)) := Sm.sI (by simp) _ _ _
  suffices G : ∀ f k j s1 M1, T.length ≤ k + f → k < T.length → j + f ≤ 8 → Sm [m, m + 11, m + 12, m + 13] M M1 → Fu m u M M1 → MoT M1 m u A st sp s1 H T → (∀ v, v ∈ s1.1 → v ∈ X) → mI M1 m 24 = nI j → (∀ M', Sm [m, m + 11, m + 12, m + 13] M M' → Fu m u M M' → MoT M' m u A st sp (aSs st sp s1 (sw A T K w f k)) H T → (mI M' m 24 = nI (j + (sf A T K (rn (pt A) 0 w) f k).1) ∧ mI M' m 25 = nI (512 * u + (sf A T K (rn (pt A) 0 w) f k).2)) → Q (some (.int (kcI (K (sf A T K (rn (pt A) 0 w) f k).2)))) M') → Wp 5 mdX12_sifts 8 [(0, .ref m), (1, .int (nI u)), (2, .long (lN (cd w))), (4, .int (nI k))] [] M1 (fun r M' => ROK mdX12_sifts r ∧ Q r M') by
    refine G 8 0 0 s _ (by omega) (by omega) (by omega) S0 (Fu.i M (Or.inl rfl)) (hi.i (Or.inl rfl)) hX (rI_at _ _ _ _) (fun M' a1 a2 a3 a4 => ?_)
    rw [Nat.zero_add] at a4
    exact h M' a1 a2 a3 a4
  intro f
  induction f with
  | zero => intro k j s1 M1 h1 h2; omega
  | succ f ih =>
    intro k j s1 M1 h1 h2 h3 S F I hXs i24 hq
    refine gX12_sifts_8 I.sh.1 ?_
    rw [i24, nI_add, pk_mul, nI_add, pk_mul]
    have I1 := I.i (j := 24) (v := nI (j + 1)) (Or.inl rfl)
    have F1 := F.tr (Fu.i M1 (u := u) (v := nI (j + 1)) (Or.inl rfl))
    have S1 : Sm [m, m + 11, m + 12, m + 13] M (sI M1 m 24 (nI (j + 1))) := S.tr (Sm.sI (by simp) _ _ _)
    obtain ⟨M2, hM2⟩ : ∃ M2, M2 = sI M1 m 24 (nI (j + 1)) := ⟨_, rfl⟩
    have j24 : mI M2 m 24 = nI (j + 1) := by rw [hM2]; exact rI_at _ _ _ _
    rw [← hM2] at I1 F1 S1 ⊢
    have hg := hi.2.2.2.2.2.2.2.1.2.get h2
    have hln := hlen _ (getD_mem h2)
    refine w_X12_tailOf (by decide) I1 h2 (gX12_sifts_39 (w_X12_both (by decide) (vw_mono hw (by omega)) (vw_mono hg.1 (by omega)) hln ?_))
    have hwd : vw (pl A) (w ++ T.getD k []) := vw_app.mpr ⟨hw, hg.1⟩
    have ha4 : an A (rn (pt A) 0 w) (T.getD k []) < 4 := by rw [← an_app]; exact an_lt hA hwd
    refine gX12_sifts_42 I1.sh.1 (I1.ask (by decide) (Nat.lt_of_le_of_lt (nodupW_le I1.nd hXs) hX3) hwd (by rw [List.length_append]; omega) (fun M3 S3 F3 I3 => ?_))
    rw [an_app]
    obtain ⟨c, hc⟩ : ∃ c, c = k * 4 + an A (rn (pt A) 0 w) (T.getD k []) := ⟨_, rfl⟩
    have c4 : c / 4 = k := by omega
    have f22 := I3.sh.f22
    have hadd : nI (4 * (128 * u + k)) + nI (an A (rn (pt A) 0 w) (T.getD k [])) = nI (512 * u + c) := by rw [nI_add]; congr 1; omega
    have F4 := (F1.tr F3).tr (Fu.i M3 (u := u) (v := nI (512 * u + c)) (Or.inr rfl))
    have I4 := I3.i (j := 25) (v := nI (512 * u + c)) (Or.inr rfl)
    have S4 : Sm [m, m + 11, m + 12, m + 13] M (sI M3 m 25 (nI (512 * u + c))) := (S1.tr (S3.mono (by simp))).tr (Sm.sI (by simp) _ _ _)
    have hrd : mI (sI M3 m 25 (nI (512 * u + c))) (m + 17) (512 * u + c) = nI (K c) := by
      rw [S4.I (by simp)]; exact hK c (by omega)
    have g24 : mI (sI M3 m 25 (nI (512 * u + c))) m 24 = nI (j + 1) := by rw [rI_nk (by decide), S3.I (by simp)]; exact j24
    have sfe : K c < 100 → sf A T K (rn (pt A) 0 w) (f + 1) k = (1, c) ∧ sw A T K w (f + 1) k = [w ++ T.getD k []] := fun hlt => by
      rw [hc] at hlt
      constructor
      · rw [hc]; exact if_pos hlt
      · show (w ++ T.getD k []) :: (if _ then _ else _) = _
        rw [if_pos hlt]
    have sfk : ¬ K c < 100 → sf A T K (rn (pt A) 0 w) (f + 1) k = ((sf A T K (rn (pt A) 0 w) f (K c - 100)).1 + 1, (sf A T K (rn (pt A) 0 w) f (K c - 100)).2) ∧ sw A T K w (f + 1) k = (w ++ T.getD k []) :: sw A T K w f (K c - 100) := fun hlt => by
      rw [hc] at hlt ⊢
      constructor
      · exact if_neg hlt
      · show (w ++ T.getD k []) :: (if _ then _ else _) = _
        rw [if_neg hlt]
    have hle := hW.le c
    refine gX12_sifts_45 I3.sh.1 I3.sh.1 (by simp only [eRI, eKI]; rw [f22.1]; exact f22.2.1) ?_ ?_ ?_ <;> rw [hadd]
    · rw [rI_at]; simp only [eRI, eNI]; rw [f22.1, f22.2.2]; exact z_in (by omega) (by omega)
    · intro c0
      simp only [eRI] at c0 ⊢
      rw [rI_at, f22.1, nI_clamp (by omega), hrd] at c0 ⊢
      rw [nI_leI (by omega) (by omega)] at c0
      have g := sfk (by omega)
      rw [g.1, g.2] at hq
      rcases hW.2.2 c (by omega) with e | ⟨a, a1, e⟩ | ⟨k', k1, k2, e⟩
      · omega
      · omega
      · rw [e, z_sub (by omega), show 100 + k' - 100 = k' by omega]
        rw [e, show 100 + k' - 100 = k' by omega] at hq
        refine ih k' (j + 1) _ _ (by omega) k2 (by omega) S4 F4 I4 (fun v hv => ?_) g24 (fun M' a1 a2 a3 a4 => hq M' a1 a2 a3 ⟨?_, a4.2⟩)
        · rcases (aS_mem _ _ _ _ _).mp hv with q | q
          · exact hXs v q
          · rw [q]; exact hX2 _ (getD_mem h2)
        · rw [a4.1]
          show nI (j + 1 + _) = nI (j + (_ + 1))
          rw [Nat.add_assoc, Nat.add_comm 1]
    · intro c0
      refine ⟨⟨_, rfl⟩, ?_⟩
      simp only [eRI] at c0 ⊢
      rw [rI_at, f22.1, nI_clamp (by omega), hrd] at c0 ⊢
      rw [nI_leI (by omega) (by omega)] at c0
      have g := sfe (by omega)
      rw [g.1, g.2] at hq
      have e9 : nI (K c) - nI 1 = kcI (K c) := by
        unfold kcI
        by_cases q0 : K c = 0
        · rw [q0, if_pos rfl]; decide
        · rw [if_neg q0, if_pos (by omega), z_sub (by omega)]
      rw [e9]
      exact hq _ S4 F4 I4 ⟨g24, rI_at _ _ _ _⟩
/-- places under other writes -/
theorem MoK.fm {S : List Nat} (h : Sm S M M') (hs : MoK M m u T K) (h1 : m + 17 ∉ S) : MoK M' m u T K := hs.sm h h1
theorem hx_cov {X : List (List Nat)} (hW : TW H T K) (hX2 : ∀ w, w ∈ rwW (pl A) H T → w ∈ X) : ∀ n v, v ∈ swN A H T K n → n ≤ H.length * pl A → v ∈ X := by
  intro n v hv hn
  obtain ⟨i, i1, i2⟩ := swN_mem.mp hv
  exact hX2 v (sw_row hW (by omega) i2)
theorem w_X12_growsLeaf {X : List (List Nat)} (hd : 6 < d) (hi : MoT M m u A st sp s H T) (hK : MoK M m u T K) (hW : TW H T K) (hlen : ∀ h e, h ∈ H → e ∈ T → h.length + 1 + e.length ≤ 30) (hT0 : [] ∈ T) (hX : ∀ v, v ∈ s.1 → v ∈ X) (hX2 : ∀ w, w ∈ rwW (pl A) H T → w ∈ X) (hX3 : X.length < 8192)
    (h1 : ∀ i M', isF (H.length * pl A) (fun i => K (sfP A T K (hx A H i)) = 0) (some i) → Sm [m, m + 6, m + 8, m + 9, m + 11, m + 12, m + 13, m + 17] M M' → Fu m u M M' → MoT M' m u A st sp (aSs st sp s (swN A H T K (i + 1))) (H ++ [hx A H i]) T → MoK M' m u T (upN K (sfP A T K (hx A H i)) (1 + H.length)) → mJ M' m 23 = lN (cd (hx A H i)) → Q (some (.int (nI 1))) M')
    (h0 : ∀ M', isF (H.length * pl A) (fun i => K (sfP A T K (hx A H i)) = 0) none → Sm [m, m + 11, m + 12, m + 13] M M' → Fu m u M M' → MoT M' m u A st sp (aSs st sp s (swN A H T K (H.length * pl A))) H T → Q (some (.int (nI 0))) M') : ClD d mdX12_growsLeaf [.ref m, .int (nI u)] M Q := by
  have hA := hi.ok
  have l3 := hA.2.1.2
  have hw1 := hW.1
  have a2 := hi.1.2
  have vu : vp_in (nI u) 2 := z_in a2 (by omega)
  refine ⟨6, hd, Cl.of moX12_growsLeaf (Nat.le_of_ble_eq_true rfl) (gX12_growsLeaf_0 ?_)⟩
  refine upto H.length (fun k => ∀ M1, Sm [m, m + 11, m + 12, m + 13] M M1 → Fu m u M M1 → MoT M1 m u A st sp (aSs st sp s (swN A H T K (k * pl A))) H T → (∀ i, i < k * pl A → K (sfP A T K (hx A H i)) ≠ 0) → Wp 6 mdX12_growsLeaf 2 [(0, .ref m), (1, .int (nI u)), (2, .int (nI k))] [] M1 (fun r M' => ROK mdX12_growsLeaf r ∧ Q r M')) ?_ 0 (Nat.zero_le _) M (Sm.rf _ _) (Fu.rf _ _ _) (by rw [Nat.zero_mul]; exact hi) (fun i h => by rw [Nat.zero_mul] at h; omega)
  intro k hk ih M1 S F I hno
  have f11 := I.sh.f11
  refine gX12_growsLeaf_2 I.sh.1 (by rw [f11.1]; exact f11.2.1) (by rw [f11.1, f11.2.2]; exact vu) (fun c => ⟨⟨_, rfl, by decide⟩, ?_⟩) (fun c => ?_) <;> rw [f11.1, nI_clamp (by omega), I.n.1.1, nI_leI (by omega) (by omega)] at c
  · have ek : k = H.length := by omega
    subst ek
    exact h0 M1 hno S F I
  · have hkl : k < H.length := by omega
    have hw := hi.2.2.2.2.2.2.2.1.1.get hkl
    refine upto (pl A) (fun x => ∀ M1, Sm [m, m + 11, m + 12, m + 13] M M1 → Fu m u M M1 → MoT M1 m u A st sp (aSs st sp s (swN A H T K (k * pl A + x))) H T → (∀ i, i < k * pl A + x → K (sfP A T K (hx A H i)) ≠ 0) → Wp 6 mdX12_growsLeaf 14 [(0, .ref m), (1, .int (nI u)), (2, .int (nI k)), (3, .int (nI x))] [] M1 (fun r M' => ROK mdX12_growsLeaf r ∧ Q r M')) ?_ 0 (Nat.zero_le _) M1 S F I hno
    intro x hx' ih2 M2 S2 F2 I2 hno2
    refine gX12_growsLeaf_14 I2.sh.1 (fun c1 => ?_) (fun c1 => ?_) <;> rw [I2.n.2.2.2, nI_leI (by omega) (by omega)] at c1
    · have ex : x = pl A := by omega
      subst ex
      rw [nI_add]
      have ea : (k + 1) * pl A = k * pl A + pl A := by rw [Nat.add_mul, Nat.one_mul]
      exact ih hkl M2 S2 F2 (by rw [ea]; exact I2) (by rw [ea]; exact hno2)
    · have hxl : x < pl A := by omega
      have ei := hx_at (H := H) (k := k) hxl
      have hil : k * pl A + x < H.length * pl A := ix_lt hkl hxl
      have hwx : vw (pl A) (H.getD k [] ++ [x]) := vw_app.mpr ⟨hw.1, fun v hv => by rw [List.mem_singleton] at hv; rw [hv]; exact hxl⟩
      refine w_X12_headOf (by decide) I2 hkl (gX12_growsLeaf_28 (w_X12_longer (by decide) (by omega) (gX12_growsLeaf_32 I2.sh.1 ?_)))
      have hXs : ∀ v, v ∈ (aSs st sp s (swN A H T K (k * pl A + x))).1 → v ∈ X := fun v hv => by
        rcases (aSs_mem _ _ _ _ _).mp hv with g | g
        · exact hX v g
        · exact hx_cov hW hX2 _ v g (by omega)
      refine w_X12_sifts (X := X) (by decide) I2 (hK.sm S2 (by simp)) hW hwx (fun e he => by have := hlen _ _ (getD_mem hkl) he; rw [List.length_append, List.length_singleton]; omega) hXs (fun e he => hX2 _ (rwW_mem.mpr ⟨_, getD_mem hkl, e, he, Or.inr ⟨x, hxl, rfl⟩⟩)) hX3 (fun M3 S3 F3 I3 h97 => ?_)
      have hsn : aSs st sp (aSs st sp s (swN A H T K (k * pl A + x))) (sw A T K (H.getD k [] ++ [x]) 8 0) = aSs st sp s (swN A H T K (k * pl A + x + 1)) := by
        rw [← aSs_app]
        show _ = aSs st sp s (swN A H T K (k * pl A + x) ++ sw A T K (hx A H (k * pl A + x)) 8 0)
        rw [ei]
      rw [hsn] at I3
      have f22 := I3.sh.f22
      have f11 := I3.sh.f11
      have hend := sf_end (q := rn (pt A) 0 (H.getD k [] ++ [x])) hW (an4 hA (fun e he => (hi.2.2.2.2.2.2.2.1.2 e he).1) (rn_lt hA hA.1.1 hwx)) 8 0 (by omega) hw1.1
      obtain ⟨pp, hpp⟩ : ∃ pp, pp = sfP A T K (H.getD k [] ++ [x]) := ⟨_, rfl⟩
      have hp4 : pp < 4 * T.length := by rw [hpp]; exact hend.2
      rw [← hpp] at h97
      rw [← hpp]
      have v25 : vp_in (mI M3 m 25) (mN M3 (mR M3 m 22)) := by rw [f22.1, f22.2.2, h97.2]; exact z_in (by omega) (by omega)
      refine gX12_growsLeaf_41 I3.sh.1 (by rw [f11.1]; exact f11.2.1) (by rw [f22.1]; exact f22.2.1) (fun _ => by rw [f11.1, f11.2.2]; exact vu) (fun _ => v25) (fun c2 => ?_) (fun c2 => ?_)
      · have hz0 : K pp = 0 := by
          refine Classical.byContradiction fun q => ?_
          have hle := hW.le pp
          unfold kcI at c2
          rw [if_neg q] at c2
          refine absurd z_m1 ?_
          rw [← c2]; split <;> exact nI_pos (by omega)
        have hF : isF (H.length * pl A) (fun i => K (sfP A T K (hx A H i)) = 0) (some (k * pl A + x)) := ⟨hil, by show K (sfP A T K (hx A H (k * pl A + x))) = 0; rw [ei, ← hpp]; exact hz0, fun j hj => hno2 j hj⟩
        rw [f22.1, h97.2, nI_clamp (by omega), f11.1, nI_clamp (by omega), I3.n.1.1, nI_add]
        obtain ⟨M4, hM4⟩ : ∃ M4, M4 = sI M3 (m + 17) (512 * u + pp) (nI (1 + H.length)) := ⟨_, rfl⟩
        rw [← hM4]
        have F4 : Fu m u M3 M4 := by rw [hM4]; exact Fu.I M3 (p := 17) (by decide) (by decide) (by show 512 * u ≤ _ ∧ _; omega)
        have S4 : Sm [m + 17] M3 M4 := by rw [hM4]; exact Sm.sI (by simp) _ _ _
        have I4 : MoT M4 m u A st sp (aSs st sp s (swN A H T K (k * pl A + x + 1))) H T := I3.fu F4 (I3.2.2.2.2.1.sm S4 (by simp) (by simp) (by simp)) ⟨by rw [S4.I (by simp)], by rw [S4.I (by simp)]⟩ ⟨S4.J (by simp), S4.I (by simp), S4.J (by simp)⟩
        have hln := hlen _ _ (getD_mem hkl) hT0
        rw [List.length_nil] at hln
        refine w_X12_headComes (by decide) I4 (by omega) ⟨hwx, by rw [List.length_append, List.length_singleton]; omega⟩ (fun M5 S5 F5 I5 => gX12_growsLeaf_72 I5.sh.1 ⟨⟨_, rfl, by decide⟩, ?_⟩)
        have S6 : Sm [m] M5 (sJ M5 m 23 (lN (cd (H.getD k [] ++ [x])))) := Sm.sJ (by simp) _ _ _
        refine h1 _ _ hF ((((S2.mono (by simp)).tr (S3.mono (by simp))).tr (S4.mono (by simp))).tr ((S5.mono (by simp)).tr (S6.mono (by simp)))) ((((F2.tr F3).tr F4).tr F5).tr (Fu.c M5)) (by rw [ei]; exact I5.came) (fun c hc => ?_) (by rw [ei]; exact rJ_at _ _ _ _)
        rw [ei, ← hpp]
        rw [S6.I (by simp), S5.I (by simp), hM4]
        unfold upN
        by_cases z : c = pp
        · subst z; rw [rI_at, if_pos rfl]
        · rw [rI_nk (by omega), if_neg z, S3.I (by simp)]
          exact (hK.sm S2 (by simp)) c hc
      · rw [nI_add]
        refine ih2 hxl M3 (S2.tr S3) (F2.tr F3) I3 (fun i hi' => ?_)
        by_cases q : i = k * pl A + x
        · rw [q, ei, ← hpp]
          intro z
          apply c2
          rw [z]; rfl
        · exact hno2 i (by omega)
theorem w_X12_guessesByTree {X : List (List Nat)} (hd : 6 < d) (hi : MoT M m u A st sp s H T) (hK : MoK M m u T K) (hW : TW H T K) (hlen : ∀ h e, h ∈ H → e ∈ T → h.length + 1 + e.length ≤ 30) (hH0 : 0 < H.length) (hno : isF (H.length * pl A) (fun i => K (sfP A T K (hx A H i)) = 0) none) (hsub : ∀ w, w ∈ swN A H T K (H.length * pl A) → w ∈ s.1) (hX : ∀ v, v ∈ s.1 → v ∈ X) (hX2 : ∀ w, w ∈ rwW (pl A) H T → w ∈ X) (hX3 : X.length < 8192) (hgo : okM (gR A H T K))
    (h : ∀ M', Sm [m, m + 2, m + 3, m + 4, m + 11, m + 12, m + 13, m + 15, m + 16] M M' → Fu m u M M' → MoT M' m u A st sp s H T → MoG M' m u (some (H, gR A H T K)) → Q none M') : ClD d mdX12_guessesByTree [.ref m, .int (nI u)] M Q := by
  have hA := hi.ok
  have l3 := hA.2.1.2
  have hw1 := hW.1
  have a2 := hi.1.2
  have vu : vp_in (nI u) 2 := z_in a2 (by omega)
  have vu1 : vp_in (nI (1 + u)) 3 := z_in (by omega) (by omega)
  have f11 := hi.sh.f11
  have f4 := hi.sh.f4
  have tI : ∀ {M0 M1}, MoT M0 m u A st sp s H T → Fu m u M0 M1 → Sm [m + 2, m + 3, m + 4, m + 15, m + 16] M0 M1 → MoT M1 m u A st sp s H T := fun I F S => I.fu F (I.2.2.2.2.1.sm S (by simp) (by simp) (by simp)) ⟨by rw [S.I (by simp)], by rw [S.I (by simp)]⟩ ⟨S.J (by simp), S.I (by simp), S.J (by simp)⟩
  refine ⟨6, hd, Cl.of moX12_guessesByTree (Nat.le_of_ble_eq_true rfl) (gX12_guessesByTree_0 hi.sh.1 (by rw [f11.1]; exact f11.2.1) (by rw [f4.1]; exact f4.2.1) (by rw [f11.1, f11.2.2]; exact vu) (by rw [f4.1, f4.2.2, nI_add]; exact vu1) ?_)⟩
  rw [f11.1, f4.1, nI_add, nI_clamp (by omega), nI_clamp (by omega), hi.n.1.1]
  have F0 : Fu m u M (sI M (m + 2) (1 + u) (nI H.length)) := Fu.I M (p := 2) (by decide) (by decide) rfl
  have S0 : Sm [m + 2, m + 3, m + 4, m + 15, m + 16] M (sI M (m + 2) (1 + u) (nI H.length)) := Sm.sI (by simp) _ _ _
  refine upto H.length (fun k => ∀ M1, Fu m u M M1 → Sm [m, m + 2, m + 3, m + 4, m + 11, m + 12, m + 13, m + 15, m + 16] M M1 → MoT M1 m u A st sp s H T → mI M1 (m + 2) (1 + u) = nI H.length → (∀ j, j < k → mJ M1 (m + 16) (8 * u + j) = lN (cd (H.getD j [])) ∧ mI M1 (m + 3) (8 * (1 + u) + j) = nI (po (gR A H T K) j)) → (∀ i x, i < k → x < pl A → mI M1 (m + 4) (3 * (8 * (1 + u) + i) + x) = nI (pt (gR A H T K) i x)) → Wp 6 mdX12_guessesByTree 18 [(0, .ref m), (1, .int (nI u)), (2, .int (nI (1 + u))), (3, .int (nI k))] [] M1 (fun r M' => ROK mdX12_guessesByTree r ∧ Q r M')) ?_ 0 (Nat.zero_le _) _ F0 (S0.mono (by simp)) (tI hi F0 S0) (rI_at _ _ _ _) (fun _ h => by omega) (fun _ _ h => by omega)
  intro k hk ih M1 F S I hn hac hnx
  have f11 := I.sh.f11
  have f20 := I.sh.f20
  have f21 := I.sh.f21
  refine gX12_guessesByTree_18 I.sh.1 (by rw [f11.1]; exact f11.2.1) (by rw [f20.1]; exact f20.2.1) (by rw [f11.1, f11.2.2]; exact vu) (fun _ => by rw [f20.1, f20.2.2]; exact vu) (fun c => ⟨rfl, ?_⟩) (fun c => ?_) <;> rw [f11.1, nI_clamp (by omega), I.n.1.1, nI_leI (by omega) (by omega)] at c
  · have ek : k = H.length := by omega
    subst ek
    rw [f20.1, nI_clamp (by omega)]
    have F3 : Fu m u M1 (sI M1 (m + 15) u (nI 1)) := Fu.I M1 (p := 15) (by decide) (by decide) rfl
    have S3 : Sm [m + 2, m + 3, m + 4, m + 15, m + 16] M1 (sI M1 (m + 15) u (nI 1)) := Sm.sI (by simp) _ _ _
    refine h _ (S.tr (S3.mono (by simp))) (F.tr F3) (tI I F3 S3) ⟨rI_at _ _ _ _, fun j hj => (hac j hj).1, ⟨?_, fun j hj => ?_, fun i hi' x hx => ?_⟩, hgo, rfl⟩
    · rw [rI_np (by omega)]; exact hn
    · rw [rI_np (by omega)]; exact (hac j hj).2
    · rw [rI_np (by omega)]; exact hnx i x hi' hx
  · have hkl : k < H.length := by omega
    have hw := hi.2.2.2.2.2.2.2.1.1.get hkl
    rw [f21.1, pk_mul, nI_add]
    refine w_X12_headOf (by decide) I hkl (gX12_guessesByTree_44 f21.2.1 I.sh.1 (by rw [f21.2.2]; exact z_in (by omega) (by omega)) ?_)
    rw [nI_clamp (by omega)]
    simp only [eRJ]
    obtain ⟨M2, hM2⟩ : ∃ M2, M2 = sJ M1 (m + 16) (8 * u + k) (lN (cd (H.getD k []))) := ⟨_, rfl⟩
    rw [← hM2]
    have F2 : Fu m u M1 M2 := by rw [hM2]; exact Fu.J M1 (p := 16) (by decide) (by decide) (by show 8 * u ≤ _ ∧ _; omega)
    have S2 : Sm [m + 2, m + 3, m + 4, m + 15, m + 16] M1 M2 := by rw [hM2]; exact Sm.sJ (by simp) _ _ _
    have I2 := tI I F2 S2
    have f5 := I.sh.f5
    rw [f5.1, pk_mul, nI_add]
    have k5 : mK M2 (m + 3) = 1 := by rw [S2.2.2.1]; exact f5.2.1
    have n5 : mN M2 (m + 3) = 24 := by rw [S2.2.2.2.1]; exact f5.2.2
    refine w_X12_headOf (by decide) I2 hkl (gX12_guessesByTree_63 I2.sh.1 (w_X12_answer (by decide) I2.sh (by decide) I2.2.2.1 hA hw.1 hw.2 (gX12_guessesByTree_66 k5 (by rw [n5]; exact z_in (by omega) (by omega)) ?_)))
    rw [nI_clamp (by omega)]
    obtain ⟨M3, hM3⟩ : ∃ M3, M3 = sI M2 (m + 3) (8 * (1 + u) + k) (nI (an A 0 (H.getD k []))) := ⟨_, rfl⟩
    rw [← hM3]
    have F3 : Fu m u M2 M3 := by rw [hM3]; exact Fu.I M2 (p := 3) (by decide) (by decide) (by show 8 * (1 + u) ≤ _ ∧ _; omega)
    have S3 : Sm [m + 2, m + 3, m + 4, m + 15, m + 16] M2 M3 := by rw [hM3]; exact Sm.sI (by simp) _ _ _
    have hac3 : ∀ j, j < k + 1 → mJ M3 (m + 16) (8 * u + j) = lN (cd (H.getD j [])) ∧ mI M3 (m + 3) (8 * (1 + u) + j) = nI (po (gR A H T K) j) := fun j hj => by
      by_cases z : j = k
      · subst z
        constructor
        · rw [hM3, rJ_I, hM2]; exact rJ_at _ _ _ _
        · rw [hM3]; exact rI_at _ _ _ _
      · constructor
        · rw [hM3, rJ_I, hM2, rJ_nk (by omega)]; exact (hac j (by omega)).1
        · rw [hM3, rI_nk (by omega), hM2]; exact (hac j (by omega)).2
    have hn3 : mI M3 (m + 2) (1 + u) = nI H.length := by rw [hM3, rI_np (by omega), hM2]; exact hn
    have hnx3 : ∀ i x, i < k → x < pl A → mI M3 (m + 4) (3 * (8 * (1 + u) + i) + x) = nI (pt (gR A H T K) i x) := fun i x hi' hx => by rw [hM3, rI_np (by omega), hM2]; exact hnx i x hi' hx
    refine upto (pl A) (fun x => ∀ M1, Fu m u M M1 → Sm [m, m + 2, m + 3, m + 4, m + 11, m + 12, m + 13, m + 15, m + 16] M M1 → MoT M1 m u A st sp s H T → mI M1 (m + 2) (1 + u) = nI H.length → (∀ j, j < k + 1 → mJ M1 (m + 16) (8 * u + j) = lN (cd (H.getD j [])) ∧ mI M1 (m + 3) (8 * (1 + u) + j) = nI (po (gR A H T K) j)) → (∀ i y, i < k ∨ i = k ∧ y < x → y < pl A → mI M1 (m + 4) (3 * (8 * (1 + u) + i) + y) = nI (pt (gR A H T K) i y)) → Wp 6 mdX12_guessesByTree 70 [(0, .ref m), (1, .int (nI u)), (2, .int (nI (1 + u))), (3, .int (nI k)), (4, .int (nI x))] [] M1 (fun r M' => ROK mdX12_guessesByTree r ∧ Q r M')) ?_ 0 (Nat.zero_le _) M3 ((F.tr F2).tr F3) ((S.tr (S2.mono (by simp))).tr (S3.mono (by simp))) (tI I2 F3 S3) hn3 hac3 (fun i y hc hy => hnx3 i y (by omega) hy)
    intro x hx' ih2 M4 F4 S4 I4 hn4 hac4 hnx4
    have f6 := I4.sh.f6
    refine gX12_guessesByTree_70 I4.sh.1 (fun c1 => ?_) (fun c1 => ?_) <;> rw [I4.n.2.2.2, nI_leI (by omega) (by omega)] at c1
    · rw [nI_add]
      exact ih hkl M4 F4 S4 I4 hn4 hac4 (fun i y hi' hy => hnx4 i y (by omega) hy)
    · have hxl : x < pl A := by omega
      have hwx : vw (pl A) (H.getD k [] ++ [x]) := vw_app.mpr ⟨hw.1, fun v hv => by rw [List.mem_singleton] at hv; rw [hv]; exact hxl⟩
      have ei := hx_at (H := H) (k := k) hxl
      rw [f6.1, pk_mul, nI_add, pk_mul, nI_add]
      refine w_X12_headOf (by decide) I4 hkl (gX12_guessesByTree_102 (w_X12_longer (by decide) (by omega) (gX12_guessesByTree_107 I4.sh.1 ?_)))
      refine w_X12_sifts (X := X) (by decide) I4 (hK.sm S4 (by simp)) hW hwx (fun e he => by have := hlen _ _ (getD_mem hkl) he; rw [List.length_append, List.length_singleton]; omega) hX (fun e he => hX2 _ (rwW_mem.mpr ⟨_, getD_mem hkl, e, he, Or.inr ⟨x, hxl, rfl⟩⟩)) hX3 (fun M5 S5 F5 I5 h97 => ?_)
      have hsame : aSs st sp s (sw A T K (H.getD k [] ++ [x]) 8 0) = s := by
        have key : ∀ L : List (List Nat), (∀ v, v ∈ L → v ∈ s.1) → aSs st sp s L = s := by
          intro L
          induction L with
          | nil => intro _; rfl
          | cons a L ihL =>
            intro hL
            show aSs st sp (aS st sp s a) L = s
            rw [aS_in (hL a List.mem_cons_self)]
            exact ihL (fun v hv => hL v (List.mem_cons.mpr (Or.inr hv)))
        refine key _ (fun v hv => hsub v (swN_mem.mpr ⟨k * pl A + x, ix_lt hkl hxl, by rw [ei]; exact hv⟩))
      rw [hsame] at I5
      have hend := sf_end (q := rn (pt A) 0 (H.getD k [] ++ [x])) hW (an4 hA (fun e he => (hi.2.2.2.2.2.2.2.1.2 e he).1) (rn_lt hA hA.1.1 hwx)) 8 0 (by omega) hw1.1
      have hne := hno _ (ix_lt hkl hxl)
      have hne : ¬ K (sfP A T K (hx A H (k * pl A + x))) = 0 := hne
      rw [ei] at hne
      have hkc : kcI (K (sfP A T K (H.getD k [] ++ [x]))) = nI (pt (gR A H T K) k x) := by
        have h100 : K (sfP A T K (H.getD k [] ++ [x])) < 100 := hend.1
        unfold kcI
        rw [if_neg hne, if_pos h100]; rfl
      rw [hkc]
      have k6 : mK M5 (m + 4) = 1 := by rw [S5.2.2.1]; exact f6.2.1
      have n6 : mN M5 (m + 4) = 72 := by rw [S5.2.2.2.1]; exact f6.2.2
      refine gX12_guessesByTree_110 k6 (by rw [n6]; exact z_in (by omega) (by omega)) ?_
      rw [nI_clamp (by omega), nI_add]
      have F6 : Fu m u M5 (sI M5 (m + 4) (3 * (8 * (1 + u) + k) + x) (nI (pt (gR A H T K) k x))) := Fu.I M5 (p := 4) (by decide) (by decide) (by show 24 * (1 + u) ≤ _ ∧ _; omega)
      have S6 : Sm [m + 2, m + 3, m + 4, m + 15, m + 16] M5 (sI M5 (m + 4) (3 * (8 * (1 + u) + k) + x) (nI (pt (gR A H T K) k x))) := Sm.sI (by simp) _ _ _
      refine ih2 hxl _ ((F4.tr F5).tr F6) ((S4.tr (S5.mono (by simp))).tr (S6.mono (by simp))) (tI I5 F6 S6) ?_ (fun j hj => ?_) (fun i y hc hy => ?_)
      · rw [rI_np (by omega), S5.I (by simp)]; exact hn4
      · rw [rJ_I, S5.J (by simp), rI_np (by omega), S5.I (by simp)]; exact hac4 j hj
      · by_cases z : i = k ∧ y = x
        · obtain ⟨rfl, rfl⟩ := z
          exact rI_at _ _ _ _
        · rw [rI_nk (by omega), S5.I (by simp)]
          refine hnx4 i y ?_ hy
          rcases hc with c | c
          · exact Or.inl c
          · refine Or.inr ⟨c.1, ?_⟩
            have : ¬ y = x := fun e => z ⟨c.1, e⟩
            omega
end MTr
