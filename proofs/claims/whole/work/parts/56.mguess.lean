/-! the reference: the guess of a table -/
/-- the guess of the reference's pupil u -/
def MoG (M : Mem) (m u : Nat) (g : Option GU) : Prop := match g with
  | none => mI M (m + 15) u = nI 0
  | some g => mI M (m + 15) u = nI 1 ∧ (∀ j, j < g.1.length → mJ M (m + 16) (8 * u + j) = lN (cd (g.1.getD j []))) ∧ MoM M m (1 + u) g.2 ∧ okM g.2 ∧ g.1.length = pn g.2
section MT3
variable {d m u st sp : Nat} {Q : Option Value → Mem → Prop} {M M' : Mem} {A : PM} {s s' : List (List Nat) × Nat} {H T : List (List Nat)}
theorem w_X12_stateOfHead {k i : Nat} {L : List (List Nat)} (hd : 2 < d) (hi : MoT M m u A st sp s H T) (hk : k < H.length) (hL8 : L.length ≤ 8) (hLo : okL L) (h2 : mI M (m + 2) (1 + u) = nI L.length) (hacc : ∀ j, j < L.length → mJ M (m + 16) (8 * u + j) = lN (cd (L.getD j []))) (hil : i < L.length) (he : L.getD i [] = H.getD k []) (hun : ∀ j, j < L.length → L.getD j [] = H.getD k [] → j = i) (h : Q (some (.int (nI i))) M) : ClD d mdX12_stateOfHead [.ref m, .int (nI u), .int (nI k)] M Q := by
  have hA := hi.ok
  have a2 := hi.1.2
  have hs := hi.sh
  have f4 := hs.f4
  have f21 := hs.f21
  refine ⟨2, hd, Cl.of moX12_stateOfHead (Nat.le_of_ble_eq_true rfl) (gX12_stateOfHead_0 ?_)⟩
  refine upto L.length (fun j => ∀ n, n < 8 → (i < j → n = i) → Wp 2 mdX12_stateOfHead 5 [(0, .ref m), (1, .int (nI u)), (2, .int (nI k)), (3, .int (nI n)), (4, .int (nI j))] [] M (fun r M' => ROK mdX12_stateOfHead r ∧ Q r M')) ?_ 0 (Nat.zero_le _) 0 (by decide) (fun h => by omega)
  intro j hj ih n hn hni
  refine gX12_stateOfHead_5 hs.1 (by rw [f4.1]; exact f4.2.1) (by rw [f21.1]; exact f21.2.1) (by rw [f4.1, f4.2.2, nI_add]; exact z_in (by omega) (by omega)) (fun c => ⟨⟨_, rfl⟩, ?_⟩) (fun c => ?_) (fun c => ?_) <;> rw [f4.1, nI_add, nI_clamp (by omega), h2, nI_leI (by omega) (by omega)] at c
  · rw [hni (by omega)]; exact h
  · rw [f21.1, f21.2.2, pk_mul, nI_add]; exact z_in (by omega) (by omega)
  · have hjl : j < L.length := by omega
    have hw := hi.2.2.2.2.2.2.2.1.1.get hk
    have l3 := hA.2.1.2
    have c1 := cd30 (vw_mono hw.1 (show pl A ≤ 4 by omega)) hw.2
    have hg := hLo.get hjl
    have c2 := cd30 hg.1 hg.2
    rw [f21.1, pk_mul, nI_add, nI_clamp (by omega), hacc j hjl]
    refine w_X12_headOf (by decide) hi hk (gX12_stateOfHead_36 (fun c => ?_) (fun c => ?_)) <;> rw [pk_lEQ (by omega) (by omega)] at c <;> rw [nI_add]
    · refine ih hjl n hn (fun hlt => hni ?_)
      refine Nat.lt_of_le_of_ne (by omega) (fun e => ?_)
      subst e
      exact c (by rw [he])
    · have e := cd_inj hg.1 (vw_mono hw.1 (by omega)) c
      exact ih hjl j (by omega) (fun _ => hun j hjl e)
theorem w_X12_guessesByTable (hd : 5 < d) (hi : MoT M m u A st sp s H T) (hne : 0 < H.length) (hcl : isF (H.length * pl A) (opn A H T) none) (h : ∀ M', Sm [m + 2, m + 3, m + 4, m + 15, m + 16] M M' → Fu m u M M' → MoT M' m u A st sp s H T → MoG M' m u (some (aT A H T, gT A H T)) → Q none M') : ClD d mdX12_guessesByTable [.ref m, .int (nI u)] M Q := by
  have hA := hi.ok
  have l3 := hA.2.1.2
  have a8 := hA.1.2
  have a2 := hi.1.2
  have hH := hi.n.2.1
  have okH := hi.2.2.2.2.2.2.2.1.1
  have vu : vp_in (nI u) 2 := z_in a2 (by omega)
  have vu1 : vp_in (nI (1 + u)) 3 := z_in (by omega) (by omega)
  have hgo := gT_ok hA okH hne hcl
  have hLo : okL (aT A H T) := okV.L hA (okV.aT okH (Nat.le_refl _))
  have aH8 : (aT A H T).length ≤ 8 := aT_len8 hA okH (Nat.le_refl _)
  have tI : ∀ {M1}, Fu m u M M1 → Sm [m + 2, m + 3, m + 4, m + 15, m + 16] M M1 → MoT M1 m u A st sp s H T := fun F S => hi.fu F (hi.2.2.2.2.1.sm S (by simp) (by simp) (by simp)) ⟨by rw [S.I (by simp)], by rw [S.I (by simp)]⟩ ⟨S.J (by simp), S.I (by simp), S.J (by simp)⟩
  have g4 := hi.sh.f4
  refine ⟨5, hd, Cl.of moX12_guessesByTable (Nat.le_of_ble_eq_true rfl) (gX12_guessesByTable_0 hi.sh.1 (by rw [g4.1]; exact g4.2.1) (by rw [g4.1, g4.2.2, nI_add]; exact vu1) ?_)⟩
  rw [g4.1, nI_add, nI_clamp (by omega)]
  have F0 : Fu m u M (sI M (m + 2) (1 + u) (nI 0)) := Fu.I M (p := 2) (by decide) (by decide) rfl
  have S0 : Sm [m + 2, m + 3, m + 4, m + 15, m + 16] M (sI M (m + 2) (1 + u) (nI 0)) := Sm.sI (by simp) _ _ _
  refine upto H.length (fun k => ∀ M1, Fu m u M M1 → Sm [m + 2, m + 3, m + 4, m + 15, m + 16] M M1 → mI M1 (m + 2) (1 + u) = nI (aC A H T k).length → (∀ j, j < (aC A H T k).length → mJ M1 (m + 16) (8 * u + j) = lN (cd ((aC A H T k).getD j [])) ∧ mI M1 (m + 3) (8 * (1 + u) + j) = nI (po A (en A (aC A H T k) j))) → Wp 5 mdX12_guessesByTable 13 [(0, .ref m), (1, .int (nI u)), (2, .int (nI (1 + u))), (3, .int (nI k))] [] M1 (fun r M' => ROK mdX12_guessesByTable r ∧ Q r M')) ?_ 0 (Nat.zero_le _) _ F0 S0 (rI_at _ _ _ _) (fun j hj => by simp [aC] at hj)
  intro k hk ih M1 F S hn hac
  have I := tI F S
  have f4 := I.sh.f4
  have f5 := I.sh.f5
  have f11 := I.sh.f11
  have f14 := I.sh.f14
  have f21 := I.sh.f21
  refine gX12_guessesByTable_13 I.sh.1 (by rw [f11.1]; exact f11.2.1) (by rw [f14.1]; exact f14.2.1) (by rw [f11.1, f11.2.2]; exact vu) (fun c => ?_) (fun _ => ?_) (fun c => ?_)
  · rw [f11.1, nI_clamp (by omega), I.n.1.1, nI_leI (by omega) (by omega)] at c
    have ek : k = H.length := by omega
    subst ek
    -- where the letters come to
    refine upto (aT A H T).length (fun j => ∀ M1, Fu m u M M1 → Sm [m + 2, m + 3, m + 4, m + 15, m + 16] M M1 → mI M1 (m + 2) (1 + u) = nI (aT A H T).length → (∀ j, j < (aT A H T).length → mJ M1 (m + 16) (8 * u + j) = lN (cd ((aT A H T).getD j [])) ∧ mI M1 (m + 3) (8 * (1 + u) + j) = nI (po A (en A (aT A H T) j))) → (∀ i x, i < j → x < pl A → mI M1 (m + 4) (3 * (8 * (1 + u) + i) + x) = nI (pt (gT A H T) i x)) → Wp 5 mdX12_guessesByTable 120 [(0, .ref m), (1, .int (nI u)), (2, .int (nI (1 + u))), (3, .int (nI j))] [] M1 (fun r M' => ROK mdX12_guessesByTable r ∧ Q r M')) ?_ 0 (Nat.zero_le _) M1 F S hn hac (fun _ _ h => by omega)
    intro j hj ih2 M2 F2 S2 hn2 hac2 hnx
    have I2 := tI F2 S2
    have f4 := I2.sh.f4
    have f20 := I2.sh.f20
    have f21 := I2.sh.f21
    refine gX12_guessesByTable_120 I2.sh.1 (by rw [f4.1]; exact f4.2.1) (by rw [f20.1]; exact f20.2.1) (by rw [f21.1]; exact f21.2.1) (by rw [f4.1, f4.2.2]; exact vu1) (fun _ => by rw [f20.1, f20.2.2]; exact vu) (fun c1 => ⟨rfl, ?_⟩) (fun c1 => ?_) (fun c1 => ?_) <;> rw [f4.1, nI_clamp (by omega), hn2, nI_leI (by omega) (by omega)] at c1
    · have ej : j = (aT A H T).length := by omega
      subst ej
      rw [f20.1, nI_clamp (by omega)]
      have F3 := F2.tr (Fu.I M2 (p := 15) (j := u) (v := nI 1) (by decide) (by decide) rfl)
      have S3 : Sm [m + 2, m + 3, m + 4, m + 15, m + 16] M (sI M2 (m + 15) u (nI 1)) := S2.tr (Sm.sI (by simp) _ _ _)
      refine h _ S3 F3 (tI F3 S3) ⟨rI_at _ _ _ _, fun i hi' => (hac2 i hi').1, ⟨?_, fun i hi' => ?_, fun i hi' x hx => ?_⟩, hgo.1, rfl⟩
      · rw [rI_np (by omega)]; exact hn2
      · rw [rI_np (by omega)]; exact (hac2 i hi').2
      · rw [rI_np (by omega)]; exact hnx i x hi' hx
    · rw [f21.1, f21.2.2, pk_mul, nI_add]; exact z_in (by omega) (by omega)
    · have hjl : j < (aT A H T).length := by omega
      rw [f21.1, pk_mul, nI_add, nI_clamp (by omega), (hac2 j hjl).1]
      have hwj := (okV.aT (A := A) (T := T) okH (Nat.le_refl _)).get hjl
      have hm2 := I2.2.2.1
      refine w_X12_endFrom (by decide) I2.sh (by decide) hm2 hA hA.1.1 hwj.1 hwj.2 (gX12_guessesByTable_147 ?_)
      have hen : en A (aT A H T) j < pn A := rn_lt hA hA.1.1 hwj.1
      show Wp 5 mdX12_guessesByTable 152 [(0, .ref m), (1, .int (nI u)), (2, .int (nI (1 + u))), (3, .int (nI j)), (4, .int (nI (en A (aT A H T) j))), (5, .int (nI 0))] [] M2 _
      refine upto (pl A) (fun x => ∀ M1, Fu m u M M1 → Sm [m + 2, m + 3, m + 4, m + 15, m + 16] M M1 → mI M1 (m + 2) (1 + u) = nI (aT A H T).length → (∀ j, j < (aT A H T).length → mJ M1 (m + 16) (8 * u + j) = lN (cd ((aT A H T).getD j [])) ∧ mI M1 (m + 3) (8 * (1 + u) + j) = nI (po A (en A (aT A H T) j))) → (∀ i y, i < j ∨ i = j ∧ y < x → y < pl A → mI M1 (m + 4) (3 * (8 * (1 + u) + i) + y) = nI (pt (gT A H T) i y)) → Wp 5 mdX12_guessesByTable 152 [(0, .ref m), (1, .int (nI u)), (2, .int (nI (1 + u))), (3, .int (nI j)), (4, .int (nI (en A (aT A H T) j))), (5, .int (nI x))] [] M1 (fun r M' => ROK mdX12_guessesByTable r ∧ Q r M')) ?_ 0 (Nat.zero_le _) M2 F2 S2 hn2 hac2 (fun i y hc hy => hnx i y (by omega) hy)
      intro x hx ih3 M3 F3 S3 hn3 hac3 hnx3
      have I3 := tI F3 S3
      have f6 := I3.sh.f6
      have hm3 := I3.2.2.1
      refine gX12_guessesByTable_152 I3.sh.1 (fun c2 => ?_) (fun c2 => ?_) <;> rw [I3.n.2.2.2, nI_leI (by omega) (by omega)] at c2
      · rw [nI_add]
        exact ih2 hjl M3 F3 S3 hn3 hac3 (fun i y hi' hy => hnx3 i y (by omega) hy)
      · have hxl : x < pl A := by omega
        have ht := hA.2.2.2 _ hen x hxl
        rw [f6.1, pk_mul, nI_add, pk_mul, nI_add]
        refine w_X12_comes (by decide) I3.sh (by decide) hm3 hA hen hxl (gX12_guessesByTable_189 I3.sh.1 (w_X12_headLike (by decide) I3 ht (fun o ho => gX12_guessesByTable_192 I3.sh.1 ?_)))
        obtain ⟨k0, k1, k2, -⟩ := aC_at hjl
        have enk : en A (aT A H T) j = en A H k0 := by unfold en; rw [show (aT A H T).getD j [] = H.getD k0 [] from k2]
        cases o with
        | none =>
          exfalso
          have := hcl _ (ix_lt k1 hxl)
          unfold opn at this
          rw [ix_div hxl, ix_mod hxl, ← enk] at this
          exact this ho
        | some q =>
          obtain ⟨p1, p2, p3⟩ := ho
          obtain ⟨q1, q2⟩ := aC_of (A := A) (T := T) (n := H.length) (k := q) p1 (fun ⟨t, t1, t2⟩ => p3 t t1 ((lk_eqv A T).2.2 _ _ _ t2 p2))
          have q2 : (aT A H T).getD (cR (lkH A T H) q) [] = H.getD q [] := q2
          have q1 : cR (lkH A T H) q < (aT A H T).length := q1
          have enq : en A (aT A H T) (cR (lkH A T H) q) = en A H q := by unfold en; rw [q2]
          show ClD 5 mdX12_stateOfHead [.ref m, .int (nI u), .int (nI q)] _ _
          refine w_X12_stateOfHead (by decide) I3 p1 aH8 hLo hn3 (fun j hj => (hac3 j hj).1) q1 q2 (fun j' hj' e' => aT_un hj' q1 ?_) (gX12_guessesByTable_195 f6.2.1 ?_ ?_)
          · have : en A (aT A H T) j' = en A (aT A H T) (cR (lkH A T H) q) := by unfold en; rw [e', q2]
            rw [this]; exact (lk_eqv A T).1 _
          · rw [f6.2.2]; exact z_in (by omega) (by omega)
          · have hgt : pt (gT A H T) j x = cR (lkH A T H) q := gT_t q1 (by rw [enq]; exact p2)
            rw [nI_clamp (by omega), nI_add]
            refine ih3 hxl _ (F3.tr (Fu.I _ (p := 4) (by decide) (by decide) (by show 24 * (1 + u) ≤ _ ∧ _; omega))) (S3.tr (Sm.sI (by simp) _ _ _)) (by rw [rI_np (by omega)]; exact hn3) (fun i hi' => ⟨(hac3 i hi').1, by rw [rI_np (by omega)]; exact (hac3 i hi').2⟩) (fun i y hc hy => ?_)
            by_cases z : i = j ∧ y = x
            · obtain ⟨rfl, rfl⟩ := z
              rw [rI_at, hgt]
            · rw [rI_nk (by omega)]
              refine hnx3 i y ?_ hy
              rcases hc with c | c
              · exact Or.inl c
              · refine Or.inr ⟨c.1, ?_⟩
                have : ¬ y = x := fun e => z ⟨c.1, e⟩
                omega
  · rw [f14.1, f14.2.2, pk_mul, nI_add]; exact z_in (by omega) (by omega)
  · rw [f11.1, nI_clamp (by omega), I.n.1.1, nI_leI (by omega) (by omega)] at c
    have hkl : k < H.length := by omega
    have hen := en_lt hA okH hkl
    rw [f14.1, pk_mul, nI_add, nI_clamp (by omega), (I.2.2.2.2.2.2.1.1 k hkl).2]
    refine w_X12_headLike (by decide) I hen (fun o ho => ?_)
    have hq : eo o = nI k ↔ ¬ ∃ t, t < k ∧ lkH A T H t k := by
      rw [show nI k = eo (some k) from rfl, eo_inj (fun j e => by have := isF_b ho (by omega) j e; omega) (fun j e => by cases e; omega)]
      constructor
      · intro e
        rw [e] at ho
        rintro ⟨t, t1, t2⟩
        exact ho.2.2 t t1 t2
      · intro hno
        exact isF_un ho ⟨hkl, (lk_eqv A T).1 _, fun j hj q => hno ⟨j, hj, q⟩⟩
    refine gX12_guessesByTable_40 I.sh.1 (by rw [f4.1]; exact f4.2.1) (fun _ => by rw [f4.1, f4.2.2]; exact vu1) (fun c2 => ?_) (fun c2 => ?_)
    · have hno := hq.mp c2
      have e9 := aC_no hno
      have hl8 := aT_len8 (T := T) hA okH (show k + 1 ≤ H.length by omega)
      rw [e9, List.length_append, List.length_singleton] at hl8
      rw [f4.1, f21.1, nI_clamp (by omega), hn, pk_mul, nI_add]
      have k2 : mK M1 (m + 16) = 2 := f21.2.1
      refine w_X12_headOf (by decide) I hkl (gX12_guessesByTable_68 k2 I.sh.1 (by simp only [eRJ, eKJ]; rw [f4.1]; exact f4.2.1) (by simp only [eRJ, eKJ]; rw [f14.1]; exact f14.2.1) (by rw [f21.2.2]; exact z_in (by omega) (by omega)) (by simp only [eRJ, eNJ]; rw [f4.1, f4.2.2]; exact vu1) (by simp only [eRJ, eNJ]; rw [f14.1, f14.2.2, pk_mul, nI_add]; exact z_in (by omega) (by omega)) ?_)
      simp only [eRJ, rI_J]
      rw [f4.1, f14.1, f5.1, pk_mul, nI_add, nI_clamp (by omega), (I.2.2.2.2.2.2.1.1 k hkl).2, nI_clamp (by omega), nI_clamp (by omega), hn, pk_mul, nI_add]
      obtain ⟨M2, hM2⟩ : ∃ M2, M2 = sJ M1 (m + 16) (8 * u + (aC A H T k).length) (lN (cd (H.getD k []))) := ⟨_, rfl⟩
      rw [← hM2]
      have F2 : Fu m u M1 M2 := by rw [hM2]; exact Fu.J M1 (p := 16) (by decide) (by decide) (by show 8 * u ≤ _ ∧ _; omega)
      have S2 : Sm [m + 2, m + 3, m + 4, m + 15, m + 16] M1 M2 := by rw [hM2]; exact Sm.sJ (by simp) _ _ _
      have I2 := tI (F.tr F2) (S.tr S2)
      have k5 := I2.sh.f5
      have k4 := I2.sh.f4
      refine w_X12_shown (by decide) I2.sh (by decide) I2.2.2.1 hA hen (gX12_guessesByTable_101 k5.2.1 I2.sh.1 (by simp only [eRI, eKI]; rw [k4.1]; exact k4.2.1) (by rw [k5.2.2]; exact z_in (by omega) (by omega)) (by simp only [eRI, eNI]; rw [k4.1, k4.2.2]; exact vu1) ?_)
      simp only [eRI]
      rw [k4.1, nI_clamp (by omega), nI_clamp (by omega)]
      obtain ⟨M3, hM3⟩ : ∃ M3, M3 = sI M2 (m + 3) (8 * (1 + u) + (aC A H T k).length) (nI (po A (en A H k))) := ⟨_, rfl⟩
      rw [← hM3]
      have e2 : mI M3 (m + 2) (1 + u) = nI (aC A H T k).length := by rw [hM3, rI_np (by omega), hM2]; exact hn
      rw [e2, nI_add, nI_add]
      have F3 : Fu m u M2 M3 := by rw [hM3]; exact Fu.I M2 (p := 3) (by decide) (by decide) (by show 8 * (1 + u) ≤ _ ∧ _; omega)
      have S3 : Sm [m + 2, m + 3, m + 4, m + 15, m + 16] M2 M3 := by rw [hM3]; exact Sm.sI (by simp) _ _ _
      refine ih hkl _ (((F.tr F2).tr F3).tr (Fu.I M3 (p := 2) (by decide) (by decide) rfl)) (((S.tr S2).tr S3).tr (Sm.sI (by simp) _ _ _)) ?_ (fun j hj => ?_)
      · rw [rI_at, e9, List.length_append, List.length_singleton]
      · rw [e9, List.length_append, List.length_singleton] at hj
        rw [e9, rJ_I, rI_np (by omega)]
        by_cases z : j = (aC A H T k).length
        · subst z
          rw [show (aC A H T k ++ [H.getD k []]).getD (aC A H T k).length [] = H.getD k [] from qk_new _ _]
          constructor
          · rw [hM3, rJ_I, hM2]; exact rJ_at _ _ _ _
          · rw [hM3, rI_at]; unfold en
            rw [show (aC A H T k ++ [H.getD k []]).getD (aC A H T k).length [] = H.getD k [] from qk_new _ _]
        · have hj' : j < (aC A H T k).length := by omega
          rw [show (aC A H T k ++ [H.getD k []]).getD j [] = (aC A H T k).getD j [] from getD_snoc_old hj', en_old hj']
          constructor
          · rw [hM3, rJ_I, hM2, rJ_nk (by omega)]; exact (hac j hj').1
          · rw [hM3, rI_nk (by omega), hM2]; exact (hac j hj').2
    · rw [nI_add]
      refine ih hkl M1 F S ?_ ?_
      · rw [aC_yes (Classical.byContradiction fun q => c2 (hq.mpr q))]; exact hn
      · rw [aC_yes (Classical.byContradiction fun q => c2 (hq.mpr q))]; exact hac
end MT3
