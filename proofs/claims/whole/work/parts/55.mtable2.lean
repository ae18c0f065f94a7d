/-! the reference: a table is filled, closed, made consistent, and guesses -/
section MT2
variable {d m u st sp : Nat} {Q : Option Value → Mem → Prop} {M M' : Mem} {A : PM} {s s' : List (List Nat) × Nat} {H T : List (List Nat)}
theorem MoT.nd (hi : MoT M m u A st sp s H T) : s.1.Nodup := by
  obtain ⟨-, -, -, -, ⟨T, -, -, -, -, -, -, h⟩, -⟩ := hi
  exact h
theorem MoT.n (hi : MoT M m u A st sp s H T) : (mI M (m + 6) u = nI H.length ∧ mI M (m + 7) u = nI T.length) ∧ H.length ≤ 128 ∧ T.length ≤ 128 ∧ mI M m 3 = nI (pl A) := ⟨hi.2.2.2.2.2.1, hi.2.2.2.2.2.2.2.2.1, hi.2.2.2.2.2.2.2.2.2, hi.2.1.1⟩
theorem w_X12_asksAll {X : List (List Nat)} (hd : 5 < d) (hi : MoT M m u A st sp s H T) (hlen : ∀ h e, h ∈ H → e ∈ T → h.length + 1 + e.length ≤ 30) (hX : ∀ w, w ∈ s.1 → w ∈ X) (hX2 : ∀ w, w ∈ rwW (pl A) H T → w ∈ X) (hX3 : X.length < 8192)
    (h : ∀ M' s', Sm [m + 11, m + 12, m + 13] M M' → Fu m u M M' → MoT M' m u A st sp s' H T → eqS s' (aSs st sp s (rwW (pl A) H T)) → Q none M') : ClD d mdX12_asksAll [.ref m, .int (nI u)] M Q := by
  have hA := hi.ok
  have l3 := hA.2.1.2
  have a2 := hi.1.2
  have hn := hi.n
  have bnd : ∀ L : List (List Nat), (∀ w, w ∈ L → w ∈ rwW (pl A) H T) → (aSs st sp s L).1.length < 8192 := fun L hL => by
    refine Nat.lt_of_le_of_lt (nodupW_le (aSs_nodup hi.nd) (fun w hw => ?_)) hX3
    rcases (aSs_mem st sp s L w).mp hw with g | g
    · exact hX w g
    · exact hX2 w (hL w g)
  have vu : vp_in (nI u) 2 := z_in a2 (by omega)
  refine ⟨5, hd, Cl.of moX12_asksAll (Nat.le_of_ble_eq_true rfl) (gX12_asksAll_0 ?_)⟩
  refine upto H.length (fun k => ∀ M1 L, Sm [m + 11, m + 12, m + 13] M M1 → Fu m u M M1 → MoT M1 m u A st sp (aSs st sp s L) H T → (∀ w, w ∈ L → w ∈ rwW (pl A) H T) → (∀ k' y' e', k' < k → y' ≤ pl A → e' < T.length → rwd (H.getD k' []) y' ++ T.getD e' [] ∈ (aSs st sp s L).1) → Wp 5 mdX12_asksAll 2 [(0, .ref m), (1, .int (nI u)), (2, .int (nI k))] [] M1 (fun r M' => ROK mdX12_asksAll r ∧ Q r M')) ?_ 0 (Nat.zero_le _) M [] (Sm.rf _ _) (Fu.rf _ _ _) hi (fun w hw => by simp at hw) (fun _ _ _ hk => by omega)
  intro k hk ih M1 L S F I hLr hdn
  have f11 := I.sh.f11
  refine gX12_asksAll_2 I.sh.1 (by rw [f11.1]; exact f11.2.1) (by rw [f11.1, f11.2.2]; exact vu) (fun c => ⟨rfl, ?_⟩) (fun c => ?_) <;> rw [f11.1, nI_clamp (by omega), I.n.1.1, nI_leI (by omega) (by omega)] at c
  · have ek : k = H.length := by omega
    subst ek
    refine h M1 _ S F I (aSs_eq (eqS.rf hi.nd) (fun w => ⟨fun g => g.imp id (hLr w), fun g => ?_⟩))
    rcases g with g | g
    · exact Or.inl g
    · obtain ⟨k, y, e, k1, y1, e1, rfl⟩ := rwd_of g
      exact (aSs_mem st sp s L _).mp (hdn k y e k1 y1 e1)
  · have hkl : k < H.length := by omega
    have hgk := hi.2.2.2.2.2.2.2.1.1.get hkl
    refine upto T.length (fun e => ∀ M1 L, Sm [m + 11, m + 12, m + 13] M M1 → Fu m u M M1 → MoT M1 m u A st sp (aSs st sp s L) H T → (∀ w, w ∈ L → w ∈ rwW (pl A) H T) → (∀ k' y' e', k' < k ∨ k' = k ∧ e' < e → y' ≤ pl A → e' < T.length → rwd (H.getD k' []) y' ++ T.getD e' [] ∈ (aSs st sp s L).1) → Wp 5 mdX12_asksAll 14 [(0, .ref m), (1, .int (nI u)), (2, .int (nI k)), (3, .int (nI e))] [] M1 (fun r M' => ROK mdX12_asksAll r ∧ Q r M')) ?_ 0 (Nat.zero_le _) M1 L S F I hLr (fun k' y' e' hc hy he => hdn k' y' e' (by omega) hy he)
    intro e he ih2 M2 L2 S2 F2 I2 hLr2 hdn2
    have f12 := I2.sh.f12
    refine gX12_asksAll_14 I2.sh.1 (by rw [f12.1]; exact f12.2.1) (by rw [f12.1, f12.2.2]; exact vu) (fun c1 => ?_) (fun c1 => ?_) <;> rw [f12.1, nI_clamp (by omega), I2.n.1.2, nI_leI (by omega) (by omega)] at c1
    · rw [nI_add]
      exact ih hkl M2 L2 S2 F2 I2 hLr2 (fun k' y' e' hk' hy' he' => hdn2 k' y' e' (by omega) hy' he')
    · have hel : e < T.length := by omega
      have hge := hi.2.2.2.2.2.2.2.1.2.get hel
      have hln := hlen _ _ (getD_mem hkl) (getD_mem hel)
      have one : ∀ y, y ≤ pl A → vw (pl A) (rwd (H.getD k []) y ++ T.getD e []) ∧ (rwd (H.getD k []) y ++ T.getD e []).length ≤ 30 := fun y hy => ⟨vw_app.mpr ⟨rwd_ok hgk.1 hy, hge.1⟩, by have := rwd_len (H.getD k []) y; rw [List.length_append]; omega⟩
      refine w_X12_headOf (by decide) I2 hkl (gX12_asksAll_32 I2.sh.1 (w_X12_tailOf (by decide) I2 hel (gX12_asksAll_38 (w_X12_both (by decide) (vw_mono hgk.1 (by omega)) (vw_mono hge.1 (by omega)) (by omega) ?_))))
      refine gX12_asksAll_41 I2.sh.1 (I2.ask (by decide) (bnd L2 hLr2) (one 0 (Nat.zero_le _)).1 (one 0 (Nat.zero_le _)).2 (fun M3 S3 F3 I3 => gX12_asksAll_44 ?_))
      have I3 : MoT M3 m u A st sp (aSs st sp s (L2 ++ [rwd (H.getD k []) 0 ++ T.getD e []])) H T := by rw [aSs_snoc]; exact I3
      refine upto (pl A) (fun x => ∀ M1 L, Sm [m + 11, m + 12, m + 13] M M1 → Fu m u M M1 → MoT M1 m u A st sp (aSs st sp s L) H T → (∀ w, w ∈ L → w ∈ rwW (pl A) H T) → (∀ k' y' e', k' < k ∨ k' = k ∧ (e' < e ∨ e' = e ∧ y' < x + 1) → y' ≤ pl A → e' < T.length → rwd (H.getD k' []) y' ++ T.getD e' [] ∈ (aSs st sp s L).1) → Wp 5 mdX12_asksAll 48 [(0, .ref m), (1, .int (nI u)), (2, .int (nI k)), (3, .int (nI e)), (4, .int (nI x))] [] M1 (fun r M' => ROK mdX12_asksAll r ∧ Q r M')) ?_ 0 (Nat.zero_le _) M3 _ (S2.tr S3) (F2.tr F3) I3 (fun w hw => ?_) (fun k' y' e' hc hy' he' => ?_)
      · intro x hx ih3 M4 L4 S4 F4 I4 hLr4 hdn4
        refine gX12_asksAll_48 I4.sh.1 (fun c2 => ?_) (fun c2 => ?_) <;> rw [I4.n.2.2.2, nI_leI (by omega) (by omega)] at c2
        · rw [nI_add]
          exact ih2 hel M4 L4 S4 F4 I4 hLr4 (fun k' y' e' hk' hy' he' => hdn4 k' y' e' (by omega) hy' he')
        · have hxl : x < pl A := by omega
          refine w_X12_headOf (by decide) I4 hkl (gX12_asksAll_65 (w_X12_longer (by decide) (by omega) (gX12_asksAll_70 I4.sh.1 (w_X12_tailOf (by decide) I4 hel (gX12_asksAll_76 ?_)))))
          have o := one (x + 1) (by omega)
          refine w_X12_both (u := H.getD k [] ++ [x]) (by decide) (vw_mono (rwd_ok (y := x + 1) hgk.1 (by omega)) (by omega)) (vw_mono hge.1 (by omega)) (by rw [List.length_append, List.length_singleton]; omega) ?_
          refine gX12_asksAll_79 I4.sh.1 (I4.ask (by decide) (bnd L4 hLr4) o.1 o.2 (fun M5 S5 F5 I5 => gX12_asksAll_82 ?_))
          have I5 : MoT M5 m u A st sp (aSs st sp s (L4 ++ [rwd (H.getD k []) (x + 1) ++ T.getD e []])) H T := by rw [aSs_snoc]; exact I5
          rw [nI_add]
          refine ih3 hxl M5 _ (S4.tr S5) (F4.tr F5) I5 (fun w hw => ?_) (fun k' y' e' hc hy' he' => ?_)
          · rcases List.mem_append.mp hw with g | g
            · exact hLr4 w g
            · rw [List.mem_singleton] at g; rw [g]; exact rwd_in hkl (by omega) hel
          · rw [aSs_snoc, aS_mem]
            by_cases q : k' < k ∨ k' = k ∧ (e' < e ∨ e' = e ∧ y' < x + 1)
            · exact Or.inl (hdn4 k' y' e' q hy' he')
            · have q1 : k' = k ∧ e' = e ∧ y' = x + 1 := by omega
              obtain ⟨rfl, rfl, rfl⟩ := q1
              exact Or.inr rfl
      · rcases List.mem_append.mp hw with g | g
        · exact hLr2 w g
        · rw [List.mem_singleton] at g; rw [g]; exact rwd_in hkl (Nat.zero_le _) hel
      · rw [aSs_snoc, aS_mem]
        by_cases q : k' < k ∨ k' = k ∧ e' < e
        · exact Or.inl (hdn2 k' y' e' q hy' he')
        · have q1 : k' = k ∧ e' = e ∧ y' = 0 := by omega
          obtain ⟨rfl, rfl, rfl⟩ := q1
          exact Or.inr rfl
theorem isF_opn {k x : Nat} {o : Option Nat} (hx : x < pl A) (h : isF H.length (fun j => lk A T (en A H j) (pt A (en A H k) x)) o) : o = none ↔ opn A H T (k * pl A + x) := hbF_no hx h
/-- 'came' is set -/
theorem MoT.came {v : Int64} (hi : MoT M m u A st sp s H T) : MoT (sJ M m 23 v) m u A st sp s H T := by
  have F : Fu m u M (sJ M m 23 v) := Fu.c M
  have S : Sm [m] M (sJ M m 23 v) := Sm.sJ (by simp) _ _ _
  exact hi.fu F (hi.2.2.2.2.1.sm S (by simp) (by simp) (by simp)) ⟨rfl, rfl⟩ ⟨S.J (by simp), rfl, S.J (by simp)⟩
theorem w_X12_closes (hd : 5 < d) (hi : MoT M m u A st sp s H T) (hl : H.length < 128) (hl30 : ∀ h, h ∈ H → h.length ≤ 29) (h1 : ∀ i M', isF (H.length * pl A) (opn A H T) (some i) → Sm [m, m + 6, m + 8, m + 9] M M' → Fu m u M M' → MoT M' m u A st sp s (H ++ [hx A H i]) T → mJ M' m 23 = lN (cd (hx A H i)) → Q (some (.int (nI 1))) M') (h0 : isF (H.length * pl A) (opn A H T) none → Q (some (.int (nI 0))) M) : ClD d mdX12_closes [.ref m, .int (nI u)] M Q := by
  have hA := hi.ok
  have l3 := hA.2.1.2
  have a8 := hA.1.2
  have a2 := hi.1.2
  have hs := hi.sh
  have f11 := hs.f11
  have f14 := hs.f14
  have hm := hi.2.2.1
  have vu : vp_in (nI u) 2 := z_in a2 (by omega)
  refine ⟨5, hd, Cl.of moX12_closes (Nat.le_of_ble_eq_true rfl) (gX12_closes_0 ?_)⟩
  refine upto H.length (fun k => (∀ j, j < k * pl A → ¬ opn A H T j) → Wp 5 mdX12_closes 2 [(0, .ref m), (1, .int (nI u)), (2, .int (nI k))] [] M (fun r M' => ROK mdX12_closes r ∧ Q r M')) ?_ 0 (Nat.zero_le _) (fun j h => by rw [Nat.zero_mul] at h; omega)
  intro k hk ih hno
  refine gX12_closes_2 hs.1 (by rw [f11.1]; exact f11.2.1) (by rw [f11.1, f11.2.2]; exact vu) (fun c => ⟨⟨_, rfl, by decide⟩, h0 ?_⟩) (fun c => ?_) <;> rw [f11.1, nI_clamp (by omega), hi.n.1.1, nI_leI (by omega) (by omega)] at c
  · have : k = H.length := by omega
    subst this; exact hno
  · have hkl : k < H.length := by omega
    have hen := en_lt hA hi.2.2.2.2.2.2.2.1.1 hkl
    have hw := hi.2.2.2.2.2.2.2.1.1.get hkl
    refine upto (pl A) (fun x => (∀ j, j < k * pl A + x → ¬ opn A H T j) → Wp 5 mdX12_closes 14 [(0, .ref m), (1, .int (nI u)), (2, .int (nI k)), (3, .int (nI x))] [] M (fun r M' => ROK mdX12_closes r ∧ Q r M')) ?_ 0 (Nat.zero_le _) hno
    intro x hx ih2 hno2
    refine gX12_closes_14 hs.1 (by rw [f14.1]; exact f14.2.1) (fun c1 => ?_) (fun c1 => ?_) (fun c1 => ?_) <;> rw [hi.n.2.2.2, nI_leI (by omega) (by omega)] at c1
    · have : x = pl A := by omega
      subst this
      rw [nI_add]
      exact ih hkl (fun j hj => hno2 j (by rw [Nat.add_mul, Nat.one_mul] at hj; exact hj))
    · rw [f14.1, f14.2.2, pk_mul, nI_add]; exact z_in (by omega) (by omega)
    · have hxl : x < pl A := by omega
      have ht := hA.2.2.2 _ hen x hxl
      rw [f14.1, pk_mul, nI_add, nI_clamp (by omega), (hi.2.2.2.2.2.2.1.1 k hkl).2]
      refine w_X12_comes (by decide) hs (by decide) hm hA hen hxl (gX12_closes_42 hs.1 (w_X12_headLike (by decide) hi ht (fun o ho => ?_)))
      have e := eo_m1 (isF_b ho (by omega))
      have e2 := isF_opn hxl ho
      refine gX12_closes_45 hs.1 (fun c2 => ?_) (fun c2 => ?_)
      · have hop := e2.mp (e.mp c2)
        have hF : isF (H.length * pl A) (opn A H T) (some (k * pl A + x)) := ⟨ix_lt hkl hxl, hop, hno2⟩
        refine w_X12_headOf (by decide) hi hkl (gX12_closes_59 (w_X12_longer (by decide) (by omega) (gX12_closes_63 hs.1 hs.1 ?_)))
        rw [rJ_at]
        have ex := hx_at (H := H) (k := k) hxl
        have hwx : vw (pl A) (H.getD k [] ++ [x]) ∧ (H.getD k [] ++ [x]).length ≤ 30 := ⟨vw_app.mpr ⟨hw.1, fun v hv => by rw [List.mem_singleton] at hv; rw [hv]; exact hxl⟩, by have := hl30 _ (getD_mem hkl); rw [List.length_append, List.length_singleton]; omega⟩
        refine w_X12_headComes (by decide) hi.came hl hwx (fun M' S F I => gX12_closes_75 ⟨⟨_, rfl, by decide⟩, ?_⟩)
        have S0 : Sm [m] M (sJ M m 23 (lN (cd (H.getD k [] ++ [x])))) := Sm.sJ (by simp) _ _ _
        refine h1 _ M' hF ((S0.mono (by simp)).tr (S.mono (by simp))) ((Fu.c M).tr F) (by rw [ex]; exact I) ?_
        rw [S.J (by simp), rJ_at, ex]
      · rw [nI_add]
        refine ih2 hxl (fun j hj => ?_)
        by_cases q : j = k * pl A + x
        · subst q; exact fun q => c2 (e.mpr (e2.mpr q))
        · exact hno2 j (by omega)
theorem w_X12_parts {p q : Nat} (hd : 3 < d) (hi : MoT M m u A st sp s H T) (hl : T.length < 128) (hl30 : ∀ h, h ∈ T → h.length ≤ 29) (hp : p < pn A) (hq : q < pn A)
    (h1 : ∀ x e M', isF (pl A) (fun x => ¬ lk A T (pt A p x) (pt A q x)) (some x) → isF T.length (fun j => ao A (pt A p x) (T.getD j []) ≠ ao A (pt A q x) (T.getD j [])) (some e) → Sm [m, m + 7, m + 10, m + 17] M M' → Fu m u M M' → MoT M' m u A st sp s H (T ++ [x :: T.getD e []]) → mJ M' m 23 = lN (cd (x :: T.getD e [])) → Q (some (.int (nI 1))) M') (h0 : (∀ x, x < pl A → lk A T (pt A p x) (pt A q x)) → Q (some (.int (nI 0))) M) : ClD d mdX12_parts [.ref m, .int (nI u), .int (nI p), .int (nI q)] M Q := by
  have hA := hi.ok
  have l3 := hA.2.1.2
  have a2 := hi.1.2
  have hs := hi.sh
  have f12 := hs.f12
  have hm := hi.2.2.1
  have vu : vp_in (nI u) 2 := z_in a2 (by omega)
  refine ⟨3, hd, Cl.of moX12_parts (Nat.le_of_ble_eq_true rfl) (gX12_parts_0 ?_)⟩
  refine upto (pl A) (fun x => (∀ y, y < x → lk A T (pt A p y) (pt A q y)) → Wp 3 mdX12_parts 3 [(0, .ref m), (1, .int (nI u)), (2, .int (nI p)), (3, .int (nI q)), (4, .int (nI x))] [] M (fun r M' => ROK mdX12_parts r ∧ Q r M')) ?_ 0 (Nat.zero_le _) (fun _ h => by omega)
  intro x hx ih hno
  refine gX12_parts_3 hs.1 (fun c => ⟨⟨_, rfl, by decide⟩, h0 ?_⟩) (fun c => ?_) <;> rw [hi.n.2.2.2, nI_leI (by omega) (by omega)] at c
  · exact fun y hy => hno y (by omega)
  · have hxl : x < pl A := by omega
    have t1 := hA.2.2.2 _ hp x hxl
    have t2 := hA.2.2.2 _ hq x hxl
    refine upto T.length (fun e => (∀ j, j < e → ¬ ao A (pt A p x) (T.getD j []) ≠ ao A (pt A q x) (T.getD j [])) → Wp 3 mdX12_parts 15 [(0, .ref m), (1, .int (nI u)), (2, .int (nI p)), (3, .int (nI q)), (4, .int (nI x)), (5, .int (nI e))] [] M (fun r M' => ROK mdX12_parts r ∧ Q r M')) ?_ 0 (Nat.zero_le _) (fun _ h => by omega)
    intro e he ih2 hno2
    refine gX12_parts_15 hs.1 (by rw [f12.1]; exact f12.2.1) (by rw [f12.1, f12.2.2]; exact vu) (fun c1 => ?_) (fun c1 => ?_) <;> rw [f12.1, nI_clamp (by omega), hi.n.1.2, nI_leI (by omega) (by omega)] at c1
    · rw [nI_add]
      refine ih hxl (fun y hy => ?_)
      by_cases z : y = x
      · subst z
        intro w hw
        obtain ⟨j, j1, rfl⟩ := mem_getD hw
        exact Classical.byContradiction (hno2 j (by omega))
      · exact hno y (by omega)
    · have hel : e < T.length := by omega
      have hg := hi.2.2.2.2.2.2.2.1.2.get hel
      have o1 := ao_ok hA t1 hg.1
      have o2 := ao_ok hA t2 hg.1
      have v1 := hA.2.2.1 _ (rn_lt hA t1 hg.1)
      have v2 := hA.2.2.1 _ (rn_lt hA t2 hg.1)
      refine w_X12_tailOf (by decide) hi hel (gX12_parts_33 hs.1 (w_X12_comes (by decide) hs (by decide) hm hA hp hxl (gX12_parts_47 hs.1 (w_X12_endFrom (by decide) hs (by decide) hm hA t1 hg.1 hg.2 (gX12_parts_52 hs.1 (w_X12_shown (by decide) hs (by decide) hm hA (rn_lt hA t1 hg.1) ?_))))))
      refine gX12_parts_55 hs.1 (w_X12_comes (by decide) hs (by decide) hm hA hq hxl (gX12_parts_67 hs.1 (w_X12_endFrom (by decide) hs (by decide) hm hA t2 hg.1 hg.2 (gX12_parts_72 hs.1 (w_X12_shown (by decide) hs (by decide) hm hA (rn_lt hA t2 hg.1) ?_)))))
      refine gX12_parts_75 (fun c3 => ?_) (fun c3 => ?_) <;> rw [nI_eq (by omega) (by omega)] at c3
      · have hne : ao A (pt A p x) (T.getD e []) ≠ ao A (pt A q x) (T.getD e []) := by rw [o1, o2]; exact fun k => c3 (Option.some.inj k)
        have hF1 : isF (pl A) (fun x => ¬ lk A T (pt A p x) (pt A q x)) (some x) := ⟨hxl, fun k => hne (k _ (getD_mem hel)), fun j hj k => k (hno j hj)⟩
        have h29 := hl30 _ (getD_mem hel)
        refine w_X12_longer (w := []) (by decide) (by omega) (gX12_parts_88 (w_X12_both (u := [] ++ [x]) (by decide) (fun v hv => by simp at hv; omega) (vw_mono hg.1 (by omega)) (by rw [List.nil_append, List.length_singleton]; omega) (gX12_parts_93 hs.1 hs.1 ?_)))
        rw [rJ_at]
        refine w_X12_tailComes (w := x :: T.getD e []) (by decide) hi.came hl ⟨vw_cons.mpr ⟨hxl, hg.1⟩, by rw [List.length_cons]; omega⟩ (fun M' S F I _ => gX12_parts_105 ⟨⟨_, rfl, by decide⟩, ?_⟩)
        have S0 : Sm [m] M (sJ M m 23 (lN (cd ([] ++ [x] ++ T.getD e [])))) := Sm.sJ (by simp) _ _ _
        refine h1 x e M' hF1 ⟨hel, hne, hno2⟩ ((S0.mono (by simp)).tr (S.mono (by simp))) ((Fu.c M).tr F) I ?_
        rw [S.J (by simp), rJ_at]; rfl
      · rw [nI_add]
        refine ih2 hel (fun j hj => ?_)
        by_cases z : j = e
        · subst z; exact fun k => k (by rw [o1, o2]; exact congrArg some c3)
        · exact hno2 j (by omega)
theorem w_X12_agrees (hd : 4 < d) (hi : MoT M m u A st sp s H T) (hl : T.length < 128) (hl30 : ∀ h, h ∈ T → h.length ≤ 29)
    (h1 : ∀ i M', isF (H.length * H.length) (ptP A H T) (some i) → Sm [m, m + 7, m + 10, m + 17] M M' → Fu m u M M' → MoT M' m u A st sp s H (T ++ [nTl A H T i]) → mJ M' m 23 = lN (cd (nTl A H T i)) → Q (some (.int (nI 1))) M') (h0 : isF (H.length * H.length) (ptP A H T) none → Q (some (.int (nI 0))) M) : ClD d mdX12_agrees [.ref m, .int (nI u)] M Q := by
  have hA := hi.ok
  have l3 := hA.2.1.2
  have a8 := hA.1.2
  have a2 := hi.1.2
  have hs := hi.sh
  have f11 := hs.f11
  have f14 := hs.f14
  have hH := hi.n.2.1
  have vu : vp_in (nI u) 2 := z_in a2 (by omega)
  have hen : ∀ k, k < H.length → en A H k < pn A := fun k hk => en_lt hA hi.2.2.2.2.2.2.2.1.1 hk
  have rd : ∀ k, k < H.length → mI M (mR M m 14) (nI 160 * nI u + nI k).toNatClampNeg = nI (en A H k) := fun k hk => by
    rw [f14.1, pk_mul, nI_add, nI_clamp (by omega), (hi.2.2.2.2.2.2.1.1 k hk).2]
  refine ⟨4, hd, Cl.of moX12_agrees (Nat.le_of_ble_eq_true rfl) (gX12_agrees_0 ?_)⟩
  refine upto H.length (fun k => (∀ j, j < k * H.length → ¬ ptP A H T j) → Wp 4 mdX12_agrees 2 [(0, .ref m), (1, .int (nI u)), (2, .int (nI k))] [] M (fun r M' => ROK mdX12_agrees r ∧ Q r M')) ?_ 0 (Nat.zero_le _) (fun j h => by rw [Nat.zero_mul] at h; omega)
  intro k hk ih hno
  refine gX12_agrees_2 hs.1 (by rw [f11.1]; exact f11.2.1) (by rw [f11.1, f11.2.2]; exact vu) (fun c => ⟨⟨_, rfl, by decide⟩, h0 ?_⟩) (fun c => ?_) <;> rw [f11.1, nI_clamp (by omega), hi.n.1.1, nI_leI (by omega) (by omega)] at c
  · have : k = H.length := by omega
    subst this; exact hno
  · have hkl : k < H.length := by omega
    rw [nI_add]
    refine upto H.length (fun o => k < o → (∀ j, j < k * H.length + o → ¬ ptP A H T j) → Wp 4 mdX12_agrees 16 [(0, .ref m), (1, .int (nI u)), (2, .int (nI k)), (3, .int (nI o))] [] M (fun r M' => ROK mdX12_agrees r ∧ Q r M')) ?_ (k + 1) (by omega) (by omega) (fun j hj => ?_)
    · intro o ho ih2 hko hno2
      have nxo : o < H.length → ¬ ptP A H T (k * H.length + o) → Wp 4 mdX12_agrees 16 [(0, .ref m), (1, .int (nI u)), (2, .int (nI k)), (3, .int (nI o + nI 1))] [] M (fun r M' => ROK mdX12_agrees r ∧ Q r M') := fun hol hn => by
        rw [nI_add]
        refine ih2 hol (by omega) (fun j hj => ?_)
        by_cases q : j = k * H.length + o
        · subst q; exact hn
        · exact hno2 j (by omega)
      refine gX12_agrees_16 hs.1 (by rw [f11.1]; exact f11.2.1) (by rw [f14.1]; exact f14.2.1) (by rw [f11.1, f11.2.2]; exact vu) (fun c1 => ?_) (fun _ => ?_) (fun c1 => ?_) (fun c1 c2 => ?_) (fun c1 c2 => ?_)
      · rw [f11.1, nI_clamp (by omega), hi.n.1.1, nI_leI (by omega) (by omega)] at c1
        have : o = H.length := by omega
        subst this
        rw [nI_add]
        exact ih hkl (fun j hj => hno2 j (by rw [Nat.add_mul, Nat.one_mul] at hj; exact hj))
      · rw [f14.1, f14.2.2, pk_mul, nI_add]; exact z_in (by omega) (by omega)
      · rw [f14.1, f14.2.2, pk_mul, nI_add]; exact z_in (by omega) (by omega)
      · rw [f11.1, nI_clamp (by omega), hi.n.1.1, nI_leI (by omega) (by omega)] at c1
        have hol : o < H.length := by omega
        have e1 := hen k hkl
        have e2 := hen o hol
        rw [rd k hkl, rd o hol, nI_eq (by omega) (by omega)] at c2
        refine nxo hol (fun q => ?_)
        unfold ptP at q
        rw [ix_div hol, ix_mod hol] at q
        obtain ⟨-, -, x, x1, x2⟩ := q
        unfold ptX at x2
        rw [c2] at x2
        exact x2 ((lk_eqv A T).1 _)
      · rw [f11.1, nI_clamp (by omega), hi.n.1.1, nI_leI (by omega) (by omega)] at c1
        have hol : o < H.length := by omega
        rw [rd k hkl, rd o hol]
        have hpt : ptP A H T (k * H.length + o) ↔ k < o ∧ lk A T (en A H k) (en A H o) ∧ ∃ x, x < pl A ∧ ptX A H T k o x := by
          unfold ptP; rw [ix_div hol, ix_mod hol]
        refine w_X12_areLike (by decide) hi (hen k hkl) (hen o hol) (fun hlk => gX12_agrees_70 hs.1 (fun c => absurd c (by decide)) (fun _ => ?_)) (fun hlk => gX12_agrees_70 hs.1 (fun _ => nxo hol (fun q => hlk (hpt.mp q).2.1)) (fun c => absurd rfl c))
        refine w_X12_parts (by decide) hi hl hl30 (hen k hkl) (hen o hol) (fun x e M' F1 F2 S F I hc => gX12_agrees_82 (fun c => absurd c (by decide)) (fun _ => ⟨⟨_, rfl, by decide⟩, ?_⟩)) (fun hall => gX12_agrees_82 (fun _ => nxo hol (fun q => ?_)) (fun c => absurd rfl c))
        · have hF : isF (H.length * H.length) (ptP A H T) (some (k * H.length + o)) := ⟨ix_lt hkl hol, hpt.mpr ⟨hko, hlk, x, F1.1, F1.2.1⟩, hno2⟩
          have hn : nTl A H T (k * H.length + o) = x :: T.getD e [] := by
            unfold nTl
            rw [ix_div hol, ix_mod hol]
            have ex : fPx A H T k o = x := by
              unfold fPx
              rw [ff_eq (P := ptX A H T k o) (o := some x) F1]; rfl
            rw [ex]
            have ee : fPe A T (pt A (en A H k) x) (pt A (en A H o) x) = e := by
              unfold fPe
              rw [ff_eq (o := some e) F2]; rfl
            rw [ee]
          exact h1 _ M' hF S F (by rw [hn]; exact I) (by rw [hn]; exact hc)
        · obtain ⟨-, -, x, x1, x2⟩ := hpt.mp q
          exact x2 (hall x x1)
    · by_cases q : j < k * H.length
      · exact hno j q
      · intro hp
        obtain ⟨o, rfl⟩ : ∃ o, j = k * H.length + o := ⟨j - k * H.length, by omega⟩
        have ho : o ≤ k := by omega
        unfold ptP at hp
        rw [ix_div (by omega), ix_mod (by omega)] at hp
        omega
end MT2
