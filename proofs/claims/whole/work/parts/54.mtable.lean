/-! the reference: a pupil's heads and tails -/
/-- pupil u of the reference: what a table wants -/
def MoT (M : Mem) (m u : Nat) (A : PM) (st sp : Nat) (s : List (List Nat) × Nat) (H T : List (List Nat)) : Prop :=
  (MoSh M m ∧ u < 2) ∧ (mI M m 3 = nI (pl A) ∧ mI M m 8 = nI st ∧ mI M m 9 = nI sp) ∧ MoM M m 0 A ∧ okM A ∧ MoA M m u s ∧ (mI M (m + 6) u = nI H.length ∧ mI M (m + 7) u = nI T.length) ∧ ((∀ j, j < H.length → mJ M (m + 8) (160 * u + j) = lN (cd (H.getD j [])) ∧ mI M (m + 9) (160 * u + j) = nI (en A H j)) ∧ ∀ j, j < T.length → mJ M (m + 10) (128 * u + j) = lN (cd (T.getD j []))) ∧ (okV A H ∧ okV A T) ∧ H.length ≤ 128 ∧ T.length ≤ 128
section MT
variable {d m u st sp : Nat} {Q : Option Value → Mem → Prop} {M M' : Mem} {A : PM} {s s' : List (List Nat) × Nat} {H T : List (List Nat)}
theorem MoT.sh (h : MoT M m u A st sp s H T) : MoSh M m := h.1.1
theorem MoT.ok (h : MoT M m u A st sp s H T) : okM A := h.2.2.2.1
/-- the told machine stays -/
theorem MoM.fu {k : Nat} {B : PM} (F : Fu m u M M') (hk : k ≠ 1 + u) (hB : pn B ≤ 8) (hl : pl B ≤ 3) (h : MoM M m k B) : MoM M' m k B := by
  obtain ⟨h1, h2, h3⟩ := h
  refine ⟨?_, fun s hs => ?_, fun s hs x hx => ?_⟩
  · rw [(F.2.2 2 k (by decide) (by decide) (by show ¬ k = 1 + u; exact hk)).1]; exact h1
  · rw [(F.2.2 3 (8 * k + s) (by decide) (by decide) (by show ¬ (8 * (1 + u) ≤ _ ∧ _); omega)).1]; exact h2 s hs
  · rw [(F.2.2 4 (3 * (8 * k + s) + x) (by decide) (by decide) (by show ¬ (24 * (1 + u) ≤ _ ∧ _); omega)).1]; exact h3 s hs x hx
/-- a change elsewhere in the pupil's rows -/
theorem MoT.fu (F : Fu m u M M') (h : MoT M m u A st sp s H T) (ha : MoA M' m u s') (h6 : mI M' (m + 6) u = mI M (m + 6) u ∧ mI M' (m + 7) u = mI M (m + 7) u) (h8 : mJ M' (m + 8) = mJ M (m + 8) ∧ mI M' (m + 9) = mI M (m + 9) ∧ mJ M' (m + 10) = mJ M (m + 10)) : MoT M' m u A st sp s' H T := by
  obtain ⟨⟨a1, a2⟩, ⟨b1, b2, b3⟩, c, e, f, ⟨g1, g2⟩, ⟨i1, i2⟩, j, k⟩ := h
  refine ⟨⟨a1.sm F.1, a2⟩, ⟨?_, ?_, ?_⟩, c.fu F (by omega) e.1.2 e.2.1.2, e, ha, ⟨by rw [h6.1]; exact g1, by rw [h6.2]; exact g2⟩, ⟨fun q hq => ?_, fun q hq => ?_⟩, j, k⟩
  · rw [F.2.1 3 (by decide) (by decide)]; exact b1
  · rw [F.2.1 8 (by decide) (by decide)]; exact b2
  · rw [F.2.1 9 (by decide) (by decide)]; exact b3
  · rw [h8.1, h8.2.1]; exact i1 q hq
  · rw [h8.2.2]; exact i2 q hq
theorem MoT.ask {w : List Nat} (hd : 4 < d) (hi : MoT M m u A st sp s H T) (hn : s.1.length < 8192) (hw : vw (pl A) w) (hl : w.length ≤ 30) (h : ∀ M', Sm [m + 11, m + 12, m + 13] M M' → Fu m u M M' → MoT M' m u A st sp (aS st sp s w) H T → Q (some (.int (nI (an A 0 w)))) M') : ClD d mdX12_ask [.ref m, .int (nI u), .long (lN (cd w))] M Q :=
  w_X12_ask hd hi.1.1 hi.1.2 hi.2.1.2 hi.2.2.2.2.1 hn hi.2.2.1 hi.2.2.2.1 hw hl (fun M' S k F => h M' S F (hi.fu F k ⟨by rw [S.I (by simp)], by rw [S.I (by simp)]⟩ ⟨S.J (by simp), S.I (by simp), S.J (by simp)⟩))
theorem w_X12_headOf {j : Nat} (hd : 1 < d) (hi : MoT M m u A st sp s H T) (hj : j < H.length) (h : Q (some (.long (lN (cd (H.getD j []))))) M) : ClD d mdX12_headOf [.ref m, .int (nI u), .int (nI j)] M Q := by
  have f := hi.sh.f13
  have hu := hi.1.2
  have hl := hi.2.2.2.2.2.2.2.2.1
  refine ⟨1, hd, Cl.of moX12_headOf (Nat.le_of_ble_eq_true rfl) (gX12_headOf_0 hi.sh.1 (by rw [f.1]; exact f.2.1) ?_ ⟨⟨_, rfl⟩, ?_⟩)⟩ <;> rw [f.1, pk_mul, nI_add]
  · rw [f.2.2]; exact z_in (by omega) (by omega)
  · rw [nI_clamp (by omega), (hi.2.2.2.2.2.2.1.1 j hj).1]; exact h
theorem w_X12_tailOf {j : Nat} (hd : 1 < d) (hi : MoT M m u A st sp s H T) (hj : j < T.length) (h : Q (some (.long (lN (cd (T.getD j []))))) M) : ClD d mdX12_tailOf [.ref m, .int (nI u), .int (nI j)] M Q := by
  have f := hi.sh.f15
  have hu := hi.1.2
  have hl := hi.2.2.2.2.2.2.2.2.2
  refine ⟨1, hd, Cl.of moX12_tailOf (Nat.le_of_ble_eq_true rfl) (gX12_tailOf_0 hi.sh.1 (by rw [f.1]; exact f.2.1) ?_ ⟨⟨_, rfl⟩, ?_⟩)⟩ <;> rw [f.1, pk_mul, nI_add]
  · rw [f.2.2]; exact z_in (by omega) (by omega)
  · rw [nI_clamp (by omega), hi.2.2.2.2.2.2.1.2 j hj]; exact h
theorem w_X12_headComes {w : List Nat} (hd : 3 < d) (hi : MoT M m u A st sp s H T) (hl : H.length < 128) (hw : vw (pl A) w ∧ w.length ≤ 30) (h : ∀ M', Sm [m + 6, m + 8, m + 9] M M' → Fu m u M M' → MoT M' m u A st sp s (H ++ [w]) T → Q none M') : ClD d mdX12_headComes [.ref m, .int (nI u), .long (lN (cd w))] M Q := by
  obtain ⟨⟨a1, a2⟩, b, c, e, f, ⟨g1, g2⟩, ⟨i1, i2⟩, ⟨j1, j2⟩, k1, k2⟩ := hi
  have f11 := a1.f11
  have f13 := a1.f13
  have f14 := a1.f14
  have vu : vp_in (nI u) 2 := z_in a2 (by omega)
  have e9 := rn_lt e e.1.1 hw.1
  have a8 := e.1.2
  refine ⟨3, hd, Cl.of moX12_headComes (Nat.le_of_ble_eq_true rfl) (gX12_headComes_0 a1.1 (by rw [f11.1]; exact f11.2.1) (by rw [f13.1]; exact f13.2.1) ?_ ?_ ?_ ?_ ?_)⟩
  · simp only [eRJ, eKJ]; rw [f11.1]; exact f11.2.1
  · rw [f11.1, f11.2.2]; exact vu
  · rw [f11.1, f13.1, f13.2.2, nI_clamp (by omega), g1, pk_mul, nI_add]; exact z_in (by omega) (by omega)
  · simp only [eRJ, eNJ]; rw [f11.1, f11.2.2]; exact vu
  · simp only [eRJ, eNJ, rI_J]
    rw [f11.1, f13.1, f14.1, nI_clamp (by omega), g1, pk_mul, nI_add, nI_clamp (by omega)]
    obtain ⟨M1, hM1⟩ : ∃ M1, M1 = sJ M (m + 8) (160 * u + H.length) (lN (cd w)) := ⟨_, rfl⟩
    rw [← hM1]
    have F1 : Fu m u M M1 := by rw [hM1]; exact Fu.J M (p := 8) (by decide) (by decide) (by show 160 * u ≤ _ ∧ _; omega)
    have S1 : Sm [m + 6, m + 8, m + 9] M M1 := by rw [hM1]; exact Sm.sJ (by simp) _ _ _
    refine w_X12_endFrom (by decide) (a1.sm F1.1) (by decide) (c.fu F1 (by omega) e.1.2 e.2.1.2) e e.1.1 hw.1 hw.2 ?_
    have k1' : mK M1 (m + 9) = 1 := by rw [S1.2.2.1]; exact f14.2.1
    have n1' : mN M1 (m + 9) = 320 := by rw [S1.2.2.2.1]; exact f14.2.2
    have r1' : mR M1 m 11 = m + 6 := by rw [S1.2.1]; exact f11.1
    refine gX12_headComes_41 k1' (a1.sm F1.1).1 ?_ ?_ ?_ ⟨rfl, ?_⟩
    · simp only [eRI, eKI]; rw [r1', S1.2.2.1]; exact f11.2.1
    · rw [n1']; exact z_in (by omega) (by omega)
    · simp only [eRI, eNI]; rw [r1', S1.2.2.2.1, f11.2.2]; exact vu
    · simp only [eRI]
      rw [r1', nI_clamp (by omega), nI_clamp (by omega)]
      obtain ⟨M2, hM2⟩ : ∃ M2, M2 = sI M1 (m + 9) (160 * u + H.length) (nI (rn (pt A) 0 w)) := ⟨_, rfl⟩
      rw [← hM2]
      have e6 : mI M2 (m + 6) u = nI H.length := by rw [hM2, rI_np (by omega), hM1]; exact g1
      rw [e6, nI_add]
      have F2 : Fu m u M1 M2 := by rw [hM2]; exact Fu.I _ (p := 9) (by decide) (by decide) (by show 160 * u ≤ _ ∧ _; omega)
      have F3 : Fu m u M2 (sI M2 (m + 6) u (nI (H.length + 1))) := Fu.I _ (p := 6) (by decide) (by decide) rfl
      have FF := (F1.tr F2).tr F3
      have S2 : Sm [m + 6, m + 8, m + 9] M1 M2 := by rw [hM2]; exact Sm.sI (by simp) _ _ _
      have SS : Sm [m + 6, m + 8, m + 9] M (sI M2 (m + 6) u (nI (H.length + 1))) := (S1.tr S2).tr (Sm.sI (by simp) _ _ _)
      refine h _ SS FF ⟨⟨a1.sm FF.1, a2⟩, ⟨?_, ?_, ?_⟩, c.fu FF (by omega) e.1.2 e.2.1.2, e, f.sm SS (by simp) (by simp) (by simp), ⟨?_, ?_⟩, ⟨fun q hq => ⟨?_, ?_⟩, fun q hq => ?_⟩, ⟨fun v hv => ?_, j2⟩, ?_, k2⟩
      · rw [FF.2.1 3 (by decide) (by decide)]; exact b.1
      · rw [FF.2.1 8 (by decide) (by decide)]; exact b.2.1
      · rw [FF.2.1 9 (by decide) (by decide)]; exact b.2.2
      · rw [rI_at, List.length_append, List.length_singleton]
      · rw [SS.I (by simp)]; exact g2
      · rw [List.length_append, List.length_singleton] at hq
        rw [rJ_I, hM2, rJ_I, hM1]
        by_cases z : q = H.length
        · subst z
          rw [rJ_at, show (H ++ [w]).getD H.length [] = w from qk_new _ _]
        · rw [rJ_nk (by omega), show (H ++ [w]).getD q [] = H.getD q [] from getD_snoc_old (by omega)]
          exact (i1 q (by omega)).1
      · rw [List.length_append, List.length_singleton] at hq
        rw [rI_np (by omega), hM2]
        by_cases z : q = H.length
        · subst z
          rw [rI_at]; unfold en; rw [show (H ++ [w]).getD H.length [] = w from qk_new _ _]
        · rw [rI_nk (by omega), en_old (by omega), hM1]
          exact (i1 q (by omega)).2
      · rw [SS.J (by simp)]; exact i2 q hq
      · rcases List.mem_append.mp hv with z | z
        · exact j1 v z
        · rw [List.mem_singleton] at z; rw [z]; exact hw
      · rw [List.length_append, List.length_singleton]; omega
theorem w_X12_tailComes {w : List Nat} (hd : 1 < d) (hi : MoT M m u A st sp s H T) (hl : T.length < 128) (hw : vw (pl A) w ∧ w.length ≤ 30) (h : ∀ M', Sm [m + 7, m + 10, m + 17] M M' → Fu m u M M' → MoT M' m u A st sp s H (T ++ [w]) → (∀ c, mI M' (m + 17) (512 * u + c) = if 4 * T.length ≤ c ∧ c < 4 * T.length + 4 then nI 0 else mI M (m + 17) (512 * u + c)) → Q none M') : ClD d mdX12_tailComes [.ref m, .int (nI u), .long (lN (cd w))] M Q := by
  obtain ⟨⟨a1, a2⟩, b, c, e, f, ⟨g1, g2⟩, ⟨i1, i2⟩, ⟨j1, j2⟩, k1, k2⟩ := hi
  have f12 := a1.f12
  have f15 := a1.f15
  have f22 := a1.f22
  have vu : vp_in (nI u) 2 := z_in a2 (by omega)
  refine ⟨1, hd, Cl.of moX12_tailComes (Nat.le_of_ble_eq_true rfl) (gX12_tailComes_0 a1.1 (by rw [f12.1]; exact f12.2.1) (by rw [f15.1]; exact f15.2.1) ?_ ?_ ?_)⟩
  · rw [f12.1, f12.2.2]; exact vu
  · rw [f12.1, f15.1, f15.2.2, nI_clamp (by omega), g2, pk_mul, nI_add]; exact z_in (by omega) (by omega)
  · rw [f12.1, f15.1, nI_clamp (by omega), g2, pk_mul, nI_add, nI_clamp (by omega)]
    obtain ⟨M0, hM0⟩ : ∃ M0, M0 = sJ M (m + 10) (128 * u + T.length) (lN (cd w)) := ⟨_, rfl⟩
    rw [← hM0]
    have F0 : Fu m u M M0 := by rw [hM0]; exact Fu.J M (p := 10) (by decide) (by decide) (by show 128 * u ≤ _ ∧ _; omega)
    have S0 : Sm [m + 7, m + 10, m + 17] M M0 := by rw [hM0]; exact Sm.sJ (by simp) _ _ _
    refine upto 4 (fun o => ∀ M1, Sm [m + 17] M0 M1 → Fu m u M0 M1 → (∀ c, mI M1 (m + 17) (512 * u + c) = if 4 * T.length ≤ c ∧ c < 4 * T.length + o then nI 0 else mI M0 (m + 17) (512 * u + c)) → Wp 1 mdX12_tailComes 21 [(0, .ref m), (1, .int (nI u)), (4, .int (nI o))] [] M1 (fun r M' => ROK mdX12_tailComes r ∧ Q r M')) ?_ 0 (by decide) M0 (Sm.rf _ _) (Fu.rf _ _ _) (fun c => by rw [if_neg (by omega)])
    intro o ho ih M1 S1 F1 hp
    have hs1 := (a1.sm S0).sm S1
    have g12 := hs1.f12
    have g22 := hs1.f22
    have e7 : mI M1 (m + 7) u = nI T.length := by rw [S1.I (by simp), hM0]; exact g2
    refine gX12_tailComes_21 hs1.1 (by rw [g12.1]; exact g12.2.1) (by rw [g22.1]; exact g22.2.1) (fun _ => by rw [g12.1, g12.2.2]; exact vu) (fun c0 => ⟨rfl, ?_⟩) (fun _ => by rw [g12.1, g12.2.2]; exact vu) (fun c0 => ?_) (fun c0 => ?_) <;> rw [nI_leI (by decide) (by omega)] at c0
    · have eo' : o = 4 := by omega
      subst eo'
      rw [g12.1, nI_clamp (by omega), e7, nI_add]
      have F3 : Fu m u M1 (sI M1 (m + 7) u (nI (T.length + 1))) := Fu.I _ (p := 7) (by decide) (by decide) rfl
      have FF := (F0.tr F1).tr F3
      have SS : Sm [m + 7, m + 10, m + 17] M (sI M1 (m + 7) u (nI (T.length + 1))) := (S0.tr (S1.mono (by simp))).tr (Sm.sI (by simp) _ _ _)
      refine h _ SS FF ⟨⟨a1.sm FF.1, a2⟩, ⟨?_, ?_, ?_⟩, c.fu FF (by omega) e.1.2 e.2.1.2, e, f.sm SS (by simp) (by simp) (by simp), ⟨?_, ?_⟩, ⟨fun q hq => ⟨?_, ?_⟩, fun q hq => ?_⟩, ⟨j1, fun v hv => ?_⟩, k1, ?_⟩ (fun c => ?_)
      · rw [FF.2.1 3 (by decide) (by decide)]; exact b.1
      · rw [FF.2.1 8 (by decide) (by decide)]; exact b.2.1
      · rw [FF.2.1 9 (by decide) (by decide)]; exact b.2.2
      · rw [SS.I (by simp)]; exact g1
      · rw [rI_at, List.length_append, List.length_singleton]
      · rw [SS.J (by simp)]; exact (i1 q hq).1
      · rw [SS.I (by simp)]; exact (i1 q hq).2
      · rw [List.length_append, List.length_singleton] at hq
        rw [rJ_I, S1.J (by simp), hM0]
        by_cases z : q = T.length
        · subst z
          rw [rJ_at, show (T ++ [w]).getD T.length [] = w from qk_new _ _]
        · rw [rJ_nk (by omega), show (T ++ [w]).getD q [] = T.getD q [] from getD_snoc_old (by omega)]
          exact i2 q (by omega)
      · rcases List.mem_append.mp hv with z | z
        · exact j2 v z
        · rw [List.mem_singleton] at z; rw [z]; exact hw
      · rw [List.length_append, List.length_singleton]; omega
      · rw [rI_np (by omega), hp c, hM0]; rfl
    · rw [g12.1, g22.1, g22.2.2, nI_clamp (by omega), e7, pk_mul, nI_add, pk_mul, nI_add]; exact z_in (by omega) (by omega)
    · rw [g12.1, g22.1, nI_clamp (by omega), e7, pk_mul, nI_add, nI_add, pk_mul, nI_add, nI_clamp (by omega)]
      refine ih (by omega) _ (S1.tr (Sm.sI (by simp) _ _ _)) (F1.tr (Fu.I _ (p := 17) (by decide) (by decide) (by show 512 * u ≤ _ ∧ _; omega))) (fun c => ?_)
      by_cases z : c = 4 * T.length + o
      · subst z
        rw [show 512 * u + (4 * T.length + o) = 4 * (128 * u + T.length) + o by omega, rI_at, if_pos (by omega)]
      · rw [rI_nk (by omega), hp c]
        by_cases y : 4 * T.length ≤ c ∧ c < 4 * T.length + o
        · rw [if_pos y, if_pos (by omega)]
        · rw [if_neg y, if_neg (by omega)]
/-- like by all tails -/
theorem w_X12_areLike {p q : Nat} (hd : 3 < d) (hi : MoT M m u A st sp s H T) (hp : p < pn A) (hq : q < pn A) (h1 : lk A T p q → Q (some (.int (nI 1))) M) (h0 : ¬ lk A T p q → Q (some (.int (nI 0))) M) : ClD d mdX12_areLike [.ref m, .int (nI u), .int (nI p), .int (nI q)] M Q := by
  have hA := hi.ok
  have hs := hi.sh
  have f12 := hs.f12
  have a2 := hi.1.2
  have hT := hi.2.2.2.2.2.2.2.2.2
  have g2 := hi.2.2.2.2.2.1.2
  have hm := hi.2.2.1
  refine ⟨3, hd, Cl.of moX12_areLike (Nat.le_of_ble_eq_true rfl) (gX12_areLike_0 ?_)⟩
  refine upto T.length (fun e => ∀ b : Nat, (b = 1 ∧ ∀ j, j < e → ao A p (T.getD j []) = ao A q (T.getD j [])) ∨ (b = 0 ∧ ¬ lk A T p q) → Wp 3 mdX12_areLike 6 [(0, .ref m), (1, .int (nI u)), (2, .int (nI p)), (3, .int (nI q)), (4, .int (nI b)), (5, .int (nI e))] [] M (fun r M' => ROK mdX12_areLike r ∧ Q r M')) ?_ 0 (Nat.zero_le _) 1 (Or.inl ⟨rfl, fun _ h => by omega⟩)
  intro e he ih b hb
  refine gX12_areLike_6 hs.1 (by rw [f12.1]; exact f12.2.1) (by rw [f12.1, f12.2.2]; exact z_in a2 (by omega)) (fun c => ?_) (fun c c2 => ?_) (fun c c2 => ?_) <;> rw [f12.1, nI_clamp (by omega), g2, nI_leI (by omega) (by omega)] at c
  · rcases hb with ⟨rfl, hb⟩ | ⟨rfl, hb⟩
    · refine ⟨⟨_, rfl, by decide⟩, h1 (fun w hw => ?_)⟩
      obtain ⟨j, j1, rfl⟩ := mem_getD hw
      exact hb j (by omega)
    · exact ⟨⟨_, rfl, by decide⟩, h0 hb⟩
  · rw [nI_add]
    refine ih (by omega) 0 (Or.inr ⟨rfl, ?_⟩)
    rcases hb with ⟨rfl, hb⟩ | ⟨rfl, hb⟩
    · exact absurd c2 (by decide)
    · exact hb
  · have hel : e < T.length := by omega
    have hg := hi.2.2.2.2.2.2.2.1.2.get hel
    have o1 := ao_ok hA hp hg.1
    have o2 := ao_ok hA hq hg.1
    have v1 := hA.2.2.1 _ (rn_lt hA hp hg.1)
    have v2 := hA.2.2.1 _ (rn_lt hA hq hg.1)
    refine w_X12_tailOf (by decide) hi hel (gX12_areLike_34 hs.1 (w_X12_endFrom (by decide) hs (by decide) hm hA hp hg.1 hg.2 (gX12_areLike_37 hs.1 (w_X12_shown (by decide) hs (by decide) hm hA (rn_lt hA hp hg.1) (gX12_areLike_40 hs.1 ?_)))))
    refine w_X12_tailOf (by decide) hi hel (gX12_areLike_52 hs.1 (w_X12_endFrom (by decide) hs (by decide) hm hA hq hg.1 hg.2 (gX12_areLike_55 hs.1 (w_X12_shown (by decide) hs (by decide) hm hA (rn_lt hA hq hg.1) ?_))))
    refine gX12_areLike_58 (fun c3 => ?_) (fun c3 => ?_) <;> rw [nI_eq (by omega) (by omega)] at c3 <;> rw [nI_add]
    · refine ih hel 0 (Or.inr ⟨rfl, fun k => c3 ?_⟩)
      have := k _ (getD_mem hel)
      rw [o1, o2] at this
      exact Option.some.inj this
    · rcases hb with ⟨rfl, hb⟩ | ⟨rfl, hb⟩
      · refine ih hel 1 (Or.inl ⟨rfl, fun j hj => ?_⟩)
        by_cases z : j = e
        · subst z; rw [o1, o2]; exact congrArg some c3
        · exact hb j (by omega)
      · exact absurd rfl c2
theorem w_X12_headLike {t : Nat} (hd : 4 < d) (hi : MoT M m u A st sp s H T) (ht : t < pn A) (h : ∀ o, isF H.length (fun k => lk A T (en A H k) t) o → Q (some (.int (eo o))) M) : ClD d mdX12_headLike [.ref m, .int (nI u), .int (nI t)] M Q := by
  have hA := hi.ok
  have hs := hi.sh
  have f11 := hs.f11
  have f14 := hs.f14
  have a2 := hi.1.2
  have hH := hi.2.2.2.2.2.2.2.2.1
  have g1 := hi.2.2.2.2.2.1.1
  refine ⟨4, hd, Cl.of moX12_headLike (Nat.le_of_ble_eq_true rfl) (gX12_headLike_0 ?_)⟩
  refine upto H.length (fun k => (∀ j, j < k → ¬ lk A T (en A H j) t) → Wp 4 mdX12_headLike 2 [(0, .ref m), (1, .int (nI u)), (2, .int (nI t)), (3, .int (nI k))] [] M (fun r M' => ROK mdX12_headLike r ∧ Q r M')) ?_ 0 (Nat.zero_le _) (fun _ h => by omega)
  intro k hk ih hno
  refine gX12_headLike_2 hs.1 (by rw [f11.1]; exact f11.2.1) (by rw [f14.1]; exact f14.2.1) (by rw [f11.1, f11.2.2]; exact z_in a2 (by omega)) (fun c => ⟨⟨_, rfl⟩, ?_⟩) (fun c => ?_) (fun c => ?_) <;> rw [f11.1, nI_clamp (by omega), g1, nI_leI (by omega) (by omega)] at c
  · refine h none (fun j hj => hno j (by omega))
  · rw [f14.1, f14.2.2, pk_mul, nI_add]; exact z_in (by omega) (by omega)
  · have hkl : k < H.length := by omega
    have hen := en_lt hA hi.2.2.2.2.2.2.2.1.1 hkl
    rw [f14.1, pk_mul, nI_add, nI_clamp (by omega), (hi.2.2.2.2.2.2.1.1 k hkl).2]
    refine w_X12_areLike (by decide) hi hen ht (fun hl => gX12_headLike_30 (fun c2 => absurd c2 (by decide)) (fun _ => ⟨⟨_, rfl⟩, h (some k) ⟨hkl, hl, hno⟩⟩)) (fun hl => gX12_headLike_30 (fun _ => ?_) (fun c2 => absurd rfl c2))
    rw [nI_add]
    refine ih hkl (fun j hj => ?_)
    by_cases z : j = k
    · subst z; exact hl
    · exact hno j (by omega)
end MT
