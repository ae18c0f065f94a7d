/-! the reference: what each method would cost; counts; the row -/
/-- what is learnt by a method from NEW on -/
noncomputable def cstF (A : PM) (st sp mm : Nat) : Nat × PS := learnF A st sp (newP A st sp mm)
theorem cstF_PI {A : PM} {st sp mm : Nat} (hA : okM A) (hm : mm ≤ 3) : PI A 0 (cstF A st sp mm).2 := (lnF_PI (N := 0) hA 40 _ (PI.new hA hm) mu_lt).1
/-- the first of the least -/
def chF (c : Nat → Int32) : Nat → Nat × Int32
  | 0 => (0, nI 0)
  | n + 1 => if n = 0 ∨ c n < (chF c n).2 then (n, c n) else chF c n
noncomputable def csV (A : PM) (st sp mm : Nat) : Int32 := nI (qs (cstF A st sp mm).2).2
noncomputable def csR (A : PM) (st sp mm : Nat) : List Int64 := [(nI (qs (cstF A st sp mm).2).1.length).toInt64, (nI (ql (cstF A st sp mm).2)).toInt64, (nI (cstF A st sp mm).1).toInt64, (nI (qH (cstF A st sp mm).2).length).toInt64, (nI (qT (cstF A st sp mm).2).length).toInt64]
noncomputable def chR (A : PM) (st sp n : Nat) : List Int64 := (List.range n).map (fun mm => (csV A st sp mm).toInt64)
theorem chR_s (A : PM) (st sp n : Nat) : chR A st sp (n + 1) = chR A st sp n ++ [(csV A st sp n).toInt64] := by unfold chR; rw [List.range_succ, List.map_append]; rfl
theorem chR_len (A : PM) (st sp n : Nat) : (chR A st sp n).length = n := by unfold chR; rw [List.length_map, List.length_range]
def cnV (X : List Nat) (A : PM) (st sp : Nat) (p : PS) (R : List Int64) (x : Int32) : Int32 :=
  if x = nI 0 then nI (qm p) else if x = nI 1 then nI (pl A) else if x = nI 2 then nI (pn A) else if x = nI 3 then nI (qs p).1.length else if x = nI 4 then nI (qs p).2 else if x = nI 5 then nI (ql p) else if x = nI 6 then (match qg p with | none => (-1 : Int32) | some g => nI (pn g.2)) else if x = nI 7 then nI R.length else if x = nI 8 then nI X.length else if x = nI 9 then nI st else if x = nI 10 then nI sp else (-1 : Int32)
section MCo
variable {d m st sp N : Nat} {Q : Option Value → Mem → Prop} {Mz M M' : Mem} {A G : PM} {p p' : PS} {X : List Nat} {R : List Int64}
theorem MoS.fx1 (h : MoS Mz M m X A st sp p R) (F : Fx m 1 M M') (hT : qm p = 3 → (qT p).length ≤ 8) : MoS Mz M' m X A st sp p R := by
  have hP := h.1.2.1.oth F (by decide) (by decide) hT
  have h0 := h
  obtain ⟨⟨⟨h1, h2⟩, h3, h4, h5, h6, h7⟩, -⟩ := h
  have n : ∀ q, m + q ∈ fxL m → q ≠ 1 ∧ q ≠ 21 := fun q hq => by rw [fxL_mem] at hq; omega
  refine ⟨?_, h0.fr F.1 (fun q hq => by rw [fxL_mem] at hq; omega)⟩
  exact ⟨⟨h1.sm F.1 (fun q => (n 21 q).2 rfl), by rw [F.2.1 30 (by decide) (by decide)]; exact h2⟩, hP, by rw [F.2.1 7 (by decide) (by decide)]; exact h4, by rw [F.2.1 1 (by decide) (by decide)]; exact h5, h6, fun j hj => by rw [F.1.J (fun q => (n 1 q).1 rfl)]; exact h7 j hj⟩
theorem PI.t8 (hA : okM A) (h : PI A N p) : qm p = 3 → (qT p).length ≤ 8 := fun e => ((h.2.2.2.2 e).1.1).2.1
theorem MoP.mn {u : Nat} (h : MoP M m u A st sp p) : MoSh M m ∧ (mI M (m + 12) u = nI (qs p).1.length ∧ mI M (m + 13) u = nI (qs p).2) ∧ mI M (m + 14) u = nI (ql p) ∧ mI M (m + 6) u = nI (qH p).length ∧ mI M (m + 7) u = nI (qT p).length := by
  obtain ⟨s, e, i, k, -, -⟩ := h
  obtain ⟨T, -, -, -, -, a, -⟩ := i.2.2.2.2.1
  exact ⟨i.sh, ⟨by rw [← e.len]; exact a.1, by rw [← e.2.2]; exact a.2⟩, k.2, i.n.1.1, i.n.1.2⟩
/-- the pupil in thought stays where a number is told -/
theorem MoP.en {u : Nat} (h : MoP M m u A st sp p) (S : Sm [m, m + 1] M M') (hf : ∀ j, j ≠ 1 → mI M' m j = mI M m j) : MoP M' m u A st sp p :=
  h.cg (h.sh.1.sm S) (fun q a b => ⟨S.I (by simp; omega), S.J (by simp; omega)⟩) ⟨hf 3 (by decide), hf 8 (by decide), hf 9 (by decide)⟩
theorem w_X12_stepsInThought {mm : Nat} (hd : 10 < d) (hm : mm ≤ 3) (hS : MoS Mz M m X A st sp p R) (hI : PI A N p)
    (h : ∀ M', MoS Mz M' m X A st sp p R → MoP M' m 1 A st sp (cstF A st sp mm).2 → Q (some (.int (nI (cstF A st sp mm).1))) M') : ClD d mdX12_stepsInThought [.ref m, .int (nI mm)] M Q := by
  have hA := hS.sh.2
  have hT := hI.t8 hA
  obtain ⟨s, es, i, -⟩ := hS.1.2.1
  refine ⟨10, hd, Cl.of moX12_stepsInThought (Nat.le_of_ble_eq_true rfl) (gX12_stepsInThought_0 hS.sh.1.1 ?_)⟩
  refine w_X12_fresh (A := A) (st := st) (sp := sp) (by decide) hS.sh.1 (by decide) hm ⟨i.2.1.1, i.2.1.2.1, i.2.1.2.2⟩ i.2.2.1 hA (fun M2 F2 P2 => ?_)
  have hS2 := hS.fx1 F2.x hT
  refine gX12_stepsInThought_6 hS2.sh.1.1 (w_X12_learnsAll (N := 0) (by decide) P2 (PI.new hA hm) (by decide) (fun M3 F3 P3 => ?_))
  exact gX12_stepsInThought_11 ⟨⟨_, rfl⟩, h M3 (hS2.fx1 F3 hT) P3⟩
theorem w_X12_costs {x : Int32} (hd : 11 < d) (hS : MoS Mz M m X A st sp p R) (hI : PI A N p) (h1 : ∀ M', MoS Mz M' m X A st sp p R → (¬ ∃ k, k ≤ 3 ∧ x = nI k) → Q (some (.int (-1 : Int32))) M')
    (h2 : ∀ M' k, k ≤ 3 → x = nI k → MoS Mz M' m X A st sp p (csR A st sp k) → Q (some (.int (csV A st sp k))) M') : ClD d mdX12_costs [.ref m, .int x] M Q := by
  obtain ⟨M1, hM1⟩ : ∃ M1, M1 = sI M m 0 (nI 0) := ⟨_, rfl⟩
  have hS1 : MoS Mz M1 m X A st sp p R := by rw [hM1]; exact hS.th
  have s1 := hS1.sh.1
  have one : ¬ (nI 1 : Int32) = 0 := by decide
  have hz : ∀ {n}, 1 < n → n < 2 ^ 31 → vp_in (nI 1) n := fun h h2 => z_in h h2
  refine ⟨11, hd, Cl.of moX12_costs (Nat.le_of_ble_eq_true rfl) (gX12_costs_0 hS.sh.1.1 ?_)⟩
  rw [← hM1]
  refine w_inI (a := 0) (b := 3) (by decide) (by decide) (by decide) (fun k _ hk ek => gX12_costs_14 s1.1 (fun _ => ?_) (fun c => absurd c one)) (fun hn => gX12_costs_14 s1.1 (fun c => absurd rfl c) (fun _ => ⟨⟨_, rfl⟩, h1 M1 hS1 (fun ⟨k, k1, k2⟩ => hn ⟨k, Nat.zero_le _, k1, k2⟩)⟩))
  have h2 := fun M' => h2 M' k hk ek
  rw [ek]
  refine w_X12_stepsInThought (by decide) hk hS1 hI (fun M2 hS2 P2 => ?_)
  unfold csR csV at h2
  obtain ⟨L, hL⟩ : ∃ L, L = cstF A st sp k := ⟨_, rfl⟩
  rw [← hL] at h2 P2 ⊢
  obtain ⟨M3, hM3⟩ : ∃ M3, M3 = sI M2 m 1 (nI 0) := ⟨_, rfl⟩
  have hS3 : MoS Mz M3 m X A st sp p [] := by rw [hM3]; exact hS2.nil
  have P3 : MoP M3 m 1 A st sp L.2 := by rw [hM3]; exact P2.en (Sm.sI (by simp) _ _ _) (fun j hj => rI_nk hj)
  have s3 := hS3.sh.1
  have n3 := P3.mn
  refine gX12_costs_24 hS2.sh.1.1 ?_ ?_ ?_ <;> rw [← hM3, s3.f17.1]
  · exact hS2.sh.1.f17.2.1
  · rw [s3.f17.2.2]; exact z_in (by decide) (by decide)
  rw [nI_clamp (by decide), n3.2.1.1]
  refine w_enS (by decide) hS3 (by decide) (fun M4 S4 F4 f4 => ?_)
  have P4 := P3.en F4 f4
  have s4 := S4.sh.1
  have n4 := P4.mn
  refine gX12_costs_41 s4.1 (by rw [s4.f19.1]; exact s4.f19.2.1) (by rw [s4.f19.1, s4.f19.2.2]; exact z_in (by decide) (by decide)) ?_
  rw [s4.f19.1, nI_clamp (by decide), n4.2.2.1]
  refine w_enS (by decide) S4 (by show 1 < 16; decide) (fun M5 S5 F5 f5 => ?_)
  have P5 := P4.en F5 f5
  have s5 := S5.sh.1
  refine gX12_costs_52 s5.1 (w_enS (by decide) S5 (by show 2 < 16; decide) (fun M6 S6 F6 f6 => ?_))
  have P6 := P5.en F6 f6
  have s6 := S6.sh.1
  have n6 := P6.mn
  refine gX12_costs_58 s6.1 (by rw [s6.f11.1]; exact s6.f11.2.1) (by rw [s6.f11.1, s6.f11.2.2]; exact z_in (by decide) (by decide)) ?_
  rw [s6.f11.1, nI_clamp (by decide), n6.2.2.2.1]
  refine w_enS (by decide) S6 (by show 3 < 16; decide) (fun M7 S7 F7 f7 => ?_)
  have P7 := P6.en F7 f7
  have s7 := S7.sh.1
  have n7 := P7.mn
  refine gX12_costs_69 s7.1 (by rw [s7.f12.1]; exact s7.f12.2.1) (by rw [s7.f12.1, s7.f12.2.2]; exact z_in (by decide) (by decide)) ?_
  rw [s7.f12.1, nI_clamp (by decide), n7.2.2.2.2]
  refine w_enS (by decide) S7 (by show 4 < 16; decide) (fun M8 S8 F8 f8 => ?_)
  have P8 := P7.en F8 f8
  have s8 := S8.sh.1
  have n8 := P8.mn
  refine gX12_costs_80 s8.1 (by rw [s8.f18.1]; exact s8.f18.2.1) (by rw [s8.f18.1, s8.f18.2.2]; exact z_in (by decide) (by decide)) ⟨⟨_, rfl⟩, ?_⟩
  rw [s8.f18.1, nI_clamp (by decide), n8.2.1.2]
  exact h2 M8 S8
theorem w_X12_cheapest (hd : 11 < d) (hS : MoS Mz M m X A st sp p R) (hI : PI A N p) (h : ∀ M', MoS Mz M' m X A st sp p (chR A st sp 4) → Q (some (.int (nI (chF (csV A st sp) 4).1))) M') : ClD d mdX12_cheapest [.ref m] M Q := by
  refine ⟨11, hd, Cl.of moX12_cheapest (Nat.le_of_ble_eq_true rfl) (gX12_cheapest_0 hS.sh.1.1 ?_)⟩
  refine upto 4 (fun k => ∀ M1, MoS Mz M1 m X A st sp p (chR A st sp k) → Wp 11 mdX12_cheapest 16 [(0, .ref m), (1, .int (nI (chF (csV A st sp) k).1)), (2, .int (chF (csV A st sp) k).2), (3, .int (nI k))] [] M1 (fun r M' => ROK mdX12_cheapest r ∧ Q r M')) ?_ 0 (Nat.zero_le _) _ hS.th.nil
  intro k hk ih M1 hS1
  refine gX12_cheapest_16 hS1.sh.1.1 (fun c => ⟨⟨_, rfl⟩, ?_⟩) (fun c => ?_) <;> rw [nI_ltI (by decide) (by omega)] at c
  · have e : k = 4 := by omega
    subst e
    exact h M1 hS1
  · refine w_X12_stepsInThought (by decide) (by omega) hS1 hI (fun M2 hS2 P2 => ?_)
    obtain ⟨cv0, hcv⟩ : ∃ c : Nat → Int32, c = csV A st sp := ⟨_, rfl⟩
    have ev : cv0 k = nI (qs (cstF A st sp k).2).2 := by rw [hcv]; rfl
    rw [← hcv] at ih ⊢
    have s2 := hS2.sh.1
    have n2 := P2.mn
    have K : ∀ {M2}, MoSh M2 m → mK M2 (mR M2 m 18) = 1 ∧ vp_in (nI 1) (mN M2 (mR M2 m 18)) := fun s => ⟨by rw [s.f18.1]; exact s.f18.2.1, by rw [s.f18.1, s.f18.2.2]; exact z_in (by decide) (by decide)⟩
    refine gX12_cheapest_26 s2.1 (K s2).1 (K s2).2 ?_
    rw [s2.f18.1, nI_clamp (by decide), n2.2.1.2, ← ev]
    refine w_enS (by decide) hS2 (by rw [chR_len]; omega) (fun M3 S3 F3 f3 => ?_)
    have P3 := P2.en F3 f3
    have s3 := S3.sh.1
    have n3 := P3.mn
    have e3 : mI M3 (mR M3 m 18) (nI 1).toNatClampNeg = cv0 k := by rw [s3.f18.1, nI_clamp (by decide), n3.2.1.2, ev]
    have nx := ih (by omega) M3 (by rw [chR_s, ← hcv]; exact S3)
    have YES : (k = 0 ∨ cv0 k < (chF cv0 k).2) → Wp 11 mdX12_cheapest 55 [(0, .ref m), (3, .int (nI k))] [] M3 (fun r M' => ROK mdX12_cheapest r ∧ Q r M') := fun q => by
      refine gX12_cheapest_55 s3.1 (K s3).1 (K s3).2 ?_
      rw [nI_add, e3]
      rw [show chF cv0 (k + 1) = (k, cv0 k) from if_pos q] at nx
      exact nx
    refine gX12_cheapest_38 s3.1 (K s3).1 (fun c2 => YES (Or.inl ?_)) (fun _ => (K s3).2) (fun c2 c3 => YES (Or.inr (by rw [e3] at c3; exact c3))) (fun c2 c3 => ?_)
    · rw [show (0 : Int32) = nI 0 from rfl, nI_leI (by omega) (by omega)] at c2; omega
    · rw [e3] at c3
      rw [nI_add]
      rw [show chF cv0 (k + 1) = chF cv0 k from if_neg (fun q => by
        rcases q with q | q
        · subst q; exact c2 (by decide)
        · exact c3 q)] at nx
      exact nx
theorem w_X12_count {x : Int32} (hd : 1 < d) (hS : MoS Mz M m X A st sp p R) (h : ∀ M', MoS Mz M' m X A st sp p R → Q (some (.int (cnV X A st sp p R x))) M') : ClD d mdX12_count [.ref m, .int x] M Q := by
  obtain ⟨M1, hM1⟩ : ∃ M1, M1 = sI M m 0 (nI 0) := ⟨_, rfl⟩
  have hS1 : MoS Mz M1 m X A st sp p R := by rw [hM1]; exact hS.th
  have s0 := hS.sh.1
  have s1 := hS1.sh.1
  have h := h M1 hS1
  have n1 := hS1.1.2.1.mn
  have l3 := hS1.l3
  obtain ⟨s, es, i, -⟩ := hS1.1.2.1
  refine ⟨1, hd, Cl.of moX12_count (Nat.le_of_ble_eq_true rfl) ?_⟩
  refine gX12_count_0 s0.1 ?_ ?_ ?_ ?_ ?_ (fun c => ⟨⟨_, rfl⟩, ?_⟩) (fun c0 c => ⟨⟨_, rfl⟩, ?_⟩) (fun _ _ _ => ?_) (fun c0 c1 c => ⟨⟨_, rfl⟩, ?_⟩) (fun _ _ _ _ => ?_) (fun c0 c1 c2 c => ⟨⟨_, rfl⟩, ?_⟩) (fun _ _ _ _ _ => ?_) (fun c0 c1 c2 c3 c => ⟨⟨_, rfl⟩, ?_⟩) (fun _ _ _ _ _ _ => ?_) (fun c0 c1 c2 c3 c4 c => ⟨⟨_, rfl⟩, ?_⟩) (fun _ _ _ _ _ _ _ => ?_) (fun c0 c1 c2 c3 c4 c5 c e => ⟨⟨_, rfl⟩, ?_⟩) (fun _ _ _ _ _ _ _ _ => ?_) (fun c0 c1 c2 c3 c4 c5 c e => ⟨⟨_, rfl⟩, ?_⟩) (fun c0 c1 c2 c3 c4 c5 c6 c => ⟨⟨_, rfl⟩, ?_⟩) (fun c0 c1 c2 c3 c4 c5 c6 c7 c => ⟨⟨_, rfl⟩, ?_⟩) (fun c0 c1 c2 c3 c4 c5 c6 c7 c8 c => ⟨⟨_, rfl⟩, ?_⟩) (fun c0 c1 c2 c3 c4 c5 c6 c7 c8 c9 c => ⟨⟨_, rfl⟩, ?_⟩) (fun c0 c1 c2 c3 c4 c5 c6 c7 c8 c9 c10 => ⟨⟨_, rfl⟩, ?_⟩) <;> (try rw [← hM1] at e) <;> rw [← hM1]
  · rw [s1.f4.1]; exact s0.f4.2.1
  · rw [s1.f17.1]; exact s0.f17.2.1
  · rw [s1.f18.1]; exact s0.f18.2.1
  · rw [s1.f19.1]; exact s0.f19.2.1
  · rw [s1.f20.1]; exact s0.f20.2.1
  · unfold cnV at h; rw [if_pos c] at h; rw [hS1.1.2.2.1]; exact h
  · unfold cnV at h; rw [if_neg c0, if_pos c] at h; rw [l3.1]; exact h
  · rw [s1.f4.1, s1.f4.2.2]; exact z_in (by decide) (by decide)
  · unfold cnV at h; rw [if_neg c0, if_neg c1, if_pos c] at h; rw [s1.f4.1, nI_clamp (by decide), l3.2.1]; exact h
  · rw [s1.f17.1, s1.f17.2.2]; exact z_in (by decide) (by decide)
  · unfold cnV at h; rw [if_neg c0, if_neg c1, if_neg c2, if_pos c] at h; rw [s1.f17.1, nI_clamp (by decide), n1.2.1.1]; exact h
  · rw [s1.f18.1, s1.f18.2.2]; exact z_in (by decide) (by decide)
  · unfold cnV at h; rw [if_neg c0, if_neg c1, if_neg c2, if_neg c3, if_pos c] at h; rw [s1.f18.1, nI_clamp (by decide), n1.2.1.2]; exact h
  · rw [s1.f19.1, s1.f19.2.2]; exact z_in (by decide) (by decide)
  · unfold cnV at h; rw [if_neg c0, if_neg c1, if_neg c2, if_neg c3, if_neg c4, if_pos c] at h; rw [s1.f19.1, nI_clamp (by decide), n1.2.2.1]; exact h
  · rw [s1.f20.1, s1.f20.2.2]; exact z_in (by decide) (by decide)
  · unfold cnV at h; rw [if_neg c0, if_neg c1, if_neg c2, if_neg c3, if_neg c4, if_neg c5, if_pos c] at h; rw [s1.f20.1, nI_clamp (by decide)] at e
    cases hg : qg p with
    | none => rw [hg] at h; exact h
    | some g => rw [(hS1.g0.2 g hg).1] at e; exact absurd e (by decide)
  · rw [s1.f4.1, s1.f4.2.2]; exact z_in (by decide) (by decide)
  · unfold cnV at h; rw [if_neg c0, if_neg c1, if_neg c2, if_neg c3, if_neg c4, if_neg c5, if_pos c] at h; rw [s1.f20.1, nI_clamp (by decide)] at e
    cases hg : qg p with
    | none => rw [hS1.g0.1 hg] at e; exact absurd rfl e
    | some g => rw [hg] at h; rw [s1.f4.1, nI_clamp (by decide), (hS1.g0.2 g hg).2.2.1.1]; exact h
  · unfold cnV at h; rw [if_neg c0, if_neg c1, if_neg c2, if_neg c3, if_neg c4, if_neg c5, if_neg c6, if_pos c] at h; rw [hS1.1.2.2.2.1]; exact h
  · unfold cnV at h; rw [if_neg c0, if_neg c1, if_neg c2, if_neg c3, if_neg c4, if_neg c5, if_neg c6, if_neg c7, if_pos c] at h; rw [hS1.1.1.2]; exact h
  · unfold cnV at h; rw [if_neg c0, if_neg c1, if_neg c2, if_neg c3, if_neg c4, if_neg c5, if_neg c6, if_neg c7, if_neg c8, if_pos c] at h; rw [i.2.1.2.1]; exact h
  · unfold cnV at h; rw [if_neg c0, if_neg c1, if_neg c2, if_neg c3, if_neg c4, if_neg c5, if_neg c6, if_neg c7, if_neg c8, if_neg c9, if_pos c] at h; rw [i.2.1.2.2]; exact h
  · unfold cnV at h; rw [if_neg c0, if_neg c1, if_neg c2, if_neg c3, if_neg c4, if_neg c5, if_neg c6, if_neg c7, if_neg c8, if_neg c9, if_neg c10] at h; exact h
theorem w_X12_row {x : Int32} (hd : 2 < d) (hS : MoS Mz M m X A st sp p R) (h1 : ∀ M' k, k < R.length → x = nI k → MoS Mz M' m X A st sp p R → mI M' m 0 = nI 0 → Q (some (.long (R.getD k 0))) M') (h2 : ∀ M', (¬ ∃ k, k < R.length ∧ x = nI k) → MoS Mz M' m X A st sp p R → mI M' m 0 = nI 1 → Q (some (.long (lN 0))) M') : ClD d mdX12_row [.ref m, .int x] M Q := by
  have s0 := hS.sh.1
  have t1 := hS.1.2.2.2.1
  have hl := hS.1.2.2.2.2.1
  have one : ¬ (nI 1 : Int32) = 0 := by decide
  refine ⟨2, hd, Cl.of moX12_row (Nat.le_of_ble_eq_true rfl) (gX12_row_0 s0.1 ?_)⟩
  rw [t1]
  have hf : ∀ v : Int32, MoS Mz (sI M m 0 v) m X A st sp p R := fun v => hS.f (by decide)
  refine w_inM (by decide) (by omega) (fun k hk ek => gX12_row_14 (fun _ => gX12_row_22 (w_X12_flag (by decide) (fun _ => ?_) (fun c => absurd rfl c))) (fun c => absurd c one)) (fun hn => gX12_row_14 (fun c => absurd rfl c) (fun _ => gX12_row_22 (w_X12_flag (by decide) (fun c => absurd c one) (fun _ => ?_))))
  · refine gX12_row_25 s0.1 s0.1 (by rw [(hf _).sh.1.f2.1]; exact s0.f2.2.1) (fun _ => ?_) (fun _ => ⟨⟨_, rfl⟩, ?_⟩) (fun c => absurd c (by rw [rI_at]; decide))
    · rw [(hf _).sh.1.f2.1, (hf _).sh.1.f2.2.2, ek]; exact z_in (by omega) (by decide)
    · rw [(hf _).sh.1.f2.1, ek, nI_clamp (by omega), rJ_I, hS.1.2.2.2.2.2 k hk]
      exact h1 _ k hk ek (hf _) (rI_at _ _ _ _)
  · refine gX12_row_25 s0.1 s0.1 (by rw [(hf _).sh.1.f2.1]; exact s0.f2.2.1) (fun c => absurd (by rw [rI_at]) c) (fun c => absurd (by rw [rI_at]) c) (fun _ => ⟨⟨_, rfl⟩, h2 _ hn (hf _) (rI_at _ _ _ _)⟩)
theorem w_X12_thrown (hd : 1 < d) (hk : mK M m = 14) (h : Q (some (.int (mI M m 0))) M) : ClD d mdX12_thrown [.ref m] M Q :=
  ⟨1, hd, Cl.of moX12_thrown (Nat.le_of_ble_eq_true rfl) (gX12_thrown_0 hk ⟨⟨_, rfl⟩, h⟩)⟩
end MCo
