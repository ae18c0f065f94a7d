/-! the reference: tests, one by one -/
def hQ (c : Nat) : Nat := c * 11400714819323198485 % 2 ^ 64 / 2 ^ 49
theorem hQ_lt (c : Nat) : hQ c < 32768 := by
  have h : c * 11400714819323198485 % 2 ^ 64 < 2 ^ 64 := Nat.mod_lt _ (by decide)
  unfold hQ
  omega
theorem hQ_eq (c : Nat) : (((lN c * (-7046029254386353131 : Int64)).toUInt64 >>> ((nI 49).toInt64.toUInt64 &&& Int64.toUInt64 63)).toInt64).toInt32 = nI (hQ c) := by
  have e : (-7046029254386353131 : Int64) = lN 11400714819323198485 := by decide +kernel
  rw [e, lN_mul, wb_mod, wb_shr (Nat.mod_lt _ (by decide)) (by decide), lN_i]
  rfl
theorem jmax_nI {a b : Nat} (ha : a < 2 ^ 31) (hb : b < 2 ^ 31) : jmax (nI a) (nI b) = nI (max a b) := by
  unfold jmax
  by_cases c : a < b
  · rw [if_pos ((nI_ltI ha hb).mpr c), show max a b = b by omega]
  · rw [if_neg (fun q => c ((nI_ltI ha hb).mp q)), show max a b = a by omega]
/-- tests that were laid: s0 was asked -/
def MoTs (M : Mem) (m : Nat) (A G : PM) (s0 : List (List Nat)) (S : List (List Nat) × Nat) : Prop := ∃ T : Nat → Nat, (∀ c, c < 32768 → mJ M (m + 27) c = lN (T c) ∧ T c < 2 ^ 61) ∧ hinv hQ 32768 T ∧ hset 32768 T (wf S.1) ∧ nzc T 32768 = S.1.length ∧ (mI M m 42 = nI S.1.length ∧ mI M m 43 = nI S.2 ∧ mI M m 44 = nI (mxL S.1) ∧ mI M m 45 = nI (asN s0 S.1)) ∧ (∃ c, mJ M m 46 = lN c ∧ isLW G A S.1 c ∧ c < 2 ^ 61) ∧ okL S.1 ∧ S.1.Nodup
section MTs
variable {d m st sp N : Nat} {Q : Option Value → Mem → Prop} {Mz M M' : Mem} {A G : PM} {p p' : PS} {X : List Nat} {R : List Int64} {g : GU} {s0 : List (List Nat)} {S : List (List Nat) × Nat}
theorem MoTs.cg (h : MoTs M m A G s0 S) (h27 : mJ M' (m + 27) = mJ M (m + 27)) (hf : ∀ j, 42 ≤ j → j ≤ 45 → mI M' m j = mI M m j) (h46 : mJ M' m 46 = mJ M m 46) : MoTs M' m A G s0 S := by
  obtain ⟨T, t1, t2, t3, t4, ⟨t5, t6, t7, t8⟩, t9, t10⟩ := h
  exact ⟨T, fun c hc => by rw [h27]; exact t1 c hc, t2, t3, t4, ⟨by rw [hf 42 (by decide) (by decide)]; exact t5, by rw [hf 43 (by decide) (by decide)]; exact t6, by rw [hf 44 (by decide) (by decide)]; exact t7, by rw [hf 45 (by decide) (by decide)]; exact t8⟩, by rw [h46]; exact t9, t10⟩
theorem MoTs.sm {L : List Nat} (h : MoTs M m A G s0 S) (F : Sm L M M') (h0 : m ∉ L) (h1 : m + 27 ∉ L) : MoTs M' m A G s0 S :=
  h.cg (F.J h1) (fun j _ _ => by rw [F.I h0]) (by rw [F.J h0])
/-- what the laying of tests may change -/
def Ft (m : Nat) (M M' : Mem) : Prop := Sm [m, m + 18, m + 19, m + 20, m + 26, m + 27, m + 28] M M' ∧ ∀ j, j < 38 → mI M' m j = mI M m j
theorem Ft.rf (m : Nat) (M : Mem) : Ft m M M := ⟨Sm.rf _ _, fun _ _ => rfl⟩
theorem Ft.tr {M1 M2 : Mem} (h : Ft m M M1) (k : Ft m M1 M2) : Ft m M M2 := ⟨h.1.tr k.1, fun j hj => (k.2 j hj).trans (h.2 j hj)⟩
theorem Ft.i {j : Nat} {v : Int32} (hj : 38 ≤ j) : Ft m M (sI M m j v) := ⟨Sm.sI (by simp) _ _ _, fun i hi => rI_nk (by omega)⟩
theorem Ft.j {j : Nat} {v : Int64} : Ft m M (sJ M m j v) := ⟨Sm.sJ (by simp) _ _ _, fun i _ => by rw [rI_J]⟩
theorem Ft.s {L : List Nat} (F : Sm L M M') (hL : ∀ q, q ∈ L → q ∈ [m + 18, m + 19, m + 20, m + 26, m + 27, m + 28]) : Ft m M M' := ⟨F.mono (fun q hq => List.mem_cons_of_mem _ (hL q hq)), fun j _ => by rw [F.I (fun q => by have := hL m q; simp at this)]⟩
theorem MoS.ft (h : MoS Mz M m X A st sp p R) (F : Ft m M M') : MoS Mz M' m X A st sp p R := by
  have h0 := h
  obtain ⟨⟨⟨h1, h2⟩, h3, h4, h5, h6, h7⟩, -⟩ := h
  have s := h3.sh.1.sm F.1
  have n : ∀ q, 1 ≤ q → q ≤ 17 ∨ q = 21 → m + q ∉ [m, m + 18, m + 19, m + 20, m + 26, m + 27, m + 28] := fun q a b c => by simp at c; omega
  refine ⟨?_, h0.fr F.1 (fun q hq => by simp at hq; omega)⟩
  exact ⟨⟨h1.sm F.1 (n 21 (by decide) (Or.inr rfl)), by rw [F.2 30 (by decide)]; exact h2⟩, h3.cg s (fun q a b => ⟨F.1.I (n q (by omega) (Or.inl b)), F.1.J (n q (by omega) (Or.inl b))⟩) ⟨F.2 3 (by decide), F.2 8 (by decide), F.2 9 (by decide)⟩, by rw [F.2 7 (by decide)]; exact h4, by rw [F.2 1 (by decide)]; exact h5, h6, fun j hj => by rw [F.1.J (n 1 (by decide) (Or.inl (by decide)))]; exact h7 j hj⟩
theorem w_X12_tests {w : List Nat} (hd : 4 < d) (hS : MoS Mz M m X A st sp p R) (hI : PI A N p) (hN : N ≤ 4600) (hg : qg p = some g) (hT : MoTs M m A g.2 (qs p).1 S) (hn : S.1.length < 32768) (hw : vw (pl A) w) (hl : w.length ≤ 30)
    (h : ∀ M', Sm [m, m + 27] M M' → (∀ j, j < 42 ∨ 45 < j → mI M' m j = mI M m j) → (∀ j, j ≠ 46 → mJ M' m j = mJ M m j) → MoTs M' m A g.2 (qs p).1 (aS 0 1 S w) → Q none M') : ClD d mdX12_tests [.ref m, .long (lN (cd w))] M Q := by
  have hA := hS.sh.2
  have l3 := hA.2.1.2
  have hgu := hI.gu hA hg
  have hs := hS.sh.1
  have f := hs.f41
  have hT0 := hT
  obtain ⟨T, t1, t2, t3, t4, ⟨t5, t6, t7, t8⟩, ⟨lw, t9, t10, t11⟩, t12, t13⟩ := hT
  have hw4 := vw_mono hw (show pl A ≤ 4 by omega)
  have hc := cd30 hw4 hl
  have hc1 := cd_pos w
  have mx30 : mxL S.1 ≤ 30 := mxL_le.mpr (fun v hv => (t12 v hv).2)
  obtain ⟨i0, hst⟩ := stop_ex (h := hQ) (T := T) (len := 32768) (cd w) (by omega)
  refine ⟨4, hd, Cl.of moX12_tests (Nat.le_of_ble_eq_true rfl) (gX12_tests_0 ?_)⟩
  rw [hQ_eq]
  have e0 : nI (hQ (cd w)) = nI (pr hQ 32768 (cd w) 0) := by
    unfold pr; rw [Nat.add_zero, Nat.mod_eq_of_lt (hQ_lt _)]
  rw [e0]
  obtain ⟨q, hq⟩ : ∃ q, q = pr hQ 32768 (cd w) i0 := ⟨_, rfl⟩
  have hql : q < 32768 := by rw [hq]; exact pr_lt (by decide)
  have hin := stop_in t2 t3 (by omega) hst
  rw [wf_in t12 hw4, ← hq] at hin
  have FIN : Wp 4 mdX12_tests 42 [(0, .ref m), (1, .long (lN (cd w))), (3, .int (nI q))] [] M (fun r M' => ROK mdX12_tests r ∧ Q r M') := by
    have g1 := t1 q hql
    have v27 : vp_in (nI q) (mN M (mR M m 41)) := by rw [f.1, f.2.2]; exact z_in hql (by decide)
    have K : mK M (mR M m 41) = 2 := by rw [f.1]; exact f.2.1
    refine gX12_tests_42 hs.1 K v27 (fun _ => v27) (fun c => ?_) (fun c => ⟨rfl, ?_⟩) <;> rw [f.1, nI_clamp (by omega), g1.1, pk_lEQ (by omega) (by omega)] at c
    · have hni : w ∉ S.1 := fun z => c (hin.mp z)
      rw [f.1, nI_clamp (by omega), rI_J, t5, nI_add]
      obtain ⟨M1, hM1⟩ : ∃ M1, M1 = sI (sJ M (m + 27) q (lN (cd w))) m 42 (nI (S.1.length + 1)) := ⟨_, rfl⟩
      rw [← hM1]
      have j27 : mJ M1 (m + 27) = mJ (sJ M (m + 27) q (lN (cd w))) (m + 27) := by rw [hM1, rJ_I]
      have jm : mJ M1 m = mJ M m := by rw [hM1, rJ_I, rJ_np (by omega)]
      have i1 : ∀ j, j ≠ 42 → mI M1 m j = mI M m j := fun j hj => by rw [hM1, rI_nk hj, rI_J]
      have i42 : mI M1 m 42 = nI (S.1.length + 1) := by rw [hM1]; exact rI_at _ _ _ _
      have S1 : Sm [m, m + 27] M M1 := by rw [hM1]; exact (Sm.sJ (by simp) _ _ _).tr (Sm.sI (by simp) _ _ _)
      have F1 : Ft m M M1 := by rw [hM1]; exact (Ft.s (Sm.sJ (S := [m + 27]) (by simp) _ _ _) (by simp)).tr (Ft.i (by decide))
      have hS1 := hS.ft F1
      clear hM1
      refine w_X12_lengthOf (by decide) hw4 hl (gX12_tests_80 hS1.sh.1.1 hS1.sh.1.1 ?_)
      rw [i1 43 (by decide), t6, nI_add]
      obtain ⟨M2, hM2⟩ : ∃ M2, M2 = sI M1 m 43 (nI (S.2 + w.length)) := ⟨_, rfl⟩
      rw [← hM2]
      have hS2 : MoS Mz M2 m X A st sp p R := by rw [hM2]; exact hS1.ft (Ft.i (by decide))
      have i44 : mI M2 m 44 = nI (mxL S.1) := by rw [hM2, rI_nk (by decide), i1 44 (by decide)]; exact t7
      refine w_X12_lengthOf (by decide) hw4 hl (gX12_tests_93 (by decide) hS2.sh.1.1 hS2.sh.1.1 ?_)
      rw [i44, jmax_nI (by omega) (by omega)]
      obtain ⟨M3, hM3⟩ : ∃ M3, M3 = sI M2 m 44 (nI (max (mxL S.1) w.length)) := ⟨_, rfl⟩
      rw [← hM3]
      have hS3 : MoS Mz M3 m X A st sp p R := by rw [hM3]; exact hS2.ft (Ft.i (by decide))
      have i45 : mI M3 m 45 = nI (asN (qs p).1 S.1) := by rw [hM3, rI_nk (by decide), hM2, rI_nk (by decide), i1 45 (by decide)]; exact t8
      obtain ⟨s, es, iT⟩ := hS3.t
      have hsl := hI.n hA
      have AFT : ∀ b : Nat, b = (if w ∈ (qs p).1 then 1 else 0) → Wp 4 mdX12_tests 113 [(0, .ref m), (1, .long (lN (cd w)))] [.int (nI b), .int (mI M3 m 45), .ref m] M3 (fun r M' => ROK mdX12_tests r ∧ Q r M') := fun b hb => by
        refine gX12_tests_113 hS3.sh.1.1 hS3.sh.1.1 ?_
        rw [i45, nI_add, hb, ← asN_snoc]
        obtain ⟨M4, hM4⟩ : ∃ M4, M4 = sI M3 m 45 (nI (asN (qs p).1 (S.1 ++ [w]))) := ⟨_, rfl⟩
        rw [← hM4]
        have hS4 : MoS Mz M4 m X A st sp p R := by rw [hM4]; exact hS3.ft (Ft.i (by decide))
        have jm4 : mJ M4 m = mJ M m := by rw [hM4, rJ_I, hM3, rJ_I, hM2, rJ_I]; exact jm
        have j274 : mJ M4 (m + 27) = mJ M1 (m + 27) := by rw [hM4, rJ_I, hM3, rJ_I, hM2, rJ_I]
        have i4 : ∀ j, j < 42 ∨ 45 < j → mI M4 m j = mI M m j := fun j hj => by rw [hM4, rI_nk (by omega), hM3, rI_nk (by omega), hM2, rI_nk (by omega)]; exact i1 j (by omega)
        have S4 : Sm [m, m + 27] M M4 := by rw [hM4, hM3, hM2]; exact ((S1.tr (Sm.sI (by simp) _ _ _)).tr (Sm.sI (by simp) _ _ _)).tr (Sm.sI (by simp) _ _ _)
        have k42 : mI M4 m 42 = nI (S.1.length + 1) := by rw [hM4, rI_nk (by decide), hM3, rI_nk (by decide), hM2, rI_nk (by decide)]; exact i42
        have k43 : mI M4 m 43 = nI (S.2 + w.length) := by rw [hM4, rI_nk (by decide), hM3, rI_nk (by decide), hM2, rI_at]
        have k44 : mI M4 m 44 = nI (max (mxL S.1) w.length) := by rw [hM4, rI_nk (by decide), hM3, rI_at]
        have k45 : mI M4 m 45 = nI (asN (qs p).1 (S.1 ++ [w])) := by rw [hM4, rI_at]
        have ea : aS 0 1 S w = (S.1 ++ [w], S.2 + (0 + 1 * w.length)) := if_neg hni
        have ok2 := aS_ok (st := 0) (sp := 1) t12 hw4 hl
        rw [ea] at ok2
        have hTz : T (pr hQ 32768 (cd w) i0) = 0 := by
          rcases hst.2.1 with z | z
          · rw [← hq] at z; exact absurd z c
          · exact z
        obtain ⟨n1, n2⟩ := ins_inv t2 t3 (by omega) hst hTz
        have MK : ∀ M5 c2, (mJ M5 (m + 27) = mJ M4 (m + 27)) → mI M5 m = mI M4 m → mJ M5 m 46 = lN c2 → isLW g.2 A (S.1 ++ [w]) c2 → c2 < 2 ^ 61 → MoTs M5 m A g.2 (qs p).1 (aS 0 1 S w) := fun M5 c2 z1 z2 z3 z4 z5 => by
          rw [ea]
          refine ⟨upN T q (cd w), fun c' hc' => ?_, by rw [hq]; exact n1, fun c' => ?_, ?_, ⟨?_, ?_, ?_, ?_⟩, ⟨c2, z3, z4, z5⟩, ok2, nodup_snoc t13 hni⟩
          · rw [z1, j274, j27]
            by_cases zz : c' = q
            · subst zz
              rw [rJ_at]; unfold upN; rw [if_pos rfl]; exact ⟨rfl, hc⟩
            · rw [rJ_nk zz]; unfold upN; rw [if_neg zz]; exact t1 c' hc'
          · rw [wf_add, hq]; exact n2 c'
          · rw [hq, nzc_up hTz (by omega) (by rw [← hq]; exact hql), t4, List.length_append, List.length_singleton]
          · rw [z2, k42, List.length_append, List.length_singleton]
          · rw [z2, k43, Nat.zero_add, Nat.one_mul]
          · rw [z2, k44, mxL_snoc]
          · rw [z2, k45]
        have l0 := hS4.l3
        have G4 := hS4.g0.2 g hg
        have hwg : vw (pl g.2) w := by rw [hgu.2.1]; exact hw
        have o1 := an_lt hA hw
        have o2 := an_lt hgu.1 hwg
        have LW := isLW_snoc (w := w) t10
        have e46 : mJ M4 m 46 = lN lw := by rw [jm4]; exact t9
        refine w_X12_answer (by decide) hS4.sh.1 (by decide) l0.2 hA hw hl (gX12_tests_123 hS4.sh.1.1 (w_X12_answer (by decide) hS4.sh.1 (by decide) G4.2.2.1 hgu.1 hwg hl ?_))
        have STAY : ¬ (an g.2 0 w ≠ an A 0 w ∧ (lw = 0 ∨ cd w < lw)) → ROK mdX12_tests none ∧ Q none M4 := fun z => by
          rw [if_neg z] at LW
          exact ⟨rfl, h M4 S4 i4 (fun j _ => by rw [jm4]) (MK M4 lw rfl rfl e46 LW t11)⟩
        have GO : (an g.2 0 w ≠ an A 0 w ∧ (lw = 0 ∨ cd w < lw)) → Wp 4 mdX12_tests 150 [(0, .ref m), (1, .long (lN (cd w)))] [] M4 (fun r M' => ROK mdX12_tests r ∧ Q r M') := fun z => by
          rw [if_pos z] at LW
          refine gX12_tests_150 hS4.sh.1.1 ⟨rfl, h _ (S4.tr (Sm.sJ (by simp) _ _ _)) (fun j hj => by rw [rI_J]; exact i4 j hj) (fun j hj => by rw [rJ_nk hj, jm4]) (MK _ (cd w) (by rw [rJ_np (by omega)]) (by rw [rI_J]) (rJ_at _ _ _ _) LW hc)⟩
        refine gX12_tests_129 hS4.sh.1.1 (fun z => STAY ?_) (fun z z2 => GO ?_) (fun z z2 z3 => STAY ?_) (fun z z2 z3 => GO ?_) <;> rw [nI_eq (by omega) (by omega)] at z
        · exact fun y => y.1 z.symm
        · rw [e46, pk_lEQ (by omega) (by decide)] at z2
          exact ⟨fun y => z y.symm, Or.inl z2⟩
        · rw [e46, pk_lEQ (by omega) (by decide)] at z2
          rw [e46, pk_lLE (by omega) (by omega)] at z3
          rintro ⟨-, y | y⟩
          · exact z2 y
          · omega
        · rw [e46, pk_lLE (by omega) (by omega)] at z3
          exact ⟨fun y => z y.symm, Or.inr (by omega)⟩
      refine w_X12_wasAsked (by decide) hS3.sh.1 (by decide) iT.2.2.2.2.1 (by rw [es.len]; omega) hw4 hl (fun z => gX12_tests_110 (w_X12_flag (by decide) (fun c9 => absurd c9 (by decide)) (fun _ => AFT 1 ?_))) (fun z => gX12_tests_110 (w_X12_flag (by decide) (fun _ => AFT 0 ?_) (fun c9 => absurd rfl c9)))
      · rw [if_pos ((es.2.1 w).mp z)]
      · rw [if_neg (fun y => z ((es.2.1 w).mpr y))]
    · have hw0 : w ∈ S.1 := hin.mpr c
      refine h M (Sm.rf _ _) (fun _ _ => rfl) (fun _ _ => rfl) ?_
      rw [aS_in hw0]; exact hT0
  refine upto i0 (fun i => Wp 4 mdX12_tests 10 [(0, .ref m), (1, .long (lN (cd w))), (3, .int (nI (pr hQ 32768 (cd w) i)))] [] M (fun r M' => ROK mdX12_tests r ∧ Q r M')) ?_ 0 (Nat.zero_le _)
  intro i hi ih
  have hp : pr hQ 32768 (cd w) i < 32768 := pr_lt (by decide)
  obtain ⟨g1, g2⟩ := t1 _ hp
  have hinp : vp_in (nI (pr hQ 32768 (cd w) i)) (mN M (mR M m 41)) := by rw [f.1, f.2.2]; exact z_in hp (by decide)
  have hrd : mJ M (mR M m 41) (nI (pr hQ 32768 (cd w) i)).toNatClampNeg = lN (T (pr hQ 32768 (cd w) i)) := by rw [f.1, nI_clamp (by omega)]; exact g1
  have fin : (T (pr hQ 32768 (cd w) i) = cd w ∨ T (pr hQ 32768 (cd w) i) = 0) → pr hQ 32768 (cd w) i = q := fun hor => by
    have ei : i = i0 := by
      rcases Nat.lt_trichotomy i i0 with z | z | z
      · have := hst.2.2 i z; omega
      · exact z
      · omega
    rw [ei, hq]
  refine gX12_tests_10 hs.1 (by rw [f.1]; exact f.2.1) hinp (fun c1 => ?_) (fun _ => hinp) (fun _ c1 => ?_) (fun c1 c2 => ?_)
  · rw [hrd, pk_lEQ (by omega) (by decide)] at c1
    rw [fin (Or.inr c1)]; exact FIN
  · rw [hrd, pk_lEQ (by omega) (by omega)] at c1
    rw [fin (Or.inl c1)]; exact FIN
  · rw [hrd, pk_lEQ (by omega) (by decide)] at c1
    rw [hrd, pk_lEQ (by omega) (by omega)] at c2
    have hlt : i < i0 := by
      refine Nat.lt_of_le_of_ne hi (fun e => ?_)
      subst e
      rcases hst.2.1 with z | z
      · exact c2 z
      · exact c1 z
    rw [nI_add, pk_rem (by omega) (by decide) (by decide)]
    have e : (pr hQ 32768 (cd w) i + 1) % 32768 = pr hQ 32768 (cd w) (i + 1) := by
      unfold pr; omega
    rw [e]; exact ih hlt
end MTs
