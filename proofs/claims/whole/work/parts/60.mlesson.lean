/-! the reference: a lesson -/
/-- pupil u of the reference -/
def MoP (M : Mem) (m u : Nat) (A : PM) (st sp : Nat) (p : PS) : Prop := ∃ s, eqS s (qs p) ∧ MoT M m u A st sp s (qH p) (qT p) ∧ (mI M (m + 5) u = nI (qm p) ∧ mI M (m + 14) u = nI (ql p)) ∧ MoG M m u (qg p) ∧ (qm p = 3 → MoK M m u (qT p) (qK p))
section MLn
variable {d m u st sp N : Nat} {Q : Option Value → Mem → Prop} {M M' : Mem} {A : PM} {g : GU} {p : PS}
theorem w_X12_lesson {w : List Nat} (hd : 6 < d) (hP : MoP M m u A st sp p) (hI : PI A N p) (hN : N ≤ 4600) (hgp : qg p = some g) (hw : vw (pl A) w) (hwl : w.length ≤ 14) (hwr : an g.2 0 w ≠ an A 0 w)
    (h : ∀ M', Fu m u M M' → MoP M' m u A st sp (lesF A st sp p g w).2 → Q (some (.int (nI (lesF A st sp p g w).1))) M') : ClD d mdX12_lesson [.ref m, .int (nI u), .long (lN (cd w))] M Q := by
  obtain ⟨s, es, hi, ⟨i5, i14⟩, hg, hK⟩ := hP
  rw [hgp] at hg
  have hA := hi.ok
  have l3 := hA.2.1.2
  have a8 := hA.1.2
  have a2 := hi.1.2
  have hw4 := vw_mono hw (show pl A ≤ 4 by omega)
  have hgu := hI.gu hA hgp
  obtain ⟨L1, -, ⟨-, -⟩, hw1, L5, L6, L7⟩ := hI.les (st := st) (sp := sp) hA hgp hw hwl hwr
  have hlens := hI.lens hA
  have hnn := hI.n hA
  have l7 := ql7 hA hI
  have hsl : s.1.length = (qs p).1.length := es.len
  have h3 := hI.2.2.1
  have vu : vp_in (nI u) 2 := z_in a2 (by omega)
  have n6 := hi.n.1.1
  have n7 := hi.n.1.2
  have END : ∀ M1 s1 t H1 T1 K1, Fu m u M M1 → MoT M1 m u A st sp s1 H1 T1 → (mI M1 (m + 5) u = nI (qm p) ∧ mI M1 (m + 14) u = nI (ql p + 1)) → lesF A st sp p g w = (H1.length + T1.length - ((qH p).length + (qT p).length), qm p, t, ql p + 1, H1, T1, K1, none) → eqS s1 t → (qm p = 3 → MoK M1 m u T1 K1) → (qH p).length + (qT p).length ≤ H1.length + T1.length → Wp 6 mdX12_lesson 195 [(0, .ref m), (1, .int (nI u)), (4, .int (nI ((qH p).length + (qT p).length)))] [] M1 (fun r M' => ROK mdX12_lesson r ∧ Q r M') := by
    intro M1 s1 t H1 T1 K1 F I j el e1 hK1 hle
    have f20 := I.sh.f20
    have f11 := I.sh.f11
    have f12 := I.sh.f12
    refine gX12_lesson_195 I.sh.1 (by rw [f20.1]; exact f20.2.1) (by simp only [eRI, eKI]; rw [f11.1]; exact f11.2.1) (by simp only [eRI, eKI]; rw [f12.1]; exact f12.2.1) (by rw [f20.1, f20.2.2]; exact vu) (by simp only [eRI, eNI]; rw [f11.1, f11.2.2]; exact vu) (by simp only [eRI, eNI]; rw [f12.1, f12.2.2]; exact vu) ⟨⟨_, rfl⟩, ?_⟩
    simp only [eRI]
    rw [f20.1, f11.1, f12.1, nI_clamp (by omega), rI_np (by omega), rI_np (by omega), I.n.1.1, I.n.1.2, nI_add, z_sub hle]
    have F2 : Fu m u M1 (sI M1 (m + 15) u (nI 0)) := Fu.I M1 (p := 15) (by decide) (by decide) rfl
    have S2 : Sm [m + 15] M1 (sI M1 (m + 15) u (nI 0)) := Sm.sI (by simp) _ _ _
    rw [el] at h
    refine h _ (F.tr F2) ⟨s1, e1, ?_, ⟨?_, ?_⟩, rI_at _ _ _ _, fun c => (hK1 c).sm S2 (by simp)⟩
    · exact I.fu F2 (I.2.2.2.2.1.sm S2 (by simp) (by simp) (by simp)) ⟨by rw [S2.I (by simp)], by rw [S2.I (by simp)]⟩ ⟨S2.J (by simp), S2.I (by simp), S2.J (by simp)⟩
    · rw [S2.I (by simp)]; exact j.1
    · rw [S2.I (by simp)]; exact j.2
  have f11 := hi.sh.f11
  have f12 := hi.sh.f12
  refine ⟨6, hd, Cl.of moX12_lesson (Nat.le_of_ble_eq_true rfl) (gX12_lesson_0 hi.sh.1 (by rw [f11.1]; exact f11.2.1) (by rw [f12.1]; exact f12.2.1) (by rw [f11.1, f11.2.2]; exact vu) (by rw [f12.1, f12.2.2]; exact vu) ?_)⟩
  rw [f11.1, f12.1, nI_clamp (by omega), n6, n7, nI_add]
  refine hi.ask (by decide) (by omega) hw (by omega) (fun M1 S1 F1 I1 => gX12_lesson_21 (w_X12_lengthOf (by decide) hw4 (by omega) ?_))
  have f19 := I1.sh.f19
  have f10 := I1.sh.f10
  have es1 : eqS (aS st sp s w) (aS st sp (qs p) w) := es.a
  obtain ⟨M2, hM2⟩ : ∃ M2, M2 = sI M1 (m + 14) u (nI (ql p + 1)) := ⟨_, rfl⟩
  have F2 : Fu m u M1 M2 := by rw [hM2]; exact Fu.I M1 (p := 14) (by decide) (by decide) rfl
  have S2 : Sm [m + 14] M1 M2 := by rw [hM2]; exact Sm.sI (by simp) _ _ _
  have I2 : MoT M2 m u A st sp (aS st sp s w) (qH p) (qT p) := I1.fu F2 (I1.2.2.2.2.1.sm S2 (by simp) (by simp) (by simp)) ⟨by rw [S2.I (by simp)], by rw [S2.I (by simp)]⟩ ⟨S2.J (by simp), S2.I (by simp), S2.J (by simp)⟩
  have j5 : mI M2 (m + 5) u = nI (qm p) := by rw [S2.I (by simp), S1.I (by simp)]; exact i5
  have j14 : mI M2 (m + 14) u = nI (ql p + 1) := by rw [hM2]; exact rI_at _ _ _ _
  have hg2 : MoG M2 m u (some g) := by
    have hg1 := hg.fu F1 (S1.mono (by simp <;> omega))
    obtain ⟨g1, g2, g3, g4, g5⟩ := hg1
    exact ⟨by rw [S2.I (by simp)]; exact g1, fun j hj => by rw [S2.J (by simp)]; exact g2 j hj, g3.sm S2 (by simp) (by simp) (by simp), g4, g5⟩
  have hK2 : qm p = 3 → MoK M2 m u (qT p) (qK p) := fun c => ((hK c).sm S1 (by simp)).sm S2 (by simp)
  have FF : Fu m u M M2 := F1.tr F2
  have hql : mI M1 (m + 14) u = nI (ql p) := by rw [S1.I (by simp)]; exact i14
  have hj : ∀ {M3 : Mem}, Sm (leS m) M2 M3 → mI M3 (m + 5) u = nI (qm p) ∧ mI M3 (m + 14) u = nI (ql p + 1) := fun S => ⟨by rw [S.I (by simp [leS])]; exact j5, by rw [S.I (by simp [leS])]; exact j14⟩
  have hits : an A 0 w < 4 := an_lt hA hw
  have hsl1 := aS_len st sp s w
  refine gX12_lesson_27 I1.sh.1 (by rw [f19.1]; exact f19.2.1) (by simp only [eRI, eKI]; rw [f10.1]; exact f10.2.1) (by rw [f19.1, f19.2.2]; exact vu) (by simp only [eRI, eNI]; rw [f10.1, f10.2.2]; exact vu) (fun _ => by simp only [eRI, eNI]; rw [f10.1, f10.2.2]; exact vu) ?_ ?_ ?_ <;> simp only [eRI] <;> rw [f19.1, f10.1, nI_clamp (by omega), hql, nI_add, ← hM2, j5]
  · intro c0 c1
    rw [nI_eq (by omega) (by decide)] at c1
    have c0 : qm p ≠ 0 := fun q => c0 (by rw [q]; rfl)
    have hpa := pA_fin (st := st) (sp := sp) (A := A) (g := g) (w := w) (its := an A 0 w) (f := 15) (lo := 0) (hi := w.length) (s := aS st sp (qs p) w) (by omega) (by omega) (by
      show an A 0 (g.1.getD 0 [] ++ w) = _
      rw [hgu.2.2.2.2.2]; rfl) (by
      rw [List.take_length, List.drop_length, List.append_nil]
      intro e
      apply hwr
      have := hgu.2.2.2.2.1 _ (rn_lt hgu.1 hgu.1.1.1 (w := w) (by rw [hgu.2.1]; exact hw))
      exact this.trans e)
    obtain ⟨k, k1, k2, k3, k4, k5⟩ := hpa
    have hpq := pA_eq (st := st) (sp := sp) (A := A) (g := g) (w := w) (its := an A 0 w) (f := 15) (lo := 0) (hi := w.length) es1
    have hpn := pA_n (st := st) (sp := sp) (A := A) (g := g) (w := w) (its := an A 0 w) (f := 15) (lo := 0) (hi := w.length) (s := aS st sp s w)
    refine w_X12_lowOf (by decide) I2 hg2 hgu.2.1 (fun v hv => ?_) hw (by omega) hw1 hits (by omega) (fun M3 S3 F3 I3 => ?_)
    · have := hI.1.2.1.1 v (hgu.2.2.2.1 v hv)
      exact ⟨this, by have := hlens.2.2.2.2.2 c0 v (hgu.2.2.2.1 v hv); omega⟩
    · rw [hpq.1, k1]
      obtain ⟨P, hPe⟩ : ∃ P, P = (pA st sp A g w (an A 0 w) 15 0 w.length (aS st sp s w)).2.2 := ⟨_, rfl⟩
      obtain ⟨P2, hPe2⟩ : ∃ P2, P2 = (pA st sp A g w (an A 0 w) 15 0 w.length (aS st sp (qs p) w)).2.2 := ⟨_, rfl⟩
      have eP : eqS P P2 := by rw [hPe, hPe2]; exact hpq.2.2
      rw [← hPe] at I3 hpn
      have hg3 := hg2.fu F3 (S3.mono (by simp <;> omega))
      have f10 := I3.sh.f10
      refine gX12_lesson_153 ?_
      rw [nI_add]
      refine w_X12_behind (by decide) hw4 (by omega) k3 ?_
      have hvd : vw (pl A) (w.drop (k + 1)) := vw_drop hw _
      have hld : (w.drop (k + 1)).length ≤ 13 := by rw [List.length_drop]; omega
      refine gX12_lesson_163 I3.sh.1 (by rw [f10.1]; exact f10.2.1) (by rw [f10.1, f10.2.2]; exact vu) (fun c => ?_) (fun c => ?_) <;> rw [f10.1, nI_clamp (by omega), (S3.I (by simp)).trans rfl, j5, nI_eq (by omega) (by decide)] at c
      · have c3 : qm p = 3 := by omega
        have hR := hI.2.2.2.2 c3
        obtain ⟨r1, -, -, ⟨-, r7, -, r8⟩, r9⟩ := hR
        obtain ⟨eg, -⟩ := r9 g hgp
        have egH : g.1 = qH p := by rw [eg]
        have ha : rn (pt g.2) 0 (w.take (k + 1)) < (qH p).length := by
          have := rn_lt hgu.1 hgu.1.1.1 (w := w.take (k + 1)) (by rw [hgu.2.1]; exact vw_take hw _)
          rw [← hgu.2.2.1, egH] at this
          exact this
        have he : lesF A st sp p g w = (2, qm p, aS st sp (aS st sp P2 ((qH p).getD (rn (pt g.2) 0 (w.take (k + 1))) [] ++ w.drop (k + 1))) (nLf g w (k + 1) ++ w.drop (k + 1)), ql p + 1, qH p ++ [nLf g w (k + 1)], qT p ++ [w.drop (k + 1)], lesK A (qH p) (qT p) (qK p) (rn (pt g.2) 0 (w.take (k + 1))) (w.drop (k + 1)) (nLf g w (k + 1)), none) := by
          unfold lesF; rw [if_pos c3]; unfold lesR; dsimp only
          rw [k2, ← hPe2]
        have hH8 : (qH p).length < 8 := by
          have := (L1.2.2.2.2 (by rw [he]; exact c3)).2.2.2.1.2.2.1
          rw [he] at this
          have : (qH p ++ [nLf g w (k + 1)]).length ≤ pn A := this
          rw [List.length_append, List.length_singleton] at this
          omega
        refine w_X12_givesWay (by decide) I3 hg3 egH hgu.2.1 ((hK2 c3).sm S3 (by simp)) r1 r8 (L5 c3) hH8 rfl (r7 _ ha) hw hwl k3 (fun v hv => by have := hlens.2.2.2.2.2 c0 v hv; omega) (by omega) (fun M4 S4 F4 I4 K4 => ?_)
        refine END M4 _ _ _ _ _ ((FF.tr F3).tr F4) I4 (hj ((S3.mono (by simp [leS])).tr S4)) ?_ (eP.a.a) (fun _ => K4) ?_
        · rw [he]; congr 1
          rw [List.length_append, List.length_singleton, List.length_append, List.length_singleton]; omega
        · rw [List.length_append, List.length_singleton, List.length_append, List.length_singleton]; omega
      · have c3 : qm p ≠ 3 := by omega
        have he : lesF A st sp p g w = (1, qm p, P2, ql p + 1, qH p, qT p ++ [w.drop (k + 1)], qK p, none) := by
          unfold lesF; rw [if_neg c3]; unfold lesT
          rw [if_neg c0, if_neg c1, k2, ← hPe2]
        refine w_X12_tailComes (by decide) I3 (by have := hlens.2.2.2.1.2; omega) ⟨hvd, by omega⟩ (fun M4 S4 F4 I4 _ => gX12_lesson_182 ?_)
        refine END M4 _ P2 _ _ (qK p) ((FF.tr F3).tr F4) I4 (hj ((S3.mono (by simp [leS])).tr (S4.mono (by simp [leS])))) ?_ eP (fun c => absurd c c3) ?_
        · rw [he]; congr 1
          rw [List.length_append, List.length_singleton]; omega
        · rw [List.length_append, List.length_singleton]; omega
  · intro c0 c1
    rw [nI_eq (by omega) (by decide)] at c1
    have c3 : qm p ≠ 3 := by omega
    have he : lesF A st sp p g w = ((nE (qT p) w (w.length + 1)).length - (qT p).length, qm p, aS st sp (qs p) w, ql p + 1, qH p, nE (qT p) w (w.length + 1), qK p, none) := by
      unfold lesF; rw [if_neg c3]; unfold lesT
      rw [if_neg (by omega), if_pos c1]
    have hcap := L7 c1
    obtain ⟨D, hD⟩ := nE_pre (qT p) w (w.length + 1)
    suffices G : ∀ n, n ≤ w.length + 1 → ∀ M3, Sm [m + 7, m + 10, m + 17] M2 M3 → Fu m u M2 M3 → MoT M3 m u A st sp (aS st sp s w) (qH p) (nE (qT p) w n) → Wp 6 mdX12_lesson 106 [(0, .ref m), (1, .int (nI u)), (2, .long (lN (cd w))), (4, .int (nI ((qH p).length + (qT p).length))), (7, .int (nI (w.length + 1 - n) - nI 1))] [] M3 (fun r M' => ROK mdX12_lesson r ∧ Q r M') by
      have g := G 0 (Nat.zero_le _) M2 (Sm.rf _ _) (Fu.rf _ _ _) I2
      rw [Nat.sub_zero, z_sub (by omega), Nat.add_sub_cancel] at g
      exact g
    refine upto (w.length + 1) _ (fun n hn ih M3 S3 F3 I3 => ?_)
    by_cases en : n = w.length + 1
    · subst en
      rw [Nat.sub_self]
      refine gX12_lesson_106 (fun _ => ?_) (fun c => absurd (by decide) c)
      refine END M3 _ _ _ _ (qK p) (FF.tr F3) I3 (hj (S3.mono (by simp [leS]))) ?_ es1 (fun c => absurd c c3) ?_
      · rw [he]; congr 1; omega
      · rw [hD, List.length_append]; omega
    · have hnw : n ≤ w.length := by omega
      rw [z_sub (by omega), show w.length + 1 - n - 1 = w.length - n by omega]
      have ht : vw 4 (w.drop (w.length - n)) := vw_drop hw4 _
      have htl : (w.drop (w.length - n)).length ≤ 30 := by rw [List.length_drop]; omega
      have eS : nI (w.length - n) + (-1 : Int32) = nI (w.length + 1 - (n + 1)) - nI 1 := by
        rw [Int32.sub_eq_add_neg, show w.length + 1 - (n + 1) = w.length - n by omega]; rfl
      refine gX12_lesson_106 (fun c => absurd c (nI_pos (by omega))) (fun _ => ?_)
      refine w_X12_behind (by decide) hw4 (by omega) (by omega) (gX12_lesson_119 I3.sh.1 ?_)
      refine w_X12_isTail (by decide) I3 ht htl (fun hin => gX12_lesson_122 (fun _ => gX12_lesson_136 ?_) (fun c => absurd c (by decide))) (fun hin => gX12_lesson_122 (fun c => absurd rfl c) (fun _ => ?_))
      · rw [eS]
        refine ih (by omega) M3 S3 F3 ?_
        rw [show nE (qT p) w (n + 1) = nE (qT p) w n from if_pos hin]; exact I3
      · have e3 : nE (qT p) w (n + 1) = nE (qT p) w n ++ [w.drop (w.length - n)] := if_neg hin
        have hlt : (nE (qT p) w n).length < 128 := by
          have := nE_mono (qT p) w (show n + 1 ≤ w.length + 1 by omega)
          rw [e3, List.length_append, List.length_singleton] at this
          omega
        refine w_X12_behind (by decide) hw4 (by omega) (by omega) (gX12_lesson_133 I3.sh.1 ?_)
        refine w_X12_tailComes (by decide) I3 hlt ⟨vw_drop hw _, htl⟩ (fun M4 S4 F4 I4 _ => gX12_lesson_136 ?_)
        rw [eS]
        refine ih (by omega) M4 (S3.tr S4) (F3.tr F4) ?_
        rw [e3]; exact I4
  · intro c0
    have c0 : qm p = 0 := by
      have c0 : nI (qm p) = nI 0 := c0
      rw [nI_eq (by omega) (by decide)] at c0
      exact c0
    have c3 : qm p ≠ 3 := by omega
    have he : lesF A st sp p g w = ((nB (qH p) w (w.length + 1)).length - (qH p).length, qm p, aS st sp (qs p) w, ql p + 1, nB (qH p) w (w.length + 1), qT p, qK p, none) := by
      unfold lesF; rw [if_neg c3]; unfold lesT
      rw [if_pos c0]
    have hcap := L6 c0
    obtain ⟨D, hD⟩ := nB_pre (qH p) w (w.length + 1)
    refine upto (w.length + 1) (fun n => ∀ M3, Sm [m + 6, m + 8, m + 9] M2 M3 → Fu m u M2 M3 → MoT M3 m u A st sp (aS st sp s w) (nB (qH p) w n) (qT p) → Wp 6 mdX12_lesson 51 [(0, .ref m), (1, .int (nI u)), (2, .long (lN (cd w))), (4, .int (nI ((qH p).length + (qT p).length))), (6, .int (nI w.length)), (7, .int (nI n))] [] M3 (fun r M' => ROK mdX12_lesson r ∧ Q r M')) ?_ 0 (Nat.zero_le _) M2 (Sm.rf _ _) (Fu.rf _ _ _) I2
    intro n hn ih M3 S3 F3 I3
    refine gX12_lesson_51 (fun c => ?_) (fun c => ?_) <;> rw [nI_ltI (by omega) (by omega)] at c
    · have en : n = w.length + 1 := by omega
      subst en
      refine END M3 _ _ _ _ (qK p) (FF.tr F3) I3 (hj (S3.mono (by simp [leS]))) ?_ es1 (fun c => absurd c c3) ?_
      · rw [he]; congr 1; omega
      · rw [hD, List.length_append]; omega
    · have hnw : n ≤ w.length := by omega
      have ht : vw 4 (w.take n) := vw_take hw4 _
      have htl : (w.take n).length ≤ 30 := by rw [List.length_take]; omega
      refine w_X12_firstOf (by decide) hw4 (by omega) hnw (gX12_lesson_66 I3.sh.1 ?_)
      refine w_X12_isHead (by decide) I3 ht htl (fun hin => gX12_lesson_69 (fun _ => gX12_lesson_83 ?_) (fun c => absurd c (by decide))) (fun hin => gX12_lesson_69 (fun c => absurd rfl c) (fun _ => ?_))
      · rw [nI_add]
        refine ih (by omega) M3 S3 F3 ?_
        rw [show nB (qH p) w (n + 1) = nB (qH p) w n from if_pos hin]; exact I3
      · have e3 : nB (qH p) w (n + 1) = nB (qH p) w n ++ [w.take n] := if_neg hin
        have hlt : (nB (qH p) w n).length < 128 := by
          have := nB_mono (qH p) w (show n + 1 ≤ w.length + 1 by omega)
          rw [e3, List.length_append, List.length_singleton] at this
          omega
        refine w_X12_firstOf (by decide) hw4 (by omega) hnw (gX12_lesson_80 I3.sh.1 ?_)
        refine w_X12_headComes (by decide) I3 hlt ⟨vw_take hw _, htl⟩ (fun M4 S4 F4 I4 => gX12_lesson_83 ?_)
        rw [nI_add]
        refine ih (by omega) M4 (S3.tr S4) (F3.tr F4) ?_
        rw [e3]; exact I4
end MLn
