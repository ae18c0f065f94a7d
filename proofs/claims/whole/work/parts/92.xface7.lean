/-! the class's face: lines, counts, costs -/
section XFg
variable {z d r b P st sp N : Nat} {Q : Option Value → Mem → Prop} {Mz M M' M1 : Mem} {A A' : PM} {p p' : PS} {X : List Nat} {R : List Int64} {g : GU} {S : List Nat}
theorem TPp.ln (hi : TPp z M b r A st sp p) (F : Sm S M M') (hS : ∀ q, q ∈ S → b + 11 ≤ q ∧ q < b + 16) : TPp z M' b r A st sp p := by
  obtain ⟨h1, s, es, ti, ⟨i5, i6⟩, g, fh, ft, ⟨a1, a2⟩, a3⟩ := hi
  have bz := ti.2.2.2.2.2.1
  have q7 := ti.2.1.2.2.2.2.2.2.1
  have n : ∀ q, q < b + 11 → q ∉ S := fun q a hm => by have := hS q hm; omega
  exact ⟨h1, s, es, ti.fm F.fm (fun q hq => by have := hS q hq; omega), ⟨by rw [F.I (n _ (by omega))]; exact i5, by rw [F.I (n _ (by omega))]; exact i6⟩, g.fm F.fm (by omega) (n _ (by omega)) (n _ (by omega)) (n _ (by omega)) (n _ (by omega)) (n _ (by omega)), fh, ft, ⟨by rw [F.I (n _ (by omega))]; exact a1, by rw [F.I (n _ (by omega))]; exact a2⟩, a3⟩
theorem w_X11_lines (hd : 5 < d) (hS : CX Mz M X A st sp p R) (hI : PI A N p) (h1 : ∀ M', CX Mz M' X A st sp p R → (qm p = 3 → Q (some (.int (-2 : Int32))) M') ∧ (qm p ≠ 3 → (¬ ∀ w, w ∈ rwW (pl A) (qH p) (qT p) → w ∈ (qs p).1) → Q (some (.int (-3 : Int32))) M'))
    (h2 : ∀ M', qm p ≠ 3 → (∀ w, w ∈ rwW (pl A) (qH p) (qT p) → w ∈ (qs p).1) → CX Mz M' X A st sp p [(nI (qH p).length - nI (cR (lkH A (qT p) (qH p)) (qH p).length)).toInt64, (nI (cP (opn A (qH p) (qT p)) ((qH p).length * pl A))).toInt64] → Q (some (.int (nI (cR (lkH A (qT p) (qH p)) (qH p).length)))) M') : ClD d mdX11_lines [.ref 2] M Q := by
  have hA := hS.ok
  have h1 := h1 M hS
  have qm3 := hI.2.2.1
  have hlens := hI.lens hA
  obtain ⟨-, -, -, mm, ⟨k6, -⟩, -⟩ := hS.cp.mn
  have e4 : mR M 2 4 = 18 := hS.r.1.2.2.2.2
  have e1 : mR M 18 1 = 22 := hS.cp.1.1.2.2.1
  have tb := hS.cp.1.2.1
  have eM : mI M (mR M 2 4) 4 = nI (qm p) := by rw [e4]; exact mm
  refine ⟨5, hd, Cl.of moX11_lines (Nat.le_of_ble_eq_true rfl) (gX11_lines_0 hS.k (by rw [e4]; exact k6) (by rw [e4, e1]; exact tb.1.1.2) (fun c => ?_) (fun c => ⟨⟨_, rfl⟩, ?_⟩))⟩ <;> rw [eM, nI_eq (by omega) (by decide)] at c
  · rw [e4, e1]
    have tp := hS.cp.2.2.1 c
    obtain ⟨q3, s, es, ti, i56, gg, fh, ft, ⟨a1, a2⟩, ⟨a3, a4⟩, a5⟩ := tp
    have ti' : TI 88 M 22 19 A st sp s (qH p) (qT p) := ti
    refine w_X6_isFull (by decide) ti' a1 a2 a3 a4 a5 hlens.2.2.1 (fun hf => ?_) (fun hf => gX11_lines_26 tb.1.1.2 (fun c => absurd rfl c) (fun _ => ⟨⟨_, rfl⟩, h1.2 c (fun q => hf (fun w hw => (es.2.1 w).mpr (q w hw)))⟩))
    refine gX11_lines_26 tb.1.1.2 (fun _ => ?_) (fun c => absurd c (by decide))
    have hfull : ∀ w, w ∈ rwW (pl A) (qH p) (qT p) → w ∈ (qs p).1 := fun w hw => (es.2.1 w).mp (hf w hw)
    have h2 := fun M' => h2 M' c hfull
    refine w_X6_findLines (by decide) ti' (fun M1 S1 L1 => ?_)
    have sub : ∀ q, q ∈ [22 + 11, 22 + 12, 22 + 13, 22 + 14, 22 + 15] → 33 ≤ q ∧ q < 38 := fun q hq => by simp at hq; omega
    have cp1 : CP 88 M1 18 A st sp p := by
      obtain ⟨c1, ⟨c2, c3⟩, c4, c5, c6⟩ := hS.cp
      have l8 := hS.1.1.2.1.2.2.2
      exact ⟨c1.fm S1.fm (by omega), ⟨by rw [S1.2.1]; exact c2, by rw [S1.I (fun hm => by have := sub _ hm; omega)]; exact c3⟩, fun q => (c4 q).ln S1 (fun q hq => by have := sub q hq; omega), fun q => absurd q c, c6⟩
    have hS1 : CX Mz M1 X A st sp p R := hS.pu S1.fa (fun q hq => by have := sub q hq; omega) cp1 (hS.1.1.2.2.sm S1)
    obtain ⟨-, s1, es1, ti1, -⟩ := hS1.cp.2.2.1 c
    have ti1' : TI 88 M1 22 19 A st sp s1 (qH p) (qT p) := ti1
    refine gX11_lines_36 ti1.1.1.1.2 (w_X6_unlikeLines (by decide) ti1' L1 (gX11_lines_40 hS1.k (w_X11_clearNumbers (by decide) hS1 (fun M2 hS2 S2 => ?_))))
    have l81 := hS1.1.1.2.1.2.2.2
    have L2 : LnsAt M2 22 A (qT p) (qH p) := L1.fm S2.fm (by omega) (by simp) (by simp) (by simp)
    obtain ⟨-, s2, es2, ti2, -⟩ := hS2.cp.2.2.1 c
    have e21 : mR M2 22 1 = 23 := ti2.1.1.2.1.2.1
    refine gX11_lines_45 ti2.1.1.1.2 (by rw [e21]; exact ti2.1.1.2.2.1.1) hS2.k ?_
    have e23 : mI M2 23 0 = nI (qH p).length := ti2.2.2.1.1.1
    rw [e21, e23]
    refine w_X11_put (by decide) hS2 (by decide) (fun M3 hS3 S3 => ?_)
    have l82 := hS2.1.1.2.1.2.2.2
    have L3 : LnsAt M3 22 A (qT p) (qH p) := L2.fm S3.fm (by omega) (by simp) (by simp) (by simp)
    obtain ⟨-, s3, es3, ti3, -⟩ := hS3.cp.2.2.1 c
    have ti3' : TI 88 M3 22 19 A st sp s3 (qH p) (qT p) := ti3
    exact gX11_lines_59 ti3.1.1.1.2 (w_X6_openWords (by decide) ti3' L3 (gX11_lines_64 hS3.k (w_X11_put (by decide) hS3 (by show 1 < 8; decide) (fun M4 hS4 S4 => gX11_lines_68 ⟨⟨_, rfl⟩, h2 M4 hS4⟩))))
  · exact h1.1 c
theorem w_X11_count {x : Int32} (hd : 2 < d) (hS : CX Mz M X A st sp p R) (h : ∀ M', CX Mz M' X A st sp p R → Q (some (.int (cnV X A st sp p R x))) M') : ClD d mdX11_count [.ref 2, .int x] M Q := by
  have h := h M hS
  have m3 := hS.1.m3
  have r := hS.r
  obtain ⟨⟨m1, m2⟩, m6, -, mm, ⟨k6, e0, e3, k4, e1, k12⟩, cn, nt, n0, n1, -, -⟩ := hS.cp.mn
  obtain ⟨s, es, ai⟩ := hS.cp.ai
  have GU := hS.cp.gue.2.1
  have e4 : mR M 2 4 = 18 := r.1.2.2.2.2
  have e44 : mR M (bP 18 p) 4 = bP 18 p + 7 := nt.2.1.2.2.2.2
  have ts := hS.1.1.1.2.2.2.1
  refine ⟨2, hd, Cl.of moX11_count (Nat.le_of_ble_eq_true rfl) (gX11_count_0 hS.k (by rw [e4]; exact k6) (by rw [r.1.1]; exact m3.1.1.1) (by rw [e4, e0]; exact k4) (by rw [e4, e0, e1]; exact k12) n0 (by rw [e4, e3]; exact n1) (by rw [r.1.2.2.1]; exact ts.1) (fun c => ⟨⟨_, rfl⟩, ?_⟩) (fun c0 c => ⟨⟨_, rfl⟩, ?_⟩) (fun c0 c1 c => ⟨⟨_, rfl⟩, ?_⟩) (fun c0 c1 c2 c => ⟨⟨_, rfl⟩, ?_⟩) (fun c0 c1 c2 c3 c => ⟨⟨_, rfl⟩, ?_⟩) (fun c0 c1 c2 c3 c4 c => ⟨⟨_, rfl⟩, ?_⟩) (fun c0 c1 c2 c3 c4 c5 c => ?_) (fun c0 c1 c2 c3 c4 c5 c6 c => ⟨⟨_, rfl⟩, ?_⟩) (fun c0 c1 c2 c3 c4 c5 c6 c7 c => ⟨⟨_, rfl⟩, ?_⟩) (fun c0 c1 c2 c3 c4 c5 c6 c7 c8 c => ⟨⟨_, rfl⟩, ?_⟩) (fun c0 c1 c2 c3 c4 c5 c6 c7 c8 c9 c => ⟨⟨_, rfl⟩, ?_⟩) (fun c0 c1 c2 c3 c4 c5 c6 c7 c8 c9 c10 => ⟨⟨_, rfl⟩, ?_⟩))⟩ <;> unfold cnV at h
  · rw [if_pos c] at h; rw [e4, mm]; exact h
  · rw [if_neg c0, if_pos c] at h; rw [r.1.1, m3.2.1.2]; exact h
  · rw [if_neg c0, if_neg c1, if_pos c] at h; rw [r.1.1, m3.2.1.1]; exact h
  · rw [if_neg c0, if_neg c1, if_neg c2, if_pos c] at h; rw [e4, e0, e1, m1]; exact h
  · rw [if_neg c0, if_neg c1, if_neg c2, if_neg c3, if_pos c] at h; rw [e4, e0, m2]; exact h
  · rw [if_neg c0, if_neg c1, if_neg c2, if_neg c3, if_neg c4, if_pos c] at h; rw [e4, e3, m6]; exact h
  · rw [if_neg c0, if_neg c1, if_neg c2, if_neg c3, if_neg c4, if_neg c5, if_pos c] at h
    rw [e4, e3]
    refine w_X3_hasGuess (by decide) nt GU (fun hg => gX11_count_130 hS.k (by rw [e4]; exact k6) n0 (by rw [e4, e3]; exact n1) (by rw [e4, e3, e44]; exact nt.2.2.2.2.2.1.1) (fun _ => ⟨⟨_, rfl⟩, ?_⟩) (fun c => absurd rfl c)) (fun g hg => gX11_count_130 hS.k (by rw [e4]; exact k6) n0 (by rw [e4, e3]; exact n1) (by rw [e4, e3, e44]; exact nt.2.2.2.2.2.1.1) (fun c => absurd c (by decide)) (fun _ => ⟨⟨_, rfl⟩, ?_⟩)) <;> rw [hg] at h
    · exact h
    · rw [hg] at GU
      rw [e4, e3, e44, GU.1.2.1.1]; exact h
  · rw [if_neg c0, if_neg c1, if_neg c2, if_neg c3, if_neg c4, if_neg c5, if_neg c6, if_pos c] at h; rw [hS.1.2.2.2.2.2.1]; exact h
  · rw [if_neg c0, if_neg c1, if_neg c2, if_neg c3, if_neg c4, if_neg c5, if_neg c6, if_neg c7, if_pos c] at h; rw [r.1.2.2.1, hS.1.2.1.1]; exact h
  · rw [if_neg c0, if_neg c1, if_neg c2, if_neg c3, if_neg c4, if_neg c5, if_neg c6, if_neg c7, if_neg c8, if_pos c] at h; rw [e4, e0, ai.2.1.1.1]; exact h
  · rw [if_neg c0, if_neg c1, if_neg c2, if_neg c3, if_neg c4, if_neg c5, if_neg c6, if_neg c7, if_neg c8, if_neg c9, if_pos c] at h; rw [e4, e0, ai.2.1.1.2.1]; exact h
  · rw [if_neg c0, if_neg c1, if_neg c2, if_neg c3, if_neg c4, if_neg c5, if_neg c6, if_neg c7, if_neg c8, if_neg c9, if_neg c10] at h; exact h
/-- what is learnt in thought -/
theorem w_thought {mm : Nat} {W : Mem → Prop} (hm : mm ≤ 3) (hS : CX Mz M X A st sp p R)
    (h : ∀ M', CX Mz M' X A st sp p R → CP 88 M' 50 A st sp (cstF A st sp mm).2 → mI M' 50 5 = nI (cstF A st sp mm).1 → Q none M') (hd : 7 < d) (hr : ∀ M', CX Mz M' X A st sp p R → PuSh M' 50 → ClD d mdX4_learn [.ref 50] M' Q → W M') : ClD d mdX4_renew [.ref 50, .int (nI mm)] M (fun r1 M1 => r1 = none ∧ W M1) := by
  have hA := hS.ok
  have p50 := hS.1.1.1.2.2.2.2.2
  obtain ⟨s5, ai5⟩ := hS.1.2.2.2.1
  have sl := hS.1.1.2.1
  have n13 : ∀ {M0 M2 : Mem} {L : List Nat}, CX Mz M0 X A st sp p R → Fa 51 L M0 M2 → (∀ q, q ∈ L → 49 < q ∧ q < 82) → SeaSh M2 13 := fun {M0 M2 L} h0 F hL => by
    have l := h0.1.1.2.1
    refine SeaSh.fm F.1 (by have := l.2.2.2; omega) h0.1.1.2.2 (fun hm => ?_)
    have := l.1.2.1
    rcases List.mem_cons.mp hm with e | e
    · omega
    · have := hL _ e; omega
  refine w_X4_renew (P := 50) (by omega) hm p50 ai5 ⟨by decide, by decide⟩ (fun M1 F1 C1 => ⟨rfl, ?_⟩)
  have sea1 := n13 hS F1 (fun q hq => by rw [puS_mem] at hq; omega)
  have hS1 := hS.th F1 (fun q hq => by rw [puS_mem] at hq; omega) (by obtain ⟨s, -, ai⟩ := C1.ai; exact ⟨s, ai⟩) sea1
  refine hr M1 hS1 C1.1 (w_X4_learn (N := 0) (by omega) C1 (PI.new hA hm) (by decide) sea1 (fun M2 F2 C2 s2 sea2 => ?_))
  have hS2 := hS1.th F2 (fun q hq => by rw [puL_mem] at hq; unfold frL; omega) (by obtain ⟨s, -, ai⟩ := C2.ai; exact ⟨s, ai⟩) sea2
  exact h M2 hS2 C2 s2
end XFg
