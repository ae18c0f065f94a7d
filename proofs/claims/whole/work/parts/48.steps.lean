/-! the pupil: steps and lessons keep its invariant -/
theorem swN_mem {A : PM} {H T : List (List Nat)} {K : Nat → Nat} {v : List Nat} : ∀ {n}, v ∈ swN A H T K n ↔ ∃ i, i < n ∧ v ∈ sw A T K (hx A H i) 8 0
  | 0 => ⟨fun h => by simp [swN] at h, fun ⟨i, h, _⟩ => by omega⟩
  | n + 1 => by
    show v ∈ swN A H T K n ++ sw A T K (hx A H n) 8 0 ↔ _
    rw [List.mem_append, swN_mem]
    constructor
    · rintro (⟨i, h1, h2⟩ | h)
      · exact ⟨i, by omega, h2⟩
      · exact ⟨n, by omega, h⟩
    · rintro ⟨i, h1, h2⟩
      by_cases e : i = n
      · subst e; exact Or.inr h2
      · exact Or.inl ⟨i, by omega, h2⟩
theorem sw_self {A : PM} {T D : List (List Nat)} {K : Nat → Nat} {w : List Nat} (h : T = [] :: D) : w ∈ sw A T K w 8 0 := by
  show w ∈ (w ++ T.getD 0 []) :: _
  rw [h]
  show w ∈ (w ++ []) :: _
  rw [List.append_nil]; exact List.mem_cons_self
theorem sw_row {A : PM} {H T : List (List Nat)} {K : Nat → Nat} {i : Nat} {v : List Nat} (hW : TW H T K) (hi : i < H.length * pl A) (h : v ∈ sw A T K (hx A H i) 8 0) : v ∈ rwW (pl A) H T := by
  obtain ⟨e, e1, e2⟩ := sw_mem hW.kn hW.1.1 h
  obtain ⟨q1, q2, -⟩ := ix_sp hi
  exact rwW_mem.mpr ⟨_, getD_mem q1, e, e1, Or.inr ⟨i % pl A, q2, e2⟩⟩
theorem PI.sT {A : PM} {N st sp : Nat} {p : PS} (hA : okM A) (h : PI A N p) (hm : qm p ≠ 3) (hg : qg p = none) : PI A N (stepT A st sp p).2 ∧ mu A (stepT A st sp p).2 < mu A p ∧ (qm (stepT A st sp p).2 = qm p ∧ ((stepT A st sp p).1 = 0 → (qg (stepT A st sp p).2).isSome) ∧ ((stepT A st sp p).1 = 1 → ∃ w, qH (stepT A st sp p).2 = qH p ++ [w]) ∧ ((stepT A st sp p).1 = 2 → ∃ w, qT (stepT A st sp p).2 = qT p ++ [w]) ∧ (stepT A st sp p).1 ≤ 2) := by
  have hC8 := qC8 hA h
  have h00 := h
  obtain ⟨⟨⟨⟨D, d1⟩, E, d2⟩, ⟨vh, vt⟩, nd⟩, ⟨X, x1, x2⟩, h3, hT, hR⟩ := h
  obtain ⟨t0, t1, t2, t3⟩ := hT hm
  have nd' := aSs_nodup (st := st) (sp := sp) (L := rwW (pl A) (qH p) (qT p)) nd
  have hC : qC A p = qc A (qH p) (qT p) := if_neg hm
  have has : ∀ H' T', (∀ w, w ∈ qH p → w ∈ H') → (∀ w, w ∈ qT p → w ∈ T') → ∃ X : List (List Nat), X.length ≤ N + 16 * ql p ∧ ∀ w, w ∈ (aSs st sp (qs p) (rwW (pl A) (qH p) (qT p))).1 → w ∈ rwW (pl A) H' T' ∨ w ∈ X := fun H' T' k1 k2 => ⟨X, x1, fun w hw => by
    rcases (aSs_mem _ _ _ _ _).mp hw with g | g
    · exact (x2 w g).imp (rwW_mono k1 k2) id
    · exact Or.inl (rwW_mono k1 k2 g)⟩
  have mg : mu A p = 2 * (8 - qC A p) + 2 * (7 - ql p) + 1 := by unfold mu; rw [hg]; rfl
  cases hf : fO A (qH p) (qT p) with
  | some i =>
    have hi : isF ((qH p).length * pl A) (opn A (qH p) (qT p)) (some i) := by rw [← hf]; exact ff_is _ _
    have e : stepT A st sp p = (1, qm p, aSs st sp (qs p) (rwW (pl A) (qH p) (qT p)), ql p, qH p ++ [hx A (qH p) i], qT p, qK p, none) := by
      unfold stepT; rw [hf]; rfl
    rw [e]
    have q1 := qc_open hi.1 hi.2.1
    have q2 := open_le hA vh hi.1 hi.2.1
    have a8 := hA.1.2
    obtain ⟨i1, i2, -⟩ := ix_sp hi.1
    have hl : (hx A (qH p) i).length = ((qH p).getD (i / pl A) []).length + 1 := by unfold hx; simp
    refine ⟨⟨⟨⟨⟨D ++ [hx A (qH p) i], by show qH p ++ _ = _; rw [d1]; rfl⟩, E, d2⟩, ⟨vH_snoc vh (hx_v vh hi.1), vt⟩, nd'⟩, has _ _ (fun w hw => List.mem_append.mpr (Or.inl hw)) (fun _ hw => hw), h3, fun _ => ⟨fun c0 => ?_, fun c0 => ?_, Or.inl ?_, fun g hg => (by cases hg)⟩, fun c => absurd c hm⟩, ?_, rfl, fun c => (by cases c), fun _ => ⟨_, rfl⟩, fun c => (by cases c), Nat.le_of_ble_eq_true rfl⟩
    · obtain ⟨g1, g2, g3, g4⟩ := t0 c0
      refine ⟨fun u hu => ?_, fun u hu => ?_, ?_, ?_⟩
      · show u.length ≤ 13 + qc A (qH p ++ [hx A (qH p) i]) (qT p)
        rw [q1]
        rcases List.mem_append.mp hu with k | k
        · have := g1 u k; omega
        · rw [List.mem_singleton] at k; rw [k, hl]
          have := g1 _ (getD_mem i1); omega
      · show u.length + 1 ≤ qc A (qH p ++ [hx A (qH p) i]) (qT p)
        rw [q1]; have := g2 u hu; omega
      · show (qT p).length ≤ qc A (qH p ++ [hx A (qH p) i]) (qT p)
        rw [q1]; omega
      · show (qH p ++ [hx A (qH p) i]).length ≤ 14 * ql p + qc A (qH p ++ [hx A (qH p) i]) (qT p)
        rw [q1, List.length_append, List.length_singleton]; omega
    · obtain ⟨g1, g2, g3, g4⟩ := t1 c0
      refine ⟨unl_open g1 hi.2.1, fun u hu => ?_, g3, g4⟩
      show u.length + 1 ≤ (qH p ++ [hx A (qH p) i]).length
      rw [List.length_append, List.length_singleton]
      rcases List.mem_append.mp hu with k | k
      · have := g2 u k; omega
      · rw [List.mem_singleton] at k; rw [k, hl]
        have := g2 _ (getD_mem i1); omega
    · show ql p + 1 ≤ qc A (qH p ++ [hx A (qH p) i]) (qT p)
      rw [q1]; rcases t2 with k | k
      · omega
      · have := k.1; omega
    · rw [mg, hC]
      have : mu A (qm p, aSs st sp (qs p) (rwW (pl A) (qH p) (qT p)), ql p, qH p ++ [hx A (qH p) i], qT p, qK p, none) = 2 * (8 - qc A (qH p ++ [hx A (qH p) i]) (qT p)) + 2 * (7 - ql p) + 1 := by
        unfold mu qC
        show 2 * (8 - (if qm p = 3 then _ else _)) + _ + _ = _
        rw [if_neg hm]; rfl
      rw [this, q1]; omega
  | none =>
    have hno : isF ((qH p).length * pl A) (opn A (qH p) (qT p)) none := by rw [← hf]; exact ff_is _ _
    cases hf2 : (if qm p = 0 then fPt A (qH p) (qT p) else none) with
    | some i =>
      have c0 : qm p = 0 := Classical.byContradiction fun q => by rw [if_neg q] at hf2; cases hf2
      rw [if_pos c0] at hf2
      have hi : isF ((qH p).length * (qH p).length) (ptP A (qH p) (qT p)) (some i) := by rw [← hf2]; exact ff_is _ _
      have e : stepT A st sp p = (2, qm p, aSs st sp (qs p) (rwW (pl A) (qH p) (qT p)), ql p, qH p, qT p ++ [nTl A (qH p) (qT p) i], qK p, none) := by
        unfold stepT; rw [hf]; dsimp only; rw [if_pos c0, hf2]
      rw [e]
      have q1 := qc_tail hA vh hi.1 hi.2.1
      have q2 := qc_le (T := qT p ++ [nTl A (qH p) (qT p) i]) hA vh
      have a8 := hA.1.2
      obtain ⟨a, b, x, ee, ⟨-, -, x1', e1'⟩, -, hn, -⟩ := nTl_of hi.1 hi.2.1
      obtain ⟨g1, g2, g3, g4⟩ := t0 c0
      have hvn : vw (pl A) (nTl A (qH p) (qT p) i) := by rw [hn]; exact vw_cons.mpr ⟨x1', vt _ e1'⟩
      have hln : (nTl A (qH p) (qT p) i).length + 1 ≤ qc A (qH p) (qT p) + 1 := by rw [hn, List.length_cons]; have := g2 _ e1'; omega
      refine ⟨⟨⟨⟨⟨D, d1⟩, E ++ [nTl A (qH p) (qT p) i], by show qT p ++ _ = _; rw [d2]; rfl⟩, ⟨vh, vH_snoc vt hvn⟩, nd'⟩, has _ _ (fun _ hw => hw) (fun w hw => List.mem_append.mpr (Or.inl hw)), h3, fun _ => ⟨fun _ => ⟨fun u hu => ?_, fun u hu => ?_, ?_, ?_⟩, fun c => absurd c0 c, Or.inl ?_, fun g hg => (by cases hg)⟩, fun c => absurd c hm⟩, ?_, rfl, fun c => (by cases c), fun c => (by cases c), fun _ => ⟨_, rfl⟩, Nat.le_of_ble_eq_true rfl⟩
      · show u.length ≤ 13 + qc A (qH p) (qT p ++ [nTl A (qH p) (qT p) i])
        have := g1 u hu; omega
      · show u.length + 1 ≤ qc A (qH p) (qT p ++ [nTl A (qH p) (qT p) i])
        rcases List.mem_append.mp hu with k | k
        · have := g2 u k; omega
        · rw [List.mem_singleton] at k; rw [k]; omega
      · show (qT p ++ [nTl A (qH p) (qT p) i]).length ≤ qc A (qH p) (qT p ++ [nTl A (qH p) (qT p) i])
        rw [List.length_append, List.length_singleton]; omega
      · show (qH p).length ≤ 14 * ql p + qc A (qH p) (qT p ++ [nTl A (qH p) (qT p) i])
        omega
      · show ql p + 1 ≤ qc A (qH p) (qT p ++ [nTl A (qH p) (qT p) i])
        rcases t2 with k | k
        · omega
        · have := k.1; omega
      · rw [mg, hC]
        have : mu A (qm p, aSs st sp (qs p) (rwW (pl A) (qH p) (qT p)), ql p, qH p, qT p ++ [nTl A (qH p) (qT p) i], qK p, none) = 2 * (8 - qc A (qH p) (qT p ++ [nTl A (qH p) (qT p) i])) + 2 * (7 - ql p) + 1 := by
          unfold mu qC
          show 2 * (8 - (if qm p = 3 then _ else _)) + _ + _ = _
          rw [if_neg hm]; rfl
        rw [this]; omega
    | none =>
      have e : stepT A st sp p = (0, qm p, aSs st sp (qs p) (rwW (pl A) (qH p) (qT p)), ql p, qH p, qT p, qK p, some (aT A (qH p) (qT p), gT A (qH p) (qT p))) := by
        unfold stepT; rw [hf]; dsimp only; rw [hf2]
      rw [e]
      have hfull : full A p := ⟨hno, fun c0 => by
        rw [if_pos c0] at hf2
        have : isF ((qH p).length * (qH p).length) (ptP A (qH p) (qT p)) none := by rw [← hf2]; exact ff_is _ _
        exact this⟩
      refine ⟨⟨⟨⟨⟨D, d1⟩, E, d2⟩, ⟨vh, vt⟩, nd'⟩, has _ _ (fun _ hw => hw) (fun _ hw => hw), h3, fun _ => ⟨t0, t1, t2, fun g hg => ⟨(Option.some.inj hg).symm, hfull⟩⟩, fun c => absurd c hm⟩, ?_, rfl, fun _ => rfl, fun c => (by cases c), fun c => (by cases c), Nat.le_of_ble_eq_true rfl⟩
      rw [mg, hC]
      have : mu A (qm p, aSs st sp (qs p) (rwW (pl A) (qH p) (qT p)), ql p, qH p, qT p, qK p, some (aT A (qH p) (qT p), gT A (qH p) (qT p))) = 2 * (8 - qc A (qH p) (qT p)) + 2 * (7 - ql p) + 0 := by
        unfold mu qC
        show 2 * (8 - (if qm p = 3 then _ else _)) + _ + _ = _
        rw [if_neg hm]; rfl
      rw [this]; omega
theorem PI.sR {A : PM} {N st sp : Nat} {p : PS} (hA : okM A) (h : PI A N p) (hm : qm p = 3) (hg : qg p = none) : PI A N (stepR A st sp p).2 ∧ mu A (stepR A st sp p).2 < mu A p ∧ (qm (stepR A st sp p).2 = qm p ∧ ((stepR A st sp p).1 = 0 → (qg (stepR A st sp p).2).isSome) ∧ ((stepR A st sp p).1 = 1 → ∃ w, qH (stepR A st sp p).2 = qH p ++ [w]) ∧ ((stepR A st sp p).1 = 2 → ∃ w, qT (stepR A st sp p).2 = qT p ++ [w]) ∧ (stepR A st sp p).1 ≤ 2) := by
  have hC8 := qC8 hA h
  obtain ⟨⟨⟨⟨D, d1⟩, E, d2⟩, ⟨vh, vt⟩, nd⟩, ⟨X, x1, x2⟩, h3, hT, hR⟩ := h
  obtain ⟨r1, ⟨r2, r3⟩, ⟨r4, r5⟩, ⟨r6, r7, r8⟩, r9⟩ := hR hm
  have a8 := hA.1.2
  have hC : qC A p = (qH p).length := if_pos hm
  have mg : mu A p = 2 * (8 - qC A p) + 2 * (7 - ql p) + 1 := by unfold mu; rw [hg]; rfl
  cases hf : fL A (qH p) (qT p) (qK p) with
  | some i =>
    have hi : isF ((qH p).length * pl A) (fun i => qK p (sfP A (qT p) (qK p) (hx A (qH p) i)) = 0) (some i) := by rw [← hf]; exact ff_is _ _
    have e : stepR A st sp p = (1, qm p, aSs st sp (qs p) (swN A (qH p) (qT p) (qK p) (i + 1)), ql p, qH p ++ [hx A (qH p) i], qT p, upN (qK p) (sfP A (qT p) (qK p) (hx A (qH p) i)) (1 + (qH p).length), none) := by
      unfold stepR; rw [hf]
    rw [e]
    obtain ⟨w1, w2, w3, w5⟩ := tree_grow hA vh r1 r7 vt (hx_v vh hi.1) hi.2.1 r8.2
    rw [List.length_append, List.length_singleton] at w3
    obtain ⟨i1, i2, -⟩ := ix_sp hi.1
    have hl : (hx A (qH p) i).length = ((qH p).getD (i / pl A) []).length + 1 := by unfold hx; simp
    have nin : ∀ w, w ∈ (aSs st sp (qs p) (swN A (qH p) (qT p) (qK p) (i + 1))).1 ↔ w ∈ (qs p).1 ∨ w ∈ swN A (qH p) (qT p) (qK p) (i + 1) := fun w => aSs_mem _ _ _ _ _
    refine ⟨⟨⟨⟨⟨D ++ [hx A (qH p) i], by show qH p ++ _ = _; rw [d1]; rfl⟩, E, d2⟩, ⟨vH_snoc vh (hx_v vh hi.1), vt⟩, aSs_nodup nd⟩, ⟨X, x1, fun w hw => ?_⟩, h3, fun c => absurd hm c, fun _ => ⟨w1, ⟨fun u hu => ?_, r3⟩, ⟨r4, ?_⟩, ⟨fun u hu => ?_, w2, by show (qH p ++ [hx A (qH p) i]).length ≤ pn A; rw [List.length_append, List.length_singleton]; exact w3, w5⟩, fun g hg => (by cases hg)⟩⟩, ?_, rfl, fun c => (by cases c), fun _ => ⟨_, rfl⟩, fun c => (by cases c), Nat.le_of_ble_eq_true rfl⟩
    · have mono : ∀ v, v ∈ rwW (pl A) (qH p) (qT p) → v ∈ rwW (pl A) (qH p ++ [hx A (qH p) i]) (qT p) := fun v hv => rwW_mono (fun w hw => List.mem_append.mpr (Or.inl hw)) (fun _ hw => hw) hv
      rcases (nin w).mp hw with g | g
      · exact (x2 w g).imp (mono w) id
      · obtain ⟨j, j1, j2⟩ := swN_mem.mp g
        exact Or.inl (mono w (sw_row r1 (by have := hi.1; omega) j2))
    · show u.length + 1 ≤ (qH p ++ [hx A (qH p) i]).length
      rw [List.length_append, List.length_singleton]
      rcases List.mem_append.mp hu with k | k
      · have := r2 u k; omega
      · rw [List.mem_singleton] at k; rw [k, hl]
        have := r2 _ (getD_mem i1); omega
    · show ql p + 1 ≤ (qH p ++ [hx A (qH p) i]).length
      rw [List.length_append, List.length_singleton]; omega
    · refine (nin u).mpr ?_
      rcases List.mem_append.mp hu with k | k
      · exact Or.inl (r6 u k)
      · rw [List.mem_singleton] at k; rw [k]
        exact Or.inr (swN_mem.mpr ⟨i, by omega, sw_self d2⟩)
    · rw [mg, hC]
      have : mu A (qm p, aSs st sp (qs p) (swN A (qH p) (qT p) (qK p) (i + 1)), ql p, qH p ++ [hx A (qH p) i], qT p, upN (qK p) (sfP A (qT p) (qK p) (hx A (qH p) i)) (1 + (qH p).length), none) = 2 * (8 - (qH p ++ [hx A (qH p) i]).length) + 2 * (7 - ql p) + 1 := by
        unfold mu qC
        show 2 * (8 - (if qm p = 3 then _ else _)) + _ + _ = _
        rw [if_pos hm]; rfl
      rw [this, List.length_append, List.length_singleton]; omega
  | none =>
    have hno : isF ((qH p).length * pl A) (fun i => qK p (sfP A (qT p) (qK p) (hx A (qH p) i)) = 0) none := by rw [← hf]; exact ff_is _ _
    have e : stepR A st sp p = (0, qm p, aSs st sp (qs p) (swN A (qH p) (qT p) (qK p) ((qH p).length * pl A)), ql p, qH p, qT p, qK p, some (qH p, gR A (qH p) (qT p) (qK p))) := by
      unfold stepR; rw [hf]
    rw [e]
    have nin : ∀ w, w ∈ (aSs st sp (qs p) (swN A (qH p) (qT p) (qK p) ((qH p).length * pl A))).1 ↔ w ∈ (qs p).1 ∨ w ∈ swN A (qH p) (qT p) (qK p) ((qH p).length * pl A) := fun w => aSs_mem _ _ _ _ _
    refine ⟨⟨⟨⟨⟨D, d1⟩, E, d2⟩, ⟨vh, vt⟩, aSs_nodup nd⟩, ⟨X, x1, fun w hw => ?_⟩, h3, fun c => absurd hm c, fun _ => ⟨r1, ⟨r2, r3⟩, ⟨r4, r5⟩, ⟨fun u hu => (nin u).mpr (Or.inl (r6 u hu)), r7, r8⟩, fun g hg => ⟨(Option.some.inj hg).symm, fun i hi => ⟨hno i hi, (nin _).mpr (Or.inr (swN_mem.mpr ⟨i, hi, sw_self d2⟩))⟩⟩⟩⟩, ?_, rfl, fun _ => rfl, fun c => (by cases c), fun c => (by cases c), Nat.le_of_ble_eq_true rfl⟩
    · rcases (nin w).mp hw with g | g
      · exact x2 w g
      · obtain ⟨j, j1, j2⟩ := swN_mem.mp g
        exact Or.inl (sw_row r1 j1 j2)
    · rw [mg, hC]
      have : mu A (qm p, aSs st sp (qs p) (swN A (qH p) (qT p) (qK p) ((qH p).length * pl A)), ql p, qH p, qT p, qK p, some (qH p, gR A (qH p) (qT p) (qK p))) = 2 * (8 - (qH p).length) + 2 * (7 - ql p) + 0 := by
        unfold mu qC
        show 2 * (8 - (if qm p = 3 then _ else _)) + _ + _ = _
        rw [if_pos hm]; rfl
      rw [this]; omega
theorem PI.step {A : PM} {N st sp : Nat} {p : PS} (hA : okM A) (h : PI A N p) (hg : qg p = none) : PI A N (stepF A st sp p).2 ∧ mu A (stepF A st sp p).2 < mu A p ∧ (qm (stepF A st sp p).2 = qm p ∧ ((stepF A st sp p).1 = 0 → (qg (stepF A st sp p).2).isSome) ∧ ((stepF A st sp p).1 = 1 → ∃ w, qH (stepF A st sp p).2 = qH p ++ [w]) ∧ ((stepF A st sp p).1 = 2 → ∃ w, qT (stepF A st sp p).2 = qT p ++ [w]) ∧ (stepF A st sp p).1 ≤ 2) := by
  unfold stepF
  by_cases c : qm p = 3
  · rw [if_pos c]; exact h.sR hA c hg
  · rw [if_neg c]; exact h.sT hA c hg
