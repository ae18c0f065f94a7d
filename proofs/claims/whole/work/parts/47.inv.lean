/-! the pupil: its invariant, step by step -/
noncomputable def stepF (A : PM) (st sp : Nat) (p : PS) : Nat × PS := if qm p = 3 then stepR A st sp p else stepT A st sp p
def lesF (A : PM) (st sp : Nat) (p : PS) (g : GU) (w : List Nat) : Nat × PS := if qm p = 3 then lesR A st sp p g w else lesT A st sp p g w
/-- how many kinds of heads -/
noncomputable def qC (A : PM) (p : PS) : Nat := if qm p = 3 then (qH p).length else qc A (qH p) (qT p)
def full (A : PM) (p : PS) : Prop := clo A (qH p) (qT p) ∧ (qm p = 0 → con2 A (qH p) (qT p))
def PIT (A : PM) (p : PS) : Prop :=
  (qm p = 0 → (∀ h, h ∈ qH p → h.length ≤ 13 + qc A (qH p) (qT p)) ∧ (∀ e, e ∈ qT p → e.length + 1 ≤ qc A (qH p) (qT p)) ∧ (qT p).length ≤ qc A (qH p) (qT p) ∧ (qH p).length ≤ 14 * ql p + qc A (qH p) (qT p)) ∧
  (qm p ≠ 0 → unl A (qH p) (qT p) ∧ (∀ h, h ∈ qH p → h.length + 1 ≤ (qH p).length) ∧ (∀ e, e ∈ qT p → e.length ≤ 14) ∧ (qT p).length ≤ 1 + 14 * ql p) ∧
  (ql p + 1 ≤ qc A (qH p) (qT p) ∨ (ql p ≤ qc A (qH p) (qT p) ∧ ¬ full A p)) ∧
  ∀ g, qg p = some g → g = (aT A (qH p) (qT p), gT A (qH p) (qT p)) ∧ full A p
def PIR (A : PM) (p : PS) : Prop := TW (qH p) (qT p) (qK p) ∧ ((∀ h, h ∈ qH p → h.length + 1 ≤ (qH p).length) ∧ ∀ e, e ∈ qT p → e.length ≤ 14) ∧ ((qT p).length = 1 + ql p ∧ ql p + 1 ≤ (qH p).length) ∧ ((∀ h, h ∈ qH p → h ∈ (qs p).1) ∧ SI A (qH p) (qT p) (qK p) ∧ (qH p).length ≤ pn A ∧ UQ (qK p)) ∧ ∀ g, qg p = some g → g = (qH p, gR A (qH p) (qT p) (qK p)) ∧ ∀ i, i < (qH p).length * pl A → qK p (sfP A (qT p) (qK p) (hx A (qH p) i)) ≠ 0 ∧ hx A (qH p) i ∈ (qs p).1
def PI (A : PM) (N : Nat) (p : PS) : Prop :=
  (((∃ D, qH p = [] :: D) ∧ ∃ D, qT p = [] :: D) ∧ (vH A (qH p) ∧ vH A (qT p)) ∧ (qs p).1.Nodup) ∧
  (∃ X : List (List Nat), X.length ≤ N + 16 * ql p ∧ ∀ w, w ∈ (qs p).1 → w ∈ rwW (pl A) (qH p) (qT p) ∨ w ∈ X) ∧
  qm p ≤ 3 ∧ (qm p ≠ 3 → PIT A p) ∧ (qm p = 3 → PIR A p)
/-- how far it is till all is learnt -/
noncomputable def mu (A : PM) (p : PS) : Nat := 2 * (8 - qC A p) + 2 * (7 - ql p) + (if (qg p).isSome then 0 else 1)
theorem ql7 {A : PM} {N : Nat} {p : PS} (hA : okM A) (h : PI A N p) : ql p ≤ 7 := by
  obtain ⟨⟨-, ⟨hH, -⟩, -⟩, -, h3, hT, hR⟩ := h
  have a8 := hA.1.2
  by_cases c : qm p = 3
  · obtain ⟨-, -, ⟨-, g⟩, ⟨-, -, g2, -⟩, -⟩ := hR c
    omega
  · obtain ⟨-, -, g, -⟩ := hT c
    have hq := qc_le (T := qT p) hA hH
    rcases g with g | ⟨g1, g2⟩
    · omega
    · have : qc A (qH p) (qT p) + 1 ≤ pn A := by
        refine Classical.byContradiction fun q => g2 ⟨fun i hi ho => q (open_le hA hH hi ho), fun _ i hi hp => q (part_le hA hH hi hp)⟩
      omega
theorem qC8 {A : PM} {N : Nat} {p : PS} (hA : okM A) (h : PI A N p) : qC A p ≤ 8 := by
  obtain ⟨⟨-, ⟨hH, -⟩, -⟩, -, h3, hT, hR⟩ := h
  have a8 := hA.1.2
  unfold qC
  by_cases c : qm p = 3
  · obtain ⟨-, -, ⟨-, g⟩, ⟨-, -, g2, -⟩, -⟩ := hR c
    rw [if_pos c]; omega
  · rw [if_neg c]
    have hq := qc_le (T := qT p) hA hH
    omega
/-- how long, how many -/
theorem PI.lens {A : PM} {N : Nat} {p : PS} (hA : okM A) (h : PI A N p) : (∀ e, e ∈ qH p → e.length ≤ 21) ∧ (∀ e, e ∈ qT p → e.length ≤ 14) ∧ (∀ u e, u ∈ qH p → e ∈ qT p → u.length + 1 + e.length ≤ 30) ∧ ((qH p).length ≤ 106 ∧ (qT p).length ≤ 99) ∧ (qH p).length * ((qT p).length * (pl A + 1)) ≤ 3392 ∧ (qm p ≠ 0 → ∀ e, e ∈ qH p → e.length ≤ 7) := by
  have h7 := ql7 hA h
  obtain ⟨⟨-, ⟨hH, -⟩, -⟩, -, h3, hT, hR⟩ := h
  have a8 := hA.1.2
  have l3 := hA.2.1.2
  by_cases c : qm p = 3
  · obtain ⟨-, ⟨g1, g2⟩, ⟨g3, g4⟩, ⟨-, -, g5, -⟩, -⟩ := hR c
    have k1 : ∀ e, e ∈ qH p → e.length ≤ 7 := fun e he => by have := g1 e he; omega
    refine ⟨fun e he => by have := k1 e he; omega, g2, fun u e hu he => by have := k1 u hu; have := g2 e he; omega, by omega, ?_, fun _ => k1⟩
    have : (qT p).length * (pl A + 1) ≤ 8 * 4 := Nat.mul_le_mul (by omega) (by omega)
    have := Nat.mul_le_mul (show (qH p).length ≤ 8 by omega) this
    omega
  · obtain ⟨t0, t1, -⟩ := hT c
    have hq := qc_le (T := qT p) hA hH
    by_cases c0 : qm p = 0
    · obtain ⟨g1, g2, g3, g4⟩ := t0 c0
      refine ⟨fun e he => by have := g1 e he; omega, fun e he => by have := g2 e he; omega, fun u e hu he => by have := g1 u hu; have := g2 e he; omega, by omega, ?_, fun q => absurd c0 q⟩
      have : (qT p).length * (pl A + 1) ≤ 8 * 4 := Nat.mul_le_mul (by omega) (by omega)
      have := Nat.mul_le_mul (show (qH p).length ≤ 106 by omega) this
      omega
    · obtain ⟨g1, g2, g3, g4⟩ := t1 c0
      have hl := unl_qc g1
      have k1 : ∀ e, e ∈ qH p → e.length ≤ 7 := fun e he => by have := g2 e he; omega
      refine ⟨fun e he => by have := k1 e he; omega, g3, fun u e hu he => by have := k1 u hu; have := g3 e he; omega, by omega, ?_, fun _ => k1⟩
      have : (qT p).length * (pl A + 1) ≤ 99 * 4 := Nat.mul_le_mul (by omega) (by omega)
      have := Nat.mul_le_mul (show (qH p).length ≤ 8 by omega) this
      omega
theorem PI.ask {A : PM} {N : Nat} {p : PS} (hA : okM A) (h : PI A N p) : ∃ X : List (List Nat), (∀ w, w ∈ (qs p).1 → w ∈ X) ∧ (∀ w, w ∈ rwW (pl A) (qH p) (qT p) → w ∈ X) ∧ X.length ≤ 3504 + N := by
  have h7 := ql7 hA h
  have hl := h.lens hA
  obtain ⟨-, ⟨X, x1, x2⟩, -⟩ := h
  refine ⟨rwW (pl A) (qH p) (qT p) ++ X, fun w hw => List.mem_append.mpr (x2 w hw), fun w hw => List.mem_append.mpr (Or.inl hw), ?_⟩
  rw [List.length_append, rwW_len]
  have := hl.2.2.2.2.1
  omega
theorem PI.n {A : PM} {N : Nat} {p : PS} (hA : okM A) (h : PI A N p) : (qs p).1.length ≤ 3504 + N := by
  obtain ⟨X, x1, x2, x3⟩ := h.ask hA
  exact Nat.le_trans (nodupW_le h.1.2.2 x1) x3
theorem PI.nil {A : PM} {N : Nat} {p : PS} (h : PI A N p) : [] ∈ qH p ∧ [] ∈ qT p := by
  obtain ⟨⟨⟨⟨D, e⟩, E, e2⟩, -⟩, -⟩ := h
  rw [e, e2]; simp
theorem PI.bt {A : PM} {N : Nat} {p : PS} (hA : okM A) (hN : N ≤ 4600) (h : PI A N p) : BT A p := by
  have hl := h.lens hA
  obtain ⟨X, x1, x2, x3⟩ := h.ask hA
  exact ⟨hl.2.2.1, h.nil, ⟨by omega, by omega⟩, X, x1, x2, by omega⟩
theorem PI.br {A : PM} {N : Nat} {p : PS} (hA : okM A) (hN : N ≤ 4600) (hm : qm p = 3) (h : PI A N p) : BR A p := by
  have hl := h.lens hA
  obtain ⟨X, x1, x2, x3⟩ := h.ask hA
  have hR := h.2.2.2.2 hm
  exact ⟨hR.1, hl.2.2.1, hR.2.2.2.1.1, ⟨h.nil.2, List.length_pos_of_mem h.nil.1⟩, X, x1, x2, by omega⟩
-- asking alone
theorem PI.more {A : PM} {N n : Nat} {p : PS} {s : List (List Nat) × Nat} (h : PI A N p) (hs : s.1.Nodup) (h1 : ∀ w, w ∈ (qs p).1 → w ∈ s.1) (h2 : ∃ Y : List (List Nat), Y.length ≤ n ∧ ∀ w, w ∈ s.1 → w ∈ (qs p).1 ∨ w ∈ Y) : PI A (N + n) (qm p, s, ql p, qH p, qT p, qK p, qg p) := by
  obtain ⟨⟨a1, a2, a3⟩, ⟨X, x1, x2⟩, h3, hT, hR⟩ := h
  obtain ⟨Y, y1, y2⟩ := h2
  refine ⟨⟨a1, a2, hs⟩, ⟨X ++ Y, by rw [List.length_append]; show _ ≤ N + n + 16 * ql p; omega, fun w hw => ?_⟩, h3, hT, fun c => ?_⟩
  · rcases y2 w hw with g | g
    · rcases x2 w g with q | q
      · exact Or.inl q
      · exact Or.inr (List.mem_append.mpr (Or.inl q))
    · exact Or.inr (List.mem_append.mpr (Or.inr g))
  · obtain ⟨r1, r2, r3, ⟨r4, r5, r6⟩, r7⟩ := hR c
    exact ⟨r1, r2, r3, ⟨fun h hh => h1 _ (r4 h hh), r5, r6⟩, fun g hg => ⟨(r7 g hg).1, fun i hi => ⟨((r7 g hg).2 i hi).1, h1 _ ((r7 g hg).2 i hi).2⟩⟩⟩
/-- NEW -/
def newP (A : PM) (st sp m : Nat) : PS := (m, if m = 3 then aS st sp ([], 0) [] else ([], 0), 0, [[]], [[]], if m = 3 then upN (fun _ => 0) (an A 0 []) 1 else fun _ => 0, none)
theorem PI.new {A : PM} {st sp m : Nat} (hA : okM A) (hm : m ≤ 3) : PI A 0 (newP A st sp m) := by
  have v1 : vH A [[]] := fun h hh => by rw [List.mem_singleton] at hh; rw [hh]; exact vw_nil _
  have q1 : qc A [[]] [[]] = 1 := by
    unfold qc
    exact cR_no (n := 0) (fun ⟨t, t1, _⟩ => by omega)
  have a4 := an_lt hA (vw_nil (pl A))
  refine ⟨⟨⟨⟨[], rfl⟩, [], rfl⟩, ⟨v1, v1⟩, ?_⟩, ⟨[], Nat.zero_le _, fun w hw => Or.inl ?_⟩, hm, fun c => ⟨fun c0 => ⟨fun h hh => ?_, fun e he => ?_, ?_, ?_⟩, fun _ => ⟨fun a b h1 h2 => ?_, fun h hh => ?_, fun e he => ?_, ?_⟩, Or.inl ?_, fun g hg => ?_⟩, fun c => ?_⟩
  · show (if m = 3 then aS st sp ([], 0) [] else ([], 0)).1.Nodup
    by_cases c : m = 3
    · rw [if_pos c]; exact aS_nodup List.nodup_nil
    · rw [if_neg c]; exact List.nodup_nil
  · have hw : w ∈ (if m = 3 then aS st sp ([], 0) [] else ([], 0)).1 := hw
    by_cases c : m = 3
    · rw [if_pos c, aS_mem] at hw
      rcases hw with g | g
      · simp at g
      · exact rwW_mem.mpr ⟨[], by show [] ∈ [[]]; simp, [], by show [] ∈ [[]]; simp, Or.inl g⟩
    · rw [if_neg c] at hw; simp at hw
  · have hh : h ∈ [[]] := hh
    rw [List.mem_singleton] at hh; rw [hh]; exact Nat.zero_le _
  · have he : e ∈ [[]] := he
    rw [List.mem_singleton] at he; rw [he]; show 0 + 1 ≤ qc A [[]] [[]]; rw [q1]; exact Nat.le_refl _
  · show 1 ≤ qc A [[]] [[]]; rw [q1]; exact Nat.le_refl _
  · show 1 ≤ 14 * 0 + qc A [[]] [[]]; rw [q1]; exact Nat.le_refl _
  · have h2 : b < 1 := h2
    omega
  · have hh : h ∈ [[]] := hh
    rw [List.mem_singleton] at hh; rw [hh]; exact Nat.le_refl _
  · have he : e ∈ [[]] := he
    rw [List.mem_singleton] at he; rw [he]; exact Nat.zero_le _
  · show 1 ≤ 1 + 14 * 0; decide
  · show 0 + 1 ≤ qc A [[]] [[]]; rw [q1]; exact Nat.le_refl _
  · cases hg
  · have c : m = 3 := c
    subst c
    have hK : qK (newP A st sp 3) = upN (fun _ => 0) (an A 0 []) 1 := rfl
    have hs : sfP A [[]] (upN (fun _ => 0) (an A 0 []) 1) [] = an A 0 [] := by
      unfold sfP
      have : (sf A [[]] (upN (fun _ => 0) (an A 0 []) 1) 0 8 0).2 = (sf A [[]] (fun _ => 0) 0 8 0).2 := sf_new (K := fun _ => 0) rfl (by decide) 8 0
      show (sf A [[]] (upN (fun _ => 0) (an A 0 []) 1) 0 8 0).2 = _
      rw [this, sf_0 (K := fun _ => 0) (T := [[]]) (q := 0) (k := 0) (f := 7) (show (0 : Nat) < 100 by decide)]
      show 0 * 4 + an A 0 [] = _
      omega
    refine ⟨⟨⟨show 0 < 1 by decide, show 1 ≤ 8 by decide, show 1 ≤ 8 by decide⟩, fun c hc => ?_, fun c hc => ?_⟩, ⟨fun h hh => ?_, fun e he => ?_⟩, ⟨rfl, Nat.le_refl _⟩, ⟨fun h hh => ?_, fun i hi => ?_, hA.1.1, ?_⟩, fun g hg => by cases hg⟩
    · have hc : 4 ≤ c := hc
      rw [hK]; unfold upN; rw [if_neg (by omega)]
    · rw [hK]; unfold upN
      by_cases q : c = an A 0 []
      · rw [if_pos q]; exact Or.inr (Or.inl ⟨0, show 0 < 1 by decide, rfl⟩)
      · rw [if_neg q]; exact Or.inl rfl
    · have hh : h ∈ [[]] := hh
      rw [List.mem_singleton] at hh; rw [hh]; exact Nat.le_refl _
    · have he : e ∈ [[]] := he
      rw [List.mem_singleton] at he; rw [he]; exact Nat.zero_le _
    · have hh : h ∈ [[]] := hh
      rw [List.mem_singleton] at hh; rw [hh]
      show [] ∈ (aS st sp ([], 0) []).1
      rw [aS_mem]; exact Or.inr rfl
    · have hi : i < 1 := hi
      have : i = 0 := by omega
      subst this
      show upN (fun _ => 0) (an A 0 []) 1 (sfP A [[]] (upN (fun _ => 0) (an A 0 []) 1) []) = 1
      rw [hs]; unfold upN; rw [if_pos rfl]
    · rw [hK]
      have hw0 : TW [] [[]] (fun _ => 0) := ⟨⟨show 0 < 1 by decide, show 1 ≤ 8 by decide, show 0 ≤ 8 by decide⟩, fun _ _ => rfl, fun _ _ => Or.inl rfl⟩
      have hu0 : UQ (fun _ => 0) := fun c c' h _ _ => by
        have h : 0 < 0 := h
        omega
      exact UQ.grow (H := []) hw0 hu0 rfl
