/-! the reference: all tests of a guess -/
def MoE (M : Mem) (m : Nat) (E : List (List Nat)) : Prop := mI M m 48 = nI E.length ∧ ∀ j, j < E.length → mJ M (m + 28) j = lN (cd (E.getD j []))
theorem MoE.cg {M M' : Mem} {m : Nat} {E : List (List Nat)} (h : MoE M m E) (h48 : mI M' m 48 = mI M m 48) (h28 : mJ M' (m + 28) = mJ M (m + 28)) : MoE M' m E := ⟨by rw [h48]; exact h.1, fun j hj => by rw [h28]; exact h.2 j hj⟩
theorem MoE.snoc {M : Mem} {m : Nat} {E : List (List Nat)} (h : MoE M m E) (w : List Nat) : MoE (sI (sJ M (m + 28) E.length (lN (cd w))) m 48 (nI (E.length + 1))) m (E ++ [w]) := by
  refine ⟨by rw [rI_at, List.length_append, List.length_singleton], fun j hj => ?_⟩
  rw [List.length_append, List.length_singleton] at hj
  rw [rJ_I]
  by_cases e : j = E.length
  · subst e; rw [rJ_at]; simp [List.getD]
  · rw [rJ_nk e, getD_snoc_old (by omega)]; exact h.2 j (by omega)
/-- all words behind one, of so many letters more at most, with each end behind -/
def tB (l : Nat) (E : List (List Nat)) : Nat → List Nat → List (List Nat)
  | 0, w => E.map (fun e => w ++ e)
  | k + 1, w => E.map (fun e => w ++ e) ++ (List.range l).flatMap (fun x => tB l E k (w ++ [x]))
theorem tB_mem {l : Nat} {E : List (List Nat)} {v : List Nat} : ∀ {k w}, v ∈ tB l E k w ↔ ∃ m e, vw l m ∧ m.length ≤ k ∧ e ∈ E ∧ v = w ++ m ++ e
  | 0, w => by
    show v ∈ E.map (fun e => w ++ e) ↔ _
    rw [List.mem_map]
    constructor
    · rintro ⟨e, h1, h2⟩; exact ⟨[], e, vw_nil l, Nat.le_refl _, h1, by rw [List.append_nil]; exact h2.symm⟩
    · rintro ⟨m, e, h1, h2, h3, h4⟩
      have : m = [] := List.eq_nil_of_length_eq_zero (by omega)
      subst this
      exact ⟨e, h3, by rw [h4, List.append_nil]⟩
  | k + 1, w => by
    show v ∈ E.map (fun e => w ++ e) ++ (List.range l).flatMap (fun x => tB l E k (w ++ [x])) ↔ _
    rw [List.mem_append, List.mem_map, List.mem_flatMap]
    constructor
    · rintro (⟨e, h1, h2⟩ | ⟨x, hx, h⟩)
      · exact ⟨[], e, vw_nil l, Nat.zero_le _, h1, by rw [List.append_nil]; exact h2.symm⟩
      · obtain ⟨m, e, h1, h2, h3, h4⟩ := tB_mem.mp h
        exact ⟨x :: m, e, vw_cons.mpr ⟨List.mem_range.mp hx, h1⟩, by rw [List.length_cons]; omega, h3, by rw [h4]; simp⟩
    · rintro ⟨m, e, h1, h2, h3, h4⟩
      cases m with
      | nil => exact Or.inl ⟨e, h3, by rw [h4, List.append_nil]⟩
      | cons x u =>
        rw [List.length_cons] at h2
        have g := vw_cons.mp h1
        exact Or.inr ⟨x, List.mem_range.mpr g.1, tB_mem.mpr ⟨u, e, g.2, by omega, h3, by rw [h4]; simp⟩⟩
theorem tB_map {l : Nat} {E : List (List Nat)} {k : Nat} {w v : List Nat} (h : v ∈ E.map (fun e => w ++ e)) : v ∈ tB l E k w := by
  cases k with
  | zero => exact h
  | succ k => exact List.mem_append.mpr (Or.inl h)
theorem rng_flat {α : Type} (f : Nat → List α) (n : Nat) : (List.range (n + 1)).flatMap f = (List.range n).flatMap f ++ f n := by rw [List.range_succ, List.flatMap_append]; simp
theorem take_map {α : Type} (f : List Nat → α) {E : List (List Nat)} {e : Nat} (he : e < E.length) : (E.take (e + 1)).map f = (E.take e).map f ++ [f (E.getD e [])] := by rw [← take_snoc he, List.map_append]; rfl
section MTb
variable {d m st sp N : Nat} {Q : Option Value → Mem → Prop} {Mz M M' : Mem} {A G : PM} {p p' : PS} {X : List Nat} {R : List Int64} {g : GU} {s0 : List (List Nat)} {S : List (List Nat) × Nat} {E : List (List Nat)}
theorem w_X12_laysEnds (hd : 3 < d) (hS : MoS Mz M m X A st sp p R) (hI : PI A N p) (hg : qg p = some g)
    (h : ∀ M', Sm [m, m + 18, m + 19, m + 20, m + 28] M M' → (∀ j, j ≠ 48 → mI M' m j = mI M m j) → mJ M' m = mJ M m → MoE M' m (enL g.2) → Q none M') : ClD d mdX12_laysEnds [.ref m] M Q := by
  have hA := hS.sh.2
  have hgu := hI.gu hA hg
  have hG := hgu.1
  have g8 := hG.1.2
  let FR : Mem → Prop := fun M1 => Sm [m, m + 18, m + 19, m + 20, m + 28] M M1 ∧ (∀ j, j ≠ 48 → mI M1 m j = mI M m j) ∧ mJ M1 m = mJ M m
  have fS : ∀ {M1}, FR M1 → MoS Mz M1 m X A st sp p R := fun F => hS.ft ⟨F.1.mono (fun q hq => by simp at hq ⊢; omega), fun j hj => F.2.1 j (by omega)⟩
  have f3 : ∀ {M1 M2}, FR M1 → Sm [m + 18, m + 19, m + 20] M1 M2 → FR M2 := fun F S2 => ⟨F.1.tr (S2.mono (fun q hq => by simp at hq ⊢; omega)), fun j hj => by rw [S2.I (by simp)]; exact F.2.1 j hj, by rw [S2.J (by simp)]; exact F.2.2⟩
  have fw : ∀ {M1 n v w}, FR M1 → FR (sI (sJ M1 (m + 28) n w) m 48 v) := fun F => ⟨F.1.tr ((Sm.sJ (by simp) _ _ _).tr (Sm.sI (by simp) _ _ _)), fun j hj => by rw [rI_nk hj, rI_J]; exact F.2.1 j hj, by rw [rJ_I, rJ_np (by omega)]; exact F.2.2⟩
  refine ⟨3, hd, Cl.of moX12_laysEnds (Nat.le_of_ble_eq_true rfl) (gX12_laysEnds_0 hS.sh.1.1 ?_)⟩
  have F0 : FR (sI M m 48 (nI 0)) := ⟨Sm.sI (by simp) _ _ _, fun j hj => rI_nk hj, by rw [rJ_I]⟩
  refine upto (pn g.2) (fun i => ∀ M1, FR M1 → MoE M1 m (enP g.2 i) → Wp 3 mdX12_laysEnds 7 [(0, .ref m), (1, .int (nI i))] [] M1 (fun r M' => ROK mdX12_laysEnds r ∧ Q r M')) ?_ 0 (Nat.zero_le _) _ F0 ⟨rI_at _ _ _ _, fun j hj => by simp [enP] at hj⟩
  intro i hi ih M1 F1 hE
  have hS1 := fS F1
  have s1 := hS1.sh.1
  have f4 := s1.f4
  have f47 := s1.f47
  have G1 := hS1.g0.2 g hg
  have el := enP_len g8 i
  have em : mI M1 (mR M1 m 4) (nI 1).toNatClampNeg = nI (pn g.2) := by rw [f4.1, nI_clamp (by decide)]; exact G1.2.2.1.1
  refine gX12_laysEnds_7 s1.1 (by rw [f4.1]; exact f4.2.1) (by rw [f47.1]; exact f47.2.1) (by rw [f4.1, f4.2.2]; exact z_in (by decide) (by decide)) (fun c c2 => ⟨rfl, ?_⟩) (fun c c2 => ?_) (fun c c2 => ⟨rfl, ?_⟩) (fun c => ?_) <;> rw [em, nI_leI (by omega) (by omega)] at c
  · have e : i = pn g.2 := by omega
    subst e
    have c2 : ¬ mI M1 m 48 = nI 0 := c2
    rw [hE.1, nI_eq (by omega) (by decide)] at c2
    refine h M1 F1.1 F1.2.1 F1.2.2 ?_
    unfold enL; rw [if_neg c2]; exact hE
  · rw [f47.1, f47.2.2]; exact z_in (by decide) (by decide)
  · have e : i = pn g.2 := by omega
    subst e
    have c2 : mI M1 m 48 = nI 0 := c2
    rw [hE.1, nI_eq (by omega) (by decide)] at c2
    rw [f47.1, nI_clamp (by decide)]
    have F2 : FR (sI (sJ M1 (m + 28) 0 (lN 1)) m 48 (nI 1)) := fw F1
    refine h _ F2.1 F2.2.1 F2.2.2 ?_
    unfold enL; rw [if_pos c2]
    refine ⟨rI_at _ _ _ _, fun j hj => ?_⟩
    have : j = 0 := by rw [List.length_singleton] at hj; omega
    subst this
    rw [rJ_I]; exact rJ_at _ _ _ _
  · have hlt : i < pn g.2 := by omega
    rw [nI_add]
    have z0 : enQ g.2 i (i + 1) = [] := by
      have : ∀ n, n ≤ i + 1 → enQ g.2 i n = [] := by
        intro n
        induction n with
        | zero => intro _; rfl
        | succ n ihn => intro hn; rw [enQ_no (fun q => by omega), ihn (by omega)]
      exact this (i + 1) (Nat.le_refl _)
    refine upto (pn g.2) (fun q => i < q → ∀ M2, FR M2 → MoE M2 m (enP g.2 i ++ enQ g.2 i q) → Wp 3 mdX12_laysEnds 21 [(0, .ref m), (1, .int (nI i)), (2, .int (nI q))] [] M2 (fun r M' => ROK mdX12_laysEnds r ∧ Q r M')) ?_ (i + 1) (by omega) (by omega) M1 F1 (by rw [z0, List.append_nil]; exact hE)
    intro q hq ih2 hpq M2 F2 hE2
    have hS2 := fS F2
    have s2 := hS2.sh.1
    have f4 := s2.f4
    have f47 := s2.f47
    have G2 := hS2.g0.2 g hg
    have em : mI M2 (mR M2 m 4) (nI 1).toNatClampNeg = nI (pn g.2) := by rw [f4.1, nI_clamp (by decide)]; exact G2.2.2.1.1
    have ql := enQ_len g.2 i q
    refine gX12_laysEnds_21 s2.1 (by rw [f4.1]; exact f4.2.1) (by rw [f4.1, f4.2.2]; exact z_in (by decide) (by decide)) (fun c2 => ?_) (fun c2 => ?_) <;> rw [em, nI_leI (by omega) (by omega)] at c2
    · have e : q = pn g.2 := by omega
      subst e
      rw [nI_add]
      exact ih hlt M2 F2 hE2
    · have hql : q < pn g.2 := by omega
      refine w_X12_firstUnlike (by decide) s2 (by decide) (by decide) G2.2.2.1 hG G2.2.2.1 hG rfl (by rw [hS2.l3.1, hgu.2.1]) hlt hql (fun M3 S3 => ?_)
      have F3 := f3 F2 S3
      have hE3 : MoE M3 m (enP g.2 i ++ enQ g.2 i q) := hE2.cg (by rw [S3.I (by simp)]) (S3.J (by simp))
      have fl := fuC_lt hG hG rfl hlt hql
      have s3 := (fS F3).sh.1
      have f47 := s3.f47
      have ll : (enP g.2 i ++ enQ g.2 i q).length < 64 := by rw [List.length_append]; omega
      have LL : (sJ M3 (m + 28) (enP g.2 i ++ enQ g.2 i q).length (lN (fuC g.2 i g.2 q))).1 = M3.1 := rfl
      refine gX12_laysEnds_39 s3.1 (by rw [f47.1]; exact f47.2.1) (fun c3 => ?_) (fun c3 => ?_) (fun c3 => ?_) <;> rw [pk_lEQ (by omega) (by decide)] at c3
      · rw [f47.1, f47.2.2, hE3.1]; exact z_in ll (by decide)
      · rw [f47.1, hE3.1, nI_clamp (by omega), rI_J, hE3.1, nI_add, nI_add]
        have w3 := wdC_fu hG hlt hql c3
        refine ih2 hql (by omega) _ (fw F3) ?_
        rw [enQ_yes ⟨hpq, c3⟩, ← List.append_assoc]
        have := hE3.snoc (wdC (fuC g.2 i g.2 q))
        rw [← w3.2.2] at this
        exact this
      · rw [nI_add]
        refine ih2 hql (by omega) M3 F3 ?_
        rw [enQ_no (fun z => z.2 c3)]; exact hE3
/-- what the tests behind a word answer, by those behind longer ones -/
theorem w_tbh (hI : PI A N p) (hN : N ≤ 4600) (hg : qg p = some g) {Y : List (List Nat)} (hY : Y.length < 32768) (hE14 : ∀ e, e ∈ E → vw (pl A) e ∧ e.length ≤ 14) (hE64 : E.length ≤ 64) {k : Nat} {w : List Nat} (hd : k + 5 < d) (hw : vw (pl A) w) (hwl : w.length + k ≤ 16) (hS : MoS Mz M m X A st sp p R) (hT : MoTs M m A g.2 (qs p).1 S) (hE : MoE M m E) (hnd : S.1.Nodup) (hSY : ∀ v, v ∈ S.1 → v ∈ Y) (htY : ∀ v, v ∈ tB (pl A) E k w → v ∈ Y)
    (rec : ∀ k', k = k' + 1 → ∀ {d : Nat} {w : List Nat} {M : Mem} {S : List (List Nat) × Nat} {Q : Option Value → Mem → Prop}, k' + 5 < d → vw (pl A) w → w.length + k' ≤ 16 → MoS Mz M m X A st sp p R → MoTs M m A g.2 (qs p).1 S → MoE M m E → S.1.Nodup → (∀ v, v ∈ S.1 → v ∈ Y) → (∀ v, v ∈ tB (pl A) E k' w → v ∈ Y) →
      (∀ M', Sm [m, m + 27] M M' → (∀ j, j < 42 ∨ 45 < j → mI M' m j = mI M m j) → (∀ j, j ≠ 46 → mJ M' m j = mJ M m j) → MoTs M' m A g.2 (qs p).1 (aSs 0 1 S (tB (pl A) E k' w)) → Q none M') → ClD d mdX12_testsBehind [.ref m, .long (lN (cd w)), .int (nI k')] M Q)
    (h : ∀ M', Sm [m, m + 27] M M' → (∀ j, j < 42 ∨ 45 < j → mI M' m j = mI M m j) → (∀ j, j ≠ 46 → mJ M' m j = mJ M m j) → MoTs M' m A g.2 (qs p).1 (aSs 0 1 S (tB (pl A) E k w)) → Q none M') : ClD d mdX12_testsBehind [.ref m, .long (lN (cd w)), .int (nI k)] M Q := by
  have hA := hS.sh.2
  have l3 := hA.2.1.2
  let FR : Mem → Prop := fun M1 => Sm [m, m + 27] M M1 ∧ (∀ j, j < 42 ∨ 45 < j → mI M1 m j = mI M m j) ∧ ∀ j, j ≠ 46 → mJ M1 m j = mJ M m j
  have fS : ∀ {M1}, FR M1 → MoS Mz M1 m X A st sp p R := fun F => hS.ft ⟨F.1.mono (fun q hq => by simp at hq ⊢; omega), fun j hj => F.2.1 j (by omega)⟩
  have fE : ∀ {M1}, FR M1 → MoE M1 m E := fun F => hE.cg (F.2.1 48 (by decide)) (F.1.J (by simp))
  have cap : ∀ L : List (List Nat), (∀ v, v ∈ L → v ∈ Y) → (aSs 0 1 S L).1.length < 32768 := fun L hL => by
    have := nodupW_le (aSs_nodup (st := 0) (sp := 1) (L := L) hnd) (K := Y) (fun v hv => by
      rcases (aSs_mem 0 1 S L v).mp hv with q | q
      · exact hSY v q
      · exact hL v q)
    omega
  refine ⟨k + 5, hd, Cl.of moX12_testsBehind (Nat.le_of_ble_eq_true rfl) (gX12_testsBehind_0 ?_)⟩
  refine upto E.length (fun e => ∀ M1, FR M1 → MoTs M1 m A g.2 (qs p).1 (aSs 0 1 S ((E.take e).map (fun u => w ++ u))) → Wp (k + 5) mdX12_testsBehind 3 [(0, .ref m), (1, .long (lN (cd w))), (3, .int (nI k)), (4, .int (nI e))] [] M1 (fun r M' => ROK mdX12_testsBehind r ∧ Q r M')) ?_ 0 (Nat.zero_le _) M ⟨Sm.rf _ _, fun _ _ => rfl, fun _ _ => rfl⟩ hT
  intro e he ih M1 F1 hT1
  have hS1 := fS F1
  have s1 := hS1.sh.1
  have f47 := s1.f47
  have hE1 := fE F1
  refine gX12_testsBehind_3 s1.1 (by rw [f47.1]; exact f47.2.1) (fun c => ?_) (fun c => ?_) (fun c => ?_) <;> rw [hE1.1, nI_leI (by omega) (by omega)] at c
  · have ee : e = E.length := by omega
    subst ee
    rw [List.take_length] at hT1
    cases k with
    | zero =>
      have := h M1 F1.1 F1.2.1 F1.2.2 hT1
      have k0 : (nI 0 : Int32) ≤ 0 := by decide
      exact gX12_testsBehind_36 s1.1 (fun _ => ⟨rfl, this⟩) (fun _ _ => ⟨rfl, this⟩) (fun _ c => absurd k0 c)
    | succ k =>
      refine upto (pl A) (fun x => ∀ M2, FR M2 → MoTs M2 m A g.2 (qs p).1 (aSs 0 1 S (E.map (fun u => w ++ u) ++ (List.range x).flatMap (fun x => tB (pl A) E k (w ++ [x])))) → Wp (k + 1 + 5) mdX12_testsBehind 36 [(0, .ref m), (1, .long (lN (cd w))), (3, .int (nI (k + 1))), (4, .int (nI x))] [] M2 (fun r M' => ROK mdX12_testsBehind r ∧ Q r M')) ?_ 0 (Nat.zero_le _) M1 F1 (by simpa using hT1)
      intro x hx ih2 M2 F2 hT2
      have hS2 := fS F2
      have s2 := hS2.sh.1
      refine gX12_testsBehind_36 s2.1 (fun c2 => ⟨rfl, ?_⟩) (fun c2 c3 => absurd c3 (nI_nle (by omega) (by omega))) (fun c2 _ => ?_) <;> rw [hS2.l3.1, nI_leI (by omega) (by omega)] at c2
      · have ex : x = pl A := by omega
        subst ex
        exact h M2 F2.1 F2.2.1 F2.2.2 hT2
      · have hxl : x < pl A := by omega
        have hwx : vw (pl A) (w ++ [x]) := vw_app.mpr ⟨hw, fun v hv => by rw [List.mem_singleton] at hv; rw [hv]; exact hxl⟩
        have hsub : ∀ y, y ≤ x → ∀ v, v ∈ tB (pl A) E k (w ++ [y]) → v ∈ Y := fun y hy v hv => htY v (List.mem_append.mpr (Or.inr (List.mem_flatMap.mpr ⟨y, List.mem_range.mpr (by omega), hv⟩)))
        refine w_X12_longer (by omega) (by omega) (gX12_testsBehind_56 s2.1 ?_)
        rw [z_sub (by omega), show k + 1 - 1 = k by omega]
        refine rec k rfl (by omega) hwx (by rw [List.length_append, List.length_singleton]; omega) hS2 hT2 (fE F2) (aSs_nodup hnd) (fun v hv => ?_) (hsub x (Nat.le_refl _)) (fun M3 F3 i3 j3 hT3 => gX12_testsBehind_62 ?_)
        · rcases (aSs_mem 0 1 S _ v).mp hv with q | q
          · exact hSY v q
          · rcases List.mem_append.mp q with q | q
            · exact htY v (tB_map q)
            · obtain ⟨y, y1, y2⟩ := List.mem_flatMap.mp q
              exact hsub y (by have := List.mem_range.mp y1; omega) v y2
        · rw [nI_add]
          refine ih2 hxl M3 ⟨F2.1.tr F3, fun j hj => (i3 j hj).trans (F2.2.1 j hj), fun j hj => (j3 j hj).trans (F2.2.2 j hj)⟩ ?_
          rw [rng_flat, ← List.append_assoc, aSs_app]; exact hT3
  · rw [f47.1, f47.2.2]; exact z_in (by omega) (by decide)
  · have hel : e < E.length := by omega
    have he14 := hE14 _ (getD_mem hel)
    have sub : ∀ v, v ∈ (E.take e).map (fun u => w ++ u) → v ∈ Y := fun v hv => by
      obtain ⟨u, u1, u2⟩ := List.mem_map.mp hv
      exact htY v (tB_map (List.mem_map.mpr ⟨u, List.mem_of_mem_take u1, u2⟩))
    have lw : (w ++ E.getD e []).length ≤ 30 := by rw [List.length_append]; omega
    rw [f47.1, nI_clamp (by omega), hE1.2 e hel]
    refine w_X12_both (by omega) (vw_mono hw (by omega)) (vw_mono he14.1 (by omega)) (by omega) (gX12_testsBehind_24 s1.1 ?_)
    refine w_X12_tests (by omega) hS1 hI hN hg hT1 (cap _ sub) (vw_app.mpr ⟨hw, he14.1⟩) lw (fun M2 F2 i2 j2 hT2 => gX12_testsBehind_27 ?_)
    rw [nI_add]
    refine ih hel M2 ⟨F1.1.tr F2, fun j hj => (i2 j hj).trans (F1.2.1 j hj), fun j hj => (j2 j hj).trans (F1.2.2 j hj)⟩ ?_
    rw [take_map _ hel, aSs_snoc]; exact hT2
theorem w_X12_testsBehind (hI : PI A N p) (hN : N ≤ 4600) (hg : qg p = some g) {Y : List (List Nat)} (hY : Y.length < 32768) (hE14 : ∀ e, e ∈ E → vw (pl A) e ∧ e.length ≤ 14) (hE64 : E.length ≤ 64) : ∀ k {d : Nat} {w : List Nat} {M : Mem} {S : List (List Nat) × Nat} {Q : Option Value → Mem → Prop}, k + 5 < d → vw (pl A) w → w.length + k ≤ 16 → MoS Mz M m X A st sp p R → MoTs M m A g.2 (qs p).1 S → MoE M m E → S.1.Nodup → (∀ v, v ∈ S.1 → v ∈ Y) → (∀ v, v ∈ tB (pl A) E k w → v ∈ Y) →
    (∀ M', Sm [m, m + 27] M M' → (∀ j, j < 42 ∨ 45 < j → mI M' m j = mI M m j) → (∀ j, j ≠ 46 → mJ M' m j = mJ M m j) → MoTs M' m A g.2 (qs p).1 (aSs 0 1 S (tB (pl A) E k w)) → Q none M') → ClD d mdX12_testsBehind [.ref m, .long (lN (cd w)), .int (nI k)] M Q := by
  intro k
  induction k with
  | zero =>
    intro d w M S Q hd hw hwl hS hT hE hnd hSY htY h
    exact w_tbh hI hN hg hY hE14 hE64 (k := 0) (by omega) hw hwl hS hT hE hnd hSY htY (fun k' q => absurd q (by omega)) h
  | succ k ih =>
    intro d w M S Q hd hw hwl hS hT hE hnd hSY htY h
    exact w_tbh hI hN hg hY hE14 hE64 (k := k + 1) (by omega) hw hwl hS hT hE hnd hSY htY (fun k' q => by
      have e : k' = k := by omega
      subst e
      exact fun {d w M S Q} => ih) h
end MTb
