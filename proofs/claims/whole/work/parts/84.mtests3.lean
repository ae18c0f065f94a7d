/-! the reference: the tests are laid, told, passed -/
noncomputable def lrT (G : PM) (k s : Nat) : List (List Nat) := match reW G s with
  | none => []
  | some f => tB (pl G) (enL G) k f ++ (List.range (pl G)).flatMap (fun x => tB (pl G) (enL G) k (f ++ [x]))
theorem lrT_mem {G : PM} {k s : Nat} {v : List Nat} : v ∈ lrT G k s ↔ ∃ f m e, reW G s = some f ∧ (vw (pl G) m ∧ m.length ≤ k + 1) ∧ e ∈ enL G ∧ v = f ++ m ++ e := by
  unfold lrT
  cases hf : reW G s with
  | none =>
    constructor
    · intro h; simp at h
    · rintro ⟨f, m, e, h, _⟩; cases h
  | some f =>
    show v ∈ tB (pl G) (enL G) k f ++ (List.range (pl G)).flatMap (fun x => tB (pl G) (enL G) k (f ++ [x])) ↔ _
    rw [List.mem_append, List.mem_flatMap]
    constructor
    · rintro (h | ⟨x, hx, h⟩)
      · obtain ⟨m, e, h1, h2, h3, h4⟩ := tB_mem.mp h
        exact ⟨f, m, e, rfl, ⟨h1, by omega⟩, h3, h4⟩
      · obtain ⟨m, e, h1, h2, h3, h4⟩ := tB_mem.mp h
        exact ⟨f, x :: m, e, rfl, ⟨vw_cons.mpr ⟨List.mem_range.mp hx, h1⟩, by rw [List.length_cons]; omega⟩, h3, by rw [h4]; simp⟩
    · rintro ⟨f', m, e, h, ⟨h1, h2⟩, h3, h4⟩
      have e1 := Option.some.inj h
      subst e1
      cases m with
      | nil => exact Or.inl (tB_mem.mpr ⟨[], e, vw_nil _, Nat.zero_le _, h3, h4⟩)
      | cons x u =>
        rw [List.length_cons] at h2
        have g := vw_cons.mp h1
        exact Or.inr ⟨x, List.mem_range.mpr g.1, tB_mem.mpr ⟨u, e, g.2, by omega, h3, by rw [h4]; simp⟩⟩
theorem lrT_all {G : PM} {k : Nat} {v : List Nat} : v ∈ (List.range (pn G)).flatMap (lrT G k) ↔ isT G k v := by
  rw [List.mem_flatMap]
  constructor
  · rintro ⟨s, hs, h⟩
    obtain ⟨f, m, e, h⟩ := lrT_mem.mp h
    exact ⟨s, f, m, e, List.mem_range.mp hs, h⟩
  · rintro ⟨s, f, m, e, hs, h⟩
    exact ⟨s, List.mem_range.mpr hs, lrT_mem.mpr ⟨f, m, e, h⟩⟩
theorem MoTs.nil {M : Mem} {m : Nat} {A G : PM} {s0 : List (List Nat)} (h27 : ∀ c, c < 32768 → mJ M (m + 27) c = lN 0) (h42 : mI M m 42 = nI 0) (h43 : mI M m 43 = nI 0) (h44 : mI M m 44 = nI 0) (h45 : mI M m 45 = nI 0) (h46 : mJ M m 46 = lN 0) : MoTs M m A G s0 ([], 0) :=
  ⟨fun _ => 0, fun c hc => ⟨h27 c hc, show 0 < 2 ^ 61 by decide⟩, hinv_0 _ _, fun c => ⟨fun ⟨w, hw, _⟩ => by simp at hw, fun ⟨h, k, _, e⟩ => absurd e.symm h⟩, nzc_0 _, ⟨h42, h43, h44, h45⟩, ⟨0, h46, Or.inl ⟨rfl, fun w hw => by simp at hw⟩, by decide⟩, fun w hw => by simp at hw, List.nodup_nil⟩
section MTc
variable {d m st sp N : Nat} {Q : Option Value → Mem → Prop} {Mz M M' : Mem} {A G : PM} {p p' : PS} {X : List Nat} {R : List Int64} {g : GU}
theorem w_X12_laysTests {k : Nat} (hd : 8 < d) (hk : k ≤ 2) (hS : MoS Mz M m X A st sp p R) (hI : PI A N p) (hN : N ≤ 4600) (hg : qg p = some g)
    (h : ∀ M' S, Ft m M M' → MoTs M' m A g.2 (qs p).1 S → eqS S (tsS g.2 k) → Q none M') : ClD d mdX12_laysTests [.ref m, .int (nI k)] M Q := by
  have hA := hS.sh.2
  have hgu := hI.gu hA hg
  have hG := hgu.1
  have g8 := hG.1.2
  have hl : pl g.2 = pl A := hgu.2.1
  have l3 := hG.2.1.2
  refine ⟨8, hd, Cl.of moX12_laysTests (Nat.le_of_ble_eq_true rfl) (gX12_laysTests_0 ?_)⟩
  refine upto 32768 (fun i => ∀ M1, Sm [m + 27] M M1 → (∀ e, e < i → mJ M1 (m + 27) e = lN 0) → Wp 8 mdX12_laysTests 2 [(0, .ref m), (1, .int (nI k)), (2, .int (nI i))] [] M1 (fun r M' => ROK mdX12_laysTests r ∧ Q r M')) ?_ 0 (Nat.zero_le _) M (Sm.rf _ _) (fun e he => by omega)
  intro i hi ih M1 S1 hz
  have F1 : Ft m M M1 := Ft.s S1 (by simp)
  have hS1 := hS.ft F1
  have s1 := hS1.sh.1
  have f41 := s1.f41
  refine gX12_laysTests_2 s1.1 (by rw [f41.1]; exact f41.2.1) (fun c => ?_) (fun c => ?_) (fun c => ?_) <;> rw [nI_leI (by decide) (by omega)] at c
  · have e : i = 32768 := by omega
    subst e
    obtain ⟨M2, hM2⟩ : ∃ M2, M2 = sJ (sI (sI (sI (sI M1 m 42 (nI 0)) m 43 (nI 0)) m 44 (nI 0)) m 45 (nI 0)) m 46 (lN 0) := ⟨_, rfl⟩
    rw [← hM2]
    have F2 : Ft m M M2 := by rw [hM2]; exact ((((F1.tr (Ft.i (by decide))).tr (Ft.i (by decide))).tr (Ft.i (by decide))).tr (Ft.i (by decide))).tr Ft.j
    have hT2 : MoTs M2 m A g.2 (qs p).1 ([], 0) := by
      refine MoTs.nil (fun c hc => ?_) ?_ ?_ ?_ ?_ ?_ <;> rw [hM2]
      · rw [rJ_np (by omega), rJ_I, rJ_I, rJ_I, rJ_I]; exact hz c hc
      · rw [rI_J, rI_nk (by decide), rI_nk (by decide), rI_nk (by decide)]; exact rI_at _ _ _ _
      · rw [rI_J, rI_nk (by decide), rI_nk (by decide)]; exact rI_at _ _ _ _
      · rw [rI_J, rI_nk (by decide)]; exact rI_at _ _ _ _
      · rw [rI_J]; exact rI_at _ _ _ _
      · exact rJ_at _ _ _ _
    clear hM2 hz S1 F1 hS1 s1 f41 ih
    have hS2 := hS.ft F2
    refine w_X12_laysEnds (by decide) hS2 hI hg (fun M3 S3 i3 j3 hE3 => ?_)
    have F3 : Ft m M M3 := F2.tr ⟨S3.mono (fun q hq => by simp at hq ⊢; omega), fun j hj => i3 j (by omega)⟩
    have hT3 := hT2.cg (M' := M3) (S3.J (by simp)) (fun j a b => i3 j (by omega)) (by rw [j3])
    have hS3 := hS.ft F3
    have G3 := hS3.g0.2 g hg
    refine gX12_laysTests_50 hS3.sh.1.1 (w_X12_laysReaching (by decide) hS3.sh.1 (by decide) G3.2.2.1 hG (by rw [hS3.l3.1, hl]) (fun M4 S4 hr => gX12_laysTests_55 ?_))
    have F4 : Ft m M M4 := F3.tr (Ft.s S4 (by simp))
    have hT4 := hT3.sm S4 (by simp) (by simp)
    have hE4 := hE3.cg (M' := M4) (by rw [S4.I (by simp)]) (S4.J (by simp))
    have hr26 : ∀ s, s < 8 → isRe (pl g.2) g.2 s (reC g.2 s) := fun s hs => (hr s hs).2
    have hY := rawT_len hG hk
    have e1 := enL_len hG
    let FR : Mem → Prop := fun M1 => Ft m M M1 ∧ MoE M1 m (enL g.2) ∧ ∀ s, s < 8 → mJ M1 (m + 26) s = lN (reC g.2 s)
    have fT : ∀ {M1 M2}, FR M1 → Sm [m, m + 27] M1 M2 → (∀ j, j < 42 ∨ 45 < j → mI M2 m j = mI M1 m j) → FR M2 := fun F S2 i2 => ⟨F.1.tr ⟨S2.mono (fun q hq => by simp at hq ⊢; omega), fun j hj => i2 j (by omega)⟩, F.2.1.cg (i2 48 (by decide)) (S2.J (by simp)), fun s hs => by rw [S2.J (by simp)]; exact F.2.2 s hs⟩
    have F4' : FR M4 := ⟨F4, hE4, fun s hs => (hr s hs).1⟩
    clear F4 F3 F2 hS2 hS3 G3 hT2 hT3 i3 j3 S3 S4 hE3 hE4 hr
    refine upto (pn g.2) (fun s => ∀ M1, FR M1 → MoTs M1 m A g.2 (qs p).1 (aSs 0 1 ([], 0) ((List.range s).flatMap (lrT g.2 k))) → Wp 8 mdX12_laysTests 57 [(0, .ref m), (1, .int (nI k)), (2, .int (nI s))] [] M1 (fun r M' => ROK mdX12_laysTests r ∧ Q r M')) ?_ 0 (Nat.zero_le _) M4 F4' hT4
    clear F4' hT4
    intro s hs ih M1 F1 hT1
    have hS1 := hS.ft F1.1
    have s1 := hS1.sh.1
    have f4 := s1.f4
    have f40 := s1.f40
    have em : mI M1 (mR M1 m 4) (nI 1).toNatClampNeg = nI (pn g.2) := by rw [f4.1, nI_clamp (by decide)]; exact (hS1.g0.2 g hg).2.2.1.1
    have K40 : mK M1 (mR M1 m 40) = 2 := by rw [f40.1]; exact f40.2.1
    refine gX12_laysTests_57 s1.1 (by rw [f4.1]; exact f4.2.1) K40 (by rw [f4.1, f4.2.2]; exact z_in (by decide) (by decide)) (fun c => ⟨rfl, ?_⟩) (fun c => ?_) (fun c c2 => ?_) (fun c c2 => ?_) (fun c c2 => ?_) <;> rw [em, nI_leI (by omega) (by omega)] at c
    · have e : s = pn g.2 := by omega
      subst e
      exact h M1 _ F1.1 hT1 (tsS_eq (fun v => lrT_all))
    · rw [f40.1, f40.2.2]; exact z_in (by omega) (by decide)
    · rw [f40.1, f40.2.2]; exact z_in (by omega) (by decide)
    · have hsn : s < pn g.2 := by omega
      rw [f40.1, nI_clamp (by omega), F1.2.2 s (by omega)] at c2 ⊢
      have h0 : reC g.2 s ≠ 0 := fun q => c2 (by rw [q])
      obtain ⟨w1, w2, w3⟩ := reC_ex hG (hr26 s (by omega)) h0
      have hf := reW_1 h0
      obtain ⟨f, ef⟩ : ∃ f, f = wdC (reC g.2 s) := ⟨_, rfl⟩
      rw [← ef] at w1 w2 w3 hf
      have e26 : ∀ {M1}, FR M1 → mJ M1 (m + 26) s = lN (cd f) := fun F => by rw [F.2.2 s (by omega), w3]
      have elr : lrT g.2 k s = tB (pl g.2) (enL g.2) k f ++ (List.range (pl g.2)).flatMap (fun x => tB (pl g.2) (enL g.2) k (f ++ [x])) := by unfold lrT; rw [hf]
      have sub : ∀ v, v ∈ lrT g.2 k s → v ∈ rawT g.2 k := fun v hv => by
        obtain ⟨f, u, e, hh⟩ := lrT_mem.mp hv
        exact rawT_mem.mpr ⟨s, f, u, e, hsn, hh⟩
      have old : ∀ v, v ∈ (List.range s).flatMap (lrT g.2 k) → v ∈ rawT g.2 k := fun v hv => by
        obtain ⟨t, t1, t2⟩ := List.mem_flatMap.mp hv
        obtain ⟨f, u, e, hh⟩ := lrT_mem.mp t2
        exact rawT_mem.mpr ⟨t, f, u, e, by have := List.mem_range.mp t1; omega, hh⟩
      have sY : ∀ L : List (List Nat), (∀ v, v ∈ L → v ∈ rawT g.2 k) → ∀ v, v ∈ (aSs 0 1 ([], 0) L).1 → v ∈ rawT g.2 k := fun L hL v hv => by
        rcases (aSs_mem 0 1 _ L v).mp hv with q | q
        · simp at q
        · exact hL v q
      have tb1 : ∀ v, v ∈ tB (pl A) (enL g.2) k f → v ∈ rawT g.2 k := fun v hv => sub v (by rw [elr, hl]; exact List.mem_append.mpr (Or.inl hv))
      have tb2 : ∀ x, x < pl A → ∀ v, v ∈ tB (pl A) (enL g.2) k (f ++ [x]) → v ∈ rawT g.2 k := fun x hx v hv => sub v (by rw [elr, hl]; exact List.mem_append.mpr (Or.inr (List.mem_flatMap.mpr ⟨x, List.mem_range.mpr hx, hv⟩)))
      have eOK : ∀ e, e ∈ enL g.2 → vw (pl A) e ∧ e.length ≤ 14 := fun e he => by rw [← hl]; exact enL_ok hG he
      rw [w3]
      refine w_X12_testsBehind hI hN hg (Y := rawT g.2 k) (by omega) eOK (by omega) k (by omega) (by rw [← hl]; exact w1) (by omega) hS1 hT1 F1.2.1 (aSs_nodup List.nodup_nil) (sY _ old) tb1 (fun M2 S2 i2 j2 hT2 => gX12_laysTests_92 ?_)
      refine upto (pl A) (fun x => ∀ M2, FR M2 → MoTs M2 m A g.2 (qs p).1 (aSs 0 1 ([], 0) ((List.range s).flatMap (lrT g.2 k) ++ (tB (pl A) (enL g.2) k f ++ (List.range x).flatMap (fun x => tB (pl A) (enL g.2) k (f ++ [x]))))) → Wp 8 mdX12_laysTests 94 [(0, .ref m), (1, .int (nI k)), (2, .int (nI s)), (3, .int (nI x))] [] M2 (fun r M' => ROK mdX12_laysTests r ∧ Q r M')) ?_ 0 (Nat.zero_le _) M2 (fT F1 S2 i2) (by rw [aSs_app]; simpa using hT2)
      clear hT2 S2 i2 j2 M2
      intro x hx ih2 M2 F2 hT2
      have hS2 := hS.ft F2.1
      have s2 := hS2.sh.1
      have f40 := s2.f40
      refine gX12_laysTests_94 s2.1 (by rw [f40.1]; exact f40.2.1) (fun c5 => ?_) (fun c5 => ?_) (fun c5 => ?_) <;> rw [hS2.l3.1, nI_leI (by omega) (by omega)] at c5
      · have ex : x = pl A := by omega
        subst ex
        rw [nI_add]
        refine ih hsn M2 F2 ?_
        rw [rng_flat, elr, hl]; exact hT2
      · rw [f40.1, f40.2.2]; exact z_in (by omega) (by decide)
      · have hxl : x < pl A := by omega
        rw [f40.1, nI_clamp (by omega), e26 F2]
        refine w_X12_longer (by decide) (by omega) (gX12_laysTests_113 s2.1 ?_)
        refine w_X12_testsBehind hI hN hg (Y := rawT g.2 k) (by omega) eOK (by omega) k (by omega) (vw_app.mpr ⟨by rw [← hl]; exact w1, fun v hv => by rw [List.mem_singleton] at hv; rw [hv]; exact hxl⟩) (by rw [List.length_append, List.length_singleton]; omega) hS2 hT2 F2.2.1 (aSs_nodup List.nodup_nil) (sY _ (fun v hv => ?_)) (tb2 x hxl) (fun M3 S3 i3 j3 hT3 => gX12_laysTests_117 ?_)
        · rcases List.mem_append.mp hv with q | q
          · exact old v q
          · rcases List.mem_append.mp q with q | q
            · exact tb1 v q
            · obtain ⟨y, y1, y2⟩ := List.mem_flatMap.mp q
              exact tb2 y (by have := List.mem_range.mp y1; omega) v y2
        · rw [nI_add]
          refine ih2 hxl M3 (fT F2 S3 i3) ?_
          rw [rng_flat, ← List.append_assoc (tB (pl A) (enL g.2) k f), ← List.append_assoc ((List.range s).flatMap (lrT g.2 k)), aSs_app]
          exact hT3
    · rw [f40.1, nI_clamp (by omega), F1.2.2 s (by omega)] at c2
      have hlt : reC g.2 s < 2 ^ 61 := by
        rcases hr26 s (by omega) with ⟨e, _⟩ | ⟨w, h1, h2, e, _⟩
        · rw [e]; decide
        · rw [e]; exact cd30 (vw_mono h1 (by omega)) (by omega)
      rw [pk_lEQ (by omega) (by decide)] at c2
      rw [nI_add]
      refine ih (by omega) M1 F1 ?_
      have e0 : lrT g.2 k s = [] := by unfold lrT; rw [reW_0 c2]
      rw [rng_flat, e0, List.append_nil]; exact hT1
  · rw [f41.1, f41.2.2]; exact z_in (by omega) (by decide)
  · rw [f41.1, nI_clamp (by omega), nI_add]
    refine ih (by omega) _ (S1.tr (Sm.sJ (by simp) _ _ _)) (fun e he => ?_)
    by_cases ee : e = i
    · subst ee; exact rJ_at _ _ _ _
    · rw [rJ_nk ee]; exact hz e (by omega)
theorem w_X12_tests_ {x : Int32} (hd : 9 < d) (hS : MoS Mz M m X A st sp p R) (hI : PI A N p) (hN : N ≤ 4600) (h1 : ∀ M', MoS Mz M' m X A st sp p R → ((¬ ∃ k, k ≤ 2 ∧ x = nI k) → Q (some (.int (-1 : Int32))) M') ∧ ∀ k, k ≤ 2 → x = nI k → qg p = none → Q (some (.int (-2 : Int32))) M')
    (h2 : ∀ M' k g, k ≤ 2 → x = nI k → qg p = some g → MoS Mz M' m X A st sp p (tsR A g.2 (qs p).1 k) → Q (some (.int (nI (tsS g.2 k).1.length))) M') : ClD d mdX12_tests_ [.ref m, .int x] M Q := by
  obtain ⟨M1, hM1⟩ : ∃ M1, M1 = sI M m 0 (nI 0) := ⟨_, rfl⟩
  have hS1 : MoS Mz M1 m X A st sp p R := by rw [hM1]; exact hS.th
  have s1 := hS1.sh.1
  have h1 := h1 M1 hS1
  have f20 := s1.f20
  have K : mK M1 (mR M1 m 20) = 3 := by rw [f20.1]; exact f20.2.1
  have one : ¬ (nI 1 : Int32) = 0 := by decide
  refine ⟨9, hd, Cl.of moX12_tests_ (Nat.le_of_ble_eq_true rfl) (gX12_tests__0 hS.sh.1.1 ?_)⟩
  rw [← hM1]
  refine w_inI (a := 0) (b := 2) (by decide) (by decide) (by decide) (fun k _ hk ek => gX12_tests__14 s1.1 K (fun _ => by rw [f20.1, f20.2.2]; exact z_in (by decide) (by decide)) (fun _ c => ?_) (fun _ c => ⟨⟨_, rfl⟩, ?_⟩) (fun c => absurd c one)) (fun hn => gX12_tests__14 s1.1 K (fun c => absurd rfl c) (fun c => absurd rfl c) (fun c => absurd rfl c) (fun _ => ⟨⟨_, rfl⟩, h1.1 (fun ⟨k, k1, k2⟩ => hn ⟨k, Nat.zero_le _, k1, k2⟩)⟩))
  · rw [f20.1, nI_clamp (by decide)] at c
    cases hg : qg p with
    | none => rw [hS1.g0.1 hg] at c; exact absurd rfl c
    | some g =>
      have h2 := fun M' => h2 M' k g hk ek hg
      rw [ek]
      refine w_X12_laysTests (by decide) hk hS1 hI hN hg (fun M2 S F2 hT2 eS => ?_)
      have hS2 := hS1.ft F2
      obtain ⟨T, -, -, -, -, ⟨t5, t6, t7, t8⟩, -, -, t13⟩ := hT2
      have ex := mxL_cg eS.2.1
      have ea := asN_cg (s := (qs p).1) (t := (qs p).1) eS.1.1 eS.1.2 eS.2.1 (fun _ => Iff.rfl)
      rw [eS.len] at t5
      rw [eS.2.2] at t6
      rw [ex] at t7
      rw [ea] at t8
      refine gX12_tests__36 hS2.sh.1.1 ?_
      rw [rI_nk (by decide), t6]
      refine w_enS (by decide) hS2.nil (by decide) (fun M3 S3 _ f3 => gX12_tests__50 S3.sh.1.1 ?_)
      rw [f3 44 (by decide), rI_nk (by decide), t7]
      refine w_enS (by decide) S3 (by show 1 < 16; decide) (fun M4 S4 _ f4 => gX12_tests__59 S4.sh.1.1 ?_)
      rw [f4 45 (by decide), f3 45 (by decide), rI_nk (by decide), t8]
      refine w_enS (by decide) S4 (by show 2 < 16; decide) (fun M5 S5 _ f5 => gX12_tests__68 S5.sh.1.1 ⟨⟨_, rfl⟩, ?_⟩)
      rw [f5 42 (by decide), f4 42 (by decide), f3 42 (by decide), rI_nk (by decide), t5]
      exact h2 M5 S5
  · rw [f20.1, nI_clamp (by decide)] at c
    cases hg : qg p with
    | none => exact h1.2 k hk ek hg
    | some g => rw [(hS1.g0.2 g hg).1] at c; exact absurd c (by decide)
theorem w_X12_passes {x : Int32} (hd : 9 < d) (hS : MoS Mz M m X A st sp p R) (hI : PI A N p) (hN : N ≤ 4600) (h : ∀ M', MoS Mz M' m X A st sp p R → ((¬ ∃ k, k ≤ 2 ∧ x = nI k) → Q (some (.long (-1 : Int64))) M') ∧ ∀ k, k ≤ 2 → x = nI k → (qg p = none → Q (some (.long (-2 : Int64))) M') ∧ ∀ g, qg p = some g → Q (some (.long (lN (lwC g.2 A (tsS g.2 k).1)))) M') : ClD d mdX12_passes [.ref m, .int x] M Q := by
  obtain ⟨M1, hM1⟩ : ∃ M1, M1 = sI M m 0 (nI 0) := ⟨_, rfl⟩
  have hS1 : MoS Mz M1 m X A st sp p R := by rw [hM1]; exact hS.th
  have s1 := hS1.sh.1
  have h1 := h M1 hS1
  have f20 := s1.f20
  have K : mK M1 (mR M1 m 20) = 3 := by rw [f20.1]; exact f20.2.1
  have one : ¬ (nI 1 : Int32) = 0 := by decide
  refine ⟨9, hd, Cl.of moX12_passes (Nat.le_of_ble_eq_true rfl) (gX12_passes_0 hS.sh.1.1 ?_)⟩
  rw [← hM1]
  refine w_inI (a := 0) (b := 2) (by decide) (by decide) (by decide) (fun k _ hk ek => gX12_passes_14 s1.1 K (fun _ => by rw [f20.1, f20.2.2]; exact z_in (by decide) (by decide)) (fun _ c => ?_) (fun _ c => ⟨⟨_, rfl⟩, ?_⟩) (fun c => absurd c one)) (fun hn => gX12_passes_14 s1.1 K (fun c => absurd rfl c) (fun c => absurd rfl c) (fun c => absurd rfl c) (fun _ => ⟨⟨_, rfl⟩, h1.1 (fun ⟨k, k1, k2⟩ => hn ⟨k, Nat.zero_le _, k1, k2⟩)⟩))
  · rw [f20.1, nI_clamp (by decide)] at c
    cases hg : qg p with
    | none => rw [hS1.g0.1 hg] at c; exact absurd rfl c
    | some g =>
      rw [ek]
      refine w_X12_laysTests (by decide) hk hS1 hI hN hg (fun M2 S F2 hT2 eS => ?_)
      have hS2 := hS1.ft F2
      obtain ⟨T, -, -, -, -, -, ⟨c, c1, c2, -⟩, -⟩ := hT2
      refine gX12_passes_39 hS2.sh.1.1 ⟨⟨_, rfl⟩, ?_⟩
      have c3 : isLW g.2 A (tsS g.2 k).1 c := by
        rcases c2 with ⟨q1, q2⟩ | ⟨w, q1, q2, q3, q4⟩
        · exact Or.inl ⟨q1, fun w hw => q2 w ((eS.2.1 w).mpr hw)⟩
        · exact Or.inr ⟨w, (eS.2.1 w).mp q1, q2, q3, fun u hu => q4 u ((eS.2.1 u).mpr hu)⟩
      rw [c1, ← lwC_of c3]
      exact ((h M2 hS2).2 k hk ek).2 g hg
  · rw [f20.1, nI_clamp (by decide)] at c
    cases hg : qg p with
    | none => exact (h1.2 k hk ek).1 hg
    | some g => rw [(hS1.g0.2 g hg).1] at c; exact absurd c (by decide)
end MTc
