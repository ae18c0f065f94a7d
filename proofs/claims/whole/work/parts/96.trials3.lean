/-! the class's face: tests and passes -/
/-- tests of the first states -/
def isTs (G : PM) (k n : Nat) (v : List Nat) : Prop := ∃ s f m e, s < n ∧ reW G s = some f ∧ (vw (pl G) m ∧ m.length ≤ k + 1) ∧ e ∈ enL G ∧ v = f ++ m ++ e
theorem isTs_s0 {G : PM} {k n : Nat} (h : reW G n = none) {v : List Nat} : isTs G k (n + 1) v ↔ isTs G k n v := by
  constructor
  · rintro ⟨s, f, m, e, h1, h2, h3⟩
    by_cases c : s = n
    · subst c; rw [h] at h2; cases h2
    · exact ⟨s, f, m, e, by omega, h2, h3⟩
  · rintro ⟨s, f, m, e, h1, h2⟩
    exact ⟨s, f, m, e, by omega, h2⟩
theorem isTs_s1 {G : PM} {k n : Nat} {f : List Nat} (h : reW G n = some f) {v : List Nat} : isTs G k (n + 1) v ↔ isTs G k n v ∨ ∃ m e, (vw (pl G) m ∧ m.length ≤ k + 1) ∧ e ∈ enL G ∧ v = f ++ m ++ e := by
  constructor
  · rintro ⟨s, f', m, e, h1, h2, h3⟩
    by_cases c : s = n
    · subst c; rw [h] at h2; cases h2
      exact Or.inr ⟨m, e, h3⟩
    · exact Or.inl ⟨s, f', m, e, by omega, h2, h3⟩
  · rintro (⟨s, f', m, e, h1, h2⟩ | ⟨m, e, h3⟩)
    · exact ⟨s, f', m, e, by omega, h2⟩
    · exact ⟨n, f, m, e, by omega, h, h3⟩
noncomputable def cvT (G : PM) (k : Nat) (E : List (List Nat)) : List (List Nat) := (List.range (pn G)).flatMap (fun s => match reW G s with
  | none => []
  | some f => (wL (pl G) (k + 1)).flatMap (fun m => E.map (fun e => f ++ m ++ e)))
theorem cvT_mem {G : PM} {k : Nat} {E : List (List Nat)} {v : List Nat} : v ∈ cvT G k E ↔ ∃ s f m e, s < pn G ∧ reW G s = some f ∧ (vw (pl G) m ∧ m.length ≤ k + 1) ∧ e ∈ E ∧ v = f ++ m ++ e := by
  unfold cvT
  rw [List.mem_flatMap]
  constructor
  · rintro ⟨s, hs, h⟩
    rw [List.mem_range] at hs
    cases e : reW G s with
    | none => rw [e] at h; simp at h
    | some f =>
      rw [e] at h
      obtain ⟨m, hm, h2⟩ := List.mem_flatMap.mp h
      obtain ⟨u, hu, e2⟩ := List.mem_map.mp h2
      exact ⟨s, f, m, u, hs, e, wL_mem.mp hm, hu, e2.symm⟩
  · rintro ⟨s, f, m, e, hs, hf, hm, he, hv⟩
    refine ⟨s, List.mem_range.mpr hs, ?_⟩
    rw [hf]
    exact List.mem_flatMap.mpr ⟨m, wL_mem.mpr hm, List.mem_map.mpr ⟨e, he, hv.symm⟩⟩
theorem cvT_len {G : PM} (hG : okM G) {k : Nat} (hk : k ≤ 2) {E : List (List Nat)} (hE : E.length ≤ 8) : (cvT G k E).length ≤ 2560 := by
  have e2 := wL_40 (l := pl G) (k := k + 1) hG.2.1.2 (by omega)
  have h := flat_len (f := fun s => match reW G s with
    | none => []
    | some f => (wL (pl G) (k + 1)).flatMap (fun m => E.map (fun e => f ++ m ++ e))) (b := 320) (L := List.range (pn G)) (fun s _ => by
      cases e : reW G s with
      | none => simp
      | some f =>
        have g := flat_len (f := fun m => E.map (fun e => f ++ m ++ e)) (b := 8) (L := wL (pl G) (k + 1)) (fun m _ => by rw [List.length_map]; exact hE)
        show ((wL (pl G) (k + 1)).flatMap (fun m => E.map (fun e => f ++ m ++ e))).length ≤ _
        have := Nat.mul_le_mul_right 8 e2
        omega)
  rw [List.length_range] at h
  have := Nat.mul_le_mul_right 320 hG.1.2
  unfold cvT
  omega
theorem isLW_cg {G A : PM} {L K : List (List Nat)} {c : Nat} (hK : ∀ w, w ∈ L ↔ w ∈ K) (h : isLW G A L c) : isLW G A K c := by
  rcases h with ⟨h1, h2⟩ | ⟨w, h1, h2, h3, h4⟩
  · exact Or.inl ⟨h1, fun w hw => h2 w ((hK w).mpr hw)⟩
  · exact Or.inr ⟨w, (hK w).mp h1, h2, h3, fun u hu => h4 u ((hK u).mpr hu)⟩
section XTt
variable {d st sp N : Nat} {Q : Option Value → Mem → Prop} {Mz M M' M1 : Mem} {A B : PM} {p : PS} {X : List Nat} {R : List Int64} {g : GU} {L E S : List (List Nat)}
theorem w_ans {q : Nat} {w : List Nat} (hd : 3 < d) (hs : MacSh M q) (ha : MacAt M q B) (hB : okM B) (hw : vw (pl B) w) (hl : w.length ≤ 30) (h : Q (some (.int (nI (an B 0 w)))) M) : ClD d mdX2_answer [.ref q, .long (lN (cd w))] M Q := by
  refine w_X2_answer hd hs ha hB.bd (vw_mono hw (show pl B ≤ 4 by have := hB.2.1.2; omega)) hl ?_
  rw [rnO_ok hB hB.1.1 hw, show ouO B (some (rn (pt B) 0 w)) = some (an B 0 w) from if_pos (rn_lt hB hB.1.1 hw)]
  exact h
theorem w_gT {k : Nat} (hd : 5 < d) (hk : k ≤ 2) (hS : CX Mz M X A st sp p R) (hI : PI A N p) (hg : qg p = some g) (h : ∀ M' S, CX Mz M' X A st sp p R → TrI M' S → (∀ v, v ∈ S ↔ isT g.2 k v) → (∀ s, s < pn g.2 → isRe (pl g.2) g.2 s (reC g.2 s)) → Q none M') : ClD d mdX11_gatherTrials [.ref 2, .int (nI k)] M Q := by
  have gm := fun M1 (hS1 : CX Mz M1 X A st sp p R) => hS1.gm hI hg
  obtain ⟨-, -, hG, hgl, nq⟩ := gm M hS
  have n8 := hG.1.2
  have l3 := hG.2.1.2
  have l1 := hG.2.1.1
  have E6 : ∀ M1, CX Mz M1 X A st sp p R → mR M1 2 6 = 82 := fun M1 h1 => h1.r.2.2.1
  have E3 : ∀ M1, CX Mz M1 X A st sp p R → mR M1 2 3 = 13 := fun M1 h1 => h1.r.1.2.2.2.1
  have sea : ∀ M1, CX Mz M1 X A st sp p R → SeaSh M1 13 := fun M1 h1 => h1.1.1.2.2
  obtain ⟨cn, bb, ebb, nt, n0, n1, n2, n3, n4, n5, nb, k6, -⟩ := hS.gg
  have K2 : mK M (mR M (mR M 2 4) 3) = cn + 4 := by rw [n2]; exact n1
  refine ⟨5, hd, Cl.of moX11_gatherTrials (Nat.le_of_ble_eq_true rfl) (gX11_gatherTrials_0 hS.k k6 n0 K2 ?_)⟩
  rw [n2, n3, ebb]
  obtain ⟨q0, hq0⟩ : ∃ q0, q0 = bP 18 p + 7 := ⟨_, rfl⟩
  refine w_gP (by decide) hS hI hg (fun M1 E h1 hE1 he0 he hok hm => ?_)
  rw [← hq0] at gm nq ⊢
  have hokE : ∀ e, e ∈ E → vw 4 e ∧ e.length ≤ 14 := fun e hm2 => by
    have := enL_ok hG ((hm e).mp hm2)
    exact ⟨vw_mono this.1 (by omega), this.2⟩
  obtain ⟨kk, T, n, ts⟩ := h1.1.2.2.2.2.1
  have sl1 := h1.1.1.2.1
  have e82 : mR M1 82 1 = slq M1 81 := rfl
  refine gX11_gatherTrials_16 h1.k (by rw [E6 M1 h1]; exact ts.1.1) ?_
  rw [E6 M1 h1]
  refine w_X10_clear (by decide) ts (by have := sl1.1.2.2; omega) (fun M2 F2 ts2 => ?_)
  have Fa2 : Fa 81 [82] M1 M2 := ⟨(F2.mono (fun p hp => by simp only [List.mem_cons, List.not_mem_nil, or_false] at hp; simp only [List.mem_cons, List.not_mem_nil, or_false]; exact hp.symm)).fm, Or.inl (by unfold slq; rw [F2.2.1]), by unfold slq; rw [F2.2.1, F2.2.2.2.1, F2.2.2.2.2.1]; exact Nat.le_refl _, by unfold slq; rw [F2.2.1, F2.2.2.2.1, F2.2.2.2.2.2]; exact Nat.le_refl _⟩
  have h2 := h1.n81 Fa2 (fun q hq => by simpa using hq) ⟨kk, _, _, ts2⟩
  have hE2 : LstAt M2 84 E := hE1.ky (Ky.fa h1 Fa2 (fun q hq => by simpa using hq)) (by decide) (by decide)
  have g2 := gm M2 h2
  refine gX11_gatherTrials_23 h2.k (by rw [E3 M2 h2]; exact (sea M2 h2).1.1) ?_
  rw [E3 M2 h2]
  refine w_X5_walk (by decide) (sea M2 h2) g2.1 g2.2.1 hG (fun i hi hm => by simp at hm; omega) (fun M3 F3 re3 => ?_)
  have h3 : CX Mz M3 X A st sp p R := h2.fs F3 (fun q hq => by simp at hq; unfold frL; omega)
  have hE3 : LstAt M3 84 E := hE2.sm F3 (by simp) (by simp)
  have g3 := gm M3 h3
  have sl2 := h2.1.1.2.1
  have l8 := sl2.2.2.2
  have e82 : mR M2 82 1 = slq M2 81 := rfl
  have TR3 : TrI M3 [] := ⟨⟨kk, fun _ => 0, ts2.fm F3.fm (by omega) (by simp) (by have := sl2.1.2.2; simp; omega), fun c => ⟨fun ⟨w, hw, _⟩ => by simp at hw, fun ⟨z, i, _, z2⟩ => absurd z2.symm z⟩, by have := (p2k ts2.2.2.2.2.1 ts2.2.2.2.2.2).1; simp; omega⟩, fun w hw => by simp at hw, List.nodup_nil⟩
  have RE : ∀ s, s < pn g.2 → isRe (pl g.2) g.2 s (reC g.2 s) ∧ mJ M3 14 (8 * s + s) = lN (reC g.2 s) := fun s hs => by
    obtain ⟨c, c1, c2⟩ := re3 s hs
    rw [reC_of c2]; exact ⟨c2, c1⟩
  refine gX11_gatherTrials_31 g3.1.1.1 ?_
  rw [g3.2.1.1.2, nI_add]
  refine w_X1_countUpTo (by decide) (by omega) l3 (gX11_gatherTrials_41 ?_)
  have cUl : cU (pl g.2) (k + 1) ≤ 81 := Nat.le_trans (cU_le l3 _) (by
    have : (3 : Nat) ^ (k + 1 + 1) ≤ 3 ^ 4 := Nat.pow_le_pow_right (by decide) (by omega)
    exact this)
  obtain ⟨mid, hmid⟩ : ∃ mid, mid = cU (pl g.2) (k + 1) := ⟨_, rfl⟩
  have kin := fun j => kw_in (l := pl g.2) l1 (k + 1) j (by omega)
  have kof := fun m (h1 : vw (pl g.2) m) h2 => kw_of (l := pl g.2) (k := k + 1) (m := m) h1 h2 (by omega)
  rw [← hmid] at cUl kin kof ⊢
  have OUT := upto (pn g.2) (fun i => ∀ M4 S, CX Mz M4 X A st sp p R → TrI M4 S → Ky M3 M4 → (∀ v, v ∈ S ↔ isTs g.2 k i v) → Wp 5 mdX11_gatherTrials 45 [(0, .ref 2), (2, .ref q0), (3, .int (nI mid)), (4, .int (nI i))] [] M4 (fun r M' => ROK mdX11_gatherTrials r ∧ Q r M')) ?_ 0 (Nat.zero_le _)
  · exact OUT M3 [] h3 TR3 (Ky.rf _) (fun v => ⟨fun z => by simp at z, fun ⟨s, _, _, _, z, _⟩ => by omega⟩)
  · intro i hi ih M4 S h4 T4 K4 m4
    have g4 := gm M4 h4
    refine gX11_gatherTrials_45 g4.1.1.1 h4.k (by rw [E3 M4 h4]; exact (sea M4 h4).1.1) (fun c => ⟨rfl, ?_⟩) (fun c => ?_) <;> rw [g4.2.1.1.1, nI_leI (by omega) (by omega)] at c
    · have ei : i = pn g.2 := by omega
      subst ei
      exact h M4 S h4 T4 m4 (fun s hs => (RE s hs).1)
    · have hin : i < pn g.2 := by omega
      have ih := ih hin
      rw [E3 M4 h4]
      refine w_X5_firstTo (by decide) (sea M4 h4) (by omega) (by omega) (gX11_gatherTrials_65 ?_)
      obtain ⟨r1, r2⟩ := RE i hin
      rw [(K4 14 (by decide) (by decide) (by decide)).2, r2]
      have rlt : reC g.2 i < 2 ^ 61 := by
        by_cases z : reC g.2 i = 0
        · omega
        · have := reC_ex hG r1 z
          rw [this.2.2]; exact cd30 (vw_mono this.1 (by omega)) (by omega)
      have INN := upto mid (fun j => ∀ M5 S1, CX Mz M5 X A st sp p R → TrI M5 S1 → Ky M3 M5 → (∀ v, v ∈ S1 ↔ isTs g.2 k i v ∨ ∃ f j' m e, reW g.2 i = some f ∧ j' < j ∧ kw (pl g.2) j' = some m ∧ e ∈ enL g.2 ∧ v = f ++ m ++ e) → Wp 5 mdX11_gatherTrials 70 [(0, .ref 2), (2, .ref q0), (3, .int (nI mid)), (4, .int (nI i)), (5, .long (lN (reC g.2 i))), (7, .int (nI j))] [] M5 (fun r M' => ROK mdX11_gatherTrials r ∧ Q r M')) ?_ 0 (Nat.zero_le _)
      · exact INN M4 S h4 T4 K4 (fun v => by rw [m4]; exact ⟨Or.inl, fun z => z.elim id (fun ⟨_, j', _, _, _, z, _⟩ => by omega)⟩)
      · intro j hj jh M5 S1 h5 T5 K5 m5
        have g5 := gm M5 h5
        refine gX11_gatherTrials_70 g5.1.1.1 (fun c => ?_) (fun c c2 => ?_) (fun c c2 => ?_) <;> rw [nI_leI (by omega) (by omega)] at c
        · have ej : j = mid := by omega
          subst ej
          rw [nI_add]
          refine ih M5 S1 h5 T5 K5 (fun v => ?_)
          rw [m5]
          by_cases z : reC g.2 i = 0
          · have zz := reW_0 z
            rw [isTs_s0 zz]
            exact ⟨fun y => y.elim id (fun ⟨_, _, _, _, y, _⟩ => by rw [zz] at y; cases y), Or.inl⟩
          · have zz := reW_1 z
            rw [isTs_s1 zz]
            constructor
            · rintro (y | ⟨f, j', m, e, y1, y2, y3, y4, y5⟩)
              · exact Or.inl y
              · rw [zz] at y1; cases y1
                obtain ⟨m', a1, a2, a3⟩ := kin j' y2
                rw [y3] at a1; cases a1
                exact Or.inr ⟨m, e, ⟨a2, a3⟩, y4, y5⟩
            · rintro (y | ⟨m, e, ⟨y1, y2⟩, y3, y4⟩)
              · exact Or.inl y
              · obtain ⟨j', a1, a2⟩ := kof m y1 y2
                exact Or.inr ⟨_, j', m, e, zz, a1, a2, y3, y4⟩
        · rw [pk_lEQ (by omega) (by decide)] at c2
          have zz := reW_0 c2
          rw [nI_add]
          exact ih M5 S1 h5 T5 K5 (fun v => by
            rw [m5, isTs_s0 zz]
            exact ⟨fun y => y.elim id (fun ⟨_, _, _, _, y, _⟩ => by rw [zz] at y; cases y), Or.inl⟩)
        · rw [pk_lEQ (by omega) (by decide)] at c2
          have hjm : j < mid := by omega
          obtain ⟨f1, f2, f3⟩ := reC_ex hG r1 c2
          have zz := reW_1 c2
          obtain ⟨f, hf⟩ : ∃ f, f = wdC (reC g.2 i) := ⟨_, rfl⟩
          rw [← hf] at f1 f2 f3 zz
          have f4 := vw_mono f1 (show pl g.2 ≤ 4 by omega)
          obtain ⟨m, kw1, kw2, kw3⟩ := kin j hjm
          have kw4 := vw_mono kw2 (show pl g.2 ≤ 4 by omega)
          rw [g5.2.1.1.2]
          refine w_X1_kth (by decide) (by omega) l1 l3 (fun w hw => ?_) (fun z => by rw [kw1] at z; cases z)
          rw [kw1] at hw; cases hw
          refine gX11_gatherTrials_95 ?_
          rw [f3]
          refine w_X1_join (by decide) f4 kw4 (by omega) (gX11_gatherTrials_98 h5.k ?_)
          refine w_addT (u := f ++ m) (by decide) h5 T5 (hE3.ky K5 (by decide) (by decide)) he (vw_app.mpr ⟨f4, kw4⟩) (fun e he => ⟨(hokE e he).1, by have := (hokE e he).2; rw [List.length_append]; omega⟩) (fun S' nd' hS' => ?_) (fun M6 S2 h6 T6 K6 m6 => gX11_gatherTrials_101 ?_)
          · have cv : ∀ v, v ∈ S' → v ∈ cvT g.2 k E := fun v hv => by
              rw [cvT_mem]
              rcases hS' v hv with y | ⟨e, y1, y2⟩
              · rcases (m5 v).mp y with ⟨s, f', m', e, z1, z2, z3, z4, z5⟩ | ⟨f', j', m', e, z1, z2, z3, z4, z5⟩
                · exact ⟨s, f', m', e, by omega, z2, z3, (hm e).mpr z4, z5⟩
                · obtain ⟨m2, a1, a2, a3⟩ := kin j' (by omega)
                  rw [z3] at a1; cases a1
                  exact ⟨i, f', m', e, hin, z1, ⟨a2, a3⟩, (hm e).mpr z4, z5⟩
              · exact ⟨i, f, m, e, hin, zz, ⟨kw2, kw3⟩, y1, y2⟩
            have := nodupW_le nd' cv
            have := cvT_len hG hk he
            omega
          · rw [nI_add, ← f3]
            refine jh hjm M6 S2 h6 T6 (K5.tr K6) (fun v => ?_)
            rw [m6, m5]
            constructor
            · rintro ((y | ⟨f', j', m', e, y1, y2, y3⟩) | ⟨e, y1, y2⟩)
              · exact Or.inl y
              · exact Or.inr ⟨f', j', m', e, y1, by omega, y3⟩
              · exact Or.inr ⟨f, j, m, e, zz, by omega, kw1, (hm e).mp y1, y2⟩
            · rintro (y | ⟨f', j', m', e, y1, y2, y3, y4, y5⟩)
              · exact Or.inl (Or.inl y)
              · by_cases c : j' = j
                · subst c
                  rw [zz] at y1; cases y1
                  rw [kw1] at y3; cases y3
                  exact Or.inr ⟨e, (hm e).mpr y4, y5⟩
                · exact Or.inl (Or.inr ⟨f', j', m', e, y1, by omega, y3, y4, y5⟩)
/-- trials that were gathered, place by place -/
theorem TrI.tb (h : TrI M S) : ∃ k T, SetAt M 82 k T S.length ∧ (∀ i, i < 2 ^ k → T i < 2 ^ 61 ∧ (T i ≠ 0 → vw 4 (wdC (T i)) ∧ (wdC (T i)).length ≤ 30 ∧ T i = cd (wdC (T i)))) ∧ (nzW T (2 ^ k)).Nodup ∧ (∀ v, v ∈ nzW T (2 ^ k) ↔ v ∈ S) ∧ (∀ i, i ≤ 2 ^ k → mxL (nzW T i) ≤ 30) := by
  obtain ⟨⟨k, T, t1, t2, t3⟩, t4, t5⟩ := h
  have nz := nzW_nd t1.2.2.1 t2 t4
  have st := fun v => nzW_set (w := v) t2 t4
  refine ⟨k, T, t1, fun i hi => ⟨(t1.2.1 i hi).2, fun hz => ?_⟩, nz _ (Nat.le_refl _), st, fun i hi => mxL_le.mpr (fun v hv => ?_)⟩
  · have g := nz_wd t2 t4 hi hz
    exact ⟨(t4 _ g.1).1, (t4 _ g.1).2, g.2.symm⟩
  · obtain ⟨j, j1, j2, j3⟩ := nzW_mem.mp hv
    have g := nz_wd t2 t4 (show j < 2 ^ k by omega) j2
    rw [j3]; exact (t4 _ g.1).2
theorem tsS_nd (G : PM) (k : Nat) : (tsS G k).1.Nodup := aSs_nodup List.nodup_nil
theorem tsS_pS (G : PM) (k : Nat) : (tsS G k).2 = pS 0 1 (tsS G k).1 := by
  have := aSs_cost 0 1 ([], 0) (rawT G k)
  have e : pS 0 1 ([] : List (List Nat)) = 0 := rfl
  rw [e] at this
  unfold tsS; omega
theorem w_X11_tests {x : Int32} (hd : 6 < d) (hS : CX Mz M X A st sp p R) (hI : PI A N p) (h1 : ∀ M', CX Mz M' X A st sp p R → ((¬ ∃ k, k ≤ 2 ∧ x = nI k) → Q (some (.int (-1 : Int32))) M') ∧ ∀ k, k ≤ 2 → x = nI k → qg p = none → Q (some (.int (-2 : Int32))) M')
    (h2 : ∀ M' k g, k ≤ 2 → x = nI k → qg p = some g → CX Mz M' X A st sp p (tsR A g.2 (qs p).1 k) → Q (some (.int (nI (tsS g.2 k).1.length))) M') : ClD d mdX11_tests [.ref 2, .int x] M Q := by
  have h1 := h1 M hS
  have hA := hS.ok
  obtain ⟨cn, bb, ebb, nt, n0, n1, n2, n3, n4, n5, nb, k6, e18⟩ := hS.gg
  have K2 : mK M (mR M (mR M 2 4) 3) = cn + 4 := by rw [n2]; exact n1
  refine ⟨6, hd, Cl.of moX11_tests (Nat.le_of_ble_eq_true rfl) (gX11_tests_0 hS.k k6 n0 K2 (fun c => ⟨⟨_, rfl⟩, h1.1 ?_⟩) (fun c c2 => ?_) (fun c c2 => ⟨⟨_, rfl⟩, h1.1 ?_⟩))⟩
  · rintro ⟨i, i1, i2⟩
    rw [i2] at c; exact nI_pos (by omega) c
  · obtain ⟨k, k1, k2⟩ := nI_of c
    rw [k2, nI_leI k1 (by decide)] at c2
    rw [n2]
    refine w_X3_hasGuess (by decide) nt n5 (fun e => gX11_tests_21 hS.k (fun c => absurd rfl c) (fun _ => ⟨⟨_, rfl⟩, h1.2 k c2 k2 e⟩)) (fun g e => gX11_tests_21 hS.k (fun _ => ?_) (fun c => absurd c (by decide)))
    rw [k2]
    refine w_gT (by decide) c2 hS hI e (fun M1 S h3 T3 m3 _ => gX11_tests_32 ?_)
    obtain ⟨kk, T, s1, s2, s3, s4, s5⟩ := T3.tb
    have pk := p2k s1.2.2.2.2.1 s1.2.2.2.2.2
    obtain ⟨-, -, -, -, -, -, -, -, -, -, -, j6, j18⟩ := h3.gg
    have hc := h3.1.2.2.1
    obtain ⟨s, es, ai⟩ := hc.ai
    have e6 : mR M1 2 6 = 82 := h3.r.2.2.1
    have e0 : mR M1 18 0 = 19 := hc.1.1.2.1
    have e1 : mR M1 19 1 = 20 := ai.1.2.2.1
    have K1 : mK M1 (mR M1 2 6) = 12 := by rw [e6]; exact s1.1.1
    have KA : mK M1 (mR M1 (mR M1 2 4) 0) = 4 := by rw [j18, e0]; exact ai.1.1
    have KB : mK M1 (mR M1 (mR M1 (mR M1 2 4) 0) 1) = 12 := by rw [j18, e0, e1]; exact ai.1.2.2.2
    have hts := tsS_eq m3
    have mem : ∀ v, v ∈ nzW T (2 ^ kk) ↔ v ∈ (tsS g.2 k).1 := fun v => by rw [s4, m3, tsS_mem]
    have LOOP := upto (2 ^ kk) (fun i => Wp 6 mdX11_tests 42 [(0, .ref 2), (2, .int (nI (pS 0 1 (nzW T i)))), (3, .int (nI (mxL (nzW T i)))), (4, .int (nI (asN (qs p).1 (nzW T i)))), (5, .int (nI i))] [] M1 (fun r M' => ROK mdX11_tests r ∧ Q r M')) ?_ 0 (Nat.zero_le _)
    · exact LOOP
    · intro i hi ih
      refine gX11_tests_42 h3.k K1 ?_
      rw [e6]
      refine w_X10_places (by decide) s1 (gX11_tests_51 h3.k K1 (fun c => ?_) (fun c => ?_)) <;> rw [nI_leI (by omega) (by omega)] at c
      · have ei : i = 2 ^ kk := by omega
        subst ei
        refine w_X11_clearNumbers (by decide) h3 (fun M2 h4 S4 => gX11_tests_125 h4.k ?_)
        refine w_X11_put (by decide) h4 (by decide) (fun M3 h5 S5 => gX11_tests_131 h5.k ?_)
        refine w_X11_put (by decide) h5 (by simp) (fun M4 h6 S6 => gX11_tests_137 h6.k ?_)
        refine w_X11_put (by decide) h6 (by simp) (fun M5 h7 S7 => ?_)
        have S15 : Sm [2, 87] M1 M5 := ((S4.tr S5).tr S6).tr S7
        refine gX11_tests_144 h7.k (by rw [S15.2.1, S15.2.2.1]; exact K1) ⟨⟨_, rfl⟩, ?_⟩
        rw [S15.2.1, e6, S15.I (by simp), s1.1.2.2.2.1]
        have eS : S.length = (tsS g.2 k).1.length := by
          apply Nat.le_antisymm
          · exact nodupW_le T3.2.2 (fun v hv => tsS_mem.mpr ((m3 v).mp hv))
          · exact nodupW_le (tsS_nd _ _) (fun v hv => (m3 v).mpr (tsS_mem.mp hv))
        rw [eS]
        refine h2 M5 k g c2 k2 e ?_
        have eR : [(nI (pS 0 1 (nzW T (2 ^ kk)))).toInt64, (nI (mxL (nzW T (2 ^ kk)))).toInt64, (nI (asN (qs p).1 (nzW T (2 ^ kk)))).toInt64] = tsR A g.2 (qs p).1 k := by
          unfold tsR
          rw [tsS_pS, pS_eq s3 (tsS_nd _ _) mem, mxL_cg mem, asN_cg s3 (tsS_nd _ _) mem (fun _ => Iff.rfl)]
        rw [← eR]
        exact h7
      · have hil : i < 2 ^ kk := by omega
        have ih := ih hil
        rw [e6]
        refine w_X10_at (by decide) s1 hil ?_
        obtain ⟨b1, b2⟩ := s2 i hil
        refine gX11_tests_63 (fun c3 => ?_) (fun c3 => ?_) <;> rw [pk_lEQ (by omega) (by decide)] at c3
        · obtain ⟨w1, w2, w3⟩ := b2 c3
          have ez := nzW_1 c3
          obtain ⟨w, hw⟩ : ∃ w, w = wdC (T i) := ⟨_, rfl⟩
          rw [← hw] at w1 w2 w3 ez
          rw [w3]
          refine w_X1_length (by decide) w1 w2 (gX11_tests_80 (by decide) h3.k (by rw [j18]; rw [j18] at j6; exact j6) KA KB ?_)
          rw [j18, e0, e1, nI_add, jmax_nI (by have := s5 i hi; omega) (by omega)]
          have ai20 : AI 88 M1 19 A st sp s := ai
          rw [ez, pS_snoc, mxL_snoc, asN_snoc, Nat.zero_add, Nat.one_mul] at ih
          refine w_has (r := 19) (by decide) ai20 w1 w2 (fun z => gX11_tests_109 (fun c => absurd c (by decide)) (fun _ => ?_)) (fun z => gX11_tests_109 (fun _ => ?_) (fun c => absurd rfl c))
          · rw [nI_add, nI_add]
            rw [if_pos ((es.2.1 w).mp z)] at ih
            exact ih
          · rw [nI_add]
            rw [if_neg (fun y => z ((es.2.1 w).mpr y))] at ih
            exact ih
        · rw [nzW_0 c3] at ih
          rw [nI_add]; exact ih
  · rintro ⟨i, i1, i2⟩
    rw [i2] at c2; exact c2 ((nI_leI (by omega) (by decide)).mpr i1)
theorem w_X11_passes {x : Int32} (hd : 6 < d) (hS : CX Mz M X A st sp p R) (hI : PI A N p) (h : ∀ M', CX Mz M' X A st sp p R → ((¬ ∃ k, k ≤ 2 ∧ x = nI k) → Q (some (.long (-1 : Int64))) M') ∧ ∀ k, k ≤ 2 → x = nI k → (qg p = none → Q (some (.long (-2 : Int64))) M') ∧ ∀ g, qg p = some g → Q (some (.long (lN (lwC g.2 A (tsS g.2 k).1)))) M') : ClD d mdX11_passes [.ref 2, .int x] M Q := by
  have h1 := h M hS
  have hA := hS.ok
  have l3 := hA.2.1.2
  obtain ⟨cn, bb, ebb, nt, n0, n1, n2, n3, n4, n5, nb, k6, e18⟩ := hS.gg
  have K2 : mK M (mR M (mR M 2 4) 3) = cn + 4 := by rw [n2]; exact n1
  refine ⟨6, hd, Cl.of moX11_passes (Nat.le_of_ble_eq_true rfl) (gX11_passes_0 hS.k k6 n0 K2 (fun c => ⟨⟨_, rfl⟩, h1.1 ?_⟩) (fun c c2 => ?_) (fun c c2 => ⟨⟨_, rfl⟩, h1.1 ?_⟩))⟩
  · rintro ⟨i, i1, i2⟩
    rw [i2] at c; exact nI_pos (by omega) c
  · obtain ⟨k, k1, k2⟩ := nI_of c
    rw [k2, nI_leI k1 (by decide)] at c2
    rw [n2]
    refine w_X3_hasGuess (by decide) nt n5 (fun e => gX11_passes_25 hS.k (fun c => absurd rfl c) (fun _ => ⟨⟨_, rfl⟩, (h1.2 k c2 k2).1 e⟩)) (fun g e => gX11_passes_25 hS.k (fun _ => ?_) (fun c => absurd c (by decide)))
    rw [k2]
    have hgu := hI.gu hA e
    refine w_gT (by decide) c2 hS hI e (fun M1 S h3 T3 m3 re3 => gX11_passes_37 ?_)
    obtain ⟨kk, T, s1, s2, s3, s4, s5⟩ := T3.tb
    have pk := p2k s1.2.2.2.2.1 s1.2.2.2.2.2
    obtain ⟨cn', bb', ebb', nt', n0', n1', n2', n3', n4', n5', -, -, -⟩ := h3.gg
    have m33 := h3.1.m3
    have e6 : mR M1 2 6 = 82 := h3.r.2.2.1
    have e0 : mR M1 2 0 = 3 := h3.r.1.1
    have K1 : mK M1 (mR M1 2 6) = 12 := by rw [e6]; exact s1.1.1
    have eb : bb = bb' := by rw [ebb, ebb']
    rw [eb]
    rw [e] at n5'
    have mem : ∀ v, v ∈ nzW T (2 ^ kk) ↔ v ∈ (tsS g.2 k).1 := fun v => by rw [s4, m3, tsS_mem]
    have wrd : ∀ i, i < 2 ^ kk → T i ≠ 0 → vw (pl A) (wdC (T i)) := fun i hi hz => by
      have : wdC (T i) ∈ nzW T (2 ^ kk) := nzW_mem.mpr ⟨i, hi, hz, rfl⟩
      have := tsS_mem.mp ((mem _).mp this)
      rw [← hgu.2.1]
      exact (reC_isA hgu.1 re3 c2 this).1
    have LOOP := upto (2 ^ kk) (fun i => ∀ c, c < 2 ^ 61 → isLW g.2 A (nzW T i) c → Wp 6 mdX11_passes 42 [(0, .ref 2), (2, .ref bb'), (3, .long (lN c)), (5, .int (nI i))] [] M1 (fun r M' => ROK mdX11_passes r ∧ Q r M')) ?_ 0 (Nat.zero_le _)
    · exact LOOP 0 (by decide) (Or.inl ⟨rfl, fun w hw => by simp [nzW] at hw⟩)
    · intro i hi ih c hc hlw
      refine gX11_passes_42 h3.k K1 ?_
      rw [e6]
      refine w_X10_places (by decide) s1 (gX11_passes_51 h3.k K1 (fun c1 => ⟨⟨_, rfl⟩, ?_⟩) (fun c1 => ?_)) <;> rw [nI_leI (by omega) (by omega)] at c1
      · have ei : i = 2 ^ kk := by omega
        subst ei
        have e9 := lwC_of (isLW_cg mem hlw)
        have hh := ((h M1 h3).2 k c2 k2).2 g e
        rw [e9] at hh
        exact hh
      · have hil : i < 2 ^ kk := by omega
        have ih := ih hil
        rw [e6]
        refine w_X10_at (by decide) s1 hil ?_
        obtain ⟨b1, b2⟩ := s2 i hil
        have GO : T i ≠ 0 → (c = 0 ∨ cd (wdC (T i)) ≤ c) → Wp 6 mdX11_passes 88 [(0, .ref 2), (2, .ref bb'), (3, .long (lN c)), (5, .int (nI i)), (6, .long (lN (T i)))] [] M1 (fun r M' => ROK mdX11_passes r ∧ Q r M') := fun hz hor => by
          obtain ⟨w1, w2, w3⟩ := b2 hz
          have wA := wrd i hil hz
          have ez := nzW_1 hz
          have LW := isLW_snoc (w := wdC (T i)) hlw
          rw [← ez] at LW
          obtain ⟨w, hw⟩ : ∃ w, w = wdC (T i) := ⟨_, rfl⟩
          rw [← hw] at w1 w2 w3 wA LW hor
          rw [w3]
          have wg : vw (pl g.2) w := by rw [hgu.2.1]; exact wA
          have o1 := an_lt hA wA
          have o2 := an_lt hgu.1 wg
          refine gX11_passes_88 n0' n1' (by rw [n3']; exact n4'.1.1) ?_
          rw [n3']
          refine w_ans (by decide) n4' n5'.1.2 hgu.1 wg w2 (gX11_passes_97 h3.k (by rw [e0]; exact m33.1.1.1) ?_)
          rw [e0]
          refine w_ans (by decide) m33.1 m33.2 hA wA w2 (gX11_passes_106 (fun c3 => ?_) (fun c3 => ?_)) <;> rw [nI_eq (by omega) (by omega)] at c3 <;> rw [nI_add]
          · rw [if_neg (fun y => y.1 c3)] at LW
            exact ih c hc LW
          · by_cases y : c = 0 ∨ cd w < c
            · rw [if_pos ⟨c3, y⟩] at LW
              exact ih _ (cd30 w1 w2) LW
            · rw [if_neg (fun z => y z.2)] at LW
              have : cd w = c := by omega
              rw [this]; exact ih c hc LW
        have SK : T i = 0 ∨ (¬ c = 0 ∧ ¬ T i ≤ c) → Wp 6 mdX11_passes 42 [(0, .ref 2), (2, .ref bb'), (3, .long (lN c)), (5, .int (nI i + nI 1))] [] M1 (fun r M' => ROK mdX11_passes r ∧ Q r M') := fun hor => by
          rw [nI_add]
          by_cases hz : T i = 0
          · rw [nzW_0 hz] at ih; exact ih c hc hlw
          · obtain ⟨w1, w2, w3⟩ := b2 hz
            have LW := isLW_snoc (w := wdC (T i)) hlw
            rw [← nzW_1 hz, if_neg (by omega)] at LW
            exact ih c hc LW
        refine gX11_passes_63 (fun c2 => ?_) (fun c2 c3 => ?_) (fun c2 c3 c4 => ?_) (fun c2 c3 c4 => ?_) <;> rw [pk_lEQ (by omega) (by decide)] at c2
        · exact SK (Or.inl c2)
        · rw [pk_lEQ (by omega) (by decide)] at c3
          exact GO c2 (Or.inl c3)
        · rw [pk_lLE (by omega) (by omega)] at c4
          exact GO c2 (Or.inr (by rw [← (b2 c2).2.2]; exact c4))
        · rw [pk_lEQ (by omega) (by decide)] at c3
          rw [pk_lLE (by omega) (by omega)] at c4
          exact SK (Or.inr ⟨c3, c4⟩)
  · rintro ⟨i, i1, i2⟩
    rw [i2] at c2; exact c2 ((nI_leI (by omega) (by decide)).mpr i1)
end XTt
