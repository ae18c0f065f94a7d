/-! the class's face: words that part, and trials -/
theorem enQ_lo {G : PM} {p q : Nat} (h : q ≤ p + 1) {w : List Nat} : ¬ w ∈ enQ G p q := fun c => by
  obtain ⟨q', h1, h2, _⟩ := enQ_mem.mp c
  omega
theorem enQ_s {G : PM} {p q : Nat} (h : p < q) {w : List Nat} : w ∈ enQ G p (q + 1) ↔ w ∈ enQ G p q ∨ (fuC G p G q ≠ 0 ∧ w = wdC (fuC G p G q)) := by
  by_cases c : fuC G p G q ≠ 0
  · rw [enQ_yes ⟨h, c⟩, List.mem_append, List.mem_singleton]
    exact ⟨fun z => z.imp id (fun e => ⟨c, e⟩), fun z => z.imp id (fun e => e.2)⟩
  · rw [enQ_no (fun z => c z.2)]
    exact ⟨Or.inl, fun z => z.elim id (fun e => absurd e.1 c)⟩
theorem enP_s {G : PM} {p : Nat} {w : List Nat} : w ∈ enP G (p + 1) ↔ w ∈ enP G p ∨ w ∈ enQ G p (pn G) := List.mem_append
theorem enP_mono {G : PM} {p n : Nat} (h : p ≤ n) {w : List Nat} (hw : w ∈ enP G p) : w ∈ enP G n := by
  obtain ⟨p', a, b⟩ := enP_mem.mp hw
  exact enP_mem.mpr ⟨p', by omega, b⟩
theorem enQ_mono {G : PM} {p m n : Nat} (h : m ≤ n) {w : List Nat} (hw : w ∈ enQ G p m) : w ∈ enQ G p n := by
  obtain ⟨p', a, b⟩ := enQ_mem.mp hw
  exact enQ_mem.mpr ⟨p', by omega, b⟩
/-- the trials: a set of words -/
def TrI (M : Mem) (S : List (List Nat)) : Prop := (∃ k T, SetAt M 82 k T S.length ∧ hset (2 ^ k) T (wf S) ∧ S.length < 2 ^ k) ∧ okL S ∧ S.Nodup
/-- nothing of the class's labels has changed but the trials -/
def Ky (M M' : Mem) : Prop := ∀ q, q < 88 → q ≠ 82 → q ≠ 83 → mI M' q = mI M q ∧ mJ M' q = mJ M q
theorem Ky.rf (M : Mem) : Ky M M := fun _ _ _ _ => ⟨rfl, rfl⟩
theorem Ky.tr {M M1 M2 : Mem} (h : Ky M M1) (k : Ky M1 M2) : Ky M M2 := fun q a b c => ⟨(k q a b c).1.trans (h q a b c).1, (k q a b c).2.trans (h q a b c).2⟩
theorem LstAt.ky {M M' : Mem} {r : Nat} {L : List (List Nat)} (h : Ky M M') (ha : LstAt M r L) (hr : r < 87) (h1 : r ≠ 82 ∧ r ≠ 83 ∧ r ≠ 81) : LstAt M' r L :=
  ⟨by rw [(h r (by omega) (by omega) (by omega)).1]; exact ha.1, fun j hj => by rw [(h (r + 1) (by omega) (by omega) (by omega)).2]; exact ha.2 j hj⟩
section XFt
variable {d st sp N : Nat} {Q : Option Value → Mem → Prop} {Mz M M' M1 : Mem} {A : PM} {p : PS} {X : List Nat} {R : List Int64} {g : GU} {L E S : List (List Nat)}
theorem Ky.fa {U : List Nat} (hS : CX Mz M X A st sp p R) (F : Fa 81 U M M') (hU : ∀ q, q ∈ U → q = 82) : Ky M M' := fun q a b c => by
  have l8 := hS.1.1.2.1.2.2.2
  have l3 := hS.1.1.2.1.1.2.2
  have nin : q ∉ slq M 81 :: U := fun z => by
    rcases List.mem_cons.mp z with e | e
    · omega
    · exact b (hU q e)
  exact ⟨F.1.I (by omega) nin, F.1.J (by omega) nin⟩
theorem CX.n81 {U : List Nat} (hS : CX Mz M X A st sp p R) (F : Fa 81 U M M') (hU : ∀ q, q ∈ U → q = 82) (ht : ∃ k T n, SetAt M' 82 k T n) : CX Mz M' X A st sp p R := by
  have l8 := hS.1.1.2.1.2.2.2
  have l3 := hS.1.1.2.1.1.2.2
  refine hS.tl F (fun q hq => Or.inl (hU q hq)) ht (SeaSh.fm F.1 (by omega) hS.1.1.2.2 (fun z => ?_))
  rcases List.mem_cons.mp z with e | e
  · omega
  · have := hU _ e; omega
/-- the guess of a pupil -/
theorem CX.gm (hS : CX Mz M X A st sp p R) (hI : PI A N p) (hg : qg p = some g) : MacSh M (bP 18 p + 7) ∧ MacAt M (bP 18 p + 7) g.2 ∧ okM g.2 ∧ pl g.2 = pl A ∧ (bP 18 p + 7 = 29 ∨ bP 18 p + 7 = 45) := by
  obtain ⟨cn, bb, e, nt, n0, n1, n2, n3, n4, n5, nb, k6, -⟩ := hS.gg
  have hgu := hI.gu hS.ok hg
  rw [hg] at n5
  rw [← e]
  exact ⟨n4, n5.1.2, hgu.1, hgu.2.1, by omega⟩
theorem w_gP (hd : 4 < d) (hS : CX Mz M X A st sp p R) (hI : PI A N p) (hg : qg p = some g) (h : ∀ M' L, CX Mz M' X A st sp p R → LstAt M' 84 L → 1 ≤ L.length → L.length ≤ 8 → okL L → (∀ w, w ∈ L ↔ w ∈ enL g.2) → Q none M') : ClD d mdX11_gatherPartings [.ref 2, .ref (bP 18 p + 7)] M Q := by
  obtain ⟨q0, hq0⟩ : ∃ q0, q0 = bP 18 p + 7 := ⟨_, rfl⟩
  have gm := fun M1 (hS1 : CX Mz M1 X A st sp p R) => hS1.gm hI hg
  rw [← hq0] at gm
  rw [← hq0]
  obtain ⟨-, -, hG, hgl, nq⟩ := gm M hS
  have n8 := hG.1.2
  have l3 := hG.2.1.2
  have E7 : ∀ M1, CX Mz M1 X A st sp p R → mR M1 2 7 = 84 := fun M1 h1 => h1.r.2.2.2.1
  have E3 : ∀ M1, CX Mz M1 X A st sp p R → mR M1 2 3 = 13 := fun M1 h1 => h1.r.1.2.2.2.1
  have ls := fun M1 (h1 : CX Mz M1 X A st sp p R) => h1.1.1.1.2.2.2.2.1
  refine ⟨4, hd, Cl.of moX11_gatherPartings (Nat.le_of_ble_eq_true rfl) (gX11_gatherPartings_0 hS.k (by rw [E7 M hS]; exact (ls M hS).1) ?_)⟩
  rw [E7 M hS]
  refine w_X9_clear (by decide) (ls M hS) (gX11_gatherPartings_7 ?_)
  have hS1 : CX Mz (sI M 84 0 0) X A st sp p R := hS.fs (L := [84]) (Sm.sI (by simp) _ _ _) (fun q hq => by simp at hq; subst hq; unfold frL; omega)
  -- states
  have OUT := upto (pn g.2) (fun i => ∀ M1 L, CX Mz M1 X A st sp p R → LstAt M1 84 L → L.Nodup → (∀ w, w ∈ L ↔ w ∈ enP g.2 i) → Wp 4 mdX11_gatherPartings 9 [(0, .ref 2), (1, .ref q0), (2, .int (nI i))] [] M1 (fun r M' => ROK mdX11_gatherPartings r ∧ Q r M')) ?_ 0 (Nat.zero_le _)
  · exact OUT _ [] hS1 LstAt.nil List.nodup_nil (fun w => by simp [enP])
  · intro i hi ih M1 L h1 hL hnd hm
    have g1 := gm M1 h1
    have l1 := ls M1 h1
    have few := part_few hG hnd (fun w hw => enP_mono hi ((hm w).mp hw))
    have okL1 : okL L := fun w hw => by
      have := enP_ok hG hi ((hm w).mp hw)
      exact ⟨vw_mono this.1 (by omega), by omega⟩
    refine gX11_gatherPartings_9 g1.1.1.1 h1.k (by rw [E7 M1 h1]; exact l1.1) (fun c c2 => ?_) (fun c c2 => ?_) (fun c => ?_)
    · rw [g1.2.1.1.1, nI_leI (by omega) (by omega)] at c
      rw [E7 M1 h1, hL.1, show (0 : Int32) = nI 0 from rfl, nI_eq (by omega) (by decide)] at c2
      have ei : i = pn g.2 := by omega
      subst ei
      have e0 : (enP g.2 (pn g.2)).length ≠ 0 := fun z => by
        have z2 := List.eq_nil_of_length_eq_zero z
        cases L with
        | nil => exact c2 rfl
        | cons x t =>
          have := (hm x).mp List.mem_cons_self
          rw [z2] at this; simp at this
      exact gX11_gatherPartings_100 ⟨rfl, h M1 L h1 hL (by omega) (by omega) okL1 (fun w => by rw [hm]; unfold enL; rw [if_neg e0])⟩
    · rw [g1.2.1.1.1, nI_leI (by omega) (by omega)] at c
      rw [E7 M1 h1, hL.1, show (0 : Int32) = nI 0 from rfl, nI_eq (by omega) (by decide)] at c2
      have ei : i = pn g.2 := by omega
      subst ei
      have z := List.eq_nil_of_length_eq_zero c2
      subst z
      have e0 : (enP g.2 (pn g.2)).length = 0 := by
        rw [List.length_eq_zero_iff, List.eq_nil_iff_forall_not_mem]
        intro w hw
        have := (hm w).mpr hw
        simp at this
      rw [E7 M1 h1]
      have e1 : lN 1 = lN (cd []) := rfl
      rw [e1]
      have SA : Sm [84, 85] M1 (lAdd M1 84 0 []) := Sm.lAdd (by simp) (by simp) _ _ _
      exact w_X9_add (by decide) l1 hL (by decide) (by decide) (gX11_gatherPartings_100 ⟨rfl, h _ [[]] (h1.fs SA (fun q hq => by simp at hq; unfold frL; omega)) (LstAt.add hL []) (by decide) (by decide) (fun w hw => by
        rw [List.mem_singleton] at hw; subst hw; exact ⟨vw_nil _, Nat.zero_le _⟩) (fun w => by unfold enL; rw [if_pos e0])⟩)
    · rw [g1.2.1.1.1, nI_leI (by omega) (by omega)] at c
      have hin : i < pn g.2 := by omega
      rw [nI_add]
      have ih := ih hin
      have INN := upto (pn g.2) (fun j => i < j → ∀ M1 L, CX Mz M1 X A st sp p R → LstAt M1 84 L → L.Nodup → (∀ w, w ∈ L ↔ w ∈ enP g.2 i ∨ w ∈ enQ g.2 i j) → Wp 4 mdX11_gatherPartings 21 [(0, .ref 2), (1, .ref q0), (2, .int (nI i)), (3, .int (nI j))] [] M1 (fun r M' => ROK mdX11_gatherPartings r ∧ Q r M')) ?_ (i + 1) (by omega)
      · exact INN (by omega) M1 L h1 hL hnd (fun w => by rw [hm]; exact ⟨Or.inl, fun z => z.elim id (fun e => absurd e (enQ_lo (Nat.le_refl _)))⟩)
      · intro j hj jh hij M2 L2 h2 hL2 hnd2 hm2
        have g2 := gm M2 h2
        have l2 := ls M2 h2
        refine gX11_gatherPartings_21 g2.1.1.1 h2.k (by rw [E3 M2 h2]; exact h2.1.1.2.2.1.1) (fun c => ?_) (fun c => ?_)
        · rw [g2.2.1.1.1, nI_leI (by omega) (by omega)] at c
          have ej : j = pn g.2 := by omega
          subst ej
          rw [nI_add]
          exact ih M2 L2 h2 hL2 hnd2 (fun w => by rw [hm2, enP_s])
        · rw [g2.2.1.1.1, nI_leI (by omega) (by omega)] at c
          have hjn : j < pn g.2 := by omega
          rw [E3 M2 h2]
          refine w_fuX (by decide) h2 g2.1 g2.2.1 hG g2.1 g2.2.1 hG rfl hin hjn (by omega) (by omega) (fun M3 h3 S3 => ?_)
          have hL3 : LstAt M3 84 L2 := hL2.sm S3 (by simp) (by simp)
          have l3' := ls M3 h3
          have hle : fuC g.2 i g.2 j ≠ 0 → vw 4 (wdC (fuC g.2 i g.2 j)) ∧ (wdC (fuC g.2 i g.2 j)).length ≤ 14 ∧ fuC g.2 i g.2 j = cd (wdC (fuC g.2 i g.2 j)) := fun z => by
            have := wdC_fu hG hin hjn z
            exact ⟨vw_mono this.1 (by omega), this.2⟩
          have flt : fuC g.2 i g.2 j < 2 ^ 61 := by
            by_cases z : fuC g.2 i g.2 j = 0
            · omega
            · have := hle z
              rw [this.2.2]; exact cd30 this.1 (by omega)
          have okL2 : okL L2 := fun w hw => by
            rcases (hm2 w).mp hw with z | z
            · have := enP_ok hG hi z
              exact ⟨vw_mono this.1 (by omega), by omega⟩
            · have := enP_ok hG (show i + 1 ≤ pn g.2 by omega) (enP_s.mpr (Or.inr (enQ_mono hj z)))
              exact ⟨vw_mono this.1 (by omega), by omega⟩
          have sub2 : ∀ w, w ∈ L2 → w ∈ enP g.2 (pn g.2) := fun w hw => by
            rcases (hm2 w).mp hw with z | z
            · exact enP_mono hi z
            · exact enP_mono (show i + 1 ≤ pn g.2 by omega) (enP_s.mpr (Or.inr (enQ_mono hj z)))
          have few2 := part_few hG hnd2 sub2
          have jh := jh hjn (by omega)
          refine gX11_gatherPartings_40 h3.k (by rw [E7 M3 h3]; exact l3'.1) (fun c => gX11_gatherPartings_70 ?_) (fun c => ?_)
          · rw [pk_lEQ (by omega) (by decide)] at c
            rw [nI_add]
            exact jh M3 L2 h3 hL3 hnd2 (fun w => by rw [hm2, enQ_s hij]; exact ⟨fun z => z.imp id Or.inl, fun z => z.imp id (fun y => y.elim id (fun y => absurd c y.1))⟩)
          · rw [pk_lEQ (by omega) (by decide)] at c
            obtain ⟨v1, v2, v3⟩ := hle c
            rw [E7 M3 h3]
            obtain ⟨v, hv⟩ : ∃ v, v = wdC (fuC g.2 i g.2 j) := ⟨_, rfl⟩
            rw [← hv] at v1 v2 v3
            rw [v3]
            refine w_X9_has (by decide) l3' hL3 (by omega) (by decide) okL2 v1 (by omega) (fun z => ?_) (fun z => ?_)
            · refine gX11_gatherPartings_58 h3.k (by rw [E7 M3 h3]; exact l3'.1) (fun _ => gX11_gatherPartings_70 ?_) (fun c => absurd c (by decide))
              rw [nI_add]
              exact jh M3 L2 h3 hL3 hnd2 (fun w => by
                rw [hm2, enQ_s hij]
                exact ⟨fun z => z.imp id Or.inl, fun y => by
                  rcases y with y | y | y
                  · exact Or.inl y
                  · exact Or.inr y
                  · rw [y.2, ← hv]; exact (hm2 v).mp z⟩)
            · refine gX11_gatherPartings_58 h3.k (by rw [E7 M3 h3]; exact l3'.1) (fun c => absurd rfl c) (fun _ => ?_)
              rw [E7 M3 h3]
              have SA : Sm [84, 85] M3 (lAdd M3 84 L2.length v) := Sm.lAdd (by simp) (by simp) _ _ _
              refine w_X9_add (by decide) l3' hL3 (by omega) (by decide) (gX11_gatherPartings_70 ?_)
              rw [nI_add]
              exact jh _ (L2 ++ [v]) (h3.fs SA (fun q hq => by simp at hq; unfold frL; omega)) (LstAt.add hL3 v) (nodup_snoc hnd2 z) (fun w => by
                rw [List.mem_append, List.mem_singleton, hm2, enQ_s hij, hv]
                exact ⟨fun y => by
                  rcases y with (y | y) | y
                  · exact Or.inl y
                  · exact Or.inr (Or.inl y)
                  · exact Or.inr (Or.inr ⟨c, y⟩), fun y => by
                  rcases y with y | y | y
                  · exact Or.inl (Or.inl y)
                  · exact Or.inl (Or.inr y)
                  · exact Or.inr y.2⟩)
theorem w_addT {u : List Nat} (hd : 3 < d) (hS : CX Mz M X A st sp p R) (hT : TrI M S) (hE : LstAt M 84 E) (he : E.length ≤ 8) (hu : vw 4 u) (hue : ∀ e, e ∈ E → vw 4 e ∧ u.length + e.length ≤ 30) (hb : ∀ S' : List (List Nat), S'.Nodup → (∀ v, v ∈ S' → v ∈ S ∨ ∃ e, e ∈ E ∧ v = u ++ e) → S'.length ≤ 8000)
    (h : ∀ M' S', CX Mz M' X A st sp p R → TrI M' S' → Ky M M' → (∀ v, v ∈ S' ↔ v ∈ S ∨ ∃ e, e ∈ E ∧ v = u ++ e) → Q none M') : ClD d mdX11_addTrials [.ref 2, .long (lN (cd u))] M Q := by
  have E7 : ∀ M1, CX Mz M1 X A st sp p R → mR M1 2 7 = 84 := fun M1 h1 => h1.r.2.2.2.1
  have E6 : ∀ M1, CX Mz M1 X A st sp p R → mR M1 2 6 = 82 := fun M1 h1 => h1.r.2.2.1
  have ls := fun M1 (h1 : CX Mz M1 X A st sp p R) => h1.1.1.1.2.2.2.2.1
  refine ⟨3, hd, Cl.of moX11_addTrials (Nat.le_of_ble_eq_true rfl) (gX11_addTrials_0 ?_)⟩
  have LOOP := upto E.length (fun i => ∀ M1 S1, CX Mz M1 X A st sp p R → TrI M1 S1 → Ky M M1 → (∀ v, v ∈ S1 ↔ v ∈ S ∨ ∃ e, e ∈ E.take i ∧ v = u ++ e) → Wp 3 mdX11_addTrials 2 [(0, .ref 2), (1, .long (lN (cd u))), (3, .int (nI i))] [] M1 (fun r M' => ROK mdX11_addTrials r ∧ Q r M')) ?_ 0 (Nat.zero_le _)
  · exact LOOP M S hS hT (Ky.rf M) (fun v => by simp)
  · intro i hi ih M1 S1 h1 T1 K1 m1
    have hE1 : LstAt M1 84 E := hE.ky K1 (by decide) (by decide)
    have l8 := h1.1.1.2.1.2.2.2
    obtain ⟨⟨k, T, t1, t2, t5⟩, t3, t4⟩ := T1
    have bd : S1.length ≤ 8000 := hb S1 t4 (fun v hv => ((m1 v).mp hv).imp id (fun ⟨e, e1, e2⟩ => ⟨e, List.mem_of_mem_take e1, e2⟩))
    have e3 : mR M1 82 1 = slq M1 81 := rfl
    refine gX11_addTrials_2 h1.k (by rw [E7 M1 h1]; exact (ls M1 h1).1) (by rw [E6 M1 h1]; exact t1.1.1) (fun c => ⟨rfl, ?_⟩) (fun c => ?_)
    · rw [E7 M1 h1, hE1.1, nI_leI (by omega) (by omega)] at c
      have ei : i = E.length := by omega
      subst ei
      exact h M1 S1 h1 ⟨⟨k, T, t1, t2, t5⟩, t3, t4⟩ K1 (fun v => by rw [m1, List.take_length])
    · rw [E7 M1 h1, hE1.1, nI_leI (by omega) (by omega)] at c
      have hil : i < E.length := by omega
      rw [E6 M1 h1]
      refine w_X10_makeRoom (by decide) t1 t2 t5 (by omega) (fun k' T' M2 F2 s2 f2 g2 c1 c2 q2 => ?_)
      have N0 : mN M1 (slq M1 81) = 2 ^ k := t1.1.2.2.1
      have N1 : mN M2 (slq M2 81) = 2 ^ k' := s2.1.2.2.1
      have q2 : slq M2 81 = slq M1 81 ∨ mC M1 + 2 ≤ slq M2 81 := q2
      have Fa1 : Fa 81 [82] M1 M2 := ⟨F2.mono (fun p hp => by simp only [List.mem_singleton] at hp; simp [hp]), q2, by omega, by omega⟩
      have h2 := h1.n81 Fa1 (fun q hq => by simpa using hq) ⟨k', T', _, s2⟩
      have K2 := K1.tr (Ky.fa h1 Fa1 (fun q hq => by simpa using hq))
      have hE2 : LstAt M2 84 E := hE.ky K2 (by decide) (by decide)
      have n2 : S1.length + 1 < 2 ^ k' := by
        have := p2k s2.2.2.2.2.1 s2.2.2.2.2.2
        omega
      have hm : E.getD i [] ∈ E := by
        rw [List.getD_eq_getElem?_getD, List.getElem?_eq_getElem hil, Option.getD_some]
        exact List.getElem_mem hil
      obtain ⟨e, hee⟩ : ∃ e, e = E.getD i [] := ⟨_, rfl⟩
      rw [← hee] at hm
      have he2 := hue e hm
      have tk : ∀ v, v ∈ E.take (i + 1) ↔ v ∈ E.take i ∨ v = e := fun v => by
        rw [List.take_add_one, List.mem_append, hee, List.getD_eq_getElem?_getD, List.getElem?_eq_getElem hil]
        simp
      have okw : vw 4 (u ++ e) ∧ (u ++ e).length ≤ 30 := ⟨vw_app.mpr ⟨hu, he2.1⟩, by rw [List.length_append]; exact he2.2⟩
      refine gX11_addTrials_20 h2.k (by rw [E7 M2 h2]; exact (ls M2 h2).1) ?_
      rw [E7 M2 h2, E6 M2 h2]
      refine w_lget (by decide) (ls M2 h2) hE2 (by omega) (by decide) hil (gX11_addTrials_33 ?_)
      rw [← hee]
      refine w_X1_join (by decide) hu he2.1 he2.2 (gX11_addTrials_36 s2.1.1 ?_)
      have NEXT : ∀ M3 S3 b, CX Mz M3 X A st sp p R → TrI M3 S3 → Ky M M3 → (∀ v, v ∈ S3 ↔ v ∈ S1 ∨ v = u ++ e) → Wp 3 mdX11_addTrials 39 [(0, .ref 2), (1, .long (lN (cd u))), (3, .int (nI i))] [.int b] M3 (fun r M' => ROK mdX11_addTrials r ∧ Q r M') := fun M3 S3 b h3 T3 K3 m3 => by
        refine gX11_addTrials_39 ?_
        rw [nI_add]
        exact ih hil M3 S3 h3 T3 K3 (fun v => by
          rw [m3, m1]
          constructor
          · rintro ((z | ⟨e', z1, z2⟩) | z)
            · exact Or.inl z
            · exact Or.inr ⟨e', (tk e').mpr (Or.inl z1), z2⟩
            · exact Or.inr ⟨e, (tk e).mpr (Or.inr rfl), z⟩
          · rintro (z | ⟨e', z1, z2⟩)
            · exact Or.inl (Or.inl z)
            · rcases (tk e').mp z1 with z | z
              · exact Or.inl (Or.inr ⟨e', z, z2⟩)
              · rw [z] at z2; exact Or.inr z2)
      refine w_X10_add (by decide) s2 f2 (by omega) (cd_pos _) (cd30 okw.1 okw.2) (fun z => ?_) (fun z T3 M3 F3 s3 f3 => ?_)
      · have z := (wf_in t3 okw.1).mp z
        exact NEXT M2 S1 _ h2 ⟨⟨k', T', s2, f2, by omega⟩, t3, t4⟩ K2 (fun v => ⟨Or.inl, fun y => y.elim id (fun y => by rw [y]; exact z)⟩)
      · have z : u ++ e ∉ S1 := fun y => z ((wf_in t3 okw.1).mpr y)
        have Fa2 : Fa 81 [82] M2 M3 := ⟨(F3.mono (fun p hp => by simp only [List.mem_cons, List.not_mem_nil, or_false] at hp; simp only [List.mem_cons, List.not_mem_nil, or_false]; exact hp.symm)).fm, Or.inl (by unfold slq; rw [F3.2.1]), by unfold slq; rw [F3.2.1, F3.2.2.2.1, F3.2.2.2.2.1]; exact Nat.le_refl _, by unfold slq; rw [F3.2.1, F3.2.2.2.1, F3.2.2.2.2.2]; exact Nat.le_refl _⟩
        have h3 := h2.n81 Fa2 (fun q hq => by simpa using hq) ⟨k', T3, _, s3⟩
        have K3 := K2.tr (Ky.fa h2 Fa2 (fun q hq => by simpa using hq))
        refine NEXT M3 (S1 ++ [u ++ e]) _ h3 ⟨⟨k', T3, by rw [List.length_append, List.length_singleton]; exact s3, fun c => ?_, by rw [List.length_append, List.length_singleton]; exact n2⟩, ?_, nodup_snoc t4 z⟩ K3 (fun v => by rw [List.mem_append, List.mem_singleton])
        · rw [wf_add]; exact f3 c
        · intro v hv
          rcases List.mem_append.mp hv with y | y
          · exact t3 v y
          · rw [List.mem_singleton] at y; rw [y]; exact okw
end XFt
