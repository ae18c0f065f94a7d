/-! states alike by words of at most k letters, and how the class finds them -/
def eqK (A : PM) : Nat → Nat → Nat → Prop
  | 0, s, t => po A s = po A t
  | k + 1, s, t => po A s = po A t ∧ ∀ x, x < pl A → eqK A k (pt A s x) (pt A t x)
theorem eqK_rf (A : PM) : ∀ k s, eqK A k s s
  | 0, _ => rfl
  | k + 1, s => ⟨rfl, fun x _ => eqK_rf A k _⟩
theorem eqK_sy {A : PM} : ∀ {k s t}, eqK A k s t → eqK A k t s
  | 0, _, _, h => Eq.symm h
  | _ + 1, _, _, h => ⟨h.1.symm, fun x hx => eqK_sy (h.2 x hx)⟩
theorem eqK_tr {A : PM} : ∀ {k s t u}, eqK A k s t → eqK A k t u → eqK A k s u
  | 0, _, _, _, h, g => Eq.trans h g
  | _ + 1, _, _, _, h, g => ⟨h.1.trans g.1, fun x hx => eqK_tr (h.2 x hx) (g.2 x hx)⟩
theorem eqK_dn {A : PM} : ∀ {k s t}, eqK A (k + 1) s t → eqK A k s t
  | 0, _, _, h => h.1
  | _ + 1, _, _, h => ⟨h.1, fun x hx => eqK_dn (h.2 x hx)⟩
/-- t is the least like s -/
def isL (R : Nat → Nat → Prop) (s t : Nat) : Prop := t ≤ s ∧ R t s ∧ ∀ i, i < t → ¬ R i s
theorem isL_un {R : Nat → Nat → Prop} {s t u : Nat} (h : isL R s t) (g : isL R s u) : t = u := by
  rcases Nat.lt_trichotomy t u with c | c | c
  · exact absurd h.2.1 (g.2.2 t c)
  · exact c
  · exact absurd g.2.1 (h.2.2 u c)
theorem isL_eq {A : PM} {k a b ga gb' : Nat} (ha : isL (eqK A k) a ga) (hb : isL (eqK A k) b gb') : ga = gb' ↔ eqK A k a b := by
  constructor
  · intro e; subst e
    exact eqK_tr (eqK_sy ha.2.1) hb.2.1
  · intro h
    rcases Nat.lt_trichotomy ga gb' with c | c | c
    · exact absurd (eqK_tr ha.2.1 h) (hb.2.2 _ c)
    · exact c
    · exact absurd (eqK_tr hb.2.1 (eqK_sy h)) (ha.2.2 _ c)
/-- how many are their own least -/
def cG (g : Nat → Nat) : Nat → Nat
  | 0 => 0
  | n + 1 => cG g n + if g n = n then 1 else 0
theorem cG_le (g : Nat → Nat) : ∀ n, cG g n ≤ n
  | 0 => Nat.le_refl _
  | n + 1 => by
    have := cG_le g n
    show cG g n + (if g n = n then 1 else 0) ≤ n + 1
    split <;> omega
section Part
variable {d r : Nat} {Q : Option Value → Mem → Prop} {M : Mem} {A : PM}
theorem w_X2_groupBefore {s : Nat} (hd : 1 < d) (hs : MacSh M r) (h8 : s < 8) (h : Q (some (.int (mI M (r + 3) s))) M) : ClD d mdX2_groupBefore [.ref r, .int (nI s)] M Q := by
  obtain ⟨⟨a1, a2, a3, a4⟩, -, -, ⟨b1, b2⟩⟩ := hs
  refine ⟨1, hd, Cl.of moX2_groupBefore (Nat.le_of_ble_eq_true rfl) (gX2_groupBefore_0 a1 (by rw [a4]; exact b1) (fun c => absurd c (nI_pos (by omega))) (fun _ _ => ?_) (fun _ _ => ⟨⟨_, rfl⟩, ?_⟩) (fun _ c => ?_))⟩
  · rw [a4, b2]; exact z_in h8 (by omega)
  · rw [a4, nI_clamp (by omega)]; exact h
  · exfalso; apply c; rw [a4, b2]; exact nI_lt h8 (by omega)
theorem w_X2_nextsAlike {s t k : Nat} {g : Nat → Nat} (hd : 2 < d) (hs : MacSh M r) (ha : MacAt M r A) (hA : okM A) (h1 : s < pn A) (h2 : t < pn A) (hg : ∀ i, i < pn A → mI M (r + 3) i = nI (g i)) (hL : ∀ i, i < pn A → isL (eqK A k) i (g i)) (hy : (∀ x, x < pl A → eqK A k (pt A s x) (pt A t x)) → Q (some (.int (nI 1))) M) (hn' : (¬ ∀ x, x < pl A → eqK A k (pt A s x) (pt A t x)) → Q (some (.int (nI 0))) M) : ClD d mdX2_nextsAlike [.ref r, .int (nI s), .int (nI t)] M Q := by
  have hb := hA.bd
  have hn := hb.1
  have hm := hb.2.1
  have e1 := ha.1.2
  refine ⟨2, hd, Cl.of moX2_nextsAlike (Nat.le_of_ble_eq_true rfl) (gX2_nextsAlike_0 ?_)⟩
  refine upto (pl A) (fun x => (∀ x', x' < x → eqK A k (pt A s x') (pt A t x')) → Wp 2 mdX2_nextsAlike 2 [(0, .ref r), (1, .int (nI s)), (2, .int (nI t)), (3, .int (nI x))] [] M (fun r M' => ROK mdX2_nextsAlike r ∧ Q r M')) ?_ 0 (Nat.zero_le _) (fun _ h => by omega)
  intro x hx1 ih hinv
  refine gX2_nextsAlike_2 hs.1.1 (fun c => ⟨⟨_, rfl, by decide⟩, hy ?_⟩) (fun c => ?_)
  · rw [e1, nI_leI (by omega) (by omega)] at c
    exact fun x' hx' => hinv x' (by omega)
  · have hxl : x < pl A := Nat.lt_of_not_le fun q => c (by rw [e1]; exact nI_le q (by omega))
    have p1 := hA.2.2.2 s h1 x hxl
    have p2 := hA.2.2.2 t h2 x hxl
    have q1 : nx A (some s) x = some (pt A s x) := if_pos ⟨h1, hxl⟩
    have q2 : nx A (some t) x = some (pt A t x) := if_pos ⟨h2, hxl⟩
    refine w_nextO (s := some s) (by decide) hs ha hb (fun j e => by cases e; omega) (by omega) ?_
    rw [q1]
    refine gX2_nextsAlike_17 hs.1.1 (w_X2_groupBefore (by decide) hs (by omega) (gX2_nextsAlike_20 hs.1.1 ?_))
    refine w_nextO (s := some t) (by decide) hs ha hb (fun j e => by cases e; omega) (by omega) ?_
    rw [q2]
    refine gX2_nextsAlike_27 hs.1.1 (w_X2_groupBefore (by decide) hs (by omega) ?_)
    rw [hg _ p1, hg _ p2]
    have l1 := (hL _ p1).1
    have l2 := (hL _ p2).1
    refine gX2_nextsAlike_30 (fun c1 => ?_) (fun c1 => ⟨⟨_, rfl, by decide⟩, hn' (fun hall => c1 ?_)⟩)
    · rw [nI_eq (by omega) (by omega)] at c1
      rw [nI_add]
      refine ih hxl (fun x' hx' => ?_)
      by_cases e : x' = x
      · subst e; exact (isL_eq (hL _ p1) (hL _ p2)).mp c1
      · exact hinv x' (by omega)
    · rw [(isL_eq (hL _ p1) (hL _ p2)).mpr (hall x hxl)]
/-- what 'before' holds ahead of round k -/
def befOK (M : Mem) (r : Nat) (A : PM) (k : Nat) : Prop := ∀ j, k = j + 1 → ∃ g : Nat → Nat, (∀ i, i < pn A → mI M (r + 3) i = nI (g i)) ∧ ∀ i, i < pn A → isL (eqK A j) i (g i)
theorem w_X2_leastAlike {s k : Nat} {b : Int32} (hd : 3 < d) (hs : MacSh M r) (ha : MacAt M r A) (hA : okM A) (h1 : s < pn A) (hb0 : k = 0 → b = 0) (hb1 : k ≠ 0 → ¬ b = 0) (hbf : befOK M r A k) (h : ∀ t, isL (eqK A k) s t → Q (some (.int (nI t))) M) : ClD d mdX2_leastAlike [.ref r, .int (nI s), .int b] M Q := by
  have hb := hA.bd
  have hn := hb.1
  refine ⟨3, hd, Cl.of moX2_leastAlike (Nat.le_of_ble_eq_true rfl) (gX2_leastAlike_0 ?_)⟩
  refine upto s (fun t => (∀ i, i < t → ¬ eqK A k i s) → Wp 3 mdX2_leastAlike 2 [(0, .ref r), (1, .int (nI s)), (2, .int b), (3, .int (nI t))] [] M (fun r M' => ROK mdX2_leastAlike r ∧ Q r M')) ?_ 0 (Nat.zero_le _) (fun _ h => by omega)
  intro t ht ih hinv
  refine gX2_leastAlike_2 hs.1.1 (fun c => ⟨⟨_, rfl⟩, h s ⟨Nat.le_refl _, eqK_rf A k s, ?_⟩⟩) (fun c => ?_)
  · rw [nI_leI (by omega) (by omega)] at c
    exact fun i hi => hinv i (by omega)
  · have hts : t < s := Nat.lt_of_not_le fun q => c (nI_le q (by omega))
    have o1 : ouO A (some t) = some (po A t) := if_pos (by omega)
    have o2 : ouO A (some s) = some (po A s) := if_pos h1
    have v1 := hb.2.2.1 t (by omega)
    have v2 := hb.2.2.1 s h1
    have nxt : ¬ eqK A k t s → Wp 3 mdX2_leastAlike 2 [(0, .ref r), (1, .int (nI s)), (2, .int b), (3, .int (nI t + nI 1))] [] M (fun r M' => ROK mdX2_leastAlike r ∧ Q r M') := by
      intro hne
      rw [nI_add]
      refine ih hts (fun i hi => ?_)
      by_cases e : i = t
      · subst e; exact hne
      · exact hinv i (by omega)
    refine w_outO (s := some t) (by decide) hs ha hb (fun j e => by cases e; omega) ?_
    rw [o1]
    refine gX2_leastAlike_12 hs.1.1 (w_outO (s := some s) (by decide) hs ha hb (fun j e => by cases e; omega) ?_)
    rw [o2]
    refine gX2_leastAlike_17 hs.1.1 (fun c1 => nxt (fun he => c1 ?_)) (fun c1 c2 => ⟨⟨_, rfl⟩, h t ?_⟩) (fun c1 c2 => ?_)
    · have : po A t = po A s := by cases k with
        | zero => exact he
        | succ k => exact he.1
      show nI (po A t) = nI (po A s)
      rw [this]
    · have hk : k = 0 := by
        by_cases e : k = 0
        · exact e
        · exact absurd c2 (hb1 e)
      subst hk
      have c3 : nI (po A t) = nI (po A s) := c1
      rw [nI_eq (by omega) (by omega)] at c3
      exact ⟨by omega, c3, hinv⟩
    · have c3 : nI (po A t) = nI (po A s) := c1
      rw [nI_eq (by omega) (by omega)] at c3
      cases k with
      | zero => exact absurd (hb0 rfl) c2
      | succ j =>
        obtain ⟨g, hg, hL⟩ := hbf j rfl
        refine w_X2_nextsAlike (by decide) hs ha hA (by omega) h1 hg hL (fun hy => gX2_leastAlike_30 (fun c4 => absurd c4 (by decide)) (fun _ => ⟨⟨_, rfl⟩, h t ⟨by omega, ⟨c3, hy⟩, hinv⟩⟩)) (fun hn' => gX2_leastAlike_30 (fun _ => nxt (fun he => hn' he.2)) (fun c4 => absurd rfl c4))
theorem w_X2_part {ga k : Nat} (hd : 4 < d) (hs : MacSh M r) (ha : MacAt M r A) (hA : okM A) (hg1 : mK M ga = 1) (hg2 : mN M ga = 8) (hne : ∀ i, i < 4 → ga ≠ r + i) (hk : k ≤ 7) (h : ∀ g M', Sm [ga, r + 3] M M' → (∀ s, s < pn A → isL (eqK A k) s (g s)) → (∀ s, s < pn A → mI M' ga s = nI (g s)) → Q (some (.int (nI (cG g (pn A))))) M') : ClD d mdX2_part [.ref r, .int (nI k), .ref ga] M Q := by
  have hb := hA.bd
  have hn := hb.1
  have g0 := hne 0 (by omega)
  have g1 := hne 1 (by omega)
  have g2 := hne 2 (by omega)
  have g3 := hne 3 (by omega)
  have nr : ∀ i, i < 3 → r + i ∉ [ga, r + 3] := by
    intro i hi hc
    simp only [List.mem_cons, List.not_mem_nil, or_false] at hc
    rcases hc with hc | hc
    · exact hne i (by omega) hc.symm
    · omega
  refine ⟨4, hd, Cl.of moX2_part (Nat.le_of_ble_eq_true rfl) (gX2_part_0 ?_)⟩
  -- the rounds
  refine upto (k + 1) (fun j => ∀ M1, Sm [ga, r + 3] M M1 → befOK M1 r A j → (∀ i, j = i + 1 → ∃ g : Nat → Nat, (∀ s, s < pn A → mI M1 ga s = nI (g s)) ∧ ∀ s, s < pn A → isL (eqK A i) s (g s)) → Wp 4 mdX2_part 2 [(0, .ref r), (1, .int (nI k)), (2, .ref ga), (3, .int (nI j))] [] M1 (fun r M' => ROK mdX2_part r ∧ Q r M')) ?_ 0 (Nat.zero_le _) M (Sm.rf _ _) (fun j e => by omega) (fun i e => by omega)
  intro j hj ih M1 hS hbf hgr
  have hr1 := hs.sm hS
  have ha1 := ha.sm hS (nr 0 (by omega)) (nr 1 (by omega)) (nr 2 (by omega))
  have k1 : mK M1 ga = 1 := by rw [hS.2.2.1]; exact hg1
  have n1 : mN M1 ga = 8 := by rw [hS.2.2.2.1]; exact hg2
  refine gX2_part_2 (fun c => ?_) (fun c => ?_)
  · rw [nI_ltI (by omega) (by omega)] at c
    have e : j = k + 1 := by omega
    obtain ⟨g, e1, e2⟩ := hgr k e
    refine upto (pn A) (fun s => Wp 4 mdX2_part 108 [(0, .ref r), (2, .ref ga), (3, .int (nI (cG g s))), (4, .int (nI s))] [] M1 (fun r M' => ROK mdX2_part r ∧ Q r M')) ?_ 0 (Nat.zero_le _)
    intro s hs1 ih2
    have hcg := cG_le g s
    refine gX2_part_108 hr1.1.1 k1 (fun c1 => ⟨⟨_, rfl⟩, ?_⟩) (fun c1 c2 => ?_) (fun c1 c2 => ?_) (fun c1 c2 c3 => ?_) (fun c1 c2 c3 => ?_) <;> rw [ha1.1.1] at c1
    · rw [nI_leI (by omega) (by omega)] at c1
      have e : s = pn A := by omega
      subst e
      exact h g M1 hS e2 e1
    · exfalso; rw [n1, nI_leI (by omega) (by omega)] at c2
      exact c1 (nI_le (by omega) (by omega))
    · have : s < pn A := Nat.lt_of_not_le fun q => c1 (nI_le q (by omega))
      rw [n1]; exact z_in (by omega) (by omega)
    · have hsn : s < pn A := Nat.lt_of_not_le fun q => c1 (nI_le q (by omega))
      have l1 := (e2 s hsn).1
      rw [nI_clamp (by omega), e1 s hsn, nI_eq (by omega) (by omega)] at c3
      have e : cG g (s + 1) = cG g s := by show cG g s + (if g s = s then 1 else 0) = _; rw [if_neg c3]; rfl
      rw [nI_add, ← e]
      exact ih2 hsn
    · have hsn : s < pn A := Nat.lt_of_not_le fun q => c1 (nI_le q (by omega))
      have l1 := (e2 s hsn).1
      rw [nI_clamp (by omega), e1 s hsn, nI_eq (by omega) (by omega)] at c3
      have e : cG g (s + 1) = cG g s + 1 := by show cG g s + (if g s = s then 1 else 0) = _; rw [if_pos c3]
      rw [nI_add, nI_add, ← e]
      exact ih2 hsn
  · have hjk : j ≤ k := Nat.le_of_not_lt fun q => c (nI_lt q (by omega))
    -- the groups of this round
    refine upto (pn A) (fun s => ∀ M2 (g : Nat → Nat), Sm [ga, r + 3] M M2 → befOK M2 r A j → (∀ i, i < s → mI M2 ga i = nI (g i)) → (∀ i, i < s → isL (eqK A j) i (g i)) → Wp 4 mdX2_part 10 [(0, .ref r), (1, .int (nI k)), (2, .ref ga), (3, .int (nI j)), (4, .int (nI s))] [] M2 (fun r M' => ROK mdX2_part r ∧ Q r M')) ?_ 0 (Nat.zero_le _) M1 (fun _ => 0) hS hbf (fun _ h => by omega) (fun _ h => by omega)
    intro s hs1 ih2 M2 g hS2 hbf2 e1 e2
    have hr2 := hs.sm hS2
    have ha2 := ha.sm hS2 (nr 0 (by omega)) (nr 1 (by omega)) (nr 2 (by omega))
    have k2 : mK M2 ga = 1 := by rw [hS2.2.2.1]; exact hg1
    have n2 : mN M2 ga = 8 := by rw [hS2.2.2.2.1]; exact hg2
    have body : s < pn A → ∀ b : Int32, (j = 0 → b = 0) → (j ≠ 0 → ¬ b = 0) → Wp 4 mdX2_part 41 [(0, .ref r), (1, .int (nI k)), (2, .ref ga), (3, .int (nI j)), (4, .int (nI s))] [.int b, .int (nI s), .ref r, .int (nI s), .ref ga] M2 (fun r M' => ROK mdX2_part r ∧ Q r M') := by
      intro hsn b hb0 hb1
      refine gX2_part_41 hr2.1.1 (w_X2_leastAlike (k := j) (by decide) hr2 ha2 hA hsn hb0 hb1 hbf2 (fun t hL => gX2_part_44 k2 ?_ ?_))
      · rw [n2]; exact z_in (by omega) (by omega)
      · rw [nI_add, nI_clamp (by omega)]
        refine ih2 hsn _ (fun i => if i = s then t else g i) (hS2.tr (Sm.sI (by simp) _ _ _)) (fun i e => ?_) (fun i hi => ?_) (fun i hi => ?_)
        · obtain ⟨g', q1, q2⟩ := hbf2 i e
          exact ⟨g', fun i hi => by rw [rI_np (by omega)]; exact q1 i hi, q2⟩
        · by_cases e : i = s
          · subst e; rw [if_pos rfl]; exact rI_at _ _ _ _
          · rw [if_neg e, rI_nk e]; exact e1 i (by omega)
        · by_cases e : i = s
          · subst e; rw [if_pos rfl]; exact hL
          · rw [if_neg e]; exact e2 i (by omega)
    have fin : pn A ≤ s → Wp 4 mdX2_part 51 [(0, .ref r), (1, .int (nI k)), (2, .ref ga), (3, .int (nI j))] [] M2 (fun r M' => ROK mdX2_part r ∧ Q r M') := by
      intro hge
      have es : s = pn A := by omega
      subst es
      refine gX2_part_51 ?_
      refine upto (pn A) (fun s => ∀ M3, Sm [ga, r + 3] M M3 → (∀ i, i < pn A → mI M3 ga i = nI (g i)) → (∀ i, i < s → mI M3 (r + 3) i = nI (g i)) → Wp 4 mdX2_part 54 [(0, .ref r), (1, .int (nI k)), (2, .ref ga), (3, .int (nI j)), (4, .int (nI s))] [] M3 (fun r M' => ROK mdX2_part r ∧ Q r M')) ?_ 0 (Nat.zero_le _) M2 hS2 e1 (fun _ h => by omega)
      intro s hs1 ih3 M3 hS3 f1 f2
      have hr3 := hs.sm hS3
      have ha3 := ha.sm hS3 (nr 0 (by omega)) (nr 1 (by omega)) (nr 2 (by omega))
      have k3 : mK M3 ga = 1 := by rw [hS3.2.2.1]; exact hg1
      have n3 : mN M3 ga = 8 := by rw [hS3.2.2.2.1]; exact hg2
      have nextR : pn A ≤ s → Wp 4 mdX2_part 2 [(0, .ref r), (1, .int (nI k)), (2, .ref ga), (3, .int (nI j + nI 1))] [] M3 (fun r M' => ROK mdX2_part r ∧ Q r M') := by
        intro hge
        have es : s = pn A := by omega
        subst es
        rw [nI_add]
        exact ih (by omega) M3 hS3 (fun i e => ⟨g, f2, by rw [show i = j by omega]; exact e2⟩) (fun i e => ⟨g, f1, by rw [show i = j by omega]; exact e2⟩)
      refine gX2_part_54 hr3.1.1 k3 (by rw [hr3.1.2.2.2]; exact hr3.2.2.2.1) (fun c1 => ?_) (fun c1 c2 => ?_) (fun c1 c2 c3 => ?_) (fun c1 c2 c3 => ?_) (fun c1 c2 c3 => ?_) (fun c1 c2 c3 => ?_) <;> rw [ha3.1.1] at c1
      · rw [nI_leI (by omega) (by omega)] at c1
        exact nextR c1
      · exfalso; rw [n3, nI_leI (by omega) (by omega)] at c2
        exact c1 (nI_le (by omega) (by omega))
      · exfalso; rw [hr3.1.2.2.2, hr3.2.2.2.2, nI_leI (by omega) (by omega)] at c3
        exact c1 (nI_le (by omega) (by omega))
      · have : s < pn A := Nat.lt_of_not_le fun q => c1 (nI_le q (by omega))
        rw [n3]; exact z_in (by omega) (by omega)
      · have : s < pn A := Nat.lt_of_not_le fun q => c1 (nI_le q (by omega))
        rw [hr3.1.2.2.2, hr3.2.2.2.2]; exact z_in (by omega) (by omega)
      · have hsn : s < pn A := Nat.lt_of_not_le fun q => c1 (nI_le q (by omega))
        rw [hr3.1.2.2.2, nI_clamp (by omega), nI_add, f1 s hsn]
        refine ih3 hsn _ (hS3.tr (Sm.sI (by simp) _ _ _)) (fun i hi => ?_) (fun i hi => ?_)
        · rw [rI_np (by omega)]; exact f1 i hi
        · by_cases e : i = s
          · subst e; exact rI_at _ _ _ _
          · rw [rI_nk e]; exact f2 i (by omega)
    refine gX2_part_10 hr2.1.1 k2 (fun c1 => ?_) (fun c1 c2 => ?_) (fun c1 c2 c3 => ?_) (fun c1 c2 c3 => ?_) <;> rw [ha2.1.1] at c1
    · rw [nI_leI (by omega) (by omega)] at c1
      exact fin c1
    · exfalso; rw [n2, nI_leI (by omega) (by omega)] at c2
      exact c1 (nI_le (by omega) (by omega))
    · have hsn : s < pn A := Nat.lt_of_not_le fun q => c1 (nI_le q (by omega))
      have hj0 : j = 0 := by
        by_cases e : j = 0
        · exact e
        · exact absurd c3 (nI_nle (by omega) (by omega))
      exact body hsn _ (fun _ => rfl) (fun e => absurd hj0 e)
    · have hsn : s < pn A := Nat.lt_of_not_le fun q => c1 (nI_le q (by omega))
      have hj0 : j ≠ 0 := by
        intro e
        rw [e] at c3
        exact c3 (by decide)
      exact body hsn _ (fun e => absurd e hj0) (fun _ => by decide)
end Part
