/-! the reference: states alike, how many unlike ones are reached -/
theorem fuC_is {A B : PM} (hA : okM A) (hB : okM B) (hl : pl B = pl A) {p q : Nat} (hp : p < pn A) (hq : q < pn B) : isFU (pl A) A p B q (fuC A p B q) := by
  obtain ⟨c, hc⟩ := isFU_ex hA hB hl hp hq
  rw [fuC_of hc]; exact hc
theorem fuC_0 {A B : PM} (hA : okM A) (hB : okM B) (hl : pl B = pl A) {p q : Nat} (hp : p < pn A) (hq : q < pn B) : fuC A p B q = 0 ↔ ∀ u, vw (pl A) u → an A p u = an B q u := by
  constructor
  · intro e
    rcases fuC_is hA hB hl hp hq with ⟨_, h⟩ | ⟨w, _, _, h, _⟩
    · exact h
    · have := cd_pos w
      omega
  · intro h; exact fuC_of (Or.inl ⟨rfl, h⟩)
theorem fuC_7 {A : PM} (hA : okM A) {p q : Nat} (hp : p < pn A) (hq : q < pn A) : fuC A p A q = 0 ↔ eqK A 7 p q := by
  rw [fuC_0 hA hA rfl hp hq, moore7 hA hp hq]
theorem fuC_lt {A B : PM} (hA : okM A) (hB : okM B) (hl : pl B = pl A) {p q : Nat} (hp : p < pn A) (hq : q < pn B) : fuC A p B q < 2 ^ 61 := by
  rcases fuC_is hA hB hl hp hq with ⟨e, _⟩ | ⟨w, h1, h2, e, _⟩
  · rw [e]; decide
  · rw [e]; exact cd30 (vw_mono h1 (by have := hA.2.1.2; omega)) (by omega)
theorem reC_is {A : PM} {s c : Nat} (h : isRe (pl A) A s c) : isRe (pl A) A s (reC A s) := by rw [reC_of h]; exact h
/-- the first unlike one that is reached -/
def uP (A : PM) (s : Nat) : Prop := reC A s ≠ 0 ∧ ∀ t, t < s → reC A t ≠ 0 → ¬ eqK A 7 t s
noncomputable def uN (A : PM) : Nat := cP (uP A) (pn A)
theorem cP_list (P : Nat → Prop) : ∀ n, ∃ L : List Nat, L.Nodup ∧ L.length = cP P n ∧ ∀ i, i ∈ L ↔ i < n ∧ P i
  | 0 => ⟨[], List.nodup_nil, rfl, fun i => ⟨fun h => by simp at h, fun h => by omega⟩⟩
  | n + 1 => by
    obtain ⟨L, l1, l2, l3⟩ := cP_list P n
    by_cases c : P n
    · refine ⟨L ++ [n], ?_, by rw [List.length_append, List.length_singleton, l2, cP_yes c], fun i => ?_⟩
      · rw [List.nodup_append]
        refine ⟨l1, by simp, fun a ha b hb => ?_⟩
        rw [List.mem_singleton] at hb
        have := (l3 a).mp ha
        omega
      · rw [List.mem_append, List.mem_singleton, l3]
        constructor
        · rintro (⟨a, b⟩ | a)
          · exact ⟨by omega, b⟩
          · subst a; exact ⟨by omega, c⟩
        · rintro ⟨a, b⟩
          by_cases e : i = n
          · exact Or.inr e
          · exact Or.inl ⟨by omega, b⟩
    · refine ⟨L, l1, by rw [l2, cP_no c], fun i => ?_⟩
      rw [l3]
      constructor
      · rintro ⟨a, b⟩; exact ⟨by omega, b⟩
      · rintro ⟨a, b⟩
        by_cases e : i = n
        · subst e; exact absurd b c
        · exact ⟨by omega, b⟩
theorem nodup_map_on {f : Nat → Nat} : ∀ {L : List Nat}, L.Nodup → (∀ a b, a ∈ L → b ∈ L → f a = f b → a = b) → (L.map f).Nodup
  | [], _, _ => List.nodup_nil
  | x :: L, h, hf => by
    rw [List.nodup_cons] at h
    rw [List.map_cons, List.nodup_cons]
    refine ⟨fun hx => ?_, nodup_map_on h.2 (fun a b ha hb => hf a b (List.mem_cons_of_mem _ ha) (List.mem_cons_of_mem _ hb))⟩
    obtain ⟨y, y1, y2⟩ := List.mem_map.mp hx
    have := hf x y List.mem_cons_self (List.mem_cons_of_mem _ y1) y2.symm
    rw [this] at h; exact h.1 y1
theorem cP_inj {P P' : Nat → Prop} {n : Nat} (f : Nat → Nat) (h1 : ∀ i, i < n → P i → f i < n ∧ P' (f i)) (h2 : ∀ i j, i < n → j < n → P i → P j → f i = f j → i = j) : cP P n ≤ cP P' n := by
  obtain ⟨L, l1, l2, l3⟩ := cP_list P n
  obtain ⟨K, k1, k2, k3⟩ := cP_list P' n
  have := nodup_le (nodup_map_on (f := f) l1 (fun a b ha hb => h2 a b ((l3 a).mp ha).1 ((l3 b).mp hb).1 ((l3 a).mp ha).2 ((l3 b).mp hb).2)) (K := K) (fun x hx => by
    obtain ⟨y, y1, y2⟩ := List.mem_map.mp hx
    have g := (l3 y).mp y1
    rw [← y2]
    exact (k3 _).mpr (h1 y g.1 g.2))
  rw [List.length_map, l2, k2] at this
  exact this
/-- the groups that are reached, by their least states -/
theorem uN_groups {A : PM} {g : Nat → Nat} (hg : ∀ s, s < pn A → isL (eqK A 7) s (g s)) : cP (fun i => ∃ s, s < pn A ∧ reC A s ≠ 0 ∧ g s = i) (pn A) = uN A := by
  have gle : ∀ s, s < pn A → g s < pn A := fun s hs => Nat.lt_of_le_of_lt (hg s hs).1 hs
  have geq : ∀ s t, s < pn A → t < pn A → (g s = g t ↔ eqK A 7 s t) := fun s t hs ht => isL_eq (hg s hs) (hg t ht)
  have gg : ∀ s, s < pn A → g (g s) = g s := fun s hs => (geq _ _ (gle s hs) hs).mpr (hg s hs).2.1
  apply Nat.le_antisymm
  · -- from a group to its first reached state
    have ex : ∀ i, (∃ s, s < pn A ∧ reC A s ≠ 0 ∧ g s = i) → ∃ s, (s < pn A ∧ reC A s ≠ 0 ∧ g s = i) ∧ ∀ t, t < s → ¬ (t < pn A ∧ reC A t ≠ 0 ∧ g t = i) := fun i h => pk_least _ h
    let f : Nat → Nat := fun i => @dite _ (∃ s, s < pn A ∧ reC A s ≠ 0 ∧ g s = i) (Classical.propDecidable _) (fun h => Classical.choose (ex i h)) (fun _ => 0)
    have fs : ∀ i, (∃ s, s < pn A ∧ reC A s ≠ 0 ∧ g s = i) → (f i < pn A ∧ reC A (f i) ≠ 0 ∧ g (f i) = i) ∧ ∀ t, t < f i → ¬ (t < pn A ∧ reC A t ≠ 0 ∧ g t = i) := fun i h => by
      have e : f i = Classical.choose (ex i h) := dif_pos h
      rw [e]; exact Classical.choose_spec (ex i h)
    refine cP_inj f (fun i _ h => ?_) (fun i j _ _ hi hj e => ?_)
    · have := fs i h
      refine ⟨this.1.1, this.1.2.1, fun t ht hr hk => this.2 t ht ⟨by omega, hr, ?_⟩⟩
      rw [(geq t (f i) (by omega) this.1.1).mpr hk]; exact this.1.2.2
    · rw [← (fs i hi).1.2.2, e]; exact (fs j hj).1.2.2
  · refine cP_inj g (fun s hs h => ⟨gle s hs, s, hs, h.1, rfl⟩) (fun i j hi hj pi pj e => ?_)
    have k := (geq i j hi hj).mp e
    rcases Nat.lt_trichotomy i j with z | z | z
    · exact absurd k (pj.2 i z pi.1)
    · exact z
    · exact absurd (eqK_sy k) (pi.2 j z pj.1)
section MLl
variable {d m : Nat} {Q : Option Value → Mem → Prop} {Mz M M' : Mem} {A : PM}
theorem w_X12_leastLike {s : Nat} {b : Int32} (hd : 3 < d) (hs : MoSh M m) (hA0 : MoM M m 0 A) (hA : okM A) (hm3 : mI M m 3 = nI (pl A)) (hs8 : s < pn A) (hr : ¬ b = 0 → ∀ t, t < 8 → mJ M (m + 26) t = lN (reC A t) ∧ isRe (pl A) A t (reC A t))
    (h : ∀ M' o, Sm [m + 18, m + 19, m + 20] M M' → isF s (fun t => (¬ b = 0 → reC A t ≠ 0) ∧ eqK A 7 t s) o → Q (some (.int (nI (o.getD s)))) M') : ClD d mdX12_leastLike [.ref m, .int (nI s), .int b] M Q := by
  have a8 := hA.1.2
  have l3 := hA.2.1.2
  have tS : ∀ {M1}, Sm [m + 18, m + 19, m + 20] M M1 → MoSh M1 m ∧ MoM M1 m 0 A ∧ mI M1 m 3 = nI (pl A) ∧ mJ M1 (m + 26) = mJ M (m + 26) := fun S => ⟨hs.sm S, hA0.sm S (by simp) (by simp) (by simp), by rw [S.I (by simp)]; exact hm3, S.J (by simp)⟩
  refine ⟨3, hd, Cl.of moX12_leastLike (Nat.le_of_ble_eq_true rfl) (gX12_leastLike_0 ?_)⟩
  refine upto s (fun t => ∀ M1, Sm [m + 18, m + 19, m + 20] M M1 → (∀ i, i < t → ¬ ((¬ b = 0 → reC A i ≠ 0) ∧ eqK A 7 i s)) → Wp 3 mdX12_leastLike 2 [(0, .ref m), (1, .int (nI s)), (2, .int b), (3, .int (nI t))] [] M1 (fun r M' => ROK mdX12_leastLike r ∧ Q r M')) ?_ 0 (Nat.zero_le _) M (Sm.rf _ _) (fun i hi => by omega)
  intro t ht ih M1 S hno
  obtain ⟨s1, A1, m3, mj⟩ := tS S
  have f40 := s1.f40
  have GO : (¬ b = 0 → reC A t ≠ 0) → t < s → Wp 3 mdX12_leastLike 22 [(0, .ref m), (1, .int (nI s)), (2, .int b), (3, .int (nI t))] [] M1 (fun r M' => ROK mdX12_leastLike r ∧ Q r M') := fun hrt hlt => by
    refine gX12_leastLike_22 s1.1 (w_X12_firstUnlike (by decide) s1 (by decide) (by decide) A1 hA A1 hA rfl m3 hs8 (by omega) (fun M2 S2 => ?_))
    have fl := fuC_lt hA hA rfl hs8 (show t < pn A by omega)
    refine gX12_leastLike_30 (fun c => ?_) (fun c => ⟨⟨_, rfl⟩, ?_⟩) <;> rw [pk_lEQ (by omega) (by decide), fuC_7 hA hs8 (by omega)] at c
    · rw [nI_add]
      refine ih hlt M2 (S.tr S2) (fun i hi q => ?_)
      by_cases e : i = t
      · subst e; exact c (eqK_sy q.2)
      · exact hno i (by omega) q
    · exact h M2 (some t) (S.tr S2) ⟨hlt, ⟨hrt, eqK_sy c⟩, hno⟩
  refine gX12_leastLike_2 s1.1 (by rw [f40.1]; exact f40.2.1) (fun c => ⟨⟨_, rfl⟩, ?_⟩) (fun c c2 => ?_) (fun c c2 => ?_) (fun c c2 c3 => ?_) (fun c c2 c3 => ?_) <;> rw [nI_leI (by omega) (by omega)] at c
  · exact h M1 none S (fun i hi => hno i (by omega))
  · exact GO (fun q => absurd c2 q) (by omega)
  · rw [f40.1, f40.2.2]; exact z_in (by omega) (by decide)
  · rw [f40.1, nI_clamp (by omega), mj, (hr c2 t (by omega)).1] at c3
    have hlt : reC A t < 2 ^ 61 := by
      rcases (hr c2 t (by omega)).2 with ⟨e, _⟩ | ⟨w, h1, h2, e, _⟩
      · rw [e]; decide
      · rw [e]; exact cd30 (vw_mono h1 (by omega)) (by omega)
    rw [pk_lEQ (by omega) (by decide)] at c3
    rw [nI_add]
    refine ih (by omega) M1 S (fun i hi q => ?_)
    by_cases e : i = t
    · subst e; exact q.1 c2 c3
    · exact hno i (by omega) q
  · rw [f40.1, nI_clamp (by omega), mj, (hr c2 t (by omega)).1] at c3
    exact GO (fun _ q => c3 (by rw [q])) (by omega)
theorem w_X12_unlikeMany (hd : 4 < d) (hs : MoSh M m) (hA0 : MoM M m 0 A) (hA : okM A) (hm3 : mI M m 3 = nI (pl A))
    (h : ∀ M', Sm [m + 18, m + 19, m + 20, m + 26] M M' → Q (some (.int (nI (uN A)))) M') : ClD d mdX12_unlikeMany [.ref m] M Q := by
  have a8 := hA.1.2
  have l3 := hA.2.1.2
  have tS : ∀ {M1}, Sm [m + 18, m + 19, m + 20, m + 26] M M1 → MoSh M1 m ∧ MoM M1 m 0 A ∧ mI M1 m 3 = nI (pl A) := fun S => ⟨hs.sm S, hA0.sm S (by simp) (by simp) (by simp), by rw [S.I (by simp)]; exact hm3⟩
  refine ⟨4, hd, Cl.of moX12_unlikeMany (Nat.le_of_ble_eq_true rfl) (gX12_unlikeMany_0 hs.1 (w_X12_laysReaching (by decide) hs (by decide) hA0 hA hm3 (fun M0 S0 hr0 => gX12_unlikeMany_5 ?_)))⟩
  refine upto (pn A) (fun s => ∀ M1, Sm [m + 18, m + 19, m + 20, m + 26] M M1 → (∀ t, t < 8 → mJ M1 (m + 26) t = lN (reC A t) ∧ isRe (pl A) A t (reC A t)) → Wp 4 mdX12_unlikeMany 9 [(0, .ref m), (1, .int (nI (cP (uP A) s))), (2, .int (nI s))] [] M1 (fun r M' => ROK mdX12_unlikeMany r ∧ Q r M')) ?_ 0 (Nat.zero_le _) M0 (S0.mono (fun p hp => by simp at hp ⊢; omega)) hr0
  intro s hsn ih M1 S hr
  obtain ⟨s1, A1, m3⟩ := tS S
  have f4 := s1.f4
  have f40 := s1.f40
  have NX : ∀ (M2 : Mem) (k : Nat), s < pn A → Sm [m + 18, m + 19, m + 20] M1 M2 → cP (uP A) (s + 1) = cP (uP A) s + k → k ≤ 1 → Wp 4 mdX12_unlikeMany 46 [(0, .ref m), (2, .int (nI s))] [.int (nI k), .int (nI (cP (uP A) s))] M2 (fun r M' => ROK mdX12_unlikeMany r ∧ Q r M') := fun M2 k hlt S2 hk hk1 => by
    have nx : Wp 4 mdX12_unlikeMany 9 [(0, .ref m), (1, .int (nI (cP (uP A) (s + 1)))), (2, .int (nI (s + 1)))] [] M2 (fun r M' => ROK mdX12_unlikeMany r ∧ Q r M') := ih hlt M2 (S.tr (S2.mono (fun p hp => by simp at hp ⊢; omega))) (fun t ht => by rw [S2.J (by simp)]; exact hr t ht)
    rw [hk] at nx
    refine gX12_unlikeMany_46 (w_X12_flag (by decide) (fun c => gX12_unlikeMany_49 ?_) (fun c => gX12_unlikeMany_49 ?_)) <;> rw [nI_add, nI_add]
    · have c : nI k = nI 0 := c
      rw [nI_eq (by omega) (by decide)] at c
      rw [c] at nx; exact nx
    · have : k = 1 := by
        apply Classical.byContradiction; intro q
        exact c (by rw [show k = 0 by omega]; rfl)
      rw [this] at nx; exact nx
  have ef : mI M1 (mR M1 m 4) (nI 0).toNatClampNeg = nI (pn A) := by rw [f4.1, nI_clamp (by decide)]; exact A1.1
  refine gX12_unlikeMany_9 s1.1 (by rw [f4.1]; exact f4.2.1) (by rw [f40.1]; exact f40.2.1) (by rw [f4.1, f4.2.2]; exact z_in (by decide) (by decide)) (fun c => ⟨⟨_, rfl⟩, ?_⟩) (fun c => ?_) (fun c c2 => ?_) (fun c c2 => ?_) <;> rw [ef, nI_leI (by omega) (by omega)] at c
  · have e : s = pn A := by omega
    rw [e]; exact h M1 S
  · rw [f40.1, f40.2.2]; exact z_in (by omega) (by decide)
  · rw [f40.1, nI_clamp (by omega), (hr s (by omega)).1] at c2
    have hlt : reC A s < 2 ^ 61 := by
      rcases (hr s (by omega)).2 with ⟨e, _⟩ | ⟨w, h1, h2, e, _⟩
      · rw [e]; decide
      · rw [e]; exact cd30 (vw_mono h1 (by omega)) (by omega)
    rw [pk_lEQ (by omega) (by decide)] at c2
    refine gX12_unlikeMany_45 (NX M1 0 (by omega) (Sm.rf _ _) ?_ (by decide))
    rw [cP_no (fun q => q.1 c2)]; rfl
  · rw [f40.1, nI_clamp (by omega), (hr s (by omega)).1] at c2
    refine w_X12_leastLike (by decide) s1 A1 hA m3 (by omega) (fun _ => hr) (fun M2 o S2 ho => ?_)
    have one : ¬ (nI 1 : Int32) = 0 := by decide
    cases o with
    | none =>
      refine gX12_unlikeMany_37 (fun c3 => absurd rfl c3) (fun _ => NX M2 1 (by omega) S2 (cP_yes ⟨fun q => c2 (by rw [q]), fun t ht hrt hk => ho t ht ⟨fun _ => hrt, hk⟩⟩) (by decide))
    | some t =>
      obtain ⟨t1, t2, -⟩ := ho
      refine gX12_unlikeMany_37 (fun c3 => gX12_unlikeMany_45 (NX M2 0 (by omega) S2 ?_ (by decide))) (fun c3 => ?_)
      · rw [cP_no (fun q => q.2 t t1 (t2.1 one) t2.2)]; rfl
      · have c3 : nI t = nI s := c3
        rw [nI_eq (by omega) (by omega)] at c3; omega
end MLl
