/-! the reference: groups of states -/
theorem pY_dn (j : Nat) : eo (pY (j + 1)) + (-1 : Int32) = eo (pY j) := by
  cases j with
  | zero => decide
  | succ j => exact pk_m1 j
theorem lsG_lt {A : PM} {k s : Nat} (hs : s < pn A) : lsG A k s < pn A := Nat.lt_of_le_of_lt (lsG_is A k s).1 hs
theorem lsG_iff {A : PM} {k s t : Nat} : lsG A k s = lsG A k t ↔ eqK A k s t := isL_eq (lsG_is A k s) (lsG_is A k t)
theorem cG_cg {g g' : Nat → Nat} : ∀ {n}, (∀ i, i < n → g i = g' i) → cG g n = cG g' n
  | 0, _ => rfl
  | n + 1, h => by
    show cG g n + (if g n = n then 1 else 0) = cG g' n + (if g' n = n then 1 else 0)
    rw [cG_cg (fun i hi => h i (by omega)), h n (by omega)]
def MoR (M : Mem) (m : Nat) (A : PM) (k : Nat) : Prop := ∀ i, i < pn A → mI M (m + 29) i = nI (lsG A k i)
section MGr
variable {d m st sp N : Nat} {Q : Option Value → Mem → Prop} {Mz M M' : Mem} {A G : PM} {p p' : PS} {X : List Nat} {R : List Int64}
/-- a number is told: what stays -/
theorem w_enS {v : Int64} (hd : 1 < d) (hS : MoS Mz M m X A st sp p R) (hl : R.length < 16) (h : ∀ M', MoS Mz M' m X A st sp p (R ++ [v]) → Sm [m, m + 1] M M' → (∀ j, j ≠ 1 → mI M' m j = mI M m j) → Q none M') : ClD d mdX12_enters [.ref m, .long v] M Q := by
  have f := hS.sh.1.f2
  have h1 := hS.1.2.2.2.1
  refine ⟨1, hd, Cl.of moX12_enters (Nat.le_of_ble_eq_true rfl) (gX12_enters_0 hS.sh.1.1 (by rw [f.1]; exact f.2.1) (by rw [f.1, f.2.2, h1]; exact z_in (by omega) (by decide)) ⟨rfl, ?_⟩)⟩
  rw [f.1, h1, nI_clamp (by omega), rI_J, h1, nI_add]
  exact h _ (hS.ent hl) ((Sm.sJ (by simp) _ _ _).tr (Sm.sI (by simp) _ _ _)) (fun j hj => by rw [rI_nk hj, rI_J])
theorem w_X12_staysTogether {s t k : Nat} (hd : 2 < d) (hs : MoSh M m) (hA0 : MoM M m 0 A) (hA : okM A) (hm3 : mI M m 3 = nI (pl A)) (hg : MoR M m A k) (hsn : s < pn A) (htn : t < pn A) (h1 : eqK A (k + 1) s t → Q (some (.int (nI 1))) M) (h0 : ¬ eqK A (k + 1) s t → Q (some (.int (nI 0))) M) : ClD d mdX12_staysTogether [.ref m, .int (nI s), .int (nI t)] M Q := by
  have a8 := hA.1.2
  have l3 := hA.2.1.2
  have f49 := hs.f49
  have K : mK M (mR M m 49) = 1 := by rw [f49.1]; exact f49.2.1
  have e49 : ∀ i, i < pn A → mI M (mR M m 49) (nI i).toNatClampNeg = nI (lsG A k i) := fun i hi => by rw [f49.1, nI_clamp (by omega)]; exact hg i hi
  have v49 : ∀ i, i < pn A → vp_in (nI i) (mN M (mR M m 49)) := fun i hi => by rw [f49.1, f49.2.2]; exact z_in (by omega) (by decide)
  have one : ¬ (nI 1 : Int32) = 0 := by decide
  have eqg : ∀ i j, i < pn A → j < pn A → (nI (lsG A k i) = nI (lsG A k j) ↔ eqK A k i j) := fun i j hi hj => by
    have := lsG_lt (k := k) hi
    have := lsG_lt (k := k) hj
    rw [nI_eq (by omega) (by omega), lsG_iff]
  refine ⟨2, hd, Cl.of moX12_staysTogether (Nat.le_of_ble_eq_true rfl) ?_⟩
  have LP : ∀ v : Int32, (v = nI 1 ∧ eqK A k s t) ∨ (v = nI 0 ∧ ¬ eqK A (k + 1) s t) → Wp 2 mdX12_staysTogether 20 [(0, .ref m), (1, .int (nI s)), (2, .int (nI t))] [.int v] M (fun r M' => ROK mdX12_staysTogether r ∧ Q r M') := fun v hv => by
    refine gX12_staysTogether_20 ?_
    refine upto (pl A) (fun x => ∀ v : Int32, (v = nI 1 ∧ eqK A k s t ∧ ∀ y, y < x → eqK A k (pt A s y) (pt A t y)) ∨ (v = nI 0 ∧ ¬ eqK A (k + 1) s t) → Wp 2 mdX12_staysTogether 24 [(0, .ref m), (1, .int (nI s)), (2, .int (nI t)), (3, .int v), (4, .int (nI x))] [] M (fun r M' => ROK mdX12_staysTogether r ∧ Q r M')) ?_ 0 (Nat.zero_le _) v (hv.imp (fun q => ⟨q.1, q.2, fun y hy => by omega⟩) id)
    intro x hx ih v hv
    refine gX12_staysTogether_24 hs.1 (fun c => ?_) (fun c c2 => ?_) (fun c c2 => ?_) <;> rw [hm3, nI_leI (by omega) (by omega)] at c
    · have e : x = pl A := by omega
      subst e
      rcases hv with q | q
      · rw [q.1]
        refine ⟨⟨_, rfl, by decide⟩, h1 ⟨?_, q.2.2⟩⟩
        exact eqK_le (k := 0) (j := k) (by rw [Nat.zero_add]; exact q.2.1)
      · rw [q.1]; exact ⟨⟨_, rfl, by decide⟩, h0 q.2⟩
    · rcases hv with q | q
      · exact absurd c2 (by rw [q.1]; exact one)
      · rw [nI_add]; exact ih (by omega) (nI 0) (Or.inr ⟨rfl, q.2⟩)
    · have hxl : x < pl A := by omega
      rcases hv with q | q
      · have t1 := hA.2.2.2 _ hsn x hxl
        have t2 := hA.2.2.2 _ htn x hxl
        refine w_X12_comes (by decide) hs (by decide) hA0 hA hsn hxl (gX12_staysTogether_49 K hs.1 (v49 _ t1) (w_X12_comes (by decide) hs (by decide) hA0 hA htn hxl (gX12_staysTogether_62 K (v49 _ t2) (fun c3 => ?_) (fun c3 => ?_)))) <;> rw [e49 _ t1, e49 _ t2, eqg _ _ t1 t2] at c3 <;> rw [nI_add]
        · exact ih hxl (nI 0) (Or.inr ⟨rfl, fun z => c3 (z.2 x hxl)⟩)
        · refine ih hxl (nI 1) (Or.inl ⟨rfl, q.2.1, fun y hy => ?_⟩)
          by_cases e : y = x
          · rw [e]; exact c3
          · exact q.2.2 y (by omega)
      · exact absurd (by rw [q.1]; rfl) c2
  refine gX12_staysTogether_0 hs.1 K (v49 _ hsn) (v49 _ htn) (fun c => ?_) (fun c => ?_) <;> rw [e49 _ hsn, e49 _ htn, eqg _ _ hsn htn] at c
  · exact LP (nI 0) (Or.inr ⟨rfl, fun z => c (eqK_dn z)⟩)
  · exact LP (nI 1) (Or.inl ⟨rfl, c⟩)
theorem w_X12_regroups {b : Int32} {k' : Nat} (hd : 3 < d) (hs : MoSh M m) (hA0 : MoM M m 0 A) (hA : okM A) (hm3 : mI M m 3 = nI (pl A)) (hb : (¬ b = 0 ∧ k' = 0) ∨ (b = 0 ∧ ∃ k, k' = k + 1 ∧ MoR M m A k))
    (h : ∀ M', Sm [m + 29, m + 30] M M' → MoR M' m A k' → Q none M') : ClD d mdX12_regroups [.ref m, .int b] M Q := by
  have a8 := hA.1.2
  have l3 := hA.2.1.2
  have up : ∀ {M1}, Sm [m + 30] M M1 → Sm [m + 29, m + 30] M M1 := fun S => S.mono (fun p hp => by simp at hp ⊢; omega)
  have tS : ∀ {M1}, Sm [m + 29, m + 30] M M1 → MoSh M1 m ∧ MoM M1 m 0 A ∧ mI M1 m 3 = nI (pl A) := fun S => ⟨hs.sm S, hA0.sm S (by simp) (by simp) (by simp), by rw [S.I (by simp)]; exact hm3⟩
  refine ⟨3, hd, Cl.of moX12_regroups (Nat.le_of_ble_eq_true rfl) (gX12_regroups_0 ?_)⟩
  refine upto (pn A) (fun s => ∀ M1, Sm [m + 30] M M1 → (∀ i, i < s → mI M1 (m + 30) i = nI (lsG A k' i)) → Wp 3 mdX12_regroups 2 [(0, .ref m), (1, .int b), (2, .int (nI s))] [] M1 (fun r M' => ROK mdX12_regroups r ∧ Q r M')) ?_ 0 (Nat.zero_le _) M (Sm.rf _ _) (fun i hi => by omega)
  intro s hsn ih M1 S hg
  obtain ⟨s1, A1, m3⟩ := tS (up S)
  have f4 := s1.f4
  have ef : mI M1 (mR M1 m 4) (nI 0).toNatClampNeg = nI (pn A) := by rw [f4.1, nI_clamp (by decide)]; exact A1.1
  refine gX12_regroups_2 s1.1 (by rw [f4.1]; exact f4.2.1) (by rw [f4.1, f4.2.2]; exact z_in (by decide) (by decide)) (fun c => ?_) (fun c => ?_) <;> rw [ef, nI_leI (by omega) (by omega)] at c
  · have e : s = pn A := by omega
    subst e
    refine upto (pn A) (fun i => ∀ M2, Sm [m + 29, m + 30] M M2 → mI M2 (m + 30) = mI M1 (m + 30) → (∀ j, j < i → mI M2 (m + 29) j = mI M1 (m + 30) j) → Wp 3 mdX12_regroups 85 [(0, .ref m), (2, .int (nI i))] [] M2 (fun r M' => ROK mdX12_regroups r ∧ Q r M')) ?_ 0 (Nat.zero_le _) M1 (up S) rfl (fun j hj => by omega)
    intro i hi ih2 M2 S2 h30 h29
    obtain ⟨s2, A2, -⟩ := tS S2
    have f4 := s2.f4
    have f49 := s2.f49
    have f50 := s2.f50
    have ef : mI M2 (mR M2 m 4) (nI 0).toNatClampNeg = nI (pn A) := by rw [f4.1, nI_clamp (by decide)]; exact A2.1
    refine gX12_regroups_85 s2.1 (by rw [f4.1]; exact f4.2.1) (by rw [f50.1]; exact f50.2.1) (by rw [f49.1]; exact f49.2.1) (by rw [f4.1, f4.2.2]; exact z_in (by decide) (by decide)) (fun c2 => ⟨rfl, ?_⟩) (fun c2 => ?_) (fun c2 => ?_) (fun c2 => ?_) <;> rw [ef, nI_leI (by omega) (by omega)] at c2
    · have e : i = pn A := by omega
      subst e
      exact h M2 S2 (fun j hj => by rw [h29 j hj]; exact hg j hj)
    · rw [f50.1, f50.2.2]; exact z_in (by omega) (by decide)
    · rw [f49.1, f49.2.2]; exact z_in (by omega) (by decide)
    · rw [f49.1, f50.1, nI_clamp (by omega), nI_add, h30]
      refine ih2 (by omega) _ (S2.tr (Sm.sI (by simp) _ _ _)) (by rw [rI_np (by omega)]; exact h30) (fun j hj => ?_)
      by_cases z : j = i
      · subst z; exact rI_at _ _ _ _
      · rw [rI_nk z]; exact h29 j (by omega)
  · have hlt : s < pn A := by omega
    have f50 := s1.f50
    have LP : ∀ j, j ≤ s → ∀ L, (L = s ∨ (j ≤ L ∧ L < s ∧ eqK A k' L s)) → (∀ i, j ≤ i → i < s → eqK A k' i s → L ≤ i) → Wp 3 mdX12_regroups 19 [(0, .ref m), (1, .int b), (2, .int (nI s)), (3, .int (nI L)), (4, .int (eo (pY j)))] [] M1 (fun r M' => ROK mdX12_regroups r ∧ Q r M') := by
      intro j
      induction j with
      | zero =>
        intro _ L hL1 hL2
        have eL : lsG A k' s = L := by
          refine lsG_eq ⟨by rcases hL1 with q | q <;> omega, ?_, fun i hi q => ?_⟩
          · rcases hL1 with q | q
            · rw [q]; exact eqK_rf A k' s
            · exact q.2.2
          · have : L ≤ i := by
              refine hL2 i (Nat.zero_le _) ?_ q
              rcases hL1 with q | q <;> omega
            omega
        refine gX12_regroups_19 s1.1 (by rw [f50.1]; exact f50.2.1) (fun _ => by rw [f50.1, f50.2.2]; exact z_in (by omega) (by decide)) (fun _ => ?_) (fun c => absurd (by decide) c) (fun c => absurd (by decide) c)
        rw [f50.1, nI_clamp (by omega), nI_add]
        refine ih hlt _ (S.tr (Sm.sI (by simp) _ _ _)) (fun i hi => ?_)
        by_cases z : i = s
        · subst z; rw [rI_at, eL]
        · rw [rI_nk z]; exact hg i (by omega)
      | succ j ihj =>
        intro hj L hL1 hL2
        have ej : eo (pY (j + 1)) = nI j := rfl
        have no : ¬ eo (pY (j + 1)) < 0 := by rw [ej]; exact nI_pos (by omega)
        have NO : ¬ eqK A k' s j → Wp 3 mdX12_regroups 19 [(0, .ref m), (1, .int b), (2, .int (nI s)), (3, .int (nI L)), (4, .int (eo (pY (j + 1)) + (-1 : Int32)))] [] M1 (fun r M' => ROK mdX12_regroups r ∧ Q r M') := fun hn => by
          rw [pY_dn]
          refine ihj (by omega) L (hL1.imp id (fun q => ⟨by omega, q.2⟩)) (fun i hi hi2 q => ?_)
          by_cases z : i = j
          · subst z; exact absurd (eqK_sy q) hn
          · exact hL2 i (by omega) hi2 q
        have YES : eqK A k' s j → Wp 3 mdX12_regroups 19 [(0, .ref m), (1, .int b), (2, .int (nI s)), (3, .int (eo (pY (j + 1)))), (4, .int (eo (pY (j + 1)) + (-1 : Int32)))] [] M1 (fun r M' => ROK mdX12_regroups r ∧ Q r M') := fun hy => by
          rw [pY_dn, ej]
          exact ihj (by omega) j (Or.inr ⟨Nat.le_refl _, by omega, eqK_sy hy⟩) (fun i hi hi2 q => hi)
        refine gX12_regroups_19 s1.1 (by rw [f50.1]; exact f50.2.1) (fun c => absurd c no) (fun c => absurd c no) (fun _ c2 => ?_) (fun _ c2 => ?_)
        · rcases hb with q | q
          · exact absurd c2 q.1
          · obtain ⟨-, k, ek, hk⟩ := q
            subst ek
            exact w_X12_staysTogether (by decide) s1 A1 hA m3 (fun i hi => by rw [S.I (by simp)]; exact hk i hi) hlt (by omega) (fun q => gX12_regroups_54 (fun c => absurd c (by decide)) (fun _ => YES q)) (fun q => gX12_regroups_54 (fun _ => NO q) (fun c => absurd rfl c))
        · rcases hb with q | q
          · have ek := q.2
            subst ek
            have o1 := hA.2.2.1 _ hlt
            have o2 := hA.2.2.1 j (by omega)
            refine w_X12_shown (by decide) s1 (by decide) A1 hA hlt (gX12_regroups_34 s1.1 (w_X12_shown (by decide) s1 (by decide) A1 hA (by omega) (gX12_regroups_41 (fun c3 => ?_) (fun c3 => ?_)))) <;> rw [nI_eq (by omega) (by omega)] at c3
            · exact NO c3
            · exact YES c3
          · exact absurd q.1 c2
    have := LP s (Nat.le_refl _) s (Or.inl rfl) (fun i h1 h2 => by omega)
    have e9 : eo (pY s) = nI s - nI 1 := by
      cases s with
      | zero => decide
      | succ s => show nI s = _; rw [z_sub (by omega)]; rfl
    rw [e9] at this
    exact this
theorem w_X12_groups {x : Int32} (hd : 4 < d) (hS : MoS Mz M m X A st sp p R) (h1 : ∀ M', MoS Mz M' m X A st sp p R → (¬ ∃ k, k ≤ 7 ∧ x = nI k) → Q (some (.int (-1 : Int32))) M')
    (h2 : ∀ M' k, k ≤ 7 → x = nI k → MoS Mz M' m X A st sp p (lsR A k (pn A)) → Q (some (.int (nI (cG (lsG A k) (pn A))))) M') : ClD d mdX12_groups [.ref m, .int x] M Q := by
  have hA := hS.sh.2
  have a8 := hA.1.2
  have l3 := hA.2.1
  obtain ⟨M1, hM1⟩ : ∃ M1, M1 = sI M m 0 (nI 0) := ⟨_, rfl⟩
  have hS1 : MoS Mz M1 m X A st sp p R := by rw [hM1]; exact hS.th
  have s1 := hS1.sh.1
  have one : ¬ (nI 1 : Int32) = 0 := by decide
  have tS : ∀ {M2 M3}, MoS Mz M2 m X A st sp p R → Sm [m + 29, m + 30] M2 M3 → MoS Mz M3 m X A st sp p R := fun h S => h.sm S (fun q hq => by simp at hq; omega)
  refine ⟨4, hd, Cl.of moX12_groups (Nat.le_of_ble_eq_true rfl) (gX12_groups_0 hS.sh.1.1 ?_)⟩
  rw [← hM1]
  refine w_inI (a := 0) (b := 7) (by decide) (by decide) (by decide) (fun k _ hk ek => gX12_groups_14 s1.1 (fun _ => ?_) (fun c => absurd c one)) (fun hn => gX12_groups_14 s1.1 (fun c => absurd rfl c) (fun _ => ⟨⟨_, rfl⟩, h1 M1 hS1 (fun ⟨k, k1, k2⟩ => hn ⟨k, Nat.zero_le _, k1, k2⟩)⟩))
  have h2 := fun M' => h2 M' k hk ek
  rw [ek]
  refine w_X12_regroups (k' := 0) (by decide) s1 hS1.l3.2 hA hS1.l3.1 (Or.inl ⟨one, rfl⟩) (fun M2 S2 hr2 => gX12_groups_24 ?_)
  refine upto k (fun i => ∀ M2, MoS Mz M2 m X A st sp p R → MoR M2 m A i → Wp 4 mdX12_groups 26 [(0, .ref m), (1, .int (nI k)), (2, .int (nI i))] [] M2 (fun r M' => ROK mdX12_groups r ∧ Q r M')) ?_ 0 (Nat.zero_le _) M2 (tS hS1 S2) hr2
  clear hr2 S2 M2
  intro i hi ih M2 hS2 hr2
  refine gX12_groups_26 hS2.sh.1.1 (fun c => ?_) (fun c => ?_) <;> rw [nI_leI (by omega) (by omega)] at c
  · have e : i = k := by omega
    subst e
    have z0 : (nI 0 : Int32) = nI (cG (lsG A i) 0) := rfl
    rw [z0]
    refine upto (pn A) (fun s => ∀ M3, MoS Mz M3 m X A st sp p (lsR A i s) → MoR M3 m A i → Wp 4 mdX12_groups 51 [(0, .ref m), (2, .int (nI (cG (lsG A i) s))), (3, .int (nI s))] [] M3 (fun r M' => ROK mdX12_groups r ∧ Q r M')) ?_ 0 (Nat.zero_le _) _ hS2.nil (fun j hj => by rw [rI_np (by omega)]; exact hr2 j hj)
    intro s hsn ih2 M3 hS3 hr3
    have s3 := hS3.sh.1
    have f4 := s3.f4
    have f49 := s3.f49
    have ef : mI M3 (mR M3 m 4) (nI 0).toNatClampNeg = nI (pn A) := by rw [f4.1, nI_clamp (by decide)]; exact hS3.l3.2.1
    have K49 : mK M3 (mR M3 m 49) = 1 := by rw [f49.1]; exact f49.2.1
    have cs : cG (lsG A i) (s + 1) = cG (lsG A i) s + if lsG A i s = s then 1 else 0 := rfl
    have NX : ∀ v : Nat, v ≤ 1 → s < pn A → (if lsG A i s = s then 1 else 0) = v → Wp 4 mdX12_groups 77 [(0, .ref m), (3, .int (nI s))] [.int (nI v), .int (nI (cG (lsG A i) s))] M3 (fun r M' => ROK mdX12_groups r ∧ Q r M') := fun v hv hlt ev => by
      have fin : ∀ w : Nat, w = v → Wp 4 mdX12_groups 80 [(0, .ref m), (3, .int (nI s))] [.int (nI w), .int (nI (cG (lsG A i) s))] M3 (fun r M' => ROK mdX12_groups r ∧ Q r M') := fun w ew => by
        refine gX12_groups_80 s3.1 K49 (by rw [f49.1, f49.2.2]; exact z_in (by omega) (by decide)) ?_
        rw [f49.1, nI_clamp (by omega), hr3 s hlt]
        refine w_enS (by decide) hS3 (by rw [lsR_len]; omega) (fun M4 S4 F4 _ => gX12_groups_93 ?_)
        rw [nI_add, nI_add, ew, ← ev, ← cs]
        exact ih2 hlt M4 (by rw [lsR_s]; exact S4) (fun j hj => by rw [F4.I (by simp)]; exact hr3 j hj)
      refine gX12_groups_77 (w_X12_flag (by decide) (fun c9 => fin 0 ?_) (fun c9 => fin 1 ?_))
      · have c9 : nI v = nI 0 := c9
        rw [nI_eq (by omega) (by decide)] at c9; exact c9.symm
      · apply Classical.byContradiction; intro q
        exact c9 (by rw [show v = 0 by omega]; rfl)
    refine gX12_groups_51 s3.1 (by rw [f4.1]; exact f4.2.1) K49 (by rw [f4.1, f4.2.2]; exact z_in (by decide) (by decide)) (fun c2 => ⟨⟨_, rfl⟩, ?_⟩) (fun c2 => ?_) (fun c2 c3 => ?_) (fun c2 c3 => ?_) <;> rw [ef, nI_leI (by omega) (by omega)] at c2
    · have e : s = pn A := by omega
      subst e
      exact h2 M3 hS3
    · rw [f49.1, f49.2.2]; exact z_in (by omega) (by decide)
    · have := lsG_lt (k := i) (show s < pn A by omega)
      rw [f49.1, nI_clamp (by omega), hr3 s (by omega), nI_eq (by omega) (by omega)] at c3
      exact NX 0 (by decide) (by omega) (if_neg c3)
    · have := lsG_lt (k := i) (show s < pn A by omega)
      rw [f49.1, nI_clamp (by omega), hr3 s (by omega), nI_eq (by omega) (by omega)] at c3
      exact NX 1 (by decide) (by omega) (if_pos c3)
  · refine w_X12_regroups (k' := i + 1) (by decide) hS2.sh.1 hS2.l3.2 hA hS2.l3.1 (Or.inr ⟨rfl, i, rfl, hr2⟩) (fun M3 S3 hr3 => gX12_groups_36 ?_)
    rw [nI_add]
    exact ih (by omega) M3 (tS hS2 S3) hr3
end MGr
