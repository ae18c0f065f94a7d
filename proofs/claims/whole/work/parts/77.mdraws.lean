/-! the reference: a machine is drawn; like states told; the way to a state -/
/-- the least state like one by words of at most k letters -/
noncomputable def lsG (A : PM) (k s : Nat) : Nat := (ff s (fun t => eqK A k t s)).getD s
theorem lsG_is (A : PM) (k s : Nat) : isL (eqK A k) s (lsG A k s) := by
  have h := ff_is s (fun t => eqK A k t s)
  unfold lsG
  cases e : ff s (fun t => eqK A k t s) with
  | none => rw [e] at h; exact ⟨Nat.le_refl _, eqK_rf A k s, fun i hi => h i hi⟩
  | some t => rw [e] at h; exact ⟨Nat.le_of_lt h.1, h.2.1, fun i hi => h.2.2 i hi⟩
theorem lsG_eq {A : PM} {k s t : Nat} (h : isL (eqK A k) s t) : lsG A k s = t := isL_un (lsG_is A k s) h
noncomputable def lsR (A : PM) (k n : Nat) : List Int64 := (List.range n).map (fun s => (nI (lsG A k s)).toInt64)
theorem lsR_s (A : PM) (k n : Nat) : lsR A k (n + 1) = lsR A k n ++ [(nI (lsG A k n)).toInt64] := by unfold lsR; rw [List.range_succ, List.map_append]; rfl
theorem lsR_len (A : PM) (k n : Nat) : (lsR A k n).length = n := by unfold lsR; rw [List.length_map, List.length_range]
/-- a machine that is being drawn -/
def DW (M : Mem) (m : Nat) (B : PM) (s so x : Nat) : Prop := mI M (m + 2) 0 = nI (pn B) ∧ (∀ s', s' < so → mI M (m + 3) s' = nI (po B s')) ∧ ∀ s' x', x' < pl B → (s' < s ∨ (s' = s ∧ x' < x)) → mI M (m + 4) (3 * s' + x') = nI (pt B s' x')
section MDr
variable {d m st sp N : Nat} {Q : Option Value → Mem → Prop} {Mz M M' : Mem} {A : PM} {p p' : PS} {X : List Nat} {R : List Int64}
theorem MoS.sm {S : List Nat} (h : MoS Mz M m X A st sp p R) (F : Sm S M M') (hS : ∀ q, q ∈ S → (m + 18 ≤ q ∧ q < m + 31) ∧ q ≠ m + 21) : MoS Mz M' m X A st sp p R := by
  have h0 := h
  obtain ⟨⟨⟨h1, h2⟩, h3, h4, h5, h6, h7⟩, -⟩ := h
  have n0 : m ∉ S := fun q => by have := (hS m q).1; omega
  have n1 : m + 1 ∉ S := fun q => by have := (hS _ q).1; omega
  refine ⟨?_, h0.fr F (fun q hq => by have := hS q hq; omega)⟩
  exact ⟨⟨h1.sm F (fun q => (hS _ q).2 rfl), by rw [F.I n0]; exact h2⟩, h3.sm F (fun q hq => by have := hS q hq; omega), by rw [F.I n0]; exact h4, by rw [F.I n0]; exact h5, h6, fun j hj => by rw [F.J n1]; exact h7 j hj⟩
theorem w_X12_draw {n : Nat} (hd : 1 < d) (hk : mK M m = 14) (h0 : 0 < n) (hn : n < 2 ^ 31) (h : Q (some (.int (nI (dwN (stI (mI M m 37)) n)))) (sI M m 37 (stI (mI M m 37)))) : ClD d mdX12_draw [.ref m, .int (nI n)] M Q := by
  refine ⟨1, hd, Cl.of moX12_draw (Nat.le_of_ble_eq_true rfl) (gX12_draw_0 hk (nI_ne0 h0 hn) ⟨⟨_, rfl⟩, ?_⟩)⟩
  rw [rI_at, dw_eq _ h0 hn]
  exact h
theorem w_X12_draws {seed x y z : Int32} (hd : 6 < d) (hS : MoS Mz M m X A st sp p R) (hm3 : qm p ≤ 3)
    (h1 : ∀ M' n l k, (1 ≤ n ∧ n ≤ 8) → (1 ≤ l ∧ l ≤ 3) → (1 ≤ k ∧ k ≤ 4) → x = nI n → y = nI l → z = nI k → MoS Mz M' m X (drM seed n l k) st sp (newP (drM seed n l k) st sp (qm p)) R → Q (some (.int (nI (uN (drM seed n l k))))) M')
    (h2 : ∀ M', MoS Mz M' m X A st sp p R → (¬ ∃ n l k, (1 ≤ n ∧ n ≤ 8) ∧ (1 ≤ l ∧ l ≤ 3) ∧ (1 ≤ k ∧ k ≤ 4) ∧ x = nI n ∧ y = nI l ∧ z = nI k) → Q (some (.int (-1 : Int32))) M') : ClD d mdX12_draws [.ref m, .int seed, .int x, .int y, .int z] M Q := by
  obtain ⟨M1, hM1⟩ : ∃ M1, M1 = sI M m 0 (nI 0) := ⟨_, rfl⟩
  have hS1 : MoS Mz M1 m X A st sp p R := by rw [hM1]; exact hS.th
  have s1 := hS1.sh.1
  have f4 := s1.f4
  have one : ¬ (nI 1 : Int32) = 0 := by decide
  refine ⟨6, hd, Cl.of moX12_draws (Nat.le_of_ble_eq_true rfl) (gX12_draws_0 hS.sh.1.1 ?_)⟩
  rw [← hM1]
  refine w_inI (a := 1) (b := 8) (by decide) (by decide) (by decide) (fun n n1 n8 en => gX12_draws_14 (fun c => absurd c one) (fun _ => ?_)) (fun hn => gX12_draws_14 (fun _ => ⟨⟨_, rfl⟩, h2 M1 hS1 (fun ⟨n, l, k, a, _, _, b, _⟩ => hn ⟨n, a.1, a.2, b⟩)⟩) (fun c => absurd rfl c))
  refine w_inI (a := 1) (b := 3) (by decide) (by decide) (by decide) (fun l l1 l3 el => gX12_draws_26 (fun c => absurd c one) (fun _ => ?_)) (fun hn => gX12_draws_26 (fun _ => ⟨⟨_, rfl⟩, h2 M1 hS1 (fun ⟨n, l, k, _, a, _, _, b, _⟩ => hn ⟨l, a.1, a.2, b⟩)⟩) (fun c => absurd rfl c))
  refine w_inI (a := 1) (b := 4) (by decide) (by decide) (by decide) (fun k k1 k4 ek => gX12_draws_39 s1.1 (by simp only [eRI, eKI]; rw [f4.1]; exact f4.2.1) (fun _ => by simp only [eRI, eNI]; rw [f4.1, f4.2.2]; exact z_in (by decide) (by decide)) (fun _ => ?_) (fun c => absurd c one)) (fun hn => gX12_draws_39 s1.1 (by simp only [eRI, eKI]; rw [f4.1]; exact f4.2.1) (fun c => absurd rfl c) (fun c => absurd rfl c) (fun _ => ⟨⟨_, rfl⟩, h2 M1 hS1 (fun ⟨n, l, k, _, _, a, _, _, b⟩ => hn ⟨k, a.1, a.2, b⟩)⟩))
  have h1 := fun M' => h1 M' n l k ⟨n1, n8⟩ ⟨l1, l3⟩ ⟨k1, k4⟩ en el ek
  clear h2
  simp only [eRI]
  rw [f4.1, nI_clamp (by decide), en, el, ek]
  have hB8 : okM (drM seed n l k) := drM_ok ⟨n1, n8⟩ ⟨l1, l3⟩ ⟨k1, k4⟩
  obtain ⟨B, hB⟩ : ∃ B, B = drM seed n l k := ⟨_, rfl⟩
  have bn : pn B = n := by rw [hB, pn_dr]
  have bl : pl B = l := by rw [hB, pl_dr]
  have bo : ∀ s, po B s = dwN (itS (s * (l + 1) + 1) seed) k := fun s => by rw [hB, po_dr]
  have bt : ∀ s x, pt B s x = dwN (itS (s * (l + 1) + 2 + x) seed) n := fun s x => by rw [hB, pt_dr]
  rw [← hB] at h1 hB8
  clear hB
  obtain ⟨f, hf⟩ : ∃ f : Nat → Int32, ∀ i, f i = itS i seed := ⟨fun i => itS i seed, fun _ => rfl⟩
  have f0 : seed = f 0 := (hf 0).symm
  have fs : ∀ i, stI (f i) = f (i + 1) := fun i => by rw [hf, hf, itS_s]
  have bo : ∀ s, po B s = dwN (f (s * (l + 1) + 1)) k := fun s => by rw [bo, hf]
  have bt : ∀ s x, pt B s x = dwN (f (s * (l + 1) + 2 + x)) n := fun s x => by rw [bt, hf]
  clear hf
  rw [f0]
  obtain ⟨M2, hM2⟩ : ∃ M2, M2 = sI (sI (sI M1 m 37 (f 0)) m 3 (nI l)) (m + 2) 0 (nI n) := ⟨_, rfl⟩
  rw [← hM2]
  have S2 : Sm [m, m + 2, m + 3, m + 4] M1 M2 := by rw [hM2]; exact ((Sm.sI (by simp) _ _ _).tr (Sm.sI (by simp) _ _ _)).tr (Sm.sI (by simp) _ _ _)
  -- what the fields hold
  let FI : Mem → Prop := fun M2 => Sm [m, m + 2, m + 3, m + 4] M1 M2 ∧ mI M2 m 3 = nI l ∧ (∀ j, j ≠ 37 → j ≠ 3 → mI M2 m j = mI M1 m j)
  have fI : FI M2 := ⟨S2, by rw [hM2, rI_np (by omega)]; exact rI_at _ _ _ _, fun j h37 h3 => by rw [hM2, rI_np (by omega), rI_nk h3, rI_nk h37]⟩
  have F37 : ∀ {M2 v}, FI M2 → FI (sI M2 m 37 v) := fun h => ⟨h.1.tr (Sm.sI (by simp) _ _ _), by rw [rI_nk (by decide)]; exact h.2.1, fun j h37 h3 => by rw [rI_nk h37]; exact h.2.2 j h37 h3⟩
  have FA : ∀ {M2 q j v}, (q = m + 3 ∨ q = m + 4) → FI M2 → FI (sI M2 q j v) := fun hq h => ⟨h.1.tr (Sm.sI (by rcases hq with e | e <;> rw [e] <;> simp) _ _ _), by rw [rI_np (by omega)]; exact h.2.1, fun j h37 h3 => by rw [rI_np (by omega)]; exact h.2.2 j h37 h3⟩
  have d37 : mI M2 m 37 = f 0 := by rw [hM2, rI_np (by omega), rI_nk (by decide)]; exact rI_at _ _ _ _
  have dw0 : DW M2 m B 0 0 0 := ⟨by rw [hM2, rI_at, bn], fun s' h => by omega, fun s' x' _ h => by omega⟩
  clear hM2 S2
  have K := upto n (fun s => ∀ M2, FI M2 → mI M2 m 37 = f (s * (l + 1)) → DW M2 m B s s 0 → Wp 6 mdX12_draws 64 [(0, .ref m), (2, .int (nI n)), (3, .int (nI l)), (4, .int (nI k)), (5, .int (nI s))] [] M2 (fun r M' => ROK mdX12_draws r ∧ Q r M')) ?_ 0 (Nat.zero_le _) M2 fI (by rw [Nat.zero_mul]; exact d37) dw0
  · exact K
  intro s hsn ih M2 hF h37 hD
  have s2 := s1.sm hF.1
  refine gX12_draws_64 s2.1 (fun c => ?_) (fun c => ?_) <;> rw [nI_leI (by omega) (by omega)] at c
  · have es : s = n := by omega
    subst es
    have hMM : MoM M2 m 0 B := ⟨hD.1, fun s' hs' => by rw [show 8 * 0 + s' = s' by omega]; exact hD.2.1 s' (by omega), fun s' hs' x' hx' => by rw [show 8 * 0 + s' = s' by omega]; exact hD.2.2 s' x' hx' (Or.inl (by omega))⟩
    have hS0 := hS1
    obtain ⟨⟨⟨k1', k2'⟩, ⟨s', es', i', -⟩, k4', k5', k6', k7'⟩, -⟩ := hS1
    rw [hF.2.2 7 (by decide) (by decide), k4']
    refine w_X12_fresh (A := B) (st := st) (sp := sp) (by decide) s2 (by decide) hm3 ⟨by rw [hF.2.1, bl], by rw [hF.2.2 8 (by decide) (by decide)]; exact i'.2.1.2.1, by rw [hF.2.2 9 (by decide) (by decide)]; exact i'.2.1.2.2⟩ hMM hB8 (fun M3 F3 P3 => ?_)
    have hS3 : MoS Mz M3 m X B st sp (newP B st sp (qm p)) R := by
      refine ⟨?_, (hS0.fr hF.1 (fun q hq => by simp at hq; omega)).tr (F3.1.mono (fun q hq => by rw [moL_mem] at hq; rw [moA_mem]; omega))⟩
      refine ⟨⟨(k1'.sm hF.1 (by simp)).sm F3.1 (by rw [moL_mem]; omega), ?_⟩, P3, ?_, ?_, k6', fun j hj => ?_⟩
      · rw [F3.2.1 30 (by decide) (by decide), hF.2.2 30 (by decide) (by decide)]; exact k2'
      · rw [F3.2.1 7 (by decide) (by decide), hF.2.2 7 (by decide) (by decide)]; exact k4'
      · rw [F3.2.1 1 (by decide) (by decide), hF.2.2 1 (by decide) (by decide)]; exact k5'
      · rw [F3.1.J (by rw [moL_mem]; omega), hF.1.J (by simp)]; exact k7' j hj
    have l3' := hS3.l3
    refine gX12_draws_140 hS3.sh.1.1 (w_X12_unlikeMany (by decide) hS3.sh.1 l3'.2 hB8 l3'.1 (fun M4 S4 => gX12_draws_144 ⟨⟨_, rfl⟩, h1 M4 (hS3.sm S4 (fun q hq => by simp at hq; omega))⟩))
  · have hlt : s < n := by omega
    have f5 := s2.f5
    refine w_X12_draw (by decide) s2.1 (by omega) (by omega) ?_
    rw [h37, fs]
    have e1 : dwN (f (s * (l + 1) + 1)) k = po B s := (bo s).symm
    rw [e1]
    obtain ⟨M3, hM3⟩ : ∃ M3, M3 = sI M2 m 37 (f (s * (l + 1) + 1)) := ⟨_, rfl⟩
    rw [← hM3]
    have hF3 : FI M3 := by rw [hM3]; exact F37 hF
    have s3 := s1.sm hF3.1
    rw [f5.1]
    refine gX12_draws_82 s3.f5.2.1 (by rw [s3.f5.2.2]; exact z_in (by omega) (by decide)) ?_
    rw [nI_clamp (by omega)]
    obtain ⟨M4, hM4⟩ : ∃ M4, M4 = sI M3 (m + 3) s (nI (po B s)) := ⟨_, rfl⟩
    rw [← hM4]
    have hF4 : FI M4 := by rw [hM4]; exact FA (Or.inl rfl) hF3
    have h374 : mI M4 m 37 = f (s * (l + 1) + 1 + min 0 l) := by rw [hM4, rI_np (by omega), hM3, rI_at]; rfl
    have hD4 : DW M4 m B s (s + 1) 0 := by
      refine ⟨by rw [hM4, rI_np (by omega), hM3, rI_np (by omega)]; exact hD.1, fun s' hs' => ?_, fun s' x' hx' ho => by rw [hM4, rI_np (by omega), hM3, rI_np (by omega)]; exact hD.2.2 s' x' hx' ho⟩
      by_cases e : s' = s
      · subst e; rw [hM4]; exact rI_at _ _ _ _
      · rw [hM4, rI_nk e, hM3, rI_np (by omega)]; exact hD.2.1 s' (by omega)
    refine upto 3 (fun x => ∀ M2, FI M2 → mI M2 m 37 = f (s * (l + 1) + 1 + min x l) → DW M2 m B s (s + 1) x → Wp 6 mdX12_draws 86 [(0, .ref m), (2, .int (nI n)), (3, .int (nI l)), (4, .int (nI k)), (5, .int (nI s)), (6, .int (nI x))] [] M2 (fun r M' => ROK mdX12_draws r ∧ Q r M')) ?_ 0 (Nat.zero_le _) M4 hF4 h374 hD4
    clear hM3 hM4 hF3 hF4 h374 hD4 M3 M4 s3 f5 s2 h37 hD hF M2
    intro x hx3 ih2 M2 hF h37 hD
    have s2 := s1.sm hF.1
    have f6 := s2.f6
    refine gX12_draws_86 s2.1 (fun c => ?_) (fun c c2 => ?_) (fun c c2 => ?_) <;> rw [nI_leI (by omega) (by omega)] at c
    · have ex : x = 3 := by omega
      subst ex
      rw [nI_add]
      refine ih hlt M2 hF ?_ ⟨hD.1, hD.2.1, fun s' x' hx' ho => hD.2.2 s' x' hx' ?_⟩
      · rw [h37, show min 3 l = l by omega, show s * (l + 1) + 1 + l = (s + 1) * (l + 1) by rw [Nat.add_mul]; omega]
      · rcases ho with o | o
        · by_cases e : s' = s
          · exact Or.inr ⟨e, by omega⟩
          · exact Or.inl (by omega)
        · omega
    · rw [nI_leI (by omega) (by omega)] at c2
      rw [f6.1]
      refine gX12_draws_118 f6.2.1 (by rw [pk_mul, nI_add, f6.2.2]; exact z_in (by omega) (by decide)) ?_
      rw [pk_mul, nI_add, nI_add, nI_clamp (by omega)]
      refine ih2 (by omega) _ (FA (Or.inr rfl) hF) ?_ ⟨by rw [rI_np (by omega)]; exact hD.1, fun s' hs' => by rw [rI_np (by omega)]; exact hD.2.1 s' hs', fun s' x' hx' ho => ?_⟩
      · rw [rI_np (by omega), h37, show min (x + 1) l = min x l by omega]
      · rw [rI_nk (by omega)]; exact hD.2.2 s' x' hx' (by omega)
    · rw [nI_leI (by omega) (by omega)] at c2
      have hxl : x < l := by omega
      refine w_X12_draw (by decide) s2.1 (by omega) (by omega) ?_
      rw [h37, fs, show min x l = x by omega, show s * (l + 1) + 1 + x + 1 = s * (l + 1) + 2 + x by omega, ← bt s x]
      obtain ⟨M3, hM3⟩ : ∃ M3, M3 = sI M2 m 37 (f (s * (l + 1) + 2 + x)) := ⟨_, rfl⟩
      rw [← hM3]
      have hF3 : FI M3 := by rw [hM3]; exact F37 hF
      have g6 := (s1.sm hF3.1).f6
      rw [f6.1]
      refine gX12_draws_114 (gX12_draws_118 g6.2.1 (by rw [pk_mul, nI_add, g6.2.2]; exact z_in (by omega) (by decide)) ?_)
      rw [pk_mul, nI_add, nI_add, nI_clamp (by omega)]
      refine ih2 (by omega) _ (FA (Or.inr rfl) hF3) ?_ ⟨by rw [rI_np (by omega), hM3, rI_np (by omega)]; exact hD.1, fun s' hs' => by rw [rI_np (by omega), hM3, rI_np (by omega)]; exact hD.2.1 s' hs', fun s' x' hx' ho => ?_⟩
      · rw [rI_np (by omega), hM3, rI_at, show min (x + 1) l = x + 1 by omega, show s * (l + 1) + 1 + (x + 1) = s * (l + 1) + 2 + x by omega]
      · by_cases e : s' = s ∧ x' = x
        · rw [e.1, e.2]; exact rI_at _ _ _ _
        · rw [rI_nk (by omega), hM3, rI_np (by omega)]; exact hD.2.2 s' x' hx' (by omega)
theorem w_X12_least (hd : 5 < d) (hS : MoS Mz M m X A st sp p R) (h : ∀ M', MoS Mz M' m X A st sp p (lsR A 7 (pn A)) → Q (some (.int (nI (uN A)))) M') : ClD d mdX12_least [.ref m] M Q := by
  have hA := hS.sh.2
  have a8 := hA.1.2
  refine ⟨5, hd, Cl.of moX12_least (Nat.le_of_ble_eq_true rfl) (gX12_least_0 hS.sh.1.1 ?_)⟩
  refine upto (pn A) (fun s => ∀ M1, MoS Mz M1 m X A st sp p (lsR A 7 s) → Wp 5 mdX12_least 12 [(0, .ref m), (1, .int (nI s))] [] M1 (fun r M' => ROK mdX12_least r ∧ Q r M')) ?_ 0 (Nat.zero_le _) _ hS.th.nil
  intro s hsn ih M1 hS1
  have s1 := hS1.sh.1
  have f4 := s1.f4
  have l3 := hS1.l3
  have ef : mI M1 (mR M1 m 4) (nI 0).toNatClampNeg = nI (pn A) := by rw [f4.1, nI_clamp (by decide)]; exact l3.2.1
  refine gX12_least_12 s1.1 (by rw [f4.1]; exact f4.2.1) (by rw [f4.1, f4.2.2]; exact z_in (by decide) (by decide)) (fun c => ?_) (fun c => ?_) <;> rw [ef, nI_leI (by omega) (by omega)] at c
  · have e : s = pn A := by omega
    subst e
    exact w_X12_unlikeMany (by decide) s1 l3.2 hA l3.1 (fun M2 S2 => gX12_least_43 ⟨⟨_, rfl⟩, h M2 (hS1.sm S2 (fun q hq => by simp at hq; omega))⟩)
  · refine w_X12_leastLike (by decide) s1 l3.2 hA l3.1 (by omega) (fun q => absurd rfl q) (fun M2 o S2 ho => ?_)
    have hS2 := hS1.sm S2 (fun q hq => by simp at hq; omega)
    have ho2 : isF s (fun t => eqK A 7 t s) o := isF_cg ho (fun t _ => ⟨fun q => q.2, fun q => ⟨fun z => absurd rfl z, q⟩⟩)
    have eo : o.getD s = lsG A 7 s := by unfold lsG; rw [ff_eq ho2]
    rw [eo]
    refine gX12_least_29 hS2.sh.1.1 (w_X12_enters (by decide) hS2 (by rw [lsR_len]; omega) (fun M3 S3 _ => gX12_least_33 ?_))
    rw [nI_add]
    exact ih (by omega) M3 (by rw [lsR_s]; exact S3)
theorem w_X12_reach {x : Int32} (hd : 3 < d) (hS : MoS Mz M m X A st sp p R) (h : ∀ M', MoS Mz M' m X A st sp p R → (∀ s, s < pn A → x = nI s → Q (some (.long (lN (reC A s)))) M') ∧ ((¬ ∃ s, s < pn A ∧ x = nI s) → Q (some (.long (-1 : Int64))) M')) : ClD d mdX12_reach [.ref m, .int x] M Q := by
  have hA := hS.sh.2
  have a8 := hA.1.2
  obtain ⟨M1, hM1⟩ : ∃ M1, M1 = sI M m 0 (nI 0) := ⟨_, rfl⟩
  have hS1 : MoS Mz M1 m X A st sp p R := by rw [hM1]; exact hS.th
  have s1 := hS1.sh.1
  have l3 := hS1.l3
  have ne : ∀ {z : Int32}, (z < 0 ∨ nI (pn A) ≤ z) → ¬ ∃ t, t < pn A ∧ z = nI t := fun {z} hz => by
    rintro ⟨t, t1, t2⟩
    rcases hz with q | q
    · rw [t2] at q; exact nI_pos (by omega) q
    · rw [t2, nI_leI (by omega) (by omega)] at q; omega
  refine ⟨3, hd, Cl.of moX12_reach (Nat.le_of_ble_eq_true rfl) (gX12_reach_0 hS.sh.1.1 ?_)⟩
  rw [← hM1]
  refine w_X12_isState (by decide) s1 (by decide) l3.2.1 a8 (fun s hs es => gX12_reach_11 s1.1 (fun _ => ?_) (fun c => absurd c (by decide))) (fun hn => gX12_reach_11 s1.1 (fun c => absurd rfl c) (fun _ => ⟨⟨_, rfl⟩, (h M1 hS1).2 (ne hn)⟩))
  refine w_X12_laysReaching (by decide) s1 (by decide) l3.2 hA l3.1 (fun M2 S2 hr => ?_)
  have hS2 := hS1.sm S2 (fun q hq => by simp at hq; omega)
  have f40 := hS2.sh.1.f40
  refine gX12_reach_23 hS2.sh.1.1 (by rw [f40.1]; exact f40.2.1) (by rw [es, f40.1, f40.2.2]; exact z_in (by omega) (by decide)) ⟨⟨_, rfl⟩, ?_⟩
  rw [es, f40.1, nI_clamp (by omega), (hr s (by omega)).1]
  exact (h M2 hS2).1 s hs es
end MDr
