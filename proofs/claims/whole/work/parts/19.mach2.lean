/-! the class's Machine: what writes, what is drawn, what is parted -/
theorem upto (N : Nat) (P : Nat → Prop) (h : ∀ i, i ≤ N → (i < N → P (i + 1)) → P i) : ∀ i, i ≤ N → P i := by
  have key : ∀ f i, i + f = N → P i := by
    intro f
    induction f with
    | zero => intro i hi; exact h i (by omega) (fun q => by omega)
    | succ f ih => intro i hi; exact h i (by omega) (fun _ => ih (i + 1) (by omega))
  exact fun i hi => key (N - i) i (by omega)
def clM (A : PM) : Prop := ∀ s, s < pn A → ∀ x, x < pl A → pt A s x < pn A
section Mach2
variable {d r : Nat} {Q : Option Value → Mem → Prop} {M : Mem} {A : PM}
theorem w_X2_isClosed (hd : 2 < d) (hs : MacSh M r) (ha : MacAt M r A) (hb : bdM A) (h1 : clM A → Q (some (.int (nI 1))) M) (h2 : ¬ clM A → Q (some (.int (nI 0))) M) : ClD d mdX2_isClosed [.ref r] M Q := by
  have hn := hb.1
  have hm := hb.2.1
  have e0 := ha.1.1
  have e1 := ha.1.2
  refine ⟨2, hd, Cl.of moX2_isClosed (Nat.le_of_ble_eq_true rfl) (gX2_isClosed_0 ?_)⟩
  refine upto (pn A) (fun s => (∀ s', s' < s → ∀ x, x < pl A → pt A s' x < pn A) → Wp 2 mdX2_isClosed 2 [(0, .ref r), (1, .int (nI s))] [] M (fun r M' => ROK mdX2_isClosed r ∧ Q r M')) ?_ 0 (Nat.zero_le _) (fun _ h => by omega)
  intro s hs1 ih hinv
  refine gX2_isClosed_2 hs.1.1 (fun c => ⟨⟨_, rfl, by decide⟩, h1 ?_⟩) (fun c => ?_)
  · rw [e0, nI_leI (by omega) (by omega)] at c
    exact fun s' hs' => hinv s' (by omega)
  · have hsn : s < pn A := Nat.lt_of_not_le fun q => c (by rw [e0]; exact nI_le q (by omega))
    refine upto (pl A) (fun x => (∀ x', x' < x → pt A s x' < pn A) → Wp 2 mdX2_isClosed 12 [(0, .ref r), (1, .int (nI s)), (2, .int (nI x))] [] M (fun r M' => ROK mdX2_isClosed r ∧ Q r M')) ?_ 0 (Nat.zero_le _) (fun _ h => by omega)
    intro x hx1 ih2 hinv2
    refine gX2_isClosed_12 hs.1.1 (fun c1 => ?_) (fun c1 => ?_)
    · rw [e1, nI_leI (by omega) (by omega)] at c1
      rw [nI_add]
      refine ih hsn (fun s' hs' y hy => ?_)
      by_cases e : s' = s
      · subst e; exact hinv2 y (by omega)
      · exact hinv s' (by omega) y hy
    · have hxl : x < pl A := Nat.lt_of_not_le fun q => c1 (by rw [e1]; exact nI_le q (by omega))
      have hb4 := hb.2.2.2 s hsn x hxl
      refine w_X2_nextOf (by decide) hs ha hb (fun s' z hs' hz g1 g2 => ?_) (fun hc => ?_)
      · have q1 : s = s' := (nI_eq (by omega) (by omega)).mp g1
        have q2 : x = z := (nI_eq (by omega) (by omega)).mp g2
        subst q1; subst q2
        refine gX2_isClosed_26 hs.1.1 (fun c2 => ?_) (fun c2 => ⟨⟨_, rfl, by decide⟩, h2 (fun hcl => c2 ?_)⟩)
        · rw [e0, nI_ltI (by omega) (by omega)] at c2
          rw [nI_add]
          refine ih2 hxl (fun x' hx' => ?_)
          by_cases e : x' = x
          · subst e; exact c2
          · exact hinv2 x' (by omega)
        · rw [e0]; exact nI_lt (hcl _ hsn _ hxl) (by omega)
      · exfalso
        rcases hc with hc | hc | hc | hc
        · exact nI_pos (by omega) hc
        · exact nI_ge hsn (by omega) hc
        · exact nI_pos (by omega) hc
        · exact nI_ge hxl (by omega) hc
/-- a machine that is being written: the states ahead of s, of s the letters ahead of x -/
def MacUp (M : Mem) (r : Nat) (A : PM) (s so x : Nat) : Prop := (mI M r 0 = nI (pn A) ∧ mI M r 1 = nI (pl A)) ∧ (∀ s', s' < so → mI M (r + 1) s' = nI (po A s')) ∧ ∀ s' x', x' < pl A → (s' < s ∨ (s' = s ∧ x' < x)) → mI M (r + 2) (s' * 3 + x') = nI (pt A s' x')
theorem MacUp.out {M : Mem} {s x : Nat} {v : Int32} (h : MacUp M r A s s x) (hv : v = nI (po A s)) : MacUp (sI M (r + 1) s v) r A s (s + 1) x := by
  obtain ⟨⟨h1, h2⟩, h3, h4⟩ := h
  refine ⟨⟨by rw [rI_np (by omega)]; exact h1, by rw [rI_np (by omega)]; exact h2⟩, fun s' hs' => ?_, fun s' x' hx' hc => by rw [rI_np (by omega)]; exact h4 s' x' hx' hc⟩
  by_cases e : s' = s
  · subst e; rw [rI_at]; exact hv
  · rw [rI_nk e]; exact h3 s' (by omega)
theorem MacUp.nxt {M : Mem} {s so x : Nat} {v : Int32} (hl : pl A ≤ 3) (hx : x < pl A) (h : MacUp M r A s so x) (hv : v = nI (pt A s x)) : MacUp (sI M (r + 2) (s * 3 + x) v) r A s so (x + 1) := by
  obtain ⟨⟨h1, h2⟩, h3, h4⟩ := h
  refine ⟨⟨by rw [rI_np (by omega)]; exact h1, by rw [rI_np (by omega)]; exact h2⟩, fun s' hs' => by rw [rI_np (by omega)]; exact h3 s' hs', fun s' x' hx' hc => ?_⟩
  by_cases e : s' = s ∧ x' = x
  · obtain ⟨rfl, rfl⟩ := e; rw [rI_at]; exact hv
  · rw [rI_nk (by omega)]; exact h4 s' x' hx' (by omega)
theorem MacUp.row {M : Mem} {s : Nat} (h : MacUp M r A s (s + 1) (pl A)) : MacUp M r A (s + 1) (s + 1) 0 := ⟨h.1, h.2.1, fun s' x' hx' hc => h.2.2 s' x' hx' (by omega)⟩
theorem MacUp.done {M : Mem} (h : MacUp M r A (pn A) (pn A) 0) : MacAt M r A := ⟨h.1, h.2.1, fun s hs x hx => h.2.2 s x hx (Or.inl hs)⟩
theorem MacUp.shape {M : Mem} : MacUp (sI (sI M r 0 (nI (pn A))) r 1 (nI (pl A))) r A 0 0 0 := by
  refine ⟨⟨by rw [rI_nk (by decide)]; exact rI_at _ _ _ _, rI_at _ _ _ _⟩, fun _ h => by omega, fun _ _ _ h => by omega⟩
theorem w_X2_become {q : Nat} (hd : 2 < d) (hs : MacSh M r) (hsq : MacSh M q) (ha : MacAt M q A) (hA : okM A) (hq : ∀ i, i < 4 → ∀ j, j < 4 → q + i ≠ r + j) (h : ∀ M', Sm [r, r + 1, r + 2] M M' → MacAt M' r A → Q none M') : ClD d mdX2_become [.ref r, .ref q] M Q := by
  have hb := hA.bd
  have hn := hb.1
  have hm := hb.2.1
  have nq : ∀ i, i < 3 → q + i ∉ [r, r + 1, r + 2] := by
    intro i hi hc
    simp only [List.mem_cons, List.not_mem_nil, or_false] at hc
    rcases hc with hc | hc | hc
    · exact hq i (by omega) 0 (by omega) hc
    · exact hq i (by omega) 1 (by omega) hc
    · exact hq i (by omega) 2 (by omega) hc
  refine ⟨2, hd, Cl.of moX2_become (Nat.le_of_ble_eq_true rfl) (gX2_become_0 hsq.1.1 hs.1.1 (w_X2_shape (by decide) hs (gX2_become_12 ?_)))⟩
  rw [ha.1.1, ha.1.2]
  have S0 : Sm [r, r + 1, r + 2] M (sI (sI M r 0 (nI (pn A))) r 1 (nI (pl A))) := (Sm.sI (by simp) _ _ _).tr (Sm.sI (by simp) _ _ _)
  refine upto (pn A) (fun s => ∀ M1, Sm [r, r + 1, r + 2] M M1 → MacUp M1 r A s s 0 → Wp 2 mdX2_become 14 [(0, .ref r), (1, .ref q), (2, .int (nI s))] [] M1 (fun r M' => ROK mdX2_become r ∧ Q r M')) ?_ 0 (Nat.zero_le _) _ S0 MacUp.shape
  intro s hs1 ih M1 hS hU
  have hr1 := hs.sm hS
  have hq1 := hsq.sm hS
  have ha1 := ha.sm hS (nq 0 (by omega)) (nq 1 (by omega)) (nq 2 (by omega))
  refine gX2_become_14 hr1.1.1 hq1.1.1 (fun c => ?_) (fun c => ?_)
  · rw [hU.1.1, nI_leI (by omega) (by omega)] at c
    have e : s = pn A := by omega
    subst e
    exact ⟨rfl, h M1 hS hU.done⟩
  · have hsn : s < pn A := Nat.lt_of_not_le fun q => c (by rw [hU.1.1]; exact nI_le q (by omega))
    refine w_X2_outputOf (by decide) hq1 ha1 hb (fun s' hs' g1 => ?_) (fun hc => ?_)
    · have q1 : s = s' := (nI_eq (by omega) (by omega)).mp g1
      subst q1
      refine gX2_become_29 hr1.1.1 (w_X2_setOutput (by decide) hr1 (by omega) (gX2_become_32 ?_))
      have S1 : Sm [r, r + 1, r + 2] M (sI M1 (r + 1) s (nI (po A s))) := hS.tr (Sm.sI (by simp) _ _ _)
      refine upto (pl A) (fun x => ∀ M2, Sm [r, r + 1, r + 2] M M2 → MacUp M2 r A s (s + 1) x → Wp 2 mdX2_become 34 [(0, .ref r), (1, .ref q), (2, .int (nI s)), (3, .int (nI x))] [] M2 (fun r M' => ROK mdX2_become r ∧ Q r M')) ?_ 0 (Nat.zero_le _) _ S1 (hU.out rfl)
      intro x hx1 ih2 M2 hS2 hU2
      have hr2 := hs.sm hS2
      have hq2 := hsq.sm hS2
      have ha2 := ha.sm hS2 (nq 0 (by omega)) (nq 1 (by omega)) (nq 2 (by omega))
      refine gX2_become_34 hr2.1.1 hq2.1.1 (fun c1 => ?_) (fun c1 => ?_)
      · rw [hU2.1.2, nI_leI (by omega) (by omega)] at c1
        have e : x = pl A := by omega
        subst e
        rw [nI_add]
        exact ih hsn M2 hS2 hU2.row
      · have hxl : x < pl A := Nat.lt_of_not_le fun q => c1 (by rw [hU2.1.2]; exact nI_le q (by omega))
        have hb4 := hb.2.2.2 s hsn x hxl
        refine w_X2_nextOf (by decide) hq2 ha2 hb (fun s' z hs' hz g1 g2 => ?_) (fun hc => ?_)
        · have q1 : s = s' := (nI_eq (by omega) (by omega)).mp g1
          have q2 : x = z := (nI_eq (by omega) (by omega)).mp g2
          subst q1; subst q2
          refine gX2_become_51 hr2.1.1 (w_X2_setNext (by decide) hr2 (by omega) (by omega) (gX2_become_54 ?_))
          rw [nI_add]
          exact ih2 hxl _ (hS2.tr (Sm.sI (by simp) _ _ _)) (hU2.nxt hm hxl rfl)
        · exfalso
          rcases hc with hc | hc | hc | hc
          · exact nI_pos (by omega) hc
          · exact nI_ge hsn (by omega) hc
          · exact nI_pos (by omega) hc
          · exact nI_ge hxl (by omega) hc
    · exfalso
      rcases hc with hc | hc
      · exact nI_pos (by omega) hc
      · exact nI_ge hsn (by omega) hc
-- what is drawn
def stI (r : Int32) : Int32 := r * nI 1103515245 + nI 12345
def dwN (r : Int32) (n : Nat) : Nat := r.toBitVec.toNat / 65536 % n
def itS : Nat → Int32 → Int32
  | 0, r => r
  | k + 1, r => stI (itS k r)
theorem itS_s (k : Nat) (r : Int32) : itS (k + 1) r = stI (itS k r) := rfl
/-- the machine drawn -/
def drM (seed : Int32) (n l k : Nat) : PM := (n, l, fun s => dwN (itS (s * (l + 1) + 1) seed) k, fun s x => dwN (itS (s * (l + 1) + 2 + x) seed) n)
theorem dw_eq (x : Int32) {n : Nat} (h0 : 0 < n) (hn : n < 2 ^ 31) : ((x.toUInt32 >>> ((nI 16).toUInt32 &&& Int32.toUInt32 31)).toInt32) - ((x.toUInt32 >>> ((nI 16).toUInt32 &&& Int32.toUInt32 31)).toInt32) / nI n * nI n = nI (dwN x n) := by
  have e : (x.toUInt32 >>> ((nI 16).toUInt32 &&& Int32.toUInt32 31)).toInt32 = nI (x.toBitVec.toNat / 65536) := by
    have h1 := pk_ushr x (nI 16) 16 (by decide)
    have h2 : x.toBitVec.toNat / 65536 < 2 ^ 32 := Nat.lt_of_le_of_lt (Nat.div_le_self _ _) x.toBitVec.isLt
    apply Int32.toBitVec_inj.mp
    apply BitVec.eq_of_toNat_eq
    rw [h1]
    show _ = (BitVec.ofNat 32 _).toNat
    rw [BitVec.toNat_ofNat, Nat.mod_eq_of_lt h2]
  have h3 : x.toBitVec.toNat / 65536 < 2 ^ 31 := by
    have := x.toBitVec.isLt
    omega
  rw [e, pk_rem h3 h0 hn]
  rfl
theorem po_mk (n l : Nat) (o : Nat → Nat) (t : Nat → Nat → Nat) : po (n, l, o, t) = o := rfl
theorem pt_mk (n l : Nat) (o : Nat → Nat) (t : Nat → Nat → Nat) : pt (n, l, o, t) = t := rfl
theorem po_dr (seed : Int32) (n l k s : Nat) : po (drM seed n l k) s = dwN (itS (s * (l + 1) + 1) seed) k := by unfold drM; rw [po_mk]
theorem pt_dr (seed : Int32) (n l k s x : Nat) : pt (drM seed n l k) s x = dwN (itS (s * (l + 1) + 2 + x) seed) n := by unfold drM; rw [pt_mk]
theorem pn_dr (seed : Int32) (n l k : Nat) : pn (drM seed n l k) = n := rfl
theorem pl_dr (seed : Int32) (n l k : Nat) : pl (drM seed n l k) = l := rfl
theorem dwN_lt (x : Int32) {n : Nat} (h : 0 < n) : dwN x n < n := Nat.mod_lt _ h
theorem drM_ok {seed : Int32} {n l k : Nat} (h1 : 1 ≤ n ∧ n ≤ 8) (h2 : 1 ≤ l ∧ l ≤ 3) (h3 : 1 ≤ k ∧ k ≤ 4) : okM (drM seed n l k) :=
  ⟨h1, h2, fun s _ => by rw [po_dr]; exact Nat.lt_of_lt_of_le (dwN_lt _ h3.1) h3.2, fun s _ x _ => by rw [pt_dr]; exact dwN_lt _ h1.1⟩
theorem w_X2_stir {x : Int32} (hd : 1 < d) (h : Q (some (.int (stI x))) M) : ClD d mdX2_stir [.int x] M Q := by
  unfold stI at h
  exact ⟨1, hd, Cl.of moX2_stir (Nat.le_of_ble_eq_true rfl) (gX2_stir_0 ⟨⟨_, rfl⟩, h⟩)⟩
theorem w_X2_drawn {x : Int32} {n : Nat} (hd : 1 < d) (h0 : 0 < n) (hn : n < 2 ^ 31) (h : Q (some (.int (nI (dwN x n)))) M) : ClD d mdX2_drawn [.int x, .int (nI n)] M Q := by
  rw [← dw_eq x h0 hn] at h
  exact ⟨1, hd, Cl.of moX2_drawn (Nat.le_of_ble_eq_true rfl) (gX2_drawn_0 (fun _ => nI_ne0 h0 hn) (fun _ => ⟨⟨_, rfl⟩, h⟩) (fun c => absurd (nI_le h0 hn) c))⟩
theorem w_X2_draw {seed : Int32} {n l k : Nat} (hd : 2 < d) (hs : MacSh M r) (h1 : 1 ≤ n ∧ n ≤ 8) (h2 : 1 ≤ l ∧ l ≤ 3) (h3 : 1 ≤ k ∧ k ≤ 4) (h : ∀ M', Sm [r, r + 1, r + 2] M M' → MacAt M' r (drM seed n l k) → Q none M') : ClD d mdX2_draw [.ref r, .int seed, .int (nI n), .int (nI l), .int (nI k)] M Q := by
  obtain ⟨B, hB⟩ : ∃ B, B = drM seed n l k := ⟨_, rfl⟩
  have bn : pn B = n := by rw [hB, pn_dr]
  have bl : pl B = l := by rw [hB, pl_dr]
  have bo : ∀ s, po B s = dwN (itS (s * (l + 1) + 1) seed) k := fun s => by rw [hB, po_dr]
  have bt : ∀ s x, pt B s x = dwN (itS (s * (l + 1) + 2 + x) seed) n := fun s x => by rw [hB, pt_dr]
  rw [← hB] at h
  clear hB
  obtain ⟨f, hf⟩ : ∃ f : Nat → Int32, ∀ i, f i = itS i seed := ⟨fun i => itS i seed, fun _ => rfl⟩
  have f0 : seed = f 0 := (hf 0).symm
  have fs : ∀ i, stI (f i) = f (i + 1) := fun i => by rw [hf, hf, itS_s]
  have bo : ∀ s, po B s = dwN (f (s * (l + 1) + 1)) k := fun s => by rw [bo, hf]
  have bt : ∀ s x, pt B s x = dwN (f (s * (l + 1) + 2 + x)) n := fun s x => by rw [bt, hf]
  clear hf
  rw [f0]
  refine ⟨2, hd, Cl.of moX2_draw (Nat.le_of_ble_eq_true rfl) (gX2_draw_0 hs.1.1 (w_X2_shape (by decide) hs (gX2_draw_6 ?_)))⟩
  have S0 : Sm [r, r + 1, r + 2] M (sI (sI M r 0 (nI n)) r 1 (nI l)) := (Sm.sI (by simp) _ _ _).tr (Sm.sI (by simp) _ _ _)
  have K := upto n (fun s => ∀ M1, Sm [r, r + 1, r + 2] M M1 → MacUp M1 r B s s 0 → Wp 2 mdX2_draw 12 [(0, .ref r), (2, .int (nI n)), (3, .int (nI l)), (4, .int (nI k)), (5, .int (f (s * (l + 1)))), (6, .int (nI s))] [] M1 (fun r M' => ROK mdX2_draw r ∧ Q r M')) ?_ 0 (Nat.zero_le _) _ S0 (by rw [← bn, ← bl]; exact MacUp.shape)
  · rw [Nat.zero_mul] at K; exact K
  intro s hs1 ih M1 hS hU
  have hr1 := hs.sm hS
  refine gX2_draw_12 (fun c => ?_) (fun c => ?_)
  · rw [nI_leI (by omega) (by omega)] at c
    have e : s = n := by omega
    exact ⟨rfl, h M1 hS (by rw [e, ← bn] at hU; exact hU.done)⟩
  · have hsn : s < n := Nat.lt_of_not_le fun q => c (nI_le q (by omega))
    refine w_X2_stir (by decide) ?_
    rw [fs]
    refine gX2_draw_23 (w_X2_drawn (by decide) h3.1 (by omega) ?_)
    rw [← bo s]
    refine gX2_draw_35 hr1.1.1 (w_X2_setOutput (by decide) hr1 (by omega) (gX2_draw_38 ?_))
    have S1 : Sm [r, r + 1, r + 2] M (sI M1 (r + 1) s (nI (po B s))) := hS.tr (Sm.sI (by simp) _ _ _)
    have K2 := upto l (fun x => ∀ M2, Sm [r, r + 1, r + 2] M M2 → MacUp M2 r B s (s + 1) x → Wp 2 mdX2_draw 41 [(0, .ref r), (2, .int (nI n)), (3, .int (nI l)), (4, .int (nI k)), (5, .int (f (s * (l + 1) + 1 + x))), (6, .int (nI s)), (7, .int (nI x))] [] M2 (fun r M' => ROK mdX2_draw r ∧ Q r M')) ?_ 0 (Nat.zero_le _) _ S1 (hU.out rfl)
    · rw [Nat.add_zero] at K2; exact K2
    intro x hx1 ih2 M2 hS2 hU2
    have hr2 := hs.sm hS2
    refine gX2_draw_41 (fun c1 => ?_) (fun c1 => ?_)
    · rw [nI_leI (by omega) (by omega)] at c1
      have e : x = l := by omega
      rw [e, nI_add, show s * (l + 1) + 1 + l = (s + 1) * (l + 1) by rw [Nat.add_mul]; omega]
      exact ih hsn M2 hS2 (by rw [e, ← bl] at hU2; exact hU2.row)
    · have hxl : x < l := Nat.lt_of_not_le fun q => c1 (nI_le q (by omega))
      refine w_X2_stir (by decide) ?_
      rw [fs, show s * (l + 1) + 1 + x + 1 = s * (l + 1) + 2 + x by omega]
      refine gX2_draw_52 (w_X2_drawn (by decide) h1.1 (by omega) ?_)
      rw [← bt s x]
      refine gX2_draw_65 hr2.1.1 (w_X2_setNext (by decide) hr2 (by omega) (by omega) (gX2_draw_68 ?_))
      rw [nI_add]
      have K3 := ih2 hxl _ (hS2.tr (Sm.sI (p := r + 2) (by simp) _ (s * 3 + x) (nI (pt B s x)))) (hU2.nxt (by omega) (by omega) rfl)
      rw [show s * (l + 1) + 1 + (x + 1) = s * (l + 1) + 2 + x by omega] at K3
      exact K3
end Mach2
