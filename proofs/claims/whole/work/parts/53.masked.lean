/-! the reference: its machines; what was asked -/
/-- machine k of the reference -/
def MoM (M : Mem) (m k : Nat) (A : PM) : Prop := mI M (m + 2) k = nI (pn A) ∧ (∀ s, s < pn A → mI M (m + 3) (8 * k + s) = nI (po A s)) ∧ ∀ s, s < pn A → ∀ x, x < pl A → mI M (m + 4) (3 * (8 * k + s) + x) = nI (pt A s x)
theorem MoM.sm {S : List Nat} {M M' : Mem} {m k : Nat} {A : PM} (h : Sm S M M') (hs : MoM M m k A) (h2 : m + 2 ∉ S) (h3 : m + 3 ∉ S) (h4 : m + 4 ∉ S) : MoM M' m k A := by
  unfold MoM at hs ⊢
  rw [h.I h2, h.I h3, h.I h4]; exact hs
section MMach
variable {d m k : Nat} {Q : Option Value → Mem → Prop} {M : Mem} {A : PM}
theorem w_shM {s : Nat} (hd : 1 < d) (hs : MoSh M m) (hk : k < 3) (h8 : s < 8) (h : Q (some (.int (mI M (m + 3) (8 * k + s)))) M) : ClD d mdX12_shown [.ref m, .int (nI k), .int (nI s)] M Q := by
  have f := hs.f5
  refine ⟨1, hd, Cl.of moX12_shown (Nat.le_of_ble_eq_true rfl) (gX12_shown_0 hs.1 (by rw [f.1]; exact f.2.1) ?_ ⟨⟨_, rfl⟩, ?_⟩)⟩ <;> rw [f.1, pk_mul, nI_add]
  · rw [f.2.2]; exact z_in (by omega) (by omega)
  · rw [nI_clamp (by omega)]; exact h
theorem w_X12_shown {s : Nat} (hd : 1 < d) (hs : MoSh M m) (hk : k < 3) (ha : MoM M m k A) (hA : okM A) (h8 : s < pn A) (h : Q (some (.int (nI (po A s)))) M) : ClD d mdX12_shown [.ref m, .int (nI k), .int (nI s)] M Q :=
  w_shM hd hs hk (by have := hA.1.2; omega) (by rw [ha.2.1 s h8]; exact h)
theorem w_coM {s x : Nat} (hd : 1 < d) (hs : MoSh M m) (hk : k < 3) (h8 : s < 8) (hx : x < 3) (h : Q (some (.int (mI M (m + 4) (3 * (8 * k + s) + x)))) M) : ClD d mdX12_comes [.ref m, .int (nI k), .int (nI s), .int (nI x)] M Q := by
  have f := hs.f6
  refine ⟨1, hd, Cl.of moX12_comes (Nat.le_of_ble_eq_true rfl) (gX12_comes_0 hs.1 (by rw [f.1]; exact f.2.1) ?_ ⟨⟨_, rfl⟩, ?_⟩)⟩ <;> rw [f.1, pk_mul, nI_add, pk_mul, nI_add]
  · rw [f.2.2]; exact z_in (by omega) (by omega)
  · rw [nI_clamp (by omega)]; exact h
theorem w_X12_comes {s x : Nat} (hd : 1 < d) (hs : MoSh M m) (hk : k < 3) (ha : MoM M m k A) (hA : okM A) (h8 : s < pn A) (hx : x < pl A) (h : Q (some (.int (nI (pt A s x)))) M) : ClD d mdX12_comes [.ref m, .int (nI k), .int (nI s), .int (nI x)] M Q :=
  w_coM hd hs hk (by have := hA.1.2; omega) (by have := hA.2.1.2; omega) (by rw [ha.2.2 s h8 x hx]; exact h)
theorem w_X12_isState {x : Int32} (hd : 2 < d) (hs : MoSh M m) (hk : k < 3) (ha : mI M (m + 2) k = nI (pn A)) (hA : pn A ≤ 8) (h1 : ∀ s, s < pn A → x = nI s → Q (some (.int (nI 1))) M) (h2 : (x < 0 ∨ nI (pn A) ≤ x) → Q (some (.int (nI 0))) M) : ClD d mdX12_isState [.ref m, .int (nI k), .int x] M Q := by
  have f := hs.f4
  refine ⟨2, hd, Cl.of moX12_isState (Nat.le_of_ble_eq_true rfl) (gX12_isState_0 hs.1 (by rw [f.1]; exact f.2.1) (by rw [f.1, f.2.2]; exact z_in hk (by omega)) ?_)⟩
  rw [f.1, nI_clamp (by omega), ha]
  refine w_X12_in (by decide) (fun c1 c2 => gX12_isState_15 ⟨⟨_, rfl, by decide⟩, ?_⟩) (fun c => gX12_isState_15 ⟨⟨_, rfl, by decide⟩, h2 ?_⟩)
  · rw [Int32.toInt_toInt64, pk_lT (by decide)] at c1
    rw [Int32.toInt_toInt64, Int32.toInt_toInt64, pk_sub_toInt (by omega) (by decide)] at c2
    refine h1 x.toInt.toNat (by omega) ?_
    rw [← Int32.toInt_inj, nI_toInt (by omega)]; omega
  · rw [Int32.toInt_toInt64, Int32.toInt_toInt64, pk_lT (by decide), pk_sub_toInt (by omega) (by decide)] at c
    rw [Int32.lt_iff_toInt_lt, Int32.le_iff_toInt_le, nI_toInt (by omega)]
    have e : (0 : Int32).toInt = 0 := by decide
    rw [e]; omega
theorem w_X12_endFrom {s : Nat} {w : List Nat} (hd : 2 < d) (hs : MoSh M m) (hk : k < 3) (ha : MoM M m k A) (hA : okM A) (h8 : s < pn A) (hw : vw (pl A) w) (hl : w.length ≤ 30) (h : Q (some (.int (nI (rn (pt A) s w)))) M) : ClD d mdX12_endFrom [.ref m, .int (nI k), .int (nI s), .long (lN (cd w))] M Q := by
  have l3 := hA.2.1.2
  have hw4 := vw_mono hw (show pl A ≤ 4 by omega)
  refine ⟨2, hd, Cl.of moX12_endFrom (Nat.le_of_ble_eq_true rfl) (gX12_endFrom_0 (w_X12_lengthOf (by decide) hw4 hl (gX12_endFrom_4 ?_)))⟩
  refine upto w.length (fun i => Wp 2 mdX12_endFrom 12 [(0, .ref m), (1, .int (nI k)), (3, .long (lN (cd w))), (5, .int (nI w.length)), (6, .int (nI (rn (pt A) s (w.take i)))), (7, .int (nI i))] [] M (fun r M' => ROK mdX12_endFrom r ∧ Q r M')) ?_ 0 (Nat.zero_le _)
  intro i hi ih
  refine gX12_endFrom_12 (fun c => ⟨⟨_, rfl⟩, ?_⟩) (fun c => ?_) <;> rw [nI_leI (by omega) (by omega)] at c
  · have e : i = w.length := by omega
    subst e
    rw [List.take_length]; exact h
  · have hlt : i < w.length := by omega
    have hx : w.getD i 0 < pl A := by
      rw [List.getD, List.getElem?_eq_getElem hlt]; exact hw _ (List.getElem_mem hlt)
    have et : w.take (i + 1) = w.take i ++ [w.getD i 0] := by
      rw [List.take_add_one]; simp [List.getD, List.getElem?_eq_getElem hlt]
    refine w_X12_letterOf (by decide) hw4 hl hlt (gX12_endFrom_31 hs.1 (w_X12_comes (by decide) hs hk ha hA (rn_lt hA h8 (vw_take hw i)) hx (gX12_endFrom_34 ?_)))
    rw [nI_add, ← rn_snoc (pt A) s (w.getD i 0) (w.take i), ← et]
    exact ih hlt
theorem w_X12_answer {w : List Nat} (hd : 3 < d) (hs : MoSh M m) (hk : k < 3) (ha : MoM M m k A) (hA : okM A) (hw : vw (pl A) w) (hl : w.length ≤ 30) (h : Q (some (.int (nI (an A 0 w)))) M) : ClD d mdX12_answer [.ref m, .int (nI k), .long (lN (cd w))] M Q :=
  ⟨3, hd, Cl.of moX12_answer (Nat.le_of_ble_eq_true rfl) (gX12_answer_0 hs.1 (w_X12_endFrom (by decide) hs hk ha hA hA.1.1 hw hl (gX12_answer_9 hs.1 (w_X12_shown (by decide) hs hk ha hA (rn_lt hA hA.1.1 hw) (gX12_answer_12 ⟨⟨_, rfl⟩, h⟩)))))⟩
/-- where the reference begins to try -/
def hM (c : Nat) : Nat := c * 11400714819323198485 % 2 ^ 64 / 2 ^ 50
theorem hM_lt (c : Nat) : hM c < 16384 := by
  have h : c * 11400714819323198485 % 2 ^ 64 < 2 ^ 64 := Nat.mod_lt _ (by decide)
  unfold hM
  omega
theorem hM_eq (c : Nat) : (((lN c * (-7046029254386353131 : Int64)).toUInt64 >>> ((nI 50).toInt64.toUInt64 &&& Int64.toUInt64 63)).toInt64).toInt32 = nI (hM c) := by
  have e : (-7046029254386353131 : Int64) = lN 11400714819323198485 := by decide +kernel
  rw [e, lN_mul, wb_mod, wb_shr (Nat.mod_lt _ (by decide)) (by decide), lN_i]
  rfl
/-- which places of the reference's rows are pupil u's -/
def ow (u p j : Nat) : Prop := match p with
  | 2 => j = 1 + u
  | 3 => 8 * (1 + u) ≤ j ∧ j < 8 * (2 + u)
  | 4 => 24 * (1 + u) ≤ j ∧ j < 24 * (2 + u)
  | 8 => 160 * u ≤ j ∧ j < 160 * (u + 1)
  | 9 => 160 * u ≤ j ∧ j < 160 * (u + 1)
  | 10 => 128 * u ≤ j ∧ j < 128 * (u + 1)
  | 11 => 16384 * u ≤ j ∧ j < 16384 * (u + 1)
  | 16 => 8 * u ≤ j ∧ j < 8 * (u + 1)
  | 17 => 512 * u ≤ j ∧ j < 512 * (u + 1)
  | _ => j = u
def moL (m : Nat) : List Nat := m :: (List.range 16).map (fun i => m + 2 + i)
theorem moL_mem {m p : Nat} : p ∈ moL m ↔ p = m ∨ (m + 2 ≤ p ∧ p < m + 18) := by
  unfold moL
  simp only [List.mem_cons, List.mem_map, List.mem_range]
  constructor
  · rintro (h | ⟨i, i1, i2⟩)
    · exact Or.inl h
    · exact Or.inr (by omega)
  · rintro (h | h)
    · exact Or.inl h
    · exact Or.inr ⟨p - m - 2, by omega, by omega⟩
/-- what a pupil's doing may change -/
def Fu (m u : Nat) (M M' : Mem) : Prop := Sm (moL m) M M' ∧ (∀ j, j ≠ 24 → j ≠ 25 → mI M' m j = mI M m j) ∧ ∀ p j, 2 ≤ p → p ≤ 17 → ¬ ow u p j → mI M' (m + p) j = mI M (m + p) j ∧ mJ M' (m + p) j = mJ M (m + p) j
theorem Fu.rf (m u : Nat) (M : Mem) : Fu m u M M := ⟨Sm.rf _ _, fun _ _ _ => rfl, fun _ _ _ _ _ => ⟨rfl, rfl⟩⟩
theorem Fu.tr {m u : Nat} {M M1 M2 : Mem} (h : Fu m u M M1) (k : Fu m u M1 M2) : Fu m u M M2 :=
  ⟨h.1.tr k.1, fun j a b => (k.2.1 j a b).trans (h.2.1 j a b), fun p j a b c => ⟨((k.2.2 p j a b c).1).trans (h.2.2 p j a b c).1, ((k.2.2 p j a b c).2).trans (h.2.2 p j a b c).2⟩⟩
theorem Fu.I {m u p j : Nat} {v : Int32} (M : Mem) (h1 : 2 ≤ p) (h2 : p ≤ 17) (ho : ow u p j) : Fu m u M (sI M (m + p) j v) := by
  refine ⟨Sm.sI (moL_mem.mpr (by omega)) _ _ _, fun i _ _ => by rw [rI_np (by omega)], fun q i a b c => ⟨?_, rfl⟩⟩
  by_cases e : q = p
  · subst e
    exact rI_nk (fun e => c (by rw [e]; exact ho))
  · rw [rI_np (by omega)]
theorem Fu.J {m u p j : Nat} {v : Int64} (M : Mem) (h1 : 2 ≤ p) (h2 : p ≤ 17) (ho : ow u p j) : Fu m u M (sJ M (m + p) j v) := by
  refine ⟨Sm.sJ (moL_mem.mpr (by omega)) _ _ _, fun i _ _ => rfl, fun q i a b c => ⟨rfl, ?_⟩⟩
  by_cases e : q = p
  · subst e
    exact rJ_nk (fun e => c (by rw [e]; exact ho))
  · rw [rJ_np (by omega)]
theorem Fu.c {m u : Nat} {v : Int64} (M : Mem) : Fu m u M (sJ M m 23 v) :=
  ⟨Sm.sJ (moL_mem.mpr (Or.inl rfl)) _ _ _, fun _ _ _ => rfl, fun q i a b c => ⟨rfl, by rw [rJ_np (by omega)]⟩⟩
theorem Fu.i {m u j : Nat} {v : Int32} (M : Mem) (hj : j = 24 ∨ j = 25) : Fu m u M (sI M m j v) :=
  ⟨Sm.sI (moL_mem.mpr (Or.inl rfl)) _ _ _, fun i h1 h2 => rI_nk (by omega), fun q i a b c => ⟨by rw [rI_np (by omega)], rfl⟩⟩
/-- what the reference's pupil u asked: codes by places -/
def MoA (M : Mem) (m u : Nat) (s : List (List Nat) × Nat) : Prop := ∃ T : Nat → Nat, (∀ c, c < 16384 → mJ M (m + 11) (16384 * u + c) = lN (T c) ∧ T c < 2 ^ 61) ∧ hinv hM 16384 T ∧ hset 16384 T (wf s.1) ∧ nzc T 16384 = s.1.length ∧ (mI M (m + 12) u = nI s.1.length ∧ mI M (m + 13) u = nI s.2) ∧ okL s.1 ∧ s.1.Nodup
theorem MoA.sm {S : List Nat} {M M' : Mem} {u : Nat} {s : List (List Nat) × Nat} (h : Sm S M M') (hs : MoA M m u s) (h1 : m + 11 ∉ S) (h2 : m + 12 ∉ S) (h3 : m + 13 ∉ S) : MoA M' m u s := by
  unfold MoA at hs ⊢
  rw [h.J h1, h.I h2, h.I h3]; exact hs
theorem w_X12_slotOf {u c : Nat} {T : Nat → Nat} (hd : 1 < d) (hs : MoSh M m) (hu : u < 2) (hT : ∀ c, c < 16384 → mJ M (m + 11) (16384 * u + c) = lN (T c) ∧ T c < 2 ^ 61) (hz : nzc T 16384 < 16384) (hc : c < 2 ^ 61) (h : ∀ i, stop hM 16384 T c i → Q (some (.int (nI (16384 * u + pr hM 16384 c i)))) M) : ClD d mdX12_slotOf [.ref m, .int (nI u), .long (lN c)] M Q := by
  have f := hs.f16
  refine ⟨1, hd, Cl.of moX12_slotOf (Nat.le_of_ble_eq_true rfl) (gX12_slotOf_0 ?_)⟩
  rw [hM_eq]
  obtain ⟨i0, hst⟩ := stop_ex (h := hM) (T := T) (len := 16384) c hz
  have e0 : nI (hM c) = nI (pr hM 16384 c 0) := by
    unfold pr; rw [Nat.add_zero, Nat.mod_eq_of_lt (hM_lt c)]
  rw [e0]
  refine upto i0 (fun i => Wp 1 mdX12_slotOf 15 [(0, .ref m), (1, .int (nI u)), (2, .long (lN c)), (6, .int (nI (pr hM 16384 c i)))] [] M (fun r M' => ROK mdX12_slotOf r ∧ Q r M')) ?_ 0 (Nat.zero_le _)
  intro i hi ih
  have hp : pr hM 16384 c i < 16384 := pr_lt (by decide)
  obtain ⟨g1, g2⟩ := hT _ hp
  have hin : vp_in (nI 16384 * nI u + nI (pr hM 16384 c i)) (mN M (mR M m 16)) := by
    rw [f.1, f.2.2, pk_mul, nI_add]; exact z_in (by omega) (by omega)
  have hrd : mJ M (mR M m 16) (nI 16384 * nI u + nI (pr hM 16384 c i)).toNatClampNeg = lN (T (pr hM 16384 c i)) := by
    rw [f.1, pk_mul, nI_add, nI_clamp (by omega)]; exact g1
  have fin : (T (pr hM 16384 c i) = c ∨ T (pr hM 16384 c i) = 0) → Wp 1 mdX12_slotOf 64 [(1, .int (nI u)), (6, .int (nI (pr hM 16384 c i)))] [] M (fun r M' => ROK mdX12_slotOf r ∧ Q r M') := by
    intro hor
    have ei : i = i0 := by
      rcases Nat.lt_trichotomy i i0 with q | q | q
      · have := hst.2.2 i q; omega
      · exact q
      · omega
    refine gX12_slotOf_64 ⟨⟨_, rfl⟩, ?_⟩
    rw [pk_mul, nI_add, ei]; exact h i0 hst
  refine gX12_slotOf_15 hs.1 (by rw [f.1]; exact f.2.1) hin (fun c1 => ?_) (fun _ => hin) (fun _ c1 => ?_) (fun c1 c2 => ?_)
  · rw [hrd, pk_lEQ (by omega) (by decide)] at c1
    exact fin (Or.inr c1)
  · rw [hrd, pk_lEQ (by omega) (by omega)] at c1
    exact fin (Or.inl c1)
  · rw [hrd, pk_lEQ (by omega) (by decide)] at c1
    rw [hrd, pk_lEQ (by omega) (by omega)] at c2
    have hlt : i < i0 := by
      refine Nat.lt_of_le_of_ne hi (fun e => ?_)
      subst e
      rcases hst.2.1 with q | q
      · exact c2 q
      · exact c1 q
    rw [nI_add, pk_rem (by omega) (by decide) (by decide)]
    have e : (pr hM 16384 c i + 1) % 16384 = pr hM 16384 c (i + 1) := by
      unfold pr; omega
    rw [e]; exact ih hlt
theorem w_X12_wasAsked {u : Nat} {s : List (List Nat) × Nat} {w : List Nat} (hd : 2 < d) (hs : MoSh M m) (hu : u < 2) (ha : MoA M m u s) (hn : s.1.length < 16384) (hw : vw 4 w) (hl : w.length ≤ 30) (h1 : w ∈ s.1 → Q (some (.int (nI 1))) M) (h2 : w ∉ s.1 → Q (some (.int (nI 0))) M) : ClD d mdX12_wasAsked [.ref m, .int (nI u), .long (lN (cd w))] M Q := by
  obtain ⟨T, t1, t2, t3, t4, -, t6, -⟩ := ha
  have f := hs.f16
  have hc := cd30 hw hl
  have hc1 := cd_pos w
  refine ⟨2, hd, Cl.of moX12_wasAsked (Nat.le_of_ble_eq_true rfl) (gX12_wasAsked_0 hs.1 (w_X12_slotOf (by decide) hs hu t1 (by omega) hc (fun i hst => ?_)))⟩
  have hp : pr hM 16384 (cd w) i < 16384 := pr_lt (by decide)
  obtain ⟨g1, g2⟩ := t1 _ hp
  have hin := stop_in t2 t3 (by omega) hst
  rw [wf_in t6 hw] at hin
  refine gX12_wasAsked_10 (by rw [f.1]; exact f.2.1) (by rw [f.1, f.2.2]; exact z_in (by omega) (by omega)) (fun c => ⟨⟨_, rfl, by decide⟩, h2 (fun q => c ?_)⟩) (fun c => ⟨⟨_, rfl, by decide⟩, h1 (hin.mpr ?_)⟩)
  · rw [f.1, nI_clamp (by omega), g1, hin.mp q]
  · rw [f.1, nI_clamp (by omega), g1, pk_lEQ (by omega) (by omega)] at c; exact c
theorem w_X12_ask {u st sp : Nat} {s : List (List Nat) × Nat} {w : List Nat} (hd : 4 < d) (hs : MoSh M m) (hu : u < 2) (hp : mI M m 8 = nI st ∧ mI M m 9 = nI sp) (ha : MoA M m u s) (hn : s.1.length < 8192) (h0 : MoM M m 0 A) (hA : okM A) (hw : vw (pl A) w) (hl : w.length ≤ 30) (h : ∀ M', Sm [m + 11, m + 12, m + 13] M M' → MoA M' m u (aS st sp s w) → Fu m u M M' → Q (some (.int (nI (an A 0 w)))) M') : ClD d mdX12_ask [.ref m, .int (nI u), .long (lN (cd w))] M Q := by
  have ha0 := ha
  obtain ⟨T, t1, t2, t3, t4, ⟨t5, t5'⟩, t6, t7⟩ := ha
  have f := hs.f16
  have f7 := hs.f17
  have f8 := hs.f18
  have hw4 := vw_mono hw (show pl A ≤ 4 by have := hA.2.1.2; omega)
  have hc := cd30 hw4 hl
  have hc1 := cd_pos w
  refine ⟨4, hd, Cl.of moX12_ask (Nat.le_of_ble_eq_true rfl) (gX12_ask_0 hs.1 (w_X12_slotOf (by decide) hs hu t1 (by omega) hc (fun i hst => ?_)))⟩
  have hpl : pr hM 16384 (cd w) i < 16384 := pr_lt (by decide)
  obtain ⟨p, hpp⟩ : ∃ p, p = pr hM 16384 (cd w) i := ⟨_, rfl⟩
  rw [← hpp] at hpl
  obtain ⟨g1, g2⟩ := t1 _ hpl
  have hin := stop_in t2 t3 (by omega) hst
  rw [wf_in t6 hw4, ← hpp] at hin
  rw [← hpp]
  have fin : ∀ M', Sm [m + 11, m + 12, m + 13] M M' → MoA M' m u (aS st sp s w) → Fu m u M M' → Wp 4 mdX12_ask 61 [(0, .ref m), (2, .long (lN (cd w)))] [] M' (fun r M' => ROK mdX12_ask r ∧ Q r M') := fun M' S k k' =>
    gX12_ask_61 (hs.sm S).1 (w_X12_answer (by decide) (hs.sm S) (by decide) (h0.sm S (by simp) (by simp) (by simp)) hA hw hl (gX12_ask_67 ⟨⟨_, rfl⟩, h M' S k k'⟩))
  have v16 : vp_in (nI (16384 * u + p)) (mN M (mR M m 16)) := by rw [f.1, f.2.2]; exact z_in (by omega) (by omega)
  have vu : vp_in (nI u) 2 := z_in hu (by omega)
  refine gX12_ask_6 hs.1 (by rw [f.1]; exact f.2.1) ?_ ?_ v16 (fun c => ?_) (fun _ => v16) (fun _ => ?_) (fun _ => ?_) (fun c => ?_)
  · simp only [eRI, eRJ, eKI, eKJ]; rw [f7.1]; exact f7.2.1
  · simp only [eRI, eRJ, eKI, eKJ]; rw [f8.1]; exact f8.2.1
  · rw [f.1, nI_clamp (by omega), g1, pk_lEQ (by omega) (by omega)] at c
    refine fin M (Sm.rf _ _) ?_ (Fu.rf _ _ _)
    rw [aS_in (hin.mpr c)]; exact ha0
  · simp only [eRI, eRJ, eNI, eNJ]; rw [f7.1, f7.2.2]; exact vu
  · simp only [eRI, eRJ, eNI, eNJ]; rw [f8.1, f8.2.2]; exact vu
  · rw [f.1, nI_clamp (by omega), g1, pk_lEQ (by omega) (by omega)] at c
    have hni : w ∉ s.1 := fun q => c (hin.mp q)
    simp only [eRI, eRJ]
    rw [f.1, f7.1, f8.1, nI_clamp (by omega), nI_clamp (by omega)]
    obtain ⟨M1, hM1⟩ : ∃ M1, M1 = sJ M (m + 11) (16384 * u + p) (lN (cd w)) := ⟨_, rfl⟩
    rw [← hM1]
    obtain ⟨M2, hM2⟩ : ∃ M2, M2 = sI M1 (m + 12) u (mI M1 (m + 12) u + nI 1) := ⟨_, rfl⟩
    rw [← hM2]
    have S1 : Sm [m + 11, m + 12, m + 13] M M1 := by rw [hM1]; exact Sm.sJ (by simp) _ _ _
    have S2 : Sm [m + 11, m + 12, m + 13] M M2 := by rw [hM2]; exact S1.tr (Sm.sI (by simp) _ _ _)
    have e8 : mI M2 m 8 = nI st := by rw [S2.I (by simp)]; exact hp.1
    have e9 : mI M2 m 9 = nI sp := by rw [S2.I (by simp)]; exact hp.2
    have e13 : mI M2 (m + 13) u = nI s.2 := by rw [hM2, rI_np (by omega), hM1]; exact t5'
    have e12 : mI M1 (m + 12) u = nI s.1.length := by rw [hM1]; exact t5
    refine w_X12_lengthOf (by decide) hw4 hl (gX12_ask_57 (by rw [S2.2.2.1]; exact f8.2.1) (by rw [S2.2.2.2.1, f8.2.2]; exact vu) ?_)
    rw [e8, e9, e13, nI_clamp (by omega), pk_mul, nI_add, nI_add]
    have S3 : Sm [m + 11, m + 12, m + 13] M (sI M2 (m + 13) u (nI (s.2 + (st + sp * w.length)))) := S2.tr (Sm.sI (by simp) _ _ _)
    have hT0 : T (pr hM 16384 (cd w) i) = 0 := by
      rcases hst.2.1 with q | q
      · rw [← hpp] at q; exact absurd q c
      · exact q
    obtain ⟨i1, i2⟩ := ins_inv t2 t3 (by omega) hst hT0
    have j11 : mJ (sI M2 (m + 13) u (nI (s.2 + (st + sp * w.length)))) (m + 11) = mJ M1 (m + 11) := by rw [rJ_I, hM2, rJ_I]
    have FF : Fu m u M (sI M2 (m + 13) u (nI (s.2 + (st + sp * w.length)))) := by
      rw [hM2, hM1]
      exact ((Fu.J M (p := 11) (by decide) (by decide) (by show 16384 * u ≤ _ ∧ _; omega)).tr (Fu.I _ (p := 12) (by decide) (by decide) rfl)).tr (Fu.I _ (p := 13) (by decide) (by decide) rfl)
    refine fin _ S3 ?_ FF
    have ea : aS st sp s w = (s.1 ++ [w], s.2 + (st + sp * w.length)) := if_neg hni
    rw [ea]
    refine ⟨upN T p (cd w), fun c hc' => ?_, by rw [hpp]; exact i1, fun c => ?_, ?_, ⟨?_, rI_at _ _ _ _⟩, ?_, nodup_snoc t7 hni⟩
    · rw [j11, hM1]
      by_cases q : c = p
      · subst q
        rw [rJ_at]; unfold upN; rw [if_pos rfl]; exact ⟨rfl, hc⟩
      · rw [rJ_nk (by omega)]; unfold upN; rw [if_neg q]; exact t1 c hc'
    · rw [wf_add, hpp]; exact i2 c
    · rw [hpp]
      rw [nzc_up hT0 (by omega) (by rw [← hpp]; exact hpl), t4, List.length_append, List.length_singleton]
    · rw [rI_np (by omega), hM2, rI_at, e12, nI_add, List.length_append, List.length_singleton]
    · have := aS_ok (st := st) (sp := sp) t6 hw4 hl
      rw [ea] at this; exact this
end MMach
