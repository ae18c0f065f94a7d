/-! the class's Table: open words, heads and tails that come, the guess -/
theorem cR_pig {R : Nat → Nat → Prop} {f : Nat → Nat} {m : Nat} : ∀ {n}, (∀ a b, a < b → b < n → f a = f b → R a b) → (∀ a, a < n → f a < m) → ∃ L : List Nat, L.Nodup ∧ L.length = cR R n ∧ ∀ v, v ∈ L → v < m ∧ ∃ k, k < n ∧ f k = v
  | 0, _, _ => ⟨[], List.nodup_nil, rfl, fun v hv => by simp at hv⟩
  | n + 1, h, hm => by
    obtain ⟨L, l1, l2, l3⟩ := cR_pig (R := R) (f := f) (m := m) (n := n) (fun a b g1 g2 => h a b g1 (by omega)) (fun a ha => hm a (by omega))
    by_cases c : ∃ t, t < n ∧ R t n
    · rw [cR_yes c]
      exact ⟨L, l1, l2, fun v hv => ⟨(l3 v hv).1, by obtain ⟨-, k, k1, k2⟩ := l3 v hv; exact ⟨k, by omega, k2⟩⟩⟩
    · rw [cR_no c]
      refine ⟨f n :: L, List.nodup_cons.mpr ⟨fun q => ?_, l1⟩, by rw [List.length_cons, l2], fun v hv => ?_⟩
      · obtain ⟨-, k, k1, k2⟩ := l3 _ q
        exact c ⟨k, k1, h k n k1 (by omega) k2⟩
      · rcases List.mem_cons.mp hv with e | e
        · rw [e]; exact ⟨hm n (by omega), n, by omega, rfl⟩
        · obtain ⟨g, k, k1, k2⟩ := l3 v e
          exact ⟨g, k, by omega, k2⟩
theorem cR_pig_le {R : Nat → Nat → Prop} {f : Nat → Nat} {m n : Nat} (h : ∀ a b, a < b → b < n → f a = f b → R a b) (hm : ∀ a, a < n → f a < m) : cR R n ≤ m := by
  obtain ⟨L, l1, l2, l3⟩ := cR_pig h hm
  have := nodup_le l1 (K := List.range m) (fun v hv => by simpa using (l3 v hv).1)
  rw [l2] at this
  simpa using this
theorem cH_le {A : PM} {H T : List (List Nat)} (hA : okM A) (hH : okV A H) {n : Nat} (hn : n ≤ H.length) : cR (lkH A T H) n ≤ pn A :=
  cR_pig_le (f := fun k => en A H k) (fun a b _ _ e => by
    have e : en A H a = en A H b := e
    unfold lkH; rw [e]; exact (lk_eqv A T).1 _) (fun a ha => en_lt hA hH (by omega))
theorem aT_mem {A : PM} {H T : List (List Nat)} {w : List Nat} : ∀ {n}, n ≤ H.length → w ∈ aC A H T n → w ∈ H
  | 0, _, h => by simp [aC] at h
  | n + 1, hn, h => by
    by_cases c : ∃ t, t < n ∧ lkH A T H t n
    · rw [aC_yes c] at h; exact aT_mem (by omega) h
    · rw [aC_no c] at h
      rcases List.mem_append.mp h with g | g
      · exact aT_mem (by omega) g
      · rw [List.mem_singleton] at g; rw [g]; exact getD_mem (by omega)
theorem aT_len8 {A : PM} {H T : List (List Nat)} (hA : okM A) (hH : okV A H) {n : Nat} (hn : n ≤ H.length) : (aC A H T n).length ≤ 8 := by
  rw [aC_len]; have := cH_le (T := T) hA hH hn; have := hA.1.2; omega
theorem okV.aT {A : PM} {H T : List (List Nat)} (h : okV A H) {n : Nat} (hn : n ≤ H.length) : okV A (aC A H T n) := fun w hw => h w (aT_mem hn hw)
/-- states of the guess have unlike lines -/
theorem aT_un {A : PM} {H T : List (List Nat)} {i j : Nat} (hi : i < (aT A H T).length) (hj : j < (aT A H T).length) (h : lk A T (en A (aT A H T) i) (en A (aT A H T) j)) : i = j := by
  obtain ⟨k, k1, k2, k3, k4⟩ := aC_at hi
  obtain ⟨m, m1, m2, m3, m4⟩ := aC_at hj
  have e1 : en A (aT A H T) i = en A H k := by unfold en; rw [show (aT A H T).getD i [] = H.getD k [] from k2]
  have e2 : en A (aT A H T) j = en A H m := by unfold en; rw [show (aT A H T).getD j [] = H.getD m [] from m2]
  rw [e1, e2] at h
  rcases Nat.lt_trichotomy k m with g | g | g
  · exact absurd ⟨k, g, h⟩ m3
  · subst g; rw [k4, m4]
  · exact absurd ⟨m, g, (lk_eqv A T).2.1 _ _ h⟩ k3
/-- each head's line is a state's -/
theorem aT_of {A : PM} {H T : List (List Nat)} {k : Nat} (hk : k < H.length) : ∃ i, i < (aT A H T).length ∧ lk A T (en A (aT A H T) i) (en A H k) := by
  obtain ⟨t, ⟨t1, t2⟩, t3⟩ := pk_least (fun t => t ≤ k ∧ lkH A T H t k) ⟨k, Nat.le_refl _, (lk_eqv A T).1 _⟩
  have hn : ¬ ∃ u, u < t ∧ lkH A T H u t := fun ⟨u, u1, u2⟩ => t3 u u1 ⟨by omega, (lk_eqv A T).2.2 _ _ _ u2 t2⟩
  obtain ⟨g1, g2⟩ := aC_of (n := H.length) (k := t) (by omega) hn
  refine ⟨cR (lkH A T H) t, g1, ?_⟩
  have e1 : en A (aT A H T) (cR (lkH A T H) t) = en A H t := by unfold en; rw [show (aT A H T).getD (cR (lkH A T H) t) [] = H.getD t [] from g2]
  rw [e1]; exact t2
/-- where the step of the guess comes to -/
theorem gT_t {A : PM} {H T : List (List Nat)} {s x i : Nat} (hi : i < (aT A H T).length) (h : lk A T (en A (aT A H T) i) (pt A (en A (aT A H T) s) x)) : pt (gT A H T) s x = i := by
  show (ff (aT A H T).length (fun i => lk A T (en A (aT A H T) i) (pt A (en A (aT A H T) s) x))).getD 0 = i
  rw [ff_eq (o := some i) ⟨hi, h, fun j hj q => by
    have := aT_un (show j < _ by omega) hi ((lk_eqv A T).2.2 _ _ _ q ((lk_eqv A T).2.1 _ _ h))
    omega⟩]
  rfl
section TabB
variable {z d r b st sp : Nat} {Q : Option Value → Mem → Prop} {M : Mem} {A : PM} {s : List (List Nat) × Nat} {H T : List (List Nat)}
/-- open, by the answer of headBehind -/
theorem hbF_no {k x : Nat} {o : Option Nat} (hx : x < pl A) (h : hbF A T H k x o) : o = none ↔ opn A H T (k * pl A + x) := by
  unfold opn
  rw [ix_div hx, ix_mod hx]
  constructor
  · intro e; subst e; exact h
  · intro q
    cases o with
    | none => rfl
    | some j => exact absurd h.2.1 (q j h.1)
theorem eo_m1 {o : Option Nat} (h : ∀ j, o = some j → j < 128) : eo o = (-1 : Int32) ↔ o = none := by
  constructor
  · intro e
    cases o with
    | none => rfl
    | some j =>
      have := h j rfl
      have e : nI j = (-1 : Int32) := e
      exact absurd z_m1 (by rw [← e]; exact nI_pos (by omega))
  · intro e; subst e; rfl
theorem w_X6_openWords (hd : 3 < d) (hi : TI z M b r A st sp s H T) (hL : LnsAt M b A T H) (h : Q (some (.int (nI (cP (opn A H T) (H.length * pl A))))) M) : ClD d mdX6_openWords [.ref b] M Q := by
  obtain ⟨rk, r0, b0, hA, r7⟩ := hi.r0
  have l3 := hA.2.1.2
  have hL1 := hi.2.2.2.2.1.1
  have e1 : mR M b 1 = b + 1 := hi.1.1.2.1.2.1
  have n1 : mI M (b + 1) 0 = nI H.length := hi.2.2.1.1.1
  have hm := hi.2.1.2.2.1
  have hA0 := hi.2.1.2.2.2.1
  refine ⟨3, hd, Cl.of moX6_openWords (Nat.le_of_ble_eq_true rfl) (gX6_openWords_0 ?_)⟩
  refine upto H.length (fun k => Wp 3 mdX6_openWords 4 [(0, .ref b), (1, .int (nI (cP (opn A H T) (k * pl A)))), (2, .int (nI k))] [] M (fun r M' => ROK mdX6_openWords r ∧ Q r M')) ?_ 0 (Nat.zero_le _) |> fun g => by rw [Nat.zero_mul] at g; exact g
  intro k hk ih
  refine gX6_openWords_4 hi.1.1.1.2 (by rw [e1]; exact hi.1.1.2.2.1.1) (fun c => ⟨⟨_, rfl⟩, ?_⟩) (fun c => ?_) <;> rw [e1, n1, nI_leI (by omega) (by omega)] at c
  · have : k = H.length := by omega
    subst this; exact h
  · have hkl : k < H.length := by omega
    refine upto (pl A) (fun x => Wp 3 mdX6_openWords 17 [(0, .ref b), (1, .int (nI (cP (opn A H T) (k * pl A + x)))), (2, .int (nI k)), (3, .int (nI x))] [] M (fun r M' => ROK mdX6_openWords r ∧ Q r M')) ?_ 0 (Nat.zero_le _)
    intro x hx ih2
    refine gX6_openWords_17 hi.1.1.1.2 (by rw [b0]; exact rk) (by rw [b0, r0]; exact hm.1.1) (fun c1 => ?_) (fun c1 => ?_) <;> rw [b0, r0, hA0.1.2, nI_leI (by omega) (by omega)] at c1
    · have : x = pl A := by omega
      subst this
      rw [nI_add]
      have := ih hkl
      rw [Nat.add_mul, Nat.one_mul] at this
      exact this
    · have hxl : x < pl A := by omega
      refine w_X6_headBehind (by decide) hi hL hkl hxl (fun o ho => ?_)
      have e := eo_m1 (isF_b ho hL1)
      have e2 := hbF_no hxl ho
      refine gX6_openWords_37 (fun c2 => ?_) (fun c2 => ?_)
      · rw [nI_add, ← cP_no (fun q => c2 (e.mpr (e2.mpr q)))]
        exact ih2 hxl
      · rw [nI_add, nI_add, ← cP_yes (e2.mp (e.mp c2))]
        exact ih2 hxl
theorem w_X6_headComes (hd : 3 < d) (hi : TI z M b r A st sp s H T) (hL : LnsAt M b A T H) (hlt : (∃ i, isF (H.length * pl A) (opn A H T) (some i)) → H.length < 128) (h1 : ∀ i, isF (H.length * pl A) (opn A H T) (some i) → Q (some (.int (nI 1))) (lAdd M (b + 1) H.length (H.getD (i / pl A) [] ++ [i % pl A]))) (h2 : isF (H.length * pl A) (opn A H T) none → Q (some (.int (nI 0))) M) : ClD d mdX6_headComes [.ref b] M Q := by
  obtain ⟨rk, r0, b0, hA, r7⟩ := hi.r0
  have l3 := hA.2.1.2
  have hL1 := hi.2.2.2.2.1.1
  have e1 : mR M b 1 = b + 1 := hi.1.1.2.1.2.1
  have n1 : mI M (b + 1) 0 = nI H.length := hi.2.2.1.1.1
  have hm := hi.2.1.2.2.1
  have hA0 := hi.2.1.2.2.2.1
  refine ⟨3, hd, Cl.of moX6_headComes (Nat.le_of_ble_eq_true rfl) (gX6_headComes_0 ?_)⟩
  refine upto H.length (fun k => (∀ j, j < k * pl A → ¬ opn A H T j) → Wp 3 mdX6_headComes 2 [(0, .ref b), (1, .int (nI k))] [] M (fun r M' => ROK mdX6_headComes r ∧ Q r M')) ?_ 0 (Nat.zero_le _) (fun j h => by rw [Nat.zero_mul] at h; omega)
  intro k hk ih hno
  refine gX6_headComes_2 hi.1.1.1.2 (by rw [e1]; exact hi.1.1.2.2.1.1) (fun c => ⟨⟨_, rfl, by decide⟩, h2 ?_⟩) (fun c => ?_) <;> rw [e1, n1, nI_leI (by omega) (by omega)] at c
  · have : k = H.length := by omega
    subst this; exact hno
  · have hkl : k < H.length := by omega
    refine upto (pl A) (fun x => (∀ j, j < k * pl A + x → ¬ opn A H T j) → Wp 3 mdX6_headComes 15 [(0, .ref b), (1, .int (nI k)), (2, .int (nI x))] [] M (fun r M' => ROK mdX6_headComes r ∧ Q r M')) ?_ 0 (Nat.zero_le _) hno
    intro x hx ih2 hno2
    refine gX6_headComes_15 hi.1.1.1.2 (by rw [b0]; exact rk) (by rw [b0, r0]; exact hm.1.1) (fun c1 => ?_) (fun c1 => ?_) <;> rw [b0, r0, hA0.1.2, nI_leI (by omega) (by omega)] at c1
    · have : x = pl A := by omega
      subst this
      rw [nI_add]
      exact ih hkl (fun j hj => hno2 j (by rw [Nat.add_mul, Nat.one_mul] at hj; exact hj))
    · have hxl : x < pl A := by omega
      refine w_X6_headBehind (by decide) hi hL hkl hxl (fun o ho => ?_)
      have e := eo_m1 (isF_b ho hL1)
      have e2 := hbF_no hxl ho
      refine gX6_headComes_35 hi.1.1.1.2 (fun c2 => ?_) (fun c2 => ?_)
      · have hop := e2.mp (e.mp c2)
        have hF : isF (H.length * pl A) (opn A H T) (some (k * pl A + x)) := ⟨ix_lt hkl hxl, hop, hno2⟩
        have g := h1 _ hF
        rw [ix_div hxl, ix_mod hxl] at g
        refine w_X6_rowWord (y := x + 1) (by decide) hi hkl (by omega) ?_
        rw [e1]
        refine gX6_headComes_52 hi.1.1.2.2.1.1 (w_X9_add (cap := 128) (by decide) hi.1.1.2.2.1 hi.2.2.1.1 (hlt ⟨_, hF⟩) (by decide) (gX6_headComes_55 ⟨⟨_, rfl, by decide⟩, g⟩))
      · rw [nI_add]
        refine ih2 hxl (fun j hj => ?_)
        by_cases q : j = k * pl A + x
        · subst q; exact fun q => c2 (e.mpr (e2.mpr q))
        · exact hno2 j (by omega)
theorem ao_eo {p q : Nat} {e : List Nat} (hb : bdM A) : eo (ao A p e) = eo (ao A q e) ↔ ao A p e = ao A q e :=
  eo_inj (fun j h => by have := ao_b hb p e j h; omega) (fun j h => by have := ao_b hb q e j h; omega)
theorem w_X6_firstParting {p q : Nat} (hd : 3 < d) (hi : TI z M b r A st sp s H T) (hp : p < 8) (hq : q < 8) (hex : ¬ lk A T p q) (h : Q (some (.long (lN (cd (T.getD (fPe A T p q) []))))) M) : ClD d mdX6_firstParting [.ref b, .int (nI p), .int (nI q)] M Q := by
  obtain ⟨rk, r0, b0, hA, r7⟩ := hi.r0
  have l3 := hA.2.1.2
  have hL2 := hi.2.2.2.2.1.2
  have e2 : mR M b 2 = b + 3 := hi.1.1.2.1.2.2.1
  have n2 : mI M (b + 3) 0 = nI T.length := hi.2.2.1.2.1
  have hm := hi.2.1.2.2.1
  have hA0 := hi.2.1.2.2.2.1
  refine ⟨3, hd, Cl.of moX6_firstParting (Nat.le_of_ble_eq_true rfl) (gX6_firstParting_0 hi.1.1.1.2 (by rw [b0]; exact rk) ?_)⟩
  rw [b0, r0]
  refine upto T.length (fun e => (∀ j, j < e → ¬ ao A p (T.getD j []) ≠ ao A q (T.getD j [])) → Wp 3 mdX6_firstParting 11 [(0, .ref b), (1, .int (nI p)), (2, .int (nI q)), (3, .ref 3), (4, .int (nI e))] [] M (fun r M' => ROK mdX6_firstParting r ∧ Q r M')) ?_ 0 (Nat.zero_le _) (fun _ h => by omega)
  intro e he ih hno
  refine gX6_firstParting_11 hi.1.1.1.2 (by rw [e2]; exact hi.1.1.2.2.2.1.1) (fun c => ?_) (fun c => ?_) <;> rw [e2, n2, nI_leI (by omega) (by omega)] at c
  · exfalso
    apply hex
    intro w hw
    obtain ⟨j, j1, rfl⟩ := mem_getD hw
    exact Classical.byContradiction (hno j (by omega))
  · have hel : e < T.length := by omega
    rw [e2]
    refine w_lget (cap := 128) (by decide) hi.1.1.2.2.2.1 hi.2.2.1.2 hL2 (by decide) hel ?_
    have hg := hi.2.2.2.1.2.get hel
    have hg4 := vw_mono hg.1 (show pl A ≤ 4 by omega)
    refine gX6_firstParting_32 hm.1.1 (w_X2_endFrom (s := some p) (by decide) hm hA0 hA.bd (fun j e => by cases e; exact hp) hg4 hg.2 (gX6_firstParting_42 hm.1.1 (w_outO (by decide) hm hA0 hA.bd (rnO_lt hA.bd (fun j e => by cases e; exact hp) _) ?_)))
    refine gX6_firstParting_45 hm.1.1 (w_X2_endFrom (s := some q) (by decide) hm hA0 hA.bd (fun j e => by cases e; exact hq) hg4 hg.2 (gX6_firstParting_53 hm.1.1 (w_outO (by decide) hm hA0 hA.bd (rnO_lt hA.bd (fun j e => by cases e; exact hq) _) ?_)))
    have hio : eo (ao A p (T.getD e [])) = eo (ao A q (T.getD e [])) ↔ ao A p (T.getD e []) = ao A q (T.getD e []) := ao_eo hA.bd
    refine gX6_firstParting_56 (fun c1 => ?_) (fun c1 => ⟨⟨_, rfl⟩, ?_⟩)
    · rw [nI_add]
      refine ih hel (fun j hj => ?_)
      by_cases g : j = e
      · subst g; exact fun q => q (hio.mp c1)
      · exact hno j (by omega)
    · have e9 : fPe A T p q = e := by
        unfold fPe
        rw [ff_eq (o := some e) ⟨hel, fun g => c1 (hio.mpr g), hno⟩]; rfl
      rw [e9] at h; exact h
theorem w_X6_tailComes (hd : 4 < d) (hi : TI z M b r A st sp s H T) (hL : LnsAt M b A T H) (hlen : ∀ e, e ∈ T → e.length ≤ 29) (hlt : (∃ i, isF (H.length * H.length) (ptP A H T) (some i)) → T.length < 128) (h1 : ∀ i, isF (H.length * H.length) (ptP A H T) (some i) → Q (some (.int (nI 1))) (lAdd M (b + 3) T.length (nTl A H T i))) (h2 : isF (H.length * H.length) (ptP A H T) none → Q (some (.int (nI 0))) M) : ClD d mdX6_tailComes [.ref b] M Q := by
  obtain ⟨rk, r0, b0, hA, r7⟩ := hi.r0
  have hL0 := hL
  obtain ⟨g, f, g1, g2, g3, g4⟩ := hL
  have l3 := hA.2.1.2
  have a8 := hA.1.2
  have hL1 := hi.2.2.2.2.1.1
  have hL2 := hi.2.2.2.2.1.2
  have e1 : mR M b 1 = b + 1 := hi.1.1.2.1.2.1
  have e2 : mR M b 2 = b + 3 := hi.1.1.2.1.2.2.1
  have n1 : mI M (b + 1) 0 = nI H.length := hi.2.2.1.1.1
  have hm := hi.2.1.2.2.1
  have hA0 := hi.2.1.2.2.2.1
  have k8 := hi.1.1.1.2
  have hen : ∀ k, k < H.length → en A H k < pn A := fun k hk => en_lt hA hi.2.2.2.1.1 hk
  have gl8 : ∀ s, s < 8 → g s < 8 := fun s hs => by have := (g2 s hs).1; omega
  have lkg : ∀ p q, p < 8 → q < 8 → (nI (g p) = nI (g q) ↔ lk A T p q) := fun p q hp hq => by
    rw [nI_eq (by have := gl8 p hp; omega) (by have := gl8 q hq; omega)]
    exact isLe (lk_eqv A T) (g2 p hp) (g2 q hq)
  refine ⟨4, hd, Cl.of moX6_tailComes (Nat.le_of_ble_eq_true rfl) (gX6_tailComes_0 ?_)⟩
  refine upto H.length (fun k => (∀ j, j < k * H.length → ¬ ptP A H T j) → Wp 4 mdX6_tailComes 2 [(0, .ref b), (1, .int (nI k))] [] M (fun r M' => ROK mdX6_tailComes r ∧ Q r M')) ?_ 0 (Nat.zero_le _) (fun j h => by rw [Nat.zero_mul] at h; omega)
  intro k hk ih hno
  refine gX6_tailComes_2 k8 (by rw [e1]; exact hi.1.1.2.2.1.1) (fun c => ⟨⟨_, rfl, by decide⟩, h2 ?_⟩) (fun c => ?_) <;> rw [e1, n1, nI_leI (by omega) (by omega)] at c
  · have : k = H.length := by omega
    subst this; exact hno
  · have hkl : k < H.length := by omega
    rw [nI_add]
    refine upto H.length (fun o => k < o → (∀ j, j < k * H.length + o → ¬ ptP A H T j) → Wp 4 mdX6_tailComes 17 [(0, .ref b), (1, .int (nI k)), (2, .int (nI o))] [] M (fun r M' => ROK mdX6_tailComes r ∧ Q r M')) ?_ (k + 1) (by omega) (by omega) (fun j hj => ?_)
    · intro o ho ih2 hko hno2
      refine gX6_tailComes_17 k8 (by rw [e1]; exact hi.1.1.2.2.1.1) (fun c1 => ?_) (fun c1 => ?_) <;> rw [e1, n1, nI_leI (by omega) (by omega)] at c1
      · have : o = H.length := by omega
        subst this
        rw [nI_add]
        exact ih hkl (fun j hj => hno2 j (by rw [Nat.add_mul, Nat.one_mul] at hj; exact hj))
      · have hol : o < H.length := by omega
        have hk8 := hen k hkl
        have ho8 := hen o hol
        refine w_X6_endOf (by decide) hi.1 (by omega) ?_
        rw [g3 k hkl]
        refine gX6_tailComes_34 k8 (w_X6_lineOf (by decide) hi.1 (by omega) ?_)
        rw [g1 _ (by omega)]
        refine gX6_tailComes_37 k8 (w_X6_endOf (by decide) hi.1 (by omega) ?_)
        rw [g3 o hol]
        refine gX6_tailComes_43 k8 (w_X6_lineOf (by decide) hi.1 (by omega) ?_)
        rw [g1 _ (by omega)]
        have nxo : ¬ ptP A H T (k * H.length + o) → Wp 4 mdX6_tailComes 17 [(0, .ref b), (1, .int (nI k)), (2, .int (nI o + nI 1))] [] M (fun r M' => ROK mdX6_tailComes r ∧ Q r M') := fun hn => by
          rw [nI_add]
          refine ih2 hol (by omega) (fun j hj => ?_)
          by_cases q : j = k * H.length + o
          · subst q; exact hn
          · exact hno2 j (by omega)
        have hpt : ptP A H T (k * H.length + o) ↔ k < o ∧ lk A T (en A H k) (en A H o) ∧ ∃ x, x < pl A ∧ ptX A H T k o x := by
          unfold ptP; rw [ix_div hol, ix_mod hol]
        refine gX6_tailComes_46 (fun c2 => ?_) (fun c2 => nxo (fun q => c2 ((lkg _ _ (by omega) (by omega)).mpr (hpt.mp q).2.1)))
        have hlk := (lkg _ _ (by omega) (by omega)).mp c2
        refine upto (pl A) (fun x => (∀ j, j < x → ¬ ptX A H T k o j) → Wp 4 mdX6_tailComes 54 [(0, .ref b), (1, .int (nI k)), (2, .int (nI o)), (3, .int (nI x))] [] M (fun r M' => ROK mdX6_tailComes r ∧ Q r M')) ?_ 0 (Nat.zero_le _) (fun _ h => by omega)
        intro x hx ih3 hno3
        refine gX6_tailComes_54 k8 (by rw [b0]; exact rk) (by rw [b0, r0]; exact hm.1.1) (fun c3 => ?_) (fun c3 => ?_) <;> rw [b0, r0, hA0.1.2, nI_leI (by omega) (by omega)] at c3
        · refine nxo (fun q => ?_)
          obtain ⟨-, -, x', x1, x2⟩ := hpt.mp q
          exact hno3 x' (by omega) x2
        · have hxl : x < pl A := by omega
          have t1 := hA.2.2.2 _ hk8 x hxl
          have t2 := hA.2.2.2 _ ho8 x hxl
          rw [b0, r0]
          refine w_X6_endOf (by decide) hi.1 (by omega) ?_
          rw [g3 k hkl]
          refine gX6_tailComes_80 hm.1.1 (w_nextO (s := some (en A H k)) (by decide) hm hA0 hA.bd (fun j e => by cases e; omega) (by omega) ?_)
          rw [show nx A (some (en A H k)) x = some (pt A (en A H k) x) from if_pos ⟨hk8, hxl⟩]
          refine gX6_tailComes_84 k8 (by rw [b0]; exact rk) ?_
          rw [b0, r0]
          refine w_X6_endOf (by decide) hi.1 (by omega) ?_
          rw [g3 o hol]
          refine gX6_tailComes_98 hm.1.1 (w_nextO (s := some (en A H o)) (by decide) hm hA0 hA.bd (fun j e => by cases e; omega) (by omega) ?_)
          rw [show nx A (some (en A H o)) x = some (pt A (en A H o) x) from if_pos ⟨ho8, hxl⟩]
          refine gX6_tailComes_102 k8 ?_
          show ClD 4 mdX6_lineOf [.ref b, .int (nI (pt A (en A H k) x))] _ _
          refine w_X6_lineOf (by decide) hi.1 (by omega) ?_
          rw [g1 _ (by omega)]
          refine gX6_tailComes_110 k8 ?_
          show ClD 4 mdX6_lineOf [.ref b, .int (nI (pt A (en A H o) x))] _ _
          refine w_X6_lineOf (by decide) hi.1 (by omega) ?_
          rw [g1 _ (by omega)]
          refine gX6_tailComes_116 k8 (fun c4 => ?_) (fun c4 => ?_)
          · have hX : ptX A H T k o x := fun q => c4 ((lkg _ _ (by omega) (by omega)).mpr q)
            have hF : isF (H.length * H.length) (ptP A H T) (some (k * H.length + o)) := ⟨ix_lt hkl hol, hpt.mpr ⟨hko, hlk, x, hxl, hX⟩, hno2⟩
            have hq := h1 _ hF
            unfold nTl at hq
            rw [ix_div hol, ix_mod hol] at hq
            have ex : fPx A H T k o = x := by
              unfold fPx
              rw [ff_eq (o := some x) ⟨hxl, hX, hno3⟩]; rfl
            rw [ex] at hq
            rw [e2]
            refine w_X1_then (w := []) (by decide) (by omega) ?_
            refine gX6_tailComes_131 k8 ?_
            show ClD 4 mdX6_firstParting [.ref b, .int (nI (pt A (en A H k) x)), .int (nI (pt A (en A H o) x))] _ _
            refine w_X6_firstParting (by decide) hi (by omega) (by omega) hX ?_
            obtain ⟨ee, hee⟩ : ∃ ee, ee = T.getD (fPe A T (pt A (en A H k) x) (pt A (en A H o) x)) [] := ⟨_, rfl⟩
            rw [← hee] at hq ⊢
            have hm2 : ee ∈ T ∨ ee = [] := by
              by_cases q : fPe A T (pt A (en A H k) x) (pt A (en A H o) x) < T.length
              · rw [hee]; exact Or.inl (getD_mem q)
              · right; rw [hee, List.getD, List.getElem?_eq_none (by omega)]; rfl
            have hv : vw 4 ee ∧ ee.length ≤ 29 := by
              rcases hm2 with q | q
              · exact ⟨vw_mono (hi.2.2.2.1.2 _ q).1 (by omega), hlen _ q⟩
              · rw [q]; exact ⟨vw_nil 4, by decide⟩
            refine gX6_tailComes_139 (w_X1_join (u := [] ++ [x]) (by decide) (fun v hv => by simp at hv; omega) hv.1 (by simp; omega) ?_)
            refine gX6_tailComes_142 hi.1.1.2.2.2.1.1 (w_X9_add (cap := 128) (by decide) hi.1.1.2.2.2.1 hi.2.2.1.2 (hlt ⟨_, hF⟩) (by decide) (gX6_tailComes_145 ⟨⟨_, rfl, by decide⟩, ?_⟩))
            exact hq
          · rw [nI_add]
            refine ih3 hxl (fun j hj => ?_)
            by_cases q : j = x
            · subst q; exact fun q => q ((lkg _ _ (by omega) (by omega)).mp c4)
            · exact hno3 j (by omega)
    · by_cases q : j < k * H.length
      · exact hno j q
      · intro hp
        obtain ⟨o, rfl⟩ : ∃ o, j = k * H.length + o := ⟨j - k * H.length, by omega⟩
        have ho : o ≤ k := by omega
        unfold ptP at hp
        rw [ix_div (by omega), ix_mod (by omega)] at hp
        omega
end TabB
