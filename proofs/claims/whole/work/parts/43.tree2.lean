/-! the class's Tree: a pupil of METHOD 3, its step and its lesson -/
/-- the word of a place: a head and a letter -/
def hx (A : PM) (H : List (List Nat)) (i : Nat) : List Nat := H.getD (i / pl A) [] ++ [i % pl A]
/-- what is asked by the sifts of the first n -/
def swN (A : PM) (H T : List (List Nat)) (K : Nat → Nat) : Nat → List (List Nat)
  | 0 => []
  | n + 1 => swN A H T K n ++ sw A T K (hx A H n) 8 0
noncomputable def fL (A : PM) (H T : List (List Nat)) (K : Nat → Nat) : Option Nat := ff (H.length * pl A) (fun i => K (sfP A T K (hx A H i)) = 0)
def gR (A : PM) (H T : List (List Nat)) (K : Nat → Nat) : PM := (H.length, pl A, fun s => an A 0 (H.getD s []), fun s x => K (sfP A T K (H.getD s [] ++ [x])) - 1)
noncomputable def stepR (A : PM) (st sp : Nat) (p : PS) : Nat × PS :=
  match fL A (qH p) (qT p) (qK p) with
  | some i => (1, qm p, aSs st sp (qs p) (swN A (qH p) (qT p) (qK p) (i + 1)), ql p, qH p ++ [hx A (qH p) i], qT p, upN (qK p) (sfP A (qT p) (qK p) (hx A (qH p) i)) (1 + (qH p).length), none)
  | none => (0, qm p, aSs st sp (qs p) (swN A (qH p) (qT p) (qK p) ((qH p).length * pl A)), ql p, qH p, qT p, qK p, some (qH p, gR A (qH p) (qT p) (qK p)))
/-- the new leaf's word -/
def nLf (g : GU) (w : List Nat) (hi : Nat) : List Nat := acc g (w.take (hi - 1)) ++ [w.getD (hi - 1) 0]
def lesK (A : PM) (H T : List (List Nat)) (K : Nat → Nat) (a : Nat) (e v : List Nat) : Nat → Nat :=
  upN (upN (fun c => if K c = 1 + a then 100 + T.length else K c) (T.length * 4 + an A 0 (H.getD a [] ++ e)) (1 + a)) (T.length * 4 + an A 0 (v ++ e)) (1 + H.length)
def lesR (A : PM) (st sp : Nat) (p : PS) (g : GU) (w : List Nat) : Nat × PS :=
  let P := pA st sp A g w (an A 0 w) 15 0 w.length (aS st sp (qs p) w)
  let a := rn (pt g.2) 0 (w.take P.2.1)
  (2, qm p, aS st sp (aS st sp P.2.2 ((qH p).getD a [] ++ w.drop P.2.1)) (nLf g w P.2.1 ++ w.drop P.2.1), ql p + 1, qH p ++ [nLf g w P.2.1], qT p ++ [w.drop P.2.1], lesK A (qH p) (qT p) (qK p) a (w.drop P.2.1) (nLf g w P.2.1), none)
def RPp (z : Nat) (M : Mem) (b r : Nat) (A : PM) (st sp : Nat) (p : PS) : Prop := qm p = 3 ∧ ∃ s, eqS s (qs p) ∧ RI z M b r A st sp s (qH p) (qT p) (qK p) ∧ (mI M b 5 = nI 3 ∧ mI M b 6 = nI (ql p)) ∧ GueAt M b (qg p)
/-- bounds of a tree -/
def BR (A : PM) (p : PS) : Prop := TW (qH p) (qT p) (qK p) ∧ (∀ h e, h ∈ qH p → e ∈ qT p → h.length + 1 + e.length ≤ 30) ∧ (∀ h, h ∈ qH p → h ∈ (qs p).1) ∧ ([] ∈ qT p ∧ 0 < (qH p).length) ∧ ∃ X : List (List Nat), (∀ w, w ∈ (qs p).1 → w ∈ X) ∧ (∀ w, w ∈ rwW (pl A) (qH p) (qT p) → w ∈ X) ∧ X.length < 8192
theorem hx_at {A : PM} {H : List (List Nat)} {k x : Nat} (hx' : x < pl A) : hx A H (k * pl A + x) = H.getD k [] ++ [x] := by
  unfold hx; rw [ix_div hx', ix_mod hx']
section TreeB
variable {z d r b st sp : Nat} {Q : Option Value → Mem → Prop} {M : Mem} {A : PM} {p : PS}
theorem w_X8_advance (hd : 5 < d) (hi : RPp z M b r A st sp p) (hg : qg p = none) (hB : BR A p)
    (h : ∀ M', Fa r (tabS r b 12) M M' → RPp z M' b r A st sp (stepR A st sp p).2 → Q (some (.int (nI (stepR A st sp p).1))) M') : ClD d mdX8_advance [.ref b] M Q := by
  obtain ⟨hm3, s, hs, hT, ⟨m5, m6⟩, hG⟩ := hi
  obtain ⟨hW, hlen, hHs, ⟨hT0, hH0⟩, X, hX1, hX2, hX3⟩ := hB
  have hz := hT.2.2.2.2.2.1
  have hrb := hT.2.2.2.2.2.2
  obtain ⟨k8, rk, r0, b0, hA, r7⟩ := hT.r0
  have l3 := hA.2.1.2
  have hw1 := hW.1
  rw [hg] at hG
  have e1 : mR M b 1 = b + 1 := hT.1.1.2.1.2.1
  have n1 : mI M (b + 1) 0 = nI (qH p).length := hT.2.2.1.1.1
  have tb : ∀ p, p ∈ tabS r b 12 ↔ p = r ∨ p = r + 1 ∨ (b ≤ p ∧ p < b + 12) := fun p => tabS_mem
  refine ⟨5, hd, Cl.of moX8_advance (Nat.le_of_ble_eq_true rfl) (gX8_advance_0 k8 (by rw [e1]; exact hT.1.1.2.2.1.1) ?_)⟩
  rw [e1, n1]
  have hcov : ∀ n v, v ∈ swN A (qH p) (qT p) (qK p) n → n ≤ (qH p).length * pl A → v ∈ X := by
    intro n
    induction n with
    | zero => intro v hv; simp [swN] at hv
    | succ n ih =>
      intro v hv hn
      rcases List.mem_append.mp hv with g | g
      · exact ih v g (by omega)
      · obtain ⟨e, e1, e2⟩ := sw_mem hW.kn (by omega) g
        obtain ⟨q1, q2, -⟩ := ix_sp (show n < (qH p).length * pl A by omega)
        exact hX2 _ (rwW_mem.mpr ⟨_, getD_mem q1, e, e1, Or.inr ⟨n % pl A, q2, e2⟩⟩)
  have S5 : ∀ {M1 : Mem}, Fa r [r, r + 1, b, b + 9] M M1 → (mI M1 (b + 7) = mI M (b + 7) ∧ LstAt M1 (b + 5) []) := fun F => by
    have nn : ∀ p, b < p → p < z → p ≠ b + 9 → p ∉ slq M r :: [r, r + 1, b, b + 9] := fun p g1 g2 g3 => nq hT.2.1.2.2.2.2.2.1 g2 (by omega) (fun q => by simp at q; omega)
    have hzz := hT.2.1.2.2.2.2.2.2.1
    exact ⟨F.1.I (by omega) (nn _ (by omega) (by omega) (by omega)), hG.2.fm F.1 (by omega) (nn _ (by omega) (by omega) (by omega)) (nn _ (by omega) (by omega) (by omega))⟩
  refine upto (qH p).length (fun k => ∀ M1, Fa r [r, r + 1, b, b + 9] M M1 → RI z M1 b r A st sp (aSs st sp s (swN A (qH p) (qT p) (qK p) (k * pl A))) (qH p) (qT p) (qK p) → (∀ j, j ≠ 7 → j ≠ 9 → mI M1 b j = mI M b j) → (∀ i, i < k * pl A → qK p (sfP A (qT p) (qK p) (hx A (qH p) i)) ≠ 0) → (∀ j x, j < k → x < pl A → mI M1 (b + 9) (j * 3 + x) = nI (pt (gR A (qH p) (qT p) (qK p)) j x)) → Wp 5 mdX8_advance 10 [(0, .ref b), (1, .int (nI (qH p).length)), (2, .int (nI k))] [] M1 (fun r M' => ROK mdX8_advance r ∧ Q r M')) ?_ 0 (Nat.zero_le _) M (Fa.rf _ _ _) (by rw [Nat.zero_mul]; exact hT) (fun _ _ _ => rfl) (fun i hi => by rw [Nat.zero_mul] at hi; omega) (fun _ _ h => by omega)
  intro k hk ih M1 F I hb hno hnx
  refine gX8_advance_10 (fun c => ?_) (fun c => ?_) <;> rw [nI_leI (by omega) (by omega)] at c
  · -- all sifted: the guess
    have ek : k = (qH p).length := by omega
    subst ek
    have hf : fL A (qH p) (qT p) (qK p) = none := ff_eq (o := none) hno
    have e : stepR A st sp p = (0, qm p, aSs st sp (qs p) (swN A (qH p) (qT p) (qK p) ((qH p).length * pl A)), ql p, qH p, qT p, qK p, some (qH p, gR A (qH p) (qT p) (qK p))) := by
      unfold stepR; rw [hf]
    rw [e] at h
    have key : ∀ s x, s < (qH p).length → x < pl A → ∃ a, a < (qH p).length ∧ qK p (sfP A (qT p) (qK p) ((qH p).getD s [] ++ [x])) = 1 + a ∨ False ∨ qK p (sfP A (qT p) (qK p) ((qH p).getD s [] ++ [x])) = 100 + a := by
      intro s x hs hx
      have hne := hno _ (ix_lt hs hx)
      rw [hx_at hx] at hne
      by_cases c4 : sfP A (qT p) (qK p) ((qH p).getD s [] ++ [x]) < 4 * (qT p).length
      · rcases hW.2.2 _ c4 with e | ⟨a, a1, a2⟩ | ⟨k, k1, k2, k3⟩
        · exact absurd e hne
        · exact ⟨a, Or.inl ⟨a1, a2⟩⟩
        · exact ⟨k, Or.inr (Or.inr k3)⟩
      · exact absurd (hW.2.1 _ (by omega)) hne
    -- the sift ends at a leaf
    have leafy : ∀ q f k, (qT p).length ≤ k + f → k < (qT p).length → (∀ e, e ∈ qT p → an A q e < 4) → qK p (sf A (qT p) (qK p) q f k).2 < 100 := by
      intro q f
      induction f with
      | zero => intro k h1 h2; omega
      | succ f ih =>
        intro k h1 h2 h4
        by_cases c : qK p (k * 4 + an A q ((qT p).getD k [])) < 100
        · rw [show sf A (qT p) (qK p) q (f + 1) k = (1, k * 4 + an A q ((qT p).getD k [])) from if_pos c]; exact c
        · rw [show sf A (qT p) (qK p) q (f + 1) k = ((sf A (qT p) (qK p) q f (qK p (k * 4 + an A q ((qT p).getD k [])) - 100)).1 + 1, (sf A (qT p) (qK p) q f (qK p (k * 4 + an A q ((qT p).getD k [])) - 100)).2) from if_neg c]
          have ha := h4 _ (getD_mem h2)
          rcases hW.2.2 _ (show k * 4 + an A q ((qT p).getD k []) < 4 * (qT p).length by omega) with g | ⟨a, a1, g⟩ | ⟨k', k1, k2, g⟩
          · omega
          · omega
          · rw [g, show 100 + k' - 100 = k' by omega]
            exact ih k' (by omega) k2 h4
    have hgo : okM (gR A (qH p) (qT p) (qK p)) := by
      refine ⟨⟨hH0, hw1.2.2⟩, hA.2.1, fun s hs => an_lt hA (hT.2.2.2.1.1.get hs).1, fun s hs x hx => ?_⟩
      have hwx : vw (pl A) ((qH p).getD s [] ++ [x]) := vw_app.mpr ⟨(hT.2.2.2.1.1.get hs).1, fun v hv => by have hx : x < pl A := hx; simp at hv; omega⟩
      have h100 := leafy (rn (pt A) 0 ((qH p).getD s [] ++ [x])) 8 0 (by omega) (by omega) (fun e he => by rw [← an_app]; exact an_lt hA (vw_app.mpr ⟨hwx, (hT.2.2.2.1.2 e he).1⟩))
      obtain ⟨a, g | g | g⟩ := key s x hs hx
      · show qK p (sfP A (qT p) (qK p) ((qH p).getD s [] ++ [x])) - 1 < (qH p).length
        rw [g.2]; omega
      · exact g.elim
      · have h100 : qK p (sfP A (qT p) (qK p) ((qH p).getD s [] ++ [x])) < 100 := h100
        omega
    have ec : (aSs st sp s (swN A (qH p) (qT p) (qK p) ((qH p).length * pl A))).1.length < 8192 := Nat.lt_of_le_of_lt (nodupW_le I.nd (fun w hw => by
      rcases (aSs_mem _ _ _ _ _).mp hw with g | g
      · exact hX1 w ((hs.2.1 w).mp g)
      · exact hcov _ w g (Nat.le_refl _))) hX3
    have g5 := S5 F
    refine upto (qH p).length (fun k => ∀ M2, Sm [b + 5, b + 6] M1 M2 → LstAt M2 (b + 5) ((qH p).take k) → Wp 5 mdX8_advance 96 [(0, .ref b), (1, .int (nI (qH p).length)), (2, .int (nI k))] [] M2 (fun r M' => ROK mdX8_advance r ∧ Q r M')) ?_ 0 (Nat.zero_le _) M1 (Sm.rf _ _) g5.2
    intro k hk ih2 M2 S2 l2
    have I2 := I.fm S2.fm (fun p hp => by simp at hp; omega)
    obtain ⟨k82, rk2, r02, b02, -, -⟩ := I2.r0
    have e12 : mR M2 b 1 = b + 1 := I2.1.1.2.1.2.1
    have e32 : mR M2 b 3 = b + 5 := I2.1.1.2.1.2.2.2.1
    have sh5 := I2.1.1.2.2.2.2.1
    refine gX8_advance_96 k82 (by rw [e12]; exact I2.1.1.2.2.1.1) (fun c => ?_) (fun c => ?_) <;> rw [nI_leI (by omega) (by omega)] at c
    · have ek : k = (qH p).length := by omega
      subst ek
      rw [List.take_length] at l2
      have b9 : mI M2 (b + 9) = mI M1 (b + 9) := S2.I (by simp)
      refine w_X3_settle (z := z) (G := gR A (qH p) (qT p) (qK p)) (by decide) (by omega) (by omega) I2.1.1 I2.2.1 l2 hw1.2.2 I2.2.2.2.1.1 (fun w hw => (aSs_mem _ _ _ _ _).mpr (Or.inl ((hs.2.1 w).mpr (hHs w hw)))) ec hgo rfl rfl (fun j hj => rfl) (fun j x hj hx => by rw [b9]; exact hnx j x hj hx) (fun M3 F3 I3 G3 => gX8_advance_126 ⟨⟨_, rfl⟩, ?_⟩)
      have hb3 : mI M3 b = mI M1 b := (I2.fb F3 (by omega) (by simp <;> omega)).trans (S2.I (by simp))
      refine h M3 (((F.mono (fun p hp => by rw [tb]; simp at hp; omega)).tr ((S2.mono (fun p hp => by rw [tb]; simp at hp; omega)).fa)).tr (F3.mono (fun p hp => by rw [tb]; simp at hp; omega))) ⟨hm3, _, hs.as, I2.fa F3 (fun p hp => by simp at hp; omega) I3, ⟨?_, ?_⟩, G3⟩
      · rw [hb3, hb 5 (by decide) (by decide)]; exact m5
      · rw [hb3, hb 6 (by decide) (by decide)]; exact m6
    · have hkl : k < (qH p).length := by omega
      rw [e12, e32]
      refine w_lget (cap := 128) (by decide) I2.1.1.2.2.1 I2.2.2.1.1 (by omega) (by decide) hkl (gX8_advance_113 sh5.1 (w_X9_add (cap := 8) (by decide) sh5 l2 (by rw [List.length_take]; omega) (by decide) (gX8_advance_116 ?_)))
      rw [nI_add]
      refine ih2 hkl _ (S2.tr (Sm.lAdd (by simp) (by simp) _ _ _)) ?_
      rw [← take_snoc hkl]; exact l2.add _
  · have hkl : k < (qH p).length := by omega
    refine upto (pl A) (fun x => ∀ M1, Fa r [r, r + 1, b, b + 9] M M1 → RI z M1 b r A st sp (aSs st sp s (swN A (qH p) (qT p) (qK p) (k * pl A + x))) (qH p) (qT p) (qK p) → (∀ j, j ≠ 7 → j ≠ 9 → mI M1 b j = mI M b j) → (∀ i, i < k * pl A + x → qK p (sfP A (qT p) (qK p) (hx A (qH p) i)) ≠ 0) → (∀ j y, j < k ∨ j = k ∧ y < x → y < pl A → mI M1 (b + 9) (j * 3 + y) = nI (pt (gR A (qH p) (qT p) (qK p)) j y)) → Wp 5 mdX8_advance 17 [(0, .ref b), (1, .int (nI (qH p).length)), (2, .int (nI k)), (3, .int (nI x))] [] M1 (fun r M' => ROK mdX8_advance r ∧ Q r M')) ?_ 0 (Nat.zero_le _) M1 F I hb hno (fun j y hc hy => hnx j y (by omega) hy)
    intro x hx' ih2 M2 F2 I2 hb2 hno2 hnx2
    obtain ⟨k82, rk2, r02, b02, -, -⟩ := I2.r0
    have e12 : mR M2 b 1 = b + 1 := I2.1.1.2.1.2.1
    have hm2 := I2.2.1.2.2.1
    have hA2 := I2.2.1.2.2.2.1
    refine gX8_advance_17 k82 (by rw [b02]; exact rk2) (by rw [b02, r02]; exact hm2.1.1) (by rw [e12]; exact I2.1.1.2.2.1.1) (fun c1 => ?_) (fun c1 => ?_) <;> rw [b02, r02, hA2.1.2, nI_leI (by omega) (by omega)] at c1
    · have ex : x = pl A := by omega
      subst ex
      rw [nI_add]
      have ea : (k + 1) * pl A = k * pl A + pl A := by rw [Nat.add_mul, Nat.one_mul]
      refine ih hkl M2 F2 (by rw [ea]; exact I2) hb2 (by rw [ea]; exact hno2) (fun j y hj hy => hnx2 j y (by omega) hy)
    · have hxl : x < pl A := by omega
      have hw := hT.2.2.2.1.1.get hkl
      rw [e12]
      refine w_lget (cap := 128) (by decide) I2.1.1.2.2.1 I2.2.2.1.1 (by omega) (by decide) hkl (gX8_advance_39 (w_X1_then (by decide) (by omega) (gX8_advance_43 k82 ?_)))
      have hwx : vw (pl A) ((qH p).getD k [] ++ [x]) := vw_app.mpr ⟨hw.1, fun v hv => by simp at hv; omega⟩
      have hw0 := rn_lt hA hA.1.1 hwx
      have ei := hx_at (H := qH p) (k := k) hxl
      have hil : k * pl A + x < (qH p).length * pl A := ix_lt hkl hxl
      have hXs : ∀ v, v ∈ (aSs st sp s (swN A (qH p) (qT p) (qK p) (k * pl A + x))).1 → v ∈ X := fun v hv => by
        rcases (aSs_mem _ _ _ _ _).mp hv with g | g
        · exact hX1 v ((hs.2.1 v).mp g)
        · exact hcov _ v g (by omega)
      refine w_X8_descend (X := X) (by decide) I2 hW hwx (fun e he => by have := hlen _ _ (getD_mem hkl) he; rw [List.length_append, List.length_singleton]; omega) hXs (fun e he => hX2 _ (rwW_mem.mpr ⟨_, getD_mem hkl, e, he, Or.inr ⟨x, hxl, rfl⟩⟩)) hX3 (fun M3 F3 I3 h97 hb3 h32 => ?_)
      have e4 : mR M3 b 4 = b + 7 := I3.1.1.2.1.2.2.2.2
      have hsn : aSs st sp (aSs st sp s (swN A (qH p) (qT p) (qK p) (k * pl A + x))) (sw A (qT p) (qK p) ((qH p).getD k [] ++ [x]) 8 0) = aSs st sp s (swN A (qH p) (qT p) (qK p) (k * pl A + x + 1)) := by
        rw [← aSs_app]
        show _ = aSs st sp s (swN A (qH p) (qT p) (qK p) (k * pl A + x) ++ sw A (qT p) (qK p) (hx A (qH p) (k * pl A + x)) 8 0)
        rw [ei]
      rw [hsn] at I3
      have F3' : Fa r [r, r + 1, b, b + 9] M M3 := F2.tr (F3.mono (fun p hp => by simp at hp; simp <;> omega))
      have hb3' : ∀ j, j ≠ 7 → j ≠ 9 → mI M3 b j = mI M b j := fun j j7 j9 => (hb3 j j7 j9).trans (hb2 j j7 j9)
      have hle := hW.le (sfP A (qT p) (qK p) ((qH p).getD k [] ++ [x]))
      have b93 : mI M3 (b + 9) = mI M2 (b + 9) := I2.fb F3 (by omega) (by simp <;> omega)
      obtain ⟨pp, hpp⟩ : ∃ pp, pp = sfP A (qT p) (qK p) ((qH p).getD k [] ++ [x]) := ⟨_, rfl⟩
      rw [← hpp] at h97 h32 hle
      rw [← hpp]
      by_cases hz0 : qK p pp = 0
      · have hF : isF ((qH p).length * pl A) (fun i => qK p (sfP A (qT p) (qK p) (hx A (qH p) i)) = 0) (some (k * pl A + x)) := ⟨hil, by show qK p (sfP A (qT p) (qK p) (hx A (qH p) (k * pl A + x))) = 0; rw [ei, ← hpp]; exact hz0, fun j hj => hno2 j hj⟩
        have hf : fL A (qH p) (qT p) (qK p) = some (k * pl A + x) := ff_eq hF
        have e : stepR A st sp p = (1, qm p, aSs st sp (qs p) (swN A (qH p) (qT p) (qK p) (k * pl A + x + 1)), ql p, qH p ++ [(qH p).getD k [] ++ [x]], qT p, upN (qK p) pp (1 + (qH p).length), none) := by
          unfold stepR; rw [hf]; dsimp only; rw [ei, ← hpp]
        rw [e] at h
        rw [hz0]
        refine gX8_advance_51 I3.r0.1 (by rw [e4]; exact I3.1.1.2.2.2.2.2.1.1) (fun c => absurd rfl c) (fun _ => ?_)
        rw [h97.1]
        have hln := hlen _ _ (getD_mem hkl) hT0
        rw [List.length_nil] at hln
        refine w_X8_addLeaf (by decide) I3 h32 (by omega) ⟨hwx, by rw [List.length_append, List.length_singleton]; omega⟩ (fun M4 S4 I4 => gX8_advance_69 ⟨⟨_, rfl⟩, ?_⟩)
        have hb4 : mI M4 b = mI M3 b := S4.I (by simp)
        have g5 := S5 F3'
        refine h M4 ((F3'.mono (fun p hp => by rw [tb]; simp at hp; omega)).tr ((S4.mono (fun p hp => by rw [tb]; simp at hp; omega)).fa)) ⟨hm3, _, hs.as, I4, ⟨?_, ?_⟩, ⟨?_, g5.2.sm S4 (by simp) (by simp)⟩⟩
        · rw [hb4, hb3' 5 (by decide) (by decide)]; exact m5
        · rw [hb4, hb3' 6 (by decide) (by decide)]; exact m6
        · rw [S4.I (by simp), g5.1]; exact hG.1
      · have hkc : ¬ kcI (qK p pp) = (-1 : Int32) := by
          intro e
          unfold kcI at e
          rw [if_neg hz0] at e
          refine absurd z_m1 ?_
          rw [← e]
          split <;> exact nI_pos (by omega)
        have sh7 := I3.1.1.2.2.2.2.2
        have hkl8 : k < 8 := by omega
        refine gX8_advance_51 I3.r0.1 (by rw [e4]; exact sh7.1.1) (fun _ => ?_) (fun c => absurd c hkc)
        rw [e4]
        refine w_X2_setNext (r := b + 7) (by decide) sh7 hkl8 (by omega) (gX8_advance_82 ?_)
        rw [nI_add]
        have S4 : Sm [b + 9] M3 (sI M3 (b + 7 + 2) (k * 3 + x) (kcI (qK p pp))) := Sm.sI (by simp) _ _ _
        refine ih2 hxl _ (F3'.tr ((S4.mono (fun p hp => by simp at hp; simp [hp])).fa)) (I3.fm S4.fm (fun p hp => by simp at hp; omega)) (fun j j7 j9 => by rw [rI_np (by omega)]; exact hb3' j j7 j9) (fun i hi => ?_) (fun j y hc hy => ?_)
        · by_cases q : i = k * pl A + x
          · rw [q, ei, ← hpp]; exact hz0
          · exact hno2 i (by omega)
        · by_cases q : j = k ∧ y = x
          · obtain ⟨rfl, rfl⟩ := q
            have e9 : mI (sI M3 (b + 7 + 2) (j * 3 + y) (kcI (qK p pp))) (b + 9) (j * 3 + y) = kcI (qK p pp) := rI_at _ _ _ _
            rw [e9]
            show _ = nI (qK p (sfP A (qT p) (qK p) ((qH p).getD j [] ++ [y])) - 1)
            rw [← hpp]
            -- the sift ends at a leaf
            have leafy : ∀ q f k, (qT p).length ≤ k + f → k < (qT p).length → (∀ e, e ∈ qT p → an A q e < 4) → qK p (sf A (qT p) (qK p) q f k).2 < 100 := by
              intro q f
              induction f with
              | zero => intro k h1 h2; omega
              | succ f ih =>
                intro k h1 h2 h4
                by_cases c : qK p (k * 4 + an A q ((qT p).getD k [])) < 100
                · rw [show sf A (qT p) (qK p) q (f + 1) k = (1, k * 4 + an A q ((qT p).getD k [])) from if_pos c]; exact c
                · rw [show sf A (qT p) (qK p) q (f + 1) k = ((sf A (qT p) (qK p) q f (qK p (k * 4 + an A q ((qT p).getD k [])) - 100)).1 + 1, (sf A (qT p) (qK p) q f (qK p (k * 4 + an A q ((qT p).getD k [])) - 100)).2) from if_neg c]
                  have ha := h4 _ (getD_mem h2)
                  rcases hW.2.2 _ (show k * 4 + an A q ((qT p).getD k []) < 4 * (qT p).length by omega) with g | ⟨a, a1, g⟩ | ⟨k', k1, k2, g⟩
                  · omega
                  · omega
                  · rw [g, show 100 + k' - 100 = k' by omega]
                    exact ih k' (by omega) k2 h4
            have h100 : qK p pp < 100 := by
              rw [hpp]
              exact leafy (rn (pt A) 0 ((qH p).getD j [] ++ [y])) 8 0 (by omega) (by omega) (fun e he => by rw [← an_app]; exact an_lt hA (vw_app.mpr ⟨hwx, (hT.2.2.2.1.2 e he).1⟩))
            unfold kcI
            rw [if_neg hz0, if_pos h100]
          · have e9 : mI (sI M3 (b + 7 + 2) (k * 3 + x) (kcI (qK p pp))) (b + 9) (j * 3 + y) = mI M3 (b + 9) (j * 3 + y) := rI_nk (by omega)
            rw [e9, b93]
            refine hnx2 j y ?_ hy
            rcases hc with g | g
            · exact Or.inl g
            · refine Or.inr ⟨g.1, ?_⟩
              have : ¬ y = x := fun e => q ⟨g.1, e⟩
              omega
/-- a LEAF gives way to a KNOT -/
theorem w_X8_putKnot {s : List (List Nat) × Nat} {H T : List (List Nat)} {K : Nat → Nat} {a : Nat} {e v : List Nat} (hd : 4 < d) (hi : RI z M b r A st sp s H T K) (hW : TW H T K) (ha : a < H.length) (hT7 : T.length < 8) (he : vw (pl A) e) (hv : vw (pl A) v) (hv30 : v.length ≤ 30) (he30 : e.length ≤ 30) (hl1 : (H.getD a []).length + e.length ≤ 30) (hl2 : v.length + e.length ≤ 30) (hn : s.1.length + 2 < 8192)
    (h : ∀ M', Fa r [r, r + 1, b + 1, b + 2, b + 3, b + 4, b + 11] M M' → RI z M' b r A st sp (aS st sp (aS st sp s (H.getD a [] ++ e)) (v ++ e)) (H ++ [v]) (T ++ [e]) (lesK A H T K a e v) → Q none M') : ClD d mdX8_putKnot [.ref b, .int (nI a), .long (lN (cd e)), .long (lN (cd v))] M Q := by
  obtain ⟨k8, rk, r0, b0, hA, r7⟩ := hi.r0
  have l3 := hA.2.1.2
  have hz := hi.2.2.2.2.2.1
  have hrb := hi.2.2.2.2.2.2
  have hw1 := hW.1
  have e2 : mR M b 2 = b + 3 := hi.1.1.2.1.2.2.1
  have n2 : mI M (b + 3) 0 = nI T.length := hi.2.2.1.2.1
  refine ⟨4, hd, Cl.of moX8_putKnot (Nat.le_of_ble_eq_true rfl) (gX8_putKnot_0 k8 (by rw [e2]; exact hi.1.1.2.2.2.1.1) ?_)⟩
  rw [e2, n2]
  refine w_X9_add (cap := 128) (by decide) hi.1.1.2.2.2.1 hi.2.2.1.2 (by omega) (by decide) (gX8_putKnot_17 ?_)
  have S1 : Sm [b + 3, b + 4] M (lAdd M (b + 3) T.length e) := Sm.lAdd (by simp) (by simp) _ _ _
  have I1 := hi.addT (w := e) ⟨he, he30⟩
  refine upto 32 (fun c => ∀ M1, Sm [b + 3, b + 4, b + 11] M M1 → RI z M1 b r A st sp s H (T ++ [e]) (fun x => if x < c ∧ K x = 1 + a then 100 + T.length else K x) → Wp 4 mdX8_putKnot 20 [(0, .ref b), (1, .int (nI a)), (2, .long (lN (cd e))), (4, .long (lN (cd v))), (6, .int (nI T.length)), (7, .int (nI c))] [] M1 (fun r M' => ROK mdX8_putKnot r ∧ Q r M')) ?_ 0 (Nat.zero_le _) _ (S1.mono (by simp)) ?_
  · intro c hc ih M1 S I
    obtain ⟨k81, rk1, r01, b01, -, -⟩ := I.r0
    have e8 : mR M1 b 8 = b + 11 := I.1.2.1
    have e1 : mR M1 b 1 = b + 1 := I.1.1.2.1.2.1
    refine gX8_putKnot_20 k81 (by rw [e8]; exact I.1.2.2.1) (by rw [e1]; exact I.1.1.2.2.1.1) (fun c0 => ?_) (fun c0 => ?_) (fun c0 c1 => ?_) (fun c0 c1 => ?_) (fun c0 c1 => ?_) <;> rw [e8, I.1.2.2.2, nI_leI (by omega) (by omega)] at c0
    · have ec : c = 32 := by omega
      subst ec
      have hK : (fun x => if x < 32 ∧ K x = 1 + a then 100 + T.length else K x) = fun x => if K x = 1 + a then 100 + T.length else K x := funext fun x => by
        by_cases q : K x = 1 + a
        · have : x < 32 := by
            refine Nat.lt_of_not_le fun q2 => ?_
            have := hW.2.1 x (by omega)
            omega
          rw [if_pos ⟨this, q⟩, if_pos q]
        · rw [if_neg (fun q2 => q q2.2), if_neg q]
      rw [hK] at I
      have hg := hi.2.2.2.1.1.get ha
      rw [e1, b01, pk_mul]
      refine w_lget (cap := 128) (by decide) I.1.1.2.2.1 I.2.2.1.1 (by omega) (by decide) ha (gX8_putKnot_80 (w_X1_join (by decide) (vw_mono hg.1 (by omega)) (vw_mono he (by omega)) hl1 ?_))
      have hw1' : vw (pl A) (H.getD a [] ++ e) := vw_app.mpr ⟨hg.1, he⟩
      have hw2' : vw (pl A) (v ++ e) := vw_app.mpr ⟨hv, he⟩
      have b1 := an_lt hA hw1'
      have b2 := an_lt hA hw2'
      refine gX8_putKnot_84 rk1 (I.ask (by decide) hw1' (by rw [List.length_append]; omega) (by omega) (fun M2 F2 I2 => gX8_putKnot_87 I2.r0.1 ?_))
      rw [nI_add]
      refine w_X8_link (by decide) I2.r0.1 I2.1.2.1 I2.1.2.2 (by omega) (gX8_putKnot_92 I2.r0.1 ?_)
      have I3 := I2.put (p := T.length * 4 + an A 0 (H.getD a [] ++ e)) (v := 1 + a) (x := nI a) (kc_leaf (by omega)).symm
      obtain ⟨M3, hM3⟩ : ∃ M3, M3 = sI M2 (b + 11) (T.length * 4 + an A 0 (H.getD a [] ++ e)) (nI a) := ⟨_, rfl⟩
      have S3 : Sm [b + 11] M2 M3 := by rw [hM3]; exact Sm.sI (by simp) _ _ _
      rw [← hM3] at I3
      rw [← hM3]
      rw [I3.r0.2.2.2.1]
      refine w_X1_join (by decide) (vw_mono hv (by omega)) (vw_mono he (by omega)) hl2 (gX8_putKnot_105 I3.r0.2.1 ?_)
      have hln := aS_len st sp s (H.getD a [] ++ e)
      refine I3.ask (by decide) hw2' (by rw [List.length_append]; omega) (by omega) (fun M4 F4 I4 => gX8_putKnot_108 I4.r0.1 ?_)
      rw [nI_add]
      refine w_X8_addLeaf (by decide) I4 (by omega) (by omega) ⟨hv, hv30⟩ (fun M5 S5 I5 => gX8_putKnot_114 ⟨rfl, ?_⟩)
      have F1 : Fa r [r, r + 1, b + 1, b + 2, b + 3, b + 4, b + 11] M M1 := (S.mono (fun p hp => by simp at hp; simp <;> omega)).fa
      exact h M5 (((F1.tr (F2.mono (fun p hp => by simp at hp; simp <;> omega))).tr ((S3.mono (fun p hp => by simp at hp; simp [hp])).fa)).tr ((F4.mono (fun p hp => by simp at hp; simp <;> omega)).tr ((S5.mono (fun p hp => by simp at hp; simp <;> omega)).fa))) I5
    · rw [e8, I.1.2.2.2]; exact z_in (by omega) (by omega)
    · have hcl : c < 32 := by omega
      rw [e8, nI_clamp (by omega), I.2.2.2.2.1 c hcl] at c1
      have hcc : (fun x => if x < c ∧ K x = 1 + a then 100 + T.length else K x) c = K c := if_neg (fun q => by omega)
      rw [hcc] at c1
      have hne : K c ≠ 1 + a := fun q => c1 (by rw [q]; exact kc_leaf (by omega))
      rw [nI_add]
      refine ih hcl M1 S ?_
      have hK : (fun x => if x < c + 1 ∧ K x = 1 + a then 100 + T.length else K x) = fun x => if x < c ∧ K x = 1 + a then 100 + T.length else K x := funext fun x => by
        by_cases q : x = c
        · subst q; rw [if_neg (fun q => hne q.2), if_neg (fun q => hne q.2)]
        · by_cases q2 : x < c ∧ K x = 1 + a
          · rw [if_pos ⟨by omega, q2.2⟩, if_pos q2]
          · rw [if_neg (fun q3 => q2 ⟨by omega, q3.2⟩), if_neg q2]
      rw [hK]; exact I
    · rw [e8, I.1.2.2.2]; exact z_in (by omega) (by omega)
    · have hcl : c < 32 := by omega
      rw [e8, nI_clamp (by omega), I.2.2.2.2.1 c hcl] at c1
      have hcc : (fun x => if x < c ∧ K x = 1 + a then 100 + T.length else K x) c = K c := if_neg (fun q => by omega)
      rw [hcc] at c1
      have hKc : K c = 1 + a := by
        have hle := hW.le c
        unfold kcI at c1
        by_cases q0 : K c = 0
        · rw [if_pos q0] at c1
          exact absurd z_m1 (by rw [c1]; exact nI_pos (by omega))
        · rw [if_neg q0] at c1
          by_cases q1 : K c < 100
          · rw [if_pos q1, nI_eq (by omega) (by omega)] at c1
            omega
          · rw [if_neg q1, nI_eq (by omega) (by omega)] at c1
            omega
      rw [e8, nI_clamp (by omega), nI_add, nI_add]
      refine ih hcl _ (S.tr (Sm.sI (by simp) _ _ _)) ?_
      have I2 := I.put (p := c) (v := 100 + T.length) (x := nI (100 + T.length)) (kc_knot _).symm
      have hK : (fun x => if x < c + 1 ∧ K x = 1 + a then 100 + T.length else K x) = upN (fun x => if x < c ∧ K x = 1 + a then 100 + T.length else K x) c (100 + T.length) := funext fun x => by
        unfold upN
        by_cases q : x = c
        · subst q; rw [if_pos ⟨by omega, hKc⟩, if_pos rfl]
        · rw [if_neg q]
          by_cases q2 : x < c ∧ K x = 1 + a
          · rw [if_pos ⟨by omega, q2.2⟩]; exact (if_pos q2).symm
          · rw [if_neg (fun q3 => q2 ⟨by omega, q3.2⟩)]; exact (if_neg q2).symm
      rw [hK]; exact I2
  · have hK : (fun x => if x < 0 ∧ K x = 1 + a then 100 + T.length else K x) = K := funext fun x => if_neg (fun q => by omega)
    rw [hK]; exact I1
/-- bounds of a lesson -/
def BLR (A : PM) (p : PS) (g : GU) (w : List Nat) : Prop := (vw (pl A) w ∧ w.length ≤ 15 ∧ 1 ≤ w.length) ∧ (pl g.2 = pl A ∧ pn g.2 = (qH p).length ∧ ∀ u, u ∈ g.1 → vw (pl A) u ∧ u.length ≤ 14) ∧ (qs p).1.length + 32 < 8192 ∧ (TW (qH p) (qT p) (qK p) ∧ (qT p).length < 8) ∧ (∀ u, u ∈ qH p → u.length ≤ 15) ∧ 1 ≤ (pA 0 0 A g w (an A 0 w) 15 0 w.length ([], 0)).2.1
end TreeB
