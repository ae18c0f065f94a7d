/-! the class's Codes: what its methods answer of words -/
theorem z_lI {a : Nat} (h : a < 2 ^ 63) : (lN a).toInt = (a : Int) := pk_lT h
theorem z_sm (k : Nat) (hk : k < 64) : ((lN k).toBitVec.smod 64).toNat = k := by
  rw [wb_tb, wb_sm k hk, BitVec.toNat_ofNat, Nat.mod_eq_of_lt (by omega)]
theorem z_shr {a k : Nat} (ha : a < 2 ^ 63) (hk : k < 64) : lN a >>> ((nI k).toInt64 &&& 63) = lN (a / 2 ^ k) := by
  rw [wb_c k hk]
  have h0 : a / 2 ^ k ≤ a := Nat.div_le_self _ _
  rw [← Int64.toInt_inj, z_lI (by omega)]
  rw [← Int64.toInt_toBitVec, Int64.toBitVec_shiftRight]
  rw [BitVec.sshiftRight_eq', z_sm k hk, BitVec.toInt_sshiftRight, Int64.toInt_toBitVec, z_lI ha]
  rw [Int.shiftRight_eq_div_pow]
  simp
theorem p24 (k : Nat) : 2 ^ (2 * k) = 4 ^ k := by rw [Nat.pow_mul]
theorem z_shr2 {u : List Nat} {x : Nat} (hu : vw 4 (u ++ [x])) (hl : u.length ≤ 29) : lN (cd (u ++ [x])) >>> ((nI 2).toInt64 &&& 63) = lN (cd u) := by
  have hx : x < 4 := (vw_app.mp hu).2 x (by simp)
  rw [z_shr (by have := cd30 hu (by simp; omega); omega) (by decide), cd_snoc]
  congr 1
  omega
theorem z_and3 {a : Nat} (ha : a < 2 ^ 64) : lN a &&& lN 3 = lN (a % 4) := wb_mask (k := 2) ha (by decide)
theorem w_X1_length {d : Nat} {Q : Option Value → Mem → Prop} {M : Mem} {w : List Nat} (hd : 1 < d) (hw : vw 4 w) (hl : w.length ≤ 30) (h : Q (some (.int (nI w.length))) M) : ClD d mdX1_length [.long (lN (cd w))] M Q := by
  refine ⟨1, hd, Cl.of moX1_length (Nat.le_of_ble_eq_true rfl) (gX1_length_0 ?_)⟩
  suffices H : ∀ u : List Nat, ∀ i, vw 4 u → i + u.length = w.length → Wp 1 mdX1_length 5 [(2, .long (lN (cd u))), (4, .int (nI i))] [] M (fun r M' => ROK mdX1_length r ∧ Q r M') from H w 0 hw (by omega)
  intro u
  induction u using snoc_ind with
  | h0 =>
    intro i _ hi
    have e : i = w.length := by simpa using hi
    subst e
    refine gX1_length_5 (fun c => ⟨⟨_, rfl⟩, ?_⟩) (fun c0 c1 => ?_) (fun _ _ => ⟨⟨_, rfl⟩, h⟩)
    · rw [nI_leI (by decide) (by omega)] at c
      have e : w.length = 30 := by omega
      rw [e] at h; exact h
    · exact absurd c1 (by decide)
  | h1 u x ih =>
    intro i hu hi
    rw [List.length_append, List.length_singleton] at hi
    have h2 := vw_app.mp hu
    refine gX1_length_5 (fun c => ?_) (fun c0 c1 => ?_) (fun c0 c1 => ?_)
    · rw [nI_leI (by decide) (by omega)] at c
      omega
    · rw [z_shr2 hu (by omega), nI_add]
      exact ih (i + 1) h2.1 (by omega)
    · exfalso; apply c1
      have := cd30 hu (by simp; omega)
      have := cd_pos u
      rw [pk_lLT (by decide) (by omega), cd_snoc]
      omega
/-- a long that is no word of l letters, of at most 30 -/
def isW (l : Nat) (x : Int64) (w : List Nat) : Prop := vw l w ∧ w.length ≤ 30 ∧ x = lN (cd w)
theorem isW_inj {l : Nat} (hl : l ≤ 4) {x : Int64} {u v : List Nat} (hu : isW l x u) (hv : isW l x v) : u = v := by
  obtain ⟨a1, a2, a3⟩ := hu
  obtain ⟨b1, b2, b3⟩ := hv
  have e : lN (cd u) = lN (cd v) := a3.symm.trans b3
  have h1 := cd30 (vw_mono a1 hl) a2
  have h2 := cd30 (vw_mono b1 hl) b2
  rw [pk_lEQ (by omega) (by omega)] at e
  exact cd_inj (vw_mono a1 hl) (vw_mono b1 hl) e
theorem lN_pos1 {a : Nat} (h : 1 ≤ a) (h2 : a < 2 ^ 63) : ¬ lN a < lN 1 := by rw [pk_lLT h2 (by decide)]; omega
theorem w_X1_measure {d l : Nat} {Q : Option Value → Mem → Prop} {M : Mem} {x : Int64} (hd : 1 < d) (hl : l ≤ 3) (h1 : ∀ w, isW l x w → Q (some (.int (nI w.length))) M) (h2 : (¬ ∃ w, isW l x w) → Q (some (.int (-1 : Int32))) M) : ClD d mdX1_measure [.long x, .int (nI l)] M Q := by
  refine ⟨1, hd, Cl.of moX1_measure (Nat.le_of_ble_eq_true rfl) (gX1_measure_0 ?_)⟩
  suffices H : ∀ f n, n + f = 31 → ∀ y : Int64, (∀ w, vw l w → w.length + n ≤ 30 → y = lN (cd w) → Q (some (.int (nI (w.length + n)))) M) → ((¬ ∃ w, vw l w ∧ w.length + n ≤ 30 ∧ y = lN (cd w)) → Q (some (.int (-1 : Int32))) M) → Wp 1 mdX1_measure 5 [(2, .int (nI l)), (3, .long y), (5, .int (nI n))] [] M (fun r M' => ROK mdX1_measure r ∧ Q r M') from H 31 0 rfl x (fun w a b c => h1 w ⟨a, b, c⟩) (fun hn => h2 (fun ⟨w, a, b, c⟩ => hn ⟨w, a, b, c⟩))
  intro f
  induction f with
  | zero =>
    intro n hn y g1 g2
    have e : n = 31 := by omega
    subst e
    exact gX1_measure_5 (fun _ => ⟨⟨_, rfl⟩, g2 (fun ⟨w, _, b, _⟩ => by omega)⟩) (fun c => absurd (by decide) c) (fun c => absurd (by decide) c) (fun c => absurd (by decide) c) (fun c => absurd (by decide) c)
  | succ f ih =>
    intro n hn y g1 g2
    refine gX1_measure_5 (fun c => ⟨⟨_, rfl⟩, ?_⟩) (fun c0 c1 c2 => ⟨⟨_, rfl⟩, ?_⟩) (fun c0 c1 c2 c3 => ?_) (fun c0 c1 c2 c3 => ⟨⟨_, rfl⟩, ?_⟩) (fun c0 c1 => ⟨⟨_, rfl⟩, ?_⟩)
    · rw [nI_ltI (by decide) (by omega)] at c; omega
    · refine g2 (fun ⟨w, a, b, c⟩ => ?_)
      rw [c] at c2
      have := cd30 (vw_mono a (by omega)) (by omega)
      exact lN_pos1 (cd_pos w) (by omega) c2
    · have hy : ¬ y < 0 := fun hc => c2 (by rw [← Int64.not_le] at hc ⊢; intro h; exact hc (Int64.le_trans (by decide : (0 : Int64) ≤ lN 1) h))
      obtain ⟨a, ha, rfl⟩ := pk_lOf hy
      rw [z_and3 (by omega), nI_l (by omega), pk_lLT (by omega) (by omega)] at c3
      rw [z_shr (by omega) (by decide), nI_add]
      have key : ∀ u, vw l u → u.length + (n + 1) ≤ 30 → lN (a / 2 ^ 2) = lN (cd u) → vw l (u ++ [a % 4]) ∧ lN a = lN (cd (u ++ [a % 4])) := by
        intro u h3 h4 h5
        have := cd30 (vw_mono h3 (by omega)) (by omega)
        rw [pk_lEQ (by omega) (by omega)] at h5
        refine ⟨vw_app.mpr ⟨h3, fun z hz => by simp at hz; omega⟩, ?_⟩
        rw [cd_snoc]
        congr 1
        omega
      refine ih (n + 1) (by omega) _ (fun u h3 h4 h5 => ?_) (fun hno => g2 (fun ⟨w, h3, h4, h5⟩ => hno ?_))
      · obtain ⟨k1, k2⟩ := key u h3 h4 h5
        have := g1 (u ++ [a % 4]) k1 (by simp; omega) k2
        rw [List.length_append, List.length_singleton] at this
        rw [show u.length + (n + 1) = u.length + 1 + n by omega]
        exact this
      · have h6 := cd30 (vw_mono h3 (by omega)) (by omega)
        rw [pk_lEQ (by omega) (by omega)] at h5
        have hne : w ≠ [] := by
          intro e
          rw [e, cd_nil] at h5
          exact c1 (by rw [h5])
        obtain ⟨u, z, rfl⟩ : ∃ u z, w = u ++ [z] := ⟨_, _, (List.dropLast_concat_getLast hne).symm⟩
        rw [cd_snoc] at h5
        have h7 := vw_app.mp h3
        have hz : z < l := h7.2 z (by simp)
        refine ⟨u, h7.1, by simp at h4; omega, ?_⟩
        congr 1
        omega
    · refine g2 (fun ⟨w, a, b, c⟩ => ?_)
      have h6 := cd30 (vw_mono a (by omega)) (by omega)
      have hne : w ≠ [] := by
        intro e
        rw [e, cd_nil] at c
        exact c1 c
      obtain ⟨u, z, rfl⟩ : ∃ u z, w = u ++ [z] := ⟨_, _, (List.dropLast_concat_getLast hne).symm⟩
      have h7 := vw_app.mp a
      have hz : z < l := h7.2 z (by simp)
      rw [c, z_and3 (by omega), nI_l (by omega), pk_lLT (by omega) (by omega), cd_snoc] at c3
      omega
    · have := g1 [] (vw_nil l) (by simp; omega) (by rw [c1]; rfl)
      simpa using this
theorem z_x4 {c x : Nat} (h : x < 2 ^ 31) : (lN 4 * lN c) + (nI x).toInt64 = lN (4 * c + x) := by rw [lN_mul, nI_l h, lN_add]
theorem w_X1_then {d x : Nat} {Q : Option Value → Mem → Prop} {M : Mem} {w : List Nat} (hd : 1 < d) (hx : x < 2 ^ 31) (h : Q (some (.long (lN (cd (w ++ [x]))))) M) : ClD d mdX1_then [.long (lN (cd w)), .int (nI x)] M Q := by
  refine ⟨1, hd, Cl.of moX1_then (Nat.le_of_ble_eq_true rfl) (gX1_then_0 ⟨⟨_, rfl⟩, ?_⟩)⟩
  rw [z_x4 hx, ← cd_snoc]; exact h
theorem z_mark {n : Nat} (h : n ≤ 31) : lN 1 <<< (((nI 2) * (nI n)).toInt64 &&& 63) = lN (4 ^ n) := by
  rw [pk_mul, wb_shl 1 (by omega), Nat.one_mul, p24]
theorem z_join {u v : List Nat} : lN (cd u) * lN (4 ^ v.length) + (lN (cd v) - lN (4 ^ v.length)) = lN (cd (u ++ v)) := by
  rw [lN_sub (cd_lo v), lN_mul, lN_add, ← cd_app]
theorem w_X1_join {d : Nat} {Q : Option Value → Mem → Prop} {M : Mem} {u v : List Nat} (hd : 2 < d) (hu : vw 4 u) (hv : vw 4 v) (hl : u.length + v.length ≤ 30) (h : Q (some (.long (lN (cd (u ++ v))))) M) : ClD d mdX1_join [.long (lN (cd u)), .long (lN (cd v))] M Q := by
  refine ⟨2, hd, Cl.of moX1_join (Nat.le_of_ble_eq_true rfl) (gX1_join_0 (w_X1_length (by decide) hv (by omega) (gX1_join_4 (w_X1_length (by decide) hu (by omega) (gX1_join_10 (fun _ => ⟨⟨_, rfl⟩, ?_⟩) (fun c => ?_))))))⟩
  · rw [z_mark (by omega), z_join]; exact h
  · exfalso; apply c
    rw [nI_add, nI_leI (by omega) (by decide)]; omega
theorem z_sub {a b : Nat} (h : b ≤ a) : nI a - nI b = nI (a - b) := pk_sub h
theorem w_X1_first {d n : Nat} {Q : Option Value → Mem → Prop} {M : Mem} {w : List Nat} (hd : 2 < d) (hw : vw 4 w) (hl : w.length ≤ 30) (hn : n ≤ w.length) (h : Q (some (.long (lN (cd (w.take n))))) M) : ClD d mdX1_first [.long (lN (cd w)), .int (nI n)] M Q := by
  refine ⟨2, hd, Cl.of moX1_first (Nat.le_of_ble_eq_true rfl) (gX1_first_0 (w_X1_length (by decide) hw hl (gX1_first_4 (fun c => absurd c (nI_pos (by omega))) (fun _ _ => ⟨⟨_, rfl⟩, ?_⟩) (fun _ c => ?_))))⟩
  · have h30 := cd30 hw hl
    rw [z_sub hn, pk_mul, z_shr (by omega) (by omega), p24]
    have e : cd w / 4 ^ (w.length - n) = cd (w.take n) := by
      conv => lhs; rw [← List.take_append_drop n w]
      rw [← cd_div (u := w.take n) (vw_drop hw n), List.length_drop]
      simp only [List.take_append_drop]
    rw [e]; exact h
  · exfalso; apply c
    rw [z_sub hn]; exact nI_pos' (by omega)
theorem w_X1_behind {d n : Nat} {Q : Option Value → Mem → Prop} {M : Mem} {w : List Nat} (hd : 2 < d) (hw : vw 4 w) (hl : w.length ≤ 30) (hn : n ≤ w.length) (h : Q (some (.long (lN (cd (w.drop n))))) M) : ClD d mdX1_behind [.long (lN (cd w)), .int (nI n)] M Q := by
  refine ⟨2, hd, Cl.of moX1_behind (Nat.le_of_ble_eq_true rfl) (gX1_behind_0 (w_X1_length (by decide) hw hl (gX1_behind_4 (fun c => absurd c (nI_pos (by omega))) (fun _ _ => ⟨⟨_, rfl⟩, ?_⟩) (fun _ c => ?_))))⟩
  · have h30 := cd30 hw hl
    rw [z_sub hn, z_mark (by omega), lN_sub (p4pos _), ← p24]
    rw [wb_mask (by omega) (by omega), lN_add, p24]
    have e : 4 ^ (w.length - n) + cd w % 4 ^ (w.length - n) = cd (w.drop n) := by
      have h1 := cd_mod (u := w.take n) (vw_drop hw n)
      rw [List.take_append_drop, List.length_drop] at h1
      have h2 := cd_lo (w.drop n)
      rw [List.length_drop] at h2
      omega
    rw [e]; exact h
  · exfalso; apply c
    rw [z_sub hn]; exact nI_pos' (by omega)
theorem cd_at {w : List Nat} (hw : vw 4 w) {i : Nat} (hi : i < w.length) : cd w / 4 ^ (w.length - 1 - i) % 4 = w.getD i 0 := by
  have e : w = w.take (i + 1) ++ w.drop (i + 1) := (List.take_append_drop _ _).symm
  have h1 := cd_div (u := w.take (i + 1)) (vw_drop hw (i + 1))
  rw [List.take_append_drop, List.length_drop] at h1
  rw [show w.length - 1 - i = w.length - (i + 1) by omega, h1]
  have e2 : w.take (i + 1) = w.take i ++ [w.getD i 0] := by
    rw [List.take_add_one]
    simp [List.getD, List.getElem?_eq_getElem hi]
  rw [e2, cd_snoc]
  have hx : w.getD i 0 < 4 := by
    rw [List.getD, List.getElem?_eq_getElem hi]
    exact hw _ (List.getElem_mem hi)
  omega
theorem nI_and3 (n : Nat) : nI n &&& nI 3 = nI (n % 4) := by
  rw [pk_and (nI n) 2 (by decide)]
  congr 1
  show (BitVec.ofNat 32 n).toNat % 2 ^ 2 = n % 4
  rw [BitVec.toNat_ofNat]
  omega
theorem z_at {w : List Nat} (hw : vw 4 w) (hl : w.length ≤ 30) {i : Nat} (hi : i < w.length) : ((lN (cd w) >>> (((nI 2) * ((nI w.length - nI 1) - nI i)).toInt64 &&& 63)).toInt32) &&& nI 3 = nI (w.getD i 0) := by
  have h30 := cd30 hw hl
  rw [z_sub (by omega), z_sub (by omega), pk_mul, z_shr (by omega) (by omega), lN_i, nI_and3, p24, cd_at hw hi]
theorem w_X1_at {d i : Nat} {Q : Option Value → Mem → Prop} {M : Mem} {w : List Nat} (hd : 2 < d) (hw : vw 4 w) (hl : w.length ≤ 30) (hi : i < w.length) (h : Q (some (.int (nI (w.getD i 0)))) M) : ClD d mdX1_at [.long (lN (cd w)), .int (nI i)] M Q := by
  refine ⟨2, hd, Cl.of moX1_at (Nat.le_of_ble_eq_true rfl) (gX1_at_0 (w_X1_length (by decide) hw hl (gX1_at_4 (fun c => absurd c (nI_pos (by omega))) (fun _ _ => ⟨⟨_, rfl⟩, ?_⟩) (fun _ c => ?_))))⟩
  · rw [z_at hw hl hi]; exact h
  · exfalso; apply c
    rw [z_sub (by omega), z_sub (by omega)]; exact nI_pos' (by omega)
/-- how many words have at most k letters -/
def cU (l : Nat) : Nat → Nat
  | 0 => 1
  | k + 1 => cU l k + l ^ (k + 1)
theorem cU_le {l : Nat} (hl : l ≤ 3) : ∀ k, cU l k ≤ 3 ^ (k + 1)
  | 0 => by show 1 ≤ 3 ^ 1; decide
  | k + 1 => by
    have h1 := cU_le hl k
    have h2 : l ^ (k + 1) ≤ 3 ^ (k + 1) := Nat.pow_le_pow_left hl _
    have h3 : (3 : Nat) ^ (k + 1 + 1) = 3 * 3 ^ (k + 1) := by rw [Nat.pow_succ, Nat.mul_comm]
    show cU l k + l ^ (k + 1) ≤ _
    omega
theorem w_X1_countUpTo {d k l : Nat} {Q : Option Value → Mem → Prop} {M : Mem} (hd : 1 < d) (hk : k ≤ 8) (hl : l ≤ 3) (h : Q (some (.int (nI (cU l k)))) M) : ClD d mdX1_countUpTo [.int (nI k), .int (nI l)] M Q := by
  refine ⟨1, hd, Cl.of moX1_countUpTo (Nat.le_of_ble_eq_true rfl) (gX1_countUpTo_0 ?_)⟩
  have hp : ∀ n, n ≤ 9 → l ^ n ≤ 19683 := fun n hn => Nat.le_trans (Nat.pow_le_pow_left hl n) (Nat.le_trans (Nat.pow_le_pow_right (by decide) hn) (by decide))
  suffices H : ∀ f n all, n + f = k + 1 → (n = 0 → all = 0) → (∀ j, n = j + 1 → all = cU l j) → Wp 1 mdX1_countUpTo 7 [(0, .int (nI k)), (1, .int (nI l)), (2, .int (nI all)), (3, .int (nI (l ^ n))), (4, .int (nI n))] [] M (fun r M' => ROK mdX1_countUpTo r ∧ Q r M') from H (k + 1) 0 0 (by omega) (fun _ => rfl) (fun j hj => by omega)
  intro f
  induction f with
  | zero =>
    intro n all hn h0 h1
    have e := h1 k (by omega)
    subst e
    refine gX1_countUpTo_7 (fun _ => ⟨⟨_, rfl⟩, h⟩) (fun c => ?_)
    exfalso; apply c; rw [nI_ltI (by omega) (by omega)]; omega
  | succ f ih =>
    intro n all hn h0 h1
    refine gX1_countUpTo_7 (fun c => ?_) (fun c => ?_)
    · rw [nI_ltI (by omega) (by omega)] at c; omega
    · rw [nI_add, pk_mul, nI_add, ← Nat.pow_succ]
      refine ih (n + 1) _ (by omega) (fun e => by omega) (fun j hj => ?_)
      have ej : j = n := by omega
      subst ej
      cases j with
      | zero => rw [h0 rfl]; rfl
      | succ j => rw [h1 j rfl]; rfl
/-- n digits to the base l, the highest first -/
def dg (l : Nat) : Nat → Nat → List Nat
  | 0, _ => []
  | n + 1, r => dg l n (r / l) ++ [r % l]
theorem dg_len (l : Nat) : ∀ n r, (dg l n r).length = n
  | 0, _ => rfl
  | n + 1, r => by simp [dg, dg_len l n]
theorem dg_vw {l : Nat} (hl : 0 < l) : ∀ n r, vw l (dg l n r)
  | 0, _ => vw_nil l
  | n + 1, r => vw_app.mpr ⟨dg_vw hl n _, fun x hx => by simp at hx; rw [hx]; exact Nat.mod_lt _ hl⟩
def dS (l r : Nat) : Nat → Nat
  | 0 => 0
  | i + 1 => dS l r i + (r / l ^ i % l) * 4 ^ i
theorem dS_s (l r : Nat) : ∀ n, dS l r (n + 1) = r % l + 4 * dS l (r / l) n
  | 0 => by simp [dS]
  | n + 1 => by
    show dS l r (n + 1) + _ = r % l + 4 * (dS l (r / l) n + _)
    rw [dS_s l r n, Nat.mul_add, p4s, Nat.div_div_eq_div_mul]
    have e : l * l ^ n = l ^ (n + 1) := by rw [Nat.pow_succ, Nat.mul_comm]
    rw [e, Nat.mul_left_comm 4]
    omega
theorem cd_dg (l : Nat) : ∀ n r, cd (dg l n r) = 4 ^ n + dS l r n
  | 0, _ => rfl
  | n + 1, r => by
    show cd (dg l n (r / l) ++ [r % l]) = _
    rw [cd_snoc, cd_dg l n, dS_s, p4s]; omega
theorem dS_lt {l r : Nat} (h0 : 0 < l) (hl : l ≤ 4) : ∀ n, dS l r n < 4 ^ n
  | 0 => by show 0 < 4 ^ 0; decide
  | n + 1 => by
    have h1 := dS_lt (r := r) h0 hl n
    have h2 : r / l ^ n % l < 4 := Nat.lt_of_lt_of_le (Nat.mod_lt _ h0) hl
    have h3 : (r / l ^ n % l) * 4 ^ n ≤ 3 * 4 ^ n := Nat.mul_le_mul_right _ (by omega)
    show dS l r n + _ < _
    rw [p4s]; omega
theorem w_X1_numbered {d n r l : Nat} {Q : Option Value → Mem → Prop} {M : Mem} (hd : 1 < d) (hn : n ≤ 30) (h0 : 1 ≤ l) (hl : l ≤ 3) (hr : r < 2 ^ 40) (h : Q (some (.long (lN (cd (dg l n r))))) M) : ClD d mdX1_numbered [.long (lN r), .int (nI n), .int (nI l)] M Q := by
  refine ⟨1, hd, Cl.of moX1_numbered (Nat.le_of_ble_eq_true rfl) (gX1_numbered_0 (fun _ => ?_) (fun c => ?_))⟩
  · rw [z_mark (by omega)]
    suffices H : ∀ f i, i + f = n → Wp 1 mdX1_numbered 22 [(2, .int (nI n)), (3, .int (nI l)), (4, .long (lN (r / l ^ i))), (6, .long (lN (4 ^ n + dS l r i))), (8, .int (nI i))] [] M (fun r M' => ROK mdX1_numbered r ∧ Q r M') by
      have := H n 0 (by omega)
      simpa [dS, nI_0] using this
    intro f
    induction f with
    | zero =>
      intro i hi
      have e : i = n := by omega
      subst e
      rw [← cd_dg]
      refine gX1_numbered_22 (fun _ => ⟨⟨_, rfl⟩, h⟩) (fun c => ?_) (fun c => ?_)
      · exact absurd (nI_le (Nat.le_refl _) (by omega)) c
      · exact absurd (nI_le (Nat.le_refl _) (by omega)) c
    | succ f ih =>
      intro i hi
      have hlz : ¬ (nI l).toInt64 = 0 := by
        rw [nI_l (by omega)]
        intro e
        have : lN l = lN 0 := e
        rw [pk_lEQ (by omega) (by decide)] at this
        omega
      have hri : r / l ^ i ≤ r := Nat.div_le_self _ _
      refine gX1_numbered_22 (fun c => ?_) (fun _ => hlz) (fun c => ?_)
      · rw [nI_leI (by omega) (by omega)] at c; omega
      · rw [nI_l (by omega), pk_lRem (show r / l ^ i < 2 ^ 63 by omega) (show 0 < l by omega) (by omega), pk_lDiv (show r / l ^ i < 2 ^ 63 by omega) (by omega) (by omega), pk_mul, wb_shl _ (by omega), p24, lN_add, nI_add, Nat.div_div_eq_div_mul, ← Nat.pow_succ, Nat.add_assoc]
        exact ih (i + 1) (by omega)
  · exfalso; apply c
    exact nI_le h0 (by omega)
/-- the word behind b words of n letters, p of them, and those that are longer -/
def kwf (l : Nat) : Nat → Nat → Nat → Nat → Option (List Nat)
  | 0, _, _, _ => none
  | f + 1, n, p, b => if b < p then some (dg l n b) else kwf l f (n + 1) (p * l) (b - p)
/-- the k-th word in order -/
def kw (l k : Nat) : Option (List Nat) := kwf l 31 0 1 k
theorem w_X1_kth {d k l : Nat} {Q : Option Value → Mem → Prop} {M : Mem} (hd : 2 < d) (hk : k ≤ 1000000) (h0 : 1 ≤ l) (hl : l ≤ 3) (h1 : ∀ w, kw l k = some w → Q (some (.long (lN (cd w)))) M) (h2 : kw l k = none → Q (some (.long (-1 : Int64))) M) : ClD d mdX1_kth [.int (nI k), .int (nI l)] M Q := by
  refine ⟨2, hd, Cl.of moX1_kth (Nat.le_of_ble_eq_true rfl) (gX1_kth_0 ?_)⟩
  rw [nI_l (by omega)]
  suffices H : ∀ f n p b, n + f = 31 → p ≤ 3000003 → b ≤ 1000000 → (∀ w, kwf l f n p b = some w → Q (some (.long (lN (cd w)))) M) → (kwf l f n p b = none → Q (some (.long (-1 : Int64))) M) → Wp 2 mdX1_kth 9 [(1, .int (nI l)), (2, .long (lN b)), (4, .long (lN p)), (6, .int (nI n))] [] M (fun r M' => ROK mdX1_kth r ∧ Q r M') from H 31 0 1 k rfl (by omega) hk h1 h2
  intro f
  induction f with
  | zero =>
    intro n p b hn hp hb g1 g2
    have e : n = 31 := by omega
    subst e
    exact gX1_kth_9 (fun _ => ⟨⟨_, rfl⟩, g2 rfl⟩) (fun c => absurd (by decide) c) (fun c => absurd (by decide) c)
  | succ f ih =>
    intro n p b hn hp hb g1 g2
    refine gX1_kth_9 (fun c => ?_) (fun c0 c1 => ?_) (fun c0 c1 => ?_)
    · rw [nI_ltI (by decide) (by omega)] at c; omega
    · rw [pk_lLE (by omega) (by omega)] at c1
      have e : kwf l (f + 1) n p b = kwf l f (n + 1) (p * l) (b - p) := if_neg (by omega)
      rw [e] at g1 g2
      rw [lN_sub c1, nI_l (by omega), lN_mul, nI_add]
      have hpl : p * l ≤ 1000000 * 3 := Nat.mul_le_mul (by omega) hl
      exact ih (n + 1) (p * l) (b - p) (by omega) (by omega) (by omega) g1 g2
    · rw [pk_lLE (by omega) (by omega)] at c1
      have e : kwf l (f + 1) n p b = some (dg l n b) := if_pos (by omega)
      exact w_X1_numbered (by decide) (by omega) h0 hl (by omega) (gX1_kth_30 ⟨⟨_, rfl⟩, g1 _ e⟩)
