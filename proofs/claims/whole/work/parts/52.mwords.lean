/-! the reference: its words -/
theorem eRI (M : Mem) (p k : Nat) (v : Int32) : mR (sI M p k v) = mR M := rfl
theorem eRJ (M : Mem) (p k : Nat) (v : Int64) : mR (sJ M p k v) = mR M := rfl
theorem eKI (M : Mem) (p k : Nat) (v : Int32) : mK (sI M p k v) = mK M := rfl
theorem eKJ (M : Mem) (p k : Nat) (v : Int64) : mK (sJ M p k v) = mK M := rfl
theorem eNI (M : Mem) (p k : Nat) (v : Int32) : mN (sI M p k v) = mN M := rfl
theorem eNJ (M : Mem) (p k : Nat) (v : Int64) : mN (sJ M p k v) = mN M := rfl
/-- field, label behind the reference's, kind, length -/
def mTab : List (Nat × Nat × Nat × Nat) := [(2, 1, 2, 16), (4, 2, 1, 3), (5, 3, 1, 24), (6, 4, 1, 72), (10, 5, 1, 2), (11, 6, 1, 2), (12, 7, 1, 2), (13, 8, 2, 320), (14, 9, 1, 320), (15, 10, 2, 256), (16, 11, 2, 32768), (17, 12, 1, 2), (18, 13, 1, 2), (19, 14, 1, 2), (20, 15, 3, 2), (21, 16, 2, 16), (22, 17, 1, 1024), (26, 18, 3, 64), (27, 19, 1, 64), (28, 20, 2, 64), (29, 21, 1, 64), (34, 22, 1, 8), (35, 23, 1, 24), (38, 24, 1, 64), (39, 25, 1, 64), (40, 26, 2, 8), (41, 27, 2, 32768), (47, 28, 2, 64), (49, 29, 1, 8), (50, 30, 1, 8)]
def MoSh (M : Mem) (m : Nat) : Prop := mK M m = 14 ∧ ∀ q, q ∈ mTab → mR M m q.1 = m + q.2.1 ∧ mK M (m + q.2.1) = q.2.2.1 ∧ mN M (m + q.2.1) = q.2.2.2
theorem MoSh.sm {S : List Nat} {M M' : Mem} {m : Nat} (h : Sm S M M') (hs : MoSh M m) : MoSh M' m := by
  obtain ⟨-, h1, h2, h3, -, -⟩ := h
  unfold MoSh at hs ⊢
  rw [h1, h2, h3]; exact hs
theorem MoSh.f2 {M : Mem} {m : Nat} (h : MoSh M m) : mR M m 2 = m + 1 ∧ mK M (m + 1) = 2 ∧ mN M (m + 1) = 16 := h.2 (2, 1, 2, 16) (by decide)
theorem MoSh.f4 {M : Mem} {m : Nat} (h : MoSh M m) : mR M m 4 = m + 2 ∧ mK M (m + 2) = 1 ∧ mN M (m + 2) = 3 := h.2 (4, 2, 1, 3) (by decide)
theorem MoSh.f5 {M : Mem} {m : Nat} (h : MoSh M m) : mR M m 5 = m + 3 ∧ mK M (m + 3) = 1 ∧ mN M (m + 3) = 24 := h.2 (5, 3, 1, 24) (by decide)
theorem MoSh.f6 {M : Mem} {m : Nat} (h : MoSh M m) : mR M m 6 = m + 4 ∧ mK M (m + 4) = 1 ∧ mN M (m + 4) = 72 := h.2 (6, 4, 1, 72) (by decide)
theorem MoSh.f10 {M : Mem} {m : Nat} (h : MoSh M m) : mR M m 10 = m + 5 ∧ mK M (m + 5) = 1 ∧ mN M (m + 5) = 2 := h.2 (10, 5, 1, 2) (by decide)
theorem MoSh.f11 {M : Mem} {m : Nat} (h : MoSh M m) : mR M m 11 = m + 6 ∧ mK M (m + 6) = 1 ∧ mN M (m + 6) = 2 := h.2 (11, 6, 1, 2) (by decide)
theorem MoSh.f12 {M : Mem} {m : Nat} (h : MoSh M m) : mR M m 12 = m + 7 ∧ mK M (m + 7) = 1 ∧ mN M (m + 7) = 2 := h.2 (12, 7, 1, 2) (by decide)
theorem MoSh.f13 {M : Mem} {m : Nat} (h : MoSh M m) : mR M m 13 = m + 8 ∧ mK M (m + 8) = 2 ∧ mN M (m + 8) = 320 := h.2 (13, 8, 2, 320) (by decide)
theorem MoSh.f14 {M : Mem} {m : Nat} (h : MoSh M m) : mR M m 14 = m + 9 ∧ mK M (m + 9) = 1 ∧ mN M (m + 9) = 320 := h.2 (14, 9, 1, 320) (by decide)
theorem MoSh.f15 {M : Mem} {m : Nat} (h : MoSh M m) : mR M m 15 = m + 10 ∧ mK M (m + 10) = 2 ∧ mN M (m + 10) = 256 := h.2 (15, 10, 2, 256) (by decide)
theorem MoSh.f16 {M : Mem} {m : Nat} (h : MoSh M m) : mR M m 16 = m + 11 ∧ mK M (m + 11) = 2 ∧ mN M (m + 11) = 32768 := h.2 (16, 11, 2, 32768) (by decide)
theorem MoSh.f17 {M : Mem} {m : Nat} (h : MoSh M m) : mR M m 17 = m + 12 ∧ mK M (m + 12) = 1 ∧ mN M (m + 12) = 2 := h.2 (17, 12, 1, 2) (by decide)
theorem MoSh.f18 {M : Mem} {m : Nat} (h : MoSh M m) : mR M m 18 = m + 13 ∧ mK M (m + 13) = 1 ∧ mN M (m + 13) = 2 := h.2 (18, 13, 1, 2) (by decide)
theorem MoSh.f19 {M : Mem} {m : Nat} (h : MoSh M m) : mR M m 19 = m + 14 ∧ mK M (m + 14) = 1 ∧ mN M (m + 14) = 2 := h.2 (19, 14, 1, 2) (by decide)
theorem MoSh.f20 {M : Mem} {m : Nat} (h : MoSh M m) : mR M m 20 = m + 15 ∧ mK M (m + 15) = 3 ∧ mN M (m + 15) = 2 := h.2 (20, 15, 3, 2) (by decide)
theorem MoSh.f21 {M : Mem} {m : Nat} (h : MoSh M m) : mR M m 21 = m + 16 ∧ mK M (m + 16) = 2 ∧ mN M (m + 16) = 16 := h.2 (21, 16, 2, 16) (by decide)
theorem MoSh.f22 {M : Mem} {m : Nat} (h : MoSh M m) : mR M m 22 = m + 17 ∧ mK M (m + 17) = 1 ∧ mN M (m + 17) = 1024 := h.2 (22, 17, 1, 1024) (by decide)
theorem MoSh.f26 {M : Mem} {m : Nat} (h : MoSh M m) : mR M m 26 = m + 18 ∧ mK M (m + 18) = 3 ∧ mN M (m + 18) = 64 := h.2 (26, 18, 3, 64) (by decide)
theorem MoSh.f27 {M : Mem} {m : Nat} (h : MoSh M m) : mR M m 27 = m + 19 ∧ mK M (m + 19) = 1 ∧ mN M (m + 19) = 64 := h.2 (27, 19, 1, 64) (by decide)
theorem MoSh.f28 {M : Mem} {m : Nat} (h : MoSh M m) : mR M m 28 = m + 20 ∧ mK M (m + 20) = 2 ∧ mN M (m + 20) = 64 := h.2 (28, 20, 2, 64) (by decide)
theorem MoSh.f29 {M : Mem} {m : Nat} (h : MoSh M m) : mR M m 29 = m + 21 ∧ mK M (m + 21) = 1 ∧ mN M (m + 21) = 64 := h.2 (29, 21, 1, 64) (by decide)
theorem MoSh.f34 {M : Mem} {m : Nat} (h : MoSh M m) : mR M m 34 = m + 22 ∧ mK M (m + 22) = 1 ∧ mN M (m + 22) = 8 := h.2 (34, 22, 1, 8) (by decide)
theorem MoSh.f35 {M : Mem} {m : Nat} (h : MoSh M m) : mR M m 35 = m + 23 ∧ mK M (m + 23) = 1 ∧ mN M (m + 23) = 24 := h.2 (35, 23, 1, 24) (by decide)
theorem MoSh.f38 {M : Mem} {m : Nat} (h : MoSh M m) : mR M m 38 = m + 24 ∧ mK M (m + 24) = 1 ∧ mN M (m + 24) = 64 := h.2 (38, 24, 1, 64) (by decide)
theorem MoSh.f39 {M : Mem} {m : Nat} (h : MoSh M m) : mR M m 39 = m + 25 ∧ mK M (m + 25) = 1 ∧ mN M (m + 25) = 64 := h.2 (39, 25, 1, 64) (by decide)
theorem MoSh.f40 {M : Mem} {m : Nat} (h : MoSh M m) : mR M m 40 = m + 26 ∧ mK M (m + 26) = 2 ∧ mN M (m + 26) = 8 := h.2 (40, 26, 2, 8) (by decide)
theorem MoSh.f41 {M : Mem} {m : Nat} (h : MoSh M m) : mR M m 41 = m + 27 ∧ mK M (m + 27) = 2 ∧ mN M (m + 27) = 32768 := h.2 (41, 27, 2, 32768) (by decide)
theorem MoSh.f47 {M : Mem} {m : Nat} (h : MoSh M m) : mR M m 47 = m + 28 ∧ mK M (m + 28) = 2 ∧ mN M (m + 28) = 64 := h.2 (47, 28, 2, 64) (by decide)
theorem MoSh.f49 {M : Mem} {m : Nat} (h : MoSh M m) : mR M m 49 = m + 29 ∧ mK M (m + 29) = 1 ∧ mN M (m + 29) = 8 := h.2 (49, 29, 1, 8) (by decide)
theorem MoSh.f50 {M : Mem} {m : Nat} (h : MoSh M m) : mR M m 50 = m + 30 ∧ mK M (m + 30) = 1 ∧ mN M (m + 30) = 8 := h.2 (50, 30, 1, 8) (by decide)
section MWords
variable {d m l : Nat} {Q : Option Value → Mem → Prop} {M : Mem}
theorem w_X12_flag {x : Int32} (hd : 1 < d) (h0 : x = 0 → Q (some (.int (nI 0))) M) (h1 : ¬ x = 0 → Q (some (.int (nI 1))) M) : ClD d mdX12_flag [.int x] M Q :=
  ⟨1, hd, Cl.of moX12_flag (Nat.le_of_ble_eq_true rfl) (gX12_flag_0 (fun c => ⟨⟨_, rfl⟩, h0 c⟩) (fun c => ⟨⟨_, rfl⟩, h1 c⟩))⟩
theorem w_X12_in {x a b : Int64} (hd : 1 < d) (h1 : a.toInt ≤ x.toInt → x.toInt ≤ b.toInt → Q (some (.int (nI 1))) M) (h0 : ¬ (a.toInt ≤ x.toInt ∧ x.toInt ≤ b.toInt) → Q (some (.int (nI 0))) M) : ClD d mdX12_in [.long x, .long a, .long b] M Q := by
  refine ⟨1, hd, Cl.of moX12_in (Nat.le_of_ble_eq_true rfl) (gX12_in_0 (fun c => ⟨⟨_, rfl, by decide⟩, h0 ?_⟩) (fun _ c => ⟨⟨_, rfl, by decide⟩, h0 ?_⟩) (fun c1 c2 => ⟨⟨_, rfl, by decide⟩, h1 ?_ ?_⟩))⟩
  · rw [Int64.lt_iff_toInt_lt] at c; omega
  · rw [Int64.lt_iff_toInt_lt] at c; omega
  · rw [Int64.lt_iff_toInt_lt] at c1; omega
  · rw [Int64.lt_iff_toInt_lt] at c2; omega
theorem w_X12_lengthOf {w : List Nat} (hd : 1 < d) (hw : vw 4 w) (hl : w.length ≤ 30) (h : Q (some (.int (nI w.length))) M) : ClD d mdX12_lengthOf [.long (lN (cd w))] M Q := by
  refine ⟨1, hd, Cl.of moX12_lengthOf (Nat.le_of_ble_eq_true rfl) (gX12_lengthOf_0 ?_)⟩
  suffices H : ∀ u : List Nat, ∀ i, vw 4 u → i + u.length = w.length → Wp 1 mdX12_lengthOf 4 [(2, .int (nI i)), (3, .long (lN (cd u)))] [] M (fun r M' => ROK mdX12_lengthOf r ∧ Q r M') from H w 0 hw (by omega)
  intro u
  induction u using snoc_ind with
  | h0 =>
    intro i _ hi
    have e : i = w.length := by simpa using hi
    subst e
    exact gX12_lengthOf_4 (fun _ => ⟨⟨_, rfl⟩, h⟩) (fun c => absurd (by decide) c)
  | h1 u x ih =>
    intro i hu hi
    rw [List.length_append, List.length_singleton] at hi
    have h2 := vw_app.mp hu
    have k1 := cd30 hu (by simp; omega)
    refine gX12_lengthOf_4 (fun c => ?_) (fun _ => ?_)
    · exfalso
      rw [pk_lLE (by omega) (by decide), cd_snoc] at c
      have := cd_pos u; omega
    · rw [z_shr2 hu (by omega), nI_add]
      exact ih (i + 1) h2.1 (by omega)
theorem w_X12_letterOf {w : List Nat} {i : Nat} (hd : 1 < d) (hw : vw 4 w) (hl : w.length ≤ 30) (hi : i < w.length) (h : Q (some (.int (nI (w.getD i 0)))) M) : ClD d mdX12_letterOf [.long (lN (cd w)), .int (nI w.length), .int (nI i)] M Q := by
  refine ⟨1, hd, Cl.of moX12_letterOf (Nat.le_of_ble_eq_true rfl) (gX12_letterOf_0 ⟨⟨_, rfl⟩, ?_⟩)⟩
  have h30 := cd30 hw hl
  have hdv : cd w / 2 ^ (2 * (w.length - 1 - i)) ≤ cd w := Nat.div_le_self _ _
  rw [z_sub (by omega), z_sub (by omega), pk_mul, z_shr (by omega) (by omega), z_and3 (by omega), lN_i, p24, cd_at hw hi]
  exact h
theorem w_X12_longer {x : Nat} {w : List Nat} (hd : 1 < d) (hx : x < 2 ^ 31) (h : Q (some (.long (lN (cd (w ++ [x]))))) M) : ClD d mdX12_longer [.long (lN (cd w)), .int (nI x)] M Q := by
  refine ⟨1, hd, Cl.of moX12_longer (Nat.le_of_ble_eq_true rfl) (gX12_longer_0 ⟨⟨_, rfl⟩, ?_⟩)⟩
  rw [z_x4 hx, ← cd_snoc]; exact h
theorem w_X12_both {u v : List Nat} (hd : 2 < d) (hu : vw 4 u) (hv : vw 4 v) (hl : u.length + v.length ≤ 30) (h : Q (some (.long (lN (cd (u ++ v))))) M) : ClD d mdX12_both [.long (lN (cd u)), .long (lN (cd v))] M Q := by
  refine ⟨2, hd, Cl.of moX12_both (Nat.le_of_ble_eq_true rfl) (gX12_both_0 (w_X12_lengthOf (by decide) hv (by omega) (gX12_both_4 ⟨⟨_, rfl⟩, ?_⟩)))⟩
  rw [pk_mul, wb_shl _ (by omega), wb_shl _ (by omega), p24, Nat.one_mul, ← lN_mul, z_join]; exact h
theorem w_X12_firstOf {n : Nat} {w : List Nat} (hd : 2 < d) (hw : vw 4 w) (hl : w.length ≤ 30) (hn : n ≤ w.length) (h : Q (some (.long (lN (cd (w.take n))))) M) : ClD d mdX12_firstOf [.long (lN (cd w)), .int (nI n)] M Q := by
  refine ⟨2, hd, Cl.of moX12_firstOf (Nat.le_of_ble_eq_true rfl) (gX12_firstOf_0 (w_X12_lengthOf (by decide) hw hl (gX12_firstOf_6 ⟨⟨_, rfl⟩, ?_⟩)))⟩
  have h30 := cd30 hw hl
  have e := cd_div (u := w.take n) (vw_drop hw n)
  rw [List.take_append_drop, List.length_drop] at e
  rw [z_sub hn, pk_mul, z_shr (by omega) (by omega), p24, e]; exact h
theorem w_X12_behind {n : Nat} {w : List Nat} (hd : 2 < d) (hw : vw 4 w) (hl : w.length ≤ 30) (hn : n ≤ w.length) (h : Q (some (.long (lN (cd (w.drop n))))) M) : ClD d mdX12_behind [.long (lN (cd w)), .int (nI n)] M Q := by
  refine ⟨2, hd, Cl.of moX12_behind (Nat.le_of_ble_eq_true rfl) (gX12_behind_0 (w_X12_lengthOf (by decide) hw hl (gX12_behind_4 ⟨⟨_, rfl⟩, ?_⟩)))⟩
  have h30 := cd30 hw hl
  have h1 := cd_mod (u := w.take n) (vw_drop hw n)
  rw [List.take_append_drop, List.length_drop] at h1
  have h2 := cd_lo (w.drop n)
  rw [List.length_drop] at h2
  rw [z_sub hn, pk_mul, wb_shl _ (by omega), Nat.one_mul, lN_sub (Nat.pow_pos (by decide)), wb_mask (by omega) (by omega), lN_add, p24, h1, Nat.sub_add_cancel h2]
  exact h
theorem p4add (u : List Nat) (x : Nat) : cd (x :: u) = (4 + x) * 4 ^ u.length + (cd u - 4 ^ u.length) := by
  have : cd ([x] ++ u) = cd [x] * 4 ^ u.length + (cd u - 4 ^ u.length) := cd_app [x] u
  exact this
theorem w_X12_isWord {x : Int64} (hd : 1 < d) (hk : mK M m = 14) (h3 : mI M m 3 = nI l) (h0 : 1 ≤ l) (hl : l ≤ 3) (h1 : ∀ w, isW l x w → Q (some (.int (nI 1))) M) (h2 : (¬ ∃ w, isW l x w) → Q (some (.int (nI 0))) M) : ClD d mdX12_isWord [.ref m, .long x] M Q := by
  refine ⟨1, hd, Cl.of moX12_isWord (Nat.le_of_ble_eq_true rfl) (gX12_isWord_0 (fun c => ?_) (fun c => ⟨⟨_, rfl, by decide⟩, h2 ?_⟩))⟩
  · obtain ⟨c0, hc0, hx⟩ : ∃ c0 : Nat, 1 ≤ c0 ∧ c0 < 2 ^ 63 ∧ x = lN c0 := by
      rw [Int64.le_iff_toInt_le, pk_lT (by decide)] at c
      have h4 := Int64.toInt_lt x
      refine ⟨x.toInt.toNat, by omega, by omega, ?_⟩
      rw [← Int64.toInt_inj, pk_lT (by omega)]; omega
    obtain ⟨hc1, hx⟩ := hx
    suffices H : ∀ v n u, 1 ≤ v → v ≤ c0 → vw l u → u.length = n → c0 = v * 4 ^ n + (cd u - 4 ^ n) → n ≤ 32 → Wp 1 mdX12_isWord 13 [(0, .ref m), (3, .int (nI n)), (4, .long (lN v))] [] M (fun r M' => ROK mdX12_isWord r ∧ Q r M') by
      rw [hx]
      exact H c0 0 [] hc0 (Nat.le_refl _) (vw_nil _) rfl (by rw [cd_nil]; omega) (by omega)
    intro v
    induction v using Nat.strongRecOn with
    | ind v ih =>
      intro n u hv hvc hu hun hc hn
      have hu4 := vw_mono hu (show l ≤ 4 by omega)
      have hr := cd_sub hu4
      have hp := p4pos n
      rw [hun] at hr
      have nogo : (∀ w, vw l w → w.length ≤ 30 → cd w = c0 → False) → Q (some (.int (nI 0))) M := fun g => h2 (fun ⟨w, w1, w2, w3⟩ => g w w1 w2 (by
        have := cd30 (vw_mono w1 (show l ≤ 4 by omega)) w2
        rw [hx, pk_lEQ (by omega) (by omega)] at w3
        exact w3.symm))
      refine gX12_isWord_13 hk (fun c1 c2 => ⟨⟨_, rfl, by decide⟩, nogo (fun w w1 w2 w3 => ?_)⟩) (fun c1 c2 c3 => ⟨⟨_, rfl, by decide⟩, nogo (fun w w1 w2 w3 => ?_)⟩) (fun c1 c2 c3 => ⟨⟨_, rfl, by decide⟩, h1 u ⟨hu, ?_, ?_⟩⟩) (fun c1 c2 => ?_) (fun c1 c2 => ⟨⟨_, rfl, by decide⟩, nogo (fun w w1 w2 w3 => ?_)⟩)
      · rw [pk_lLE (by omega) (by decide)] at c1
        rw [pk_lEQ (by omega) (by decide)] at c2
        have a := cd_lo w
        have b := cd_hi (vw_mono w1 (show l ≤ 4 by omega))
        rw [w3] at a b
        have g1 : 2 * 4 ^ n ≤ v * 4 ^ n := Nat.mul_le_mul_right _ (by omega)
        have g2 : v * 4 ^ n ≤ 3 * 4 ^ n := Nat.mul_le_mul_right _ (by omega)
        rcases Nat.lt_or_ge n w.length with q | q
        · have := p4lt q; omega
        · have := p4le q; omega
      · rw [pk_lEQ (by omega) (by decide)] at c2
        rw [nI_ltI (by decide) (by omega)] at c3
        subst c2
        have e : cd w = cd u := by have := cd_lo u; rw [hun] at this; omega
        have := cd_inj (vw_mono w1 (show l ≤ 4 by omega)) hu4 e
        subst this
        omega
      · rw [nI_ltI (by decide) (by omega)] at c3; omega
      · rw [pk_lEQ (by omega) (by decide)] at c2
        subst c2
        have := cd_lo u
        rw [hun] at this
        rw [hx]; congr 1; omega
      · rw [pk_lLE (by omega) (by decide)] at c1
        rw [h3, z_and3 (by omega), nI_l (by omega), pk_lLT (by omega) (by omega)] at c2
        have e4 : 4 * (v / 4) + v % 4 = v := Nat.div_add_mod v 4
        have hn31 : n ≤ 31 := by
          refine Nat.le_of_not_lt fun q => ?_
          have a1 : 4 ^ 32 ≤ 4 ^ n := p4le q
          have a2 : 1 * 4 ^ n ≤ v * 4 ^ n := Nat.mul_le_mul_right _ hv
          have a3 : (4 : Nat) ^ 32 = 2 ^ 64 := by decide
          omega
        rw [z_shr (by omega) (by decide), nI_add]
        refine ih (v / 2 ^ 2) (by omega) (n + 1) (v % 4 :: u) (by omega) (by omega) (vw_cons.mpr ⟨c2, hu⟩) (by rw [List.length_cons, hun]) ?_ (by omega)
        rw [p4add, hun, p4s]
        have e5 : v * 4 ^ n = (v / 4) * (4 * 4 ^ n) + v % 4 * 4 ^ n := by
          conv => lhs; rw [← e4]
          rw [Nat.add_mul, Nat.mul_comm 4 (v / 4), Nat.mul_assoc]
        have e6 : (4 + v % 4) * 4 ^ n = 4 * 4 ^ n + v % 4 * 4 ^ n := Nat.add_mul _ _ _
        have : v / 2 ^ 2 = v / 4 := rfl
        rw [this]
        omega
      · rw [pk_lLE (by omega) (by decide)] at c1
        rw [h3, z_and3 (by omega), nI_l (by omega), pk_lLT (by omega) (by omega)] at c2
        have w4 := vw_mono w1 (show l ≤ 4 by omega)
        have b := cd_hi w4
        rw [w3] at b
        have g1 : 4 * 4 ^ n ≤ v * 4 ^ n := Nat.mul_le_mul_right _ (by omega)
        have hlt : n < w.length := by
          refine Nat.lt_of_not_le fun q => ?_
          have := p4le q; omega
        have hat := cd_at w4 (i := w.length - 1 - n) (by omega)
        rw [w3, show w.length - 1 - (w.length - 1 - n) = n by omega, hc, Nat.add_comm, Nat.add_mul_div_right _ _ hp, Nat.div_eq_of_lt hr, Nat.zero_add] at hat
        apply c2
        rw [hat, List.getD, List.getElem?_eq_getElem (by omega)]
        exact w1 _ (List.getElem_mem _)
  · rintro ⟨w, w1, w2, w3⟩
    apply c
    rw [w3]
    have := cd30 (vw_mono w1 (show l ≤ 4 by omega)) w2
    have := cd_pos w
    rw [pk_lLE (by decide) (by omega)]; omega
end MWords
