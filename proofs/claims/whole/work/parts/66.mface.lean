/-! the reference: its face's state -/
section MFc
variable {d m st sp : Nat} {Q : Option Value → Mem → Prop} {Mz M M' : Mem} {A : PM} {p : PS} {X : List Nat} {R : List Int64}
theorem MoP.cg {u : Nat} (hs : MoSh M' m) (hc : ∀ q, 2 ≤ q → q ≤ 17 → mI M' (m + q) = mI M (m + q) ∧ mJ M' (m + q) = mJ M (m + q)) (h3 : mI M' m 3 = mI M m 3 ∧ mI M' m 8 = mI M m 8 ∧ mI M' m 9 = mI M m 9) (hP : MoP M m u A st sp p) : MoP M' m u A st sp p := by
  obtain ⟨s, es, ⟨⟨a1, a2⟩, ⟨b1, b2, b3⟩, c, e, f, ⟨g1, g2⟩, ⟨i1, i2⟩, j, k⟩, ⟨i5, i14⟩, hg, hK⟩ := hP
  have nI' : ∀ q, 2 ≤ q → q < 18 → mI M' (m + q) = mI M (m + q) := fun q h hq => (hc q h (by omega)).1
  have nJ' : ∀ q, 2 ≤ q → q < 18 → mJ M' (m + q) = mJ M (m + q) := fun q h hq => (hc q h (by omega)).2
  have mm : ∀ (k : Nat) (B : PM), MoM M m k B → MoM M' m k B := fun k B h => by
    unfold MoM at h ⊢
    rw [nI' 2 (by decide) (by decide), nI' 3 (by decide) (by decide), nI' 4 (by decide) (by decide)]; exact h
  refine ⟨s, es, ⟨⟨hs, a2⟩, ⟨by rw [h3.1]; exact b1, by rw [h3.2.1]; exact b2, by rw [h3.2.2]; exact b3⟩, mm 0 A c, e, ?_, ⟨by rw [nI' 6 (by decide) (by decide)]; exact g1, by rw [nI' 7 (by decide) (by decide)]; exact g2⟩, ⟨fun q hq => by rw [nJ' 8 (by decide) (by decide), nI' 9 (by decide) (by decide)]; exact i1 q hq, fun q hq => by rw [nJ' 10 (by decide) (by decide)]; exact i2 q hq⟩, j, k⟩, ⟨by rw [nI' 5 (by decide) (by decide)]; exact i5, by rw [nI' 14 (by decide) (by decide)]; exact i14⟩, ?_, fun c3 c hc => by rw [nI' 17 (by decide) (by decide)]; exact hK c3 c hc⟩
  · unfold MoA at f ⊢
    rw [nJ' 11 (by decide) (by decide), nI' 12 (by decide) (by decide), nI' 13 (by decide) (by decide)]; exact f
  · cases hq : qg p with
    | none => rw [hq] at hg; show mI M' (m + 15) u = nI 0; rw [nI' 15 (by decide) (by decide)]; exact hg
    | some g =>
      rw [hq] at hg
      obtain ⟨g1, g2, g3, g4, g5⟩ := hg
      exact ⟨by rw [nI' 15 (by decide) (by decide)]; exact g1, fun j hj => by rw [nJ' 16 (by decide) (by decide)]; exact g2 j hj, mm _ _ g3, g4, g5⟩
/-- the reference's labels -/
def moA (m : Nat) : List Nat := (List.range 31).map (fun i => m + i)
theorem moA_mem {m p : Nat} : p ∈ moA m ↔ m ≤ p ∧ p < m + 31 := by
  unfold moA
  rw [List.mem_map]
  constructor
  · rintro ⟨i, hi, e⟩
    have := List.mem_range.mp hi
    omega
  · intro h
    exact ⟨p - m, List.mem_range.mpr (by omega), by omega⟩
/-- all of the reference -/
def MoC (M : Mem) (m : Nat) (X : List Nat) (A : PM) (st sp : Nat) (p : PS) (R : List Int64) : Prop := (MoX M m X ∧ mI M m 30 = nI X.length) ∧ MoP M m 0 A st sp p ∧ mI M m 7 = nI (qm p) ∧ (mI M m 1 = nI R.length ∧ R.length ≤ 16 ∧ ∀ j, j < R.length → mJ M (m + 1) j = R.getD j 0)
/-- all of the reference, and nothing else has changed since Mz -/
def MoS (Mz M : Mem) (m : Nat) (X : List Nat) (A : PM) (st sp : Nat) (p : PS) (R : List Int64) : Prop := MoC M m X A st sp p R ∧ Sm (moA m) Mz M
theorem MoS.fr {L : List Nat} (h : MoS Mz M m X A st sp p R) (S : Sm L M M') (hL : ∀ q, q ∈ L → m ≤ q ∧ q < m + 31) : Sm (moA m) Mz M' := h.2.tr (S.mono (fun q hq => moA_mem.mpr (hL q hq)))
theorem MoS.sh (h : MoS Mz M m X A st sp p R) : MoSh M m ∧ okM A := ⟨h.1.2.1.sh.1, h.1.2.1.sh.2.2⟩
/-- one of the fields that do not count -/
theorem MoS.f {j : Nat} {v : Int32} (hj : j ≠ 1 ∧ j ≠ 3 ∧ j ≠ 7 ∧ j ≠ 8 ∧ j ≠ 9 ∧ j ≠ 30) (h : MoS Mz M m X A st sp p R) : MoS Mz (sI M m j v) m X A st sp p R := by
  have h0 := h
  obtain ⟨⟨⟨h1, h2⟩, h3, h4, h5, h6, h7⟩, -⟩ := h
  have S : Sm [m] M (sI M m j v) := Sm.sI (by simp) _ _ _
  refine ⟨?_, h0.fr S (fun q hq => by simp at hq; omega)⟩
  exact ⟨⟨h1.sm S (by simp), by rw [rI_nk (by omega)]; exact h2⟩, h3.cg (h3.sh.1.sm S) (fun q a b => ⟨S.I (by simp; omega), S.J (by simp; omega)⟩) ⟨rI_nk (by omega), rI_nk (by omega), rI_nk (by omega)⟩, by rw [rI_nk (by omega)]; exact h4, by rw [rI_nk (by omega)]; exact h5, h6, h7⟩
theorem z_sbyt (x : Int32) {k : Nat} (hk : k < 4) : (x >>> (nI (24 - 8 * k) &&& 31)) &&& (nI 255) = nI (byt x k) := by
  rw [← z_byt x hk]
  have h1 : ∀ k, k < 4 → ((nI (24 - 8 * k) &&& 31).toBitVec.smod 32) = BitVec.ofNat 32 (24 - 8 * k) := by decide +kernel
  have h2 : ∀ k, k < 4 → ((nI (24 - 8 * k)).toUInt32 &&& Int32.toUInt32 31).toBitVec % 32 = BitVec.ofNat 32 (24 - 8 * k) := by decide +kernel
  have e1 : (x >>> (nI (24 - 8 * k) &&& 31)).toBitVec = x.toBitVec.sshiftRight (24 - 8 * k) := by
    rw [Int32.toBitVec_shiftRight, BitVec.sshiftRight_eq', h1 k hk, BitVec.toNat_ofNat, Nat.mod_eq_of_lt (by omega)]
  have e2 : ((x.toUInt32 >>> ((nI (24 - 8 * k)).toUInt32 &&& Int32.toUInt32 31)).toInt32).toBitVec = x.toBitVec >>> (24 - 8 * k) := by
    show (x.toUInt32 >>> ((nI (24 - 8 * k)).toUInt32 &&& Int32.toUInt32 31)).toBitVec = _
    rw [UInt32.toBitVec_shiftRight, h2 k hk, BitVec.ushiftRight_eq', BitVec.toNat_ofNat, Nat.mod_eq_of_lt (by omega)]
    rfl
  apply Int32.toBitVec_inj.mp
  rw [Int32.toBitVec_and, Int32.toBitVec_and, e1, e2]
  have h255 : (nI 255).toBitVec = BitVec.ofNat 32 255 := by decide
  rw [h255]
  apply BitVec.eq_of_getLsbD_eq
  intro i hi
  rw [BitVec.getLsbD_and, BitVec.getLsbD_and, BitVec.getLsbD_sshiftRight, BitVec.getLsbD_ushiftRight]
  by_cases h8 : i < 8
  · have : 24 - 8 * k + i < 32 := by omega
    simp [this, show ¬ 32 ≤ i by omega]
  · have : (BitVec.ofNat 32 255).getLsbD i = false := by
      have h : ∀ i, i < 32 → ¬ i < 8 → (BitVec.ofNat 32 255).getLsbD i = false := by decide +kernel
      exact h i hi h8
    rw [this, Bool.and_false, Bool.and_false]
theorem w_X12_sign {v : Int32} (hd : 1 < d) (hS : MoS Mz M m X A st sp p R) (h1 : X.length + 4 ≤ 64 → ∀ M', MoS Mz M' m (X ++ bts v 4) A st sp p R → Q (some (.int (nI (X.length + 4)))) M') (h2 : ¬ X.length + 4 ≤ 64 → ∀ M', MoS Mz M' m X A st sp p R → Q (some (.int (-1 : Int32))) M') : ClD d mdX12_sign [.ref m, .int v] M Q := by
  obtain ⟨M1, hM1⟩ : ∃ M1, M1 = sI M m 0 (nI 0) := ⟨_, rfl⟩
  have hS1 : MoS Mz M1 m X A st sp p R := by rw [hM1]; exact hS.f (j := 0) (v := nI 0) (by decide)
  obtain ⟨s1, -⟩ := hS1.sh
  have b2 := hS1.1.1.1.1
  have t30 := hS1.1.1.2
  refine ⟨1, hd, Cl.of moX12_sign (Nat.le_of_ble_eq_true rfl) (gX12_sign_0 hS.sh.1.1 ?_ ?_)⟩ <;> rw [← hM1, t30, nI_leI (by omega) (by decide)]
  · intro c
    refine upto 4 (fun k => ∀ M2, Sm [m + 21] M1 M2 → MoX M2 m (X ++ bts v k) → Wp 1 mdX12_sign 18 [(0, .ref m), (1, .int v), (2, .int (nI k))] [] M2 (fun r M' => ROK mdX12_sign r ∧ Q r M')) ?_ 0 (Nat.zero_le _) M1 (Sm.rf _ _) (by rw [show X ++ bts v 0 = X from List.append_nil X]; exact hS1.1.1.1)
    intro k hk ih M2 S T
    have hs2 := s1.sm S
    have f := hs2.f29
    have hlen : (X ++ bts v k).length = X.length + k := by rw [List.length_append, bts_len]
    have t30' : mI M2 m 30 = nI X.length := by rw [S.I (by simp)]; exact t30
    refine gX12_sign_18 hs2.1 (by rw [f.1]; exact f.2.1) (fun c4 => ⟨⟨_, rfl⟩, ?_⟩) (fun c4 => ?_) (fun c4 => ?_) <;> rw [nI_leI (by decide) (by omega)] at c4
    · have ek : k = 4 := by omega
      subst ek
      rw [rI_at, t30', nI_add]
      have S3 : Sm [m, m + 21] M1 (sI M2 m 30 (nI (X.length + 4))) := (S.mono (by simp)).tr (Sm.sI (by simp) _ _ _)
      refine h1 (by omega) _ ⟨?_, hS1.fr S3 (fun q hq => by simp at hq; omega)⟩
      refine ⟨⟨T.sm (Sm.sI (S := [m]) (by simp) _ _ _) (by simp), by rw [rI_at, hlen]⟩, hS1.1.2.1.cg (s1.sm S3) (fun q a b => ⟨S3.I (by simp; omega), S3.J (by simp; omega)⟩) ⟨?_, ?_, ?_⟩, ?_, ?_, hS1.1.2.2.2.2.1, fun j hj => ?_⟩
      · rw [rI_nk (by decide), S.I (by simp)]
      · rw [rI_nk (by decide), S.I (by simp)]
      · rw [rI_nk (by decide), S.I (by simp)]
      · rw [rI_nk (by decide), S.I (by simp)]; exact hS1.1.2.2.1
      · rw [rI_nk (by decide), S.I (by simp)]; exact hS1.1.2.2.2.1
      · rw [S3.J (by simp)]; exact hS1.1.2.2.2.2.2 j hj
    · rw [f.1, f.2.2, t30', nI_add]; exact z_in (by omega) (by decide)
    · rw [f.1, t30', nI_add, nI_add, nI_clamp (by omega), pk_mul, z_sub (by omega), z_sbyt v (by omega)]
      refine ih (by omega) _ (S.tr (Sm.sI (by simp) _ _ _)) ⟨?_, fun j hj => ?_, fun j => ?_⟩
      · rw [List.length_append, bts_len]; omega
      · rw [show X ++ bts v (k + 1) = (X ++ bts v k) ++ [byt v k] from (List.append_assoc _ _ _).symm] at hj ⊢
        rw [List.length_append, List.length_singleton] at hj
        by_cases z : j = X.length + k
        · rw [z, rI_at, getD_app, if_neg (by omega), getD_one, if_pos (by omega)]
        · rw [rI_nk z, getD_app, if_pos (by omega)]; exact T.2.1 j (by omega)
      · rw [show X ++ bts v (k + 1) = (X ++ bts v k) ++ [byt v k] from (List.append_assoc _ _ _).symm, getD_app]
        split
        · exact T.2.2 j
        · rw [getD_one]; split
          · exact byt_lt _ _
          · decide
  · intro c
    exact ⟨⟨_, rfl⟩, h2 (by omega) M1 hS1⟩
theorem w_X12_end {x : Int32} (hd : 2 < d) (hS : MoS Mz M m X A st sp p R) (h1 : ∀ n, n ≤ X.length → x = nI n → ∀ M', MoS Mz M' m (X.take n) A st sp p R → Q (some (.int (nI 1))) M') (h2 : (x < 0 ∨ nI X.length < x) → ∀ M', MoS Mz M' m X A st sp p R → Q (some (.int (nI 0))) M') : ClD d mdX12_end [.ref m, .int x] M Q := by
  obtain ⟨M1, hM1⟩ : ∃ M1, M1 = sI M m 0 (nI 0) := ⟨_, rfl⟩
  have hS1 : MoS Mz M1 m X A st sp p R := by rw [hM1]; exact hS.f (j := 0) (v := nI 0) (by decide)
  obtain ⟨s1, -⟩ := hS1.sh
  have b2 := hS1.1.1.1.1
  have t30 := hS1.1.1.2
  refine ⟨2, hd, Cl.of moX12_end (Nat.le_of_ble_eq_true rfl) (gX12_end_0 hS.sh.1.1 ?_)⟩
  rw [← hM1, t30]
  refine w_X12_in (by decide) (fun c1 c2 => gX12_end_16 s1.1 (fun _ => ⟨⟨_, rfl, by decide⟩, ?_⟩) (fun c => absurd c (by decide))) (fun c => gX12_end_16 s1.1 (fun c0 => absurd rfl c0) (fun _ => ⟨⟨_, rfl, by decide⟩, h2 ?_ M1 hS1⟩))
  · rw [Int32.toInt_toInt64, pk_lT (by decide)] at c1
    rw [Int32.toInt_toInt64, Int32.toInt_toInt64, nI_toInt (by omega)] at c2
    obtain ⟨n, hn⟩ : ∃ n, n = x.toInt.toNat := ⟨_, rfl⟩
    have hx : x = nI n := by rw [← Int32.toInt_inj, nI_toInt (by omega)]; omega
    have S3 : Sm [m] M1 (sI M1 m 30 x) := Sm.sI (by simp) _ _ _
    refine h1 n (by omega) hx _ ⟨?_, hS1.fr S3 (fun q hq => by simp at hq; omega)⟩
    refine ⟨⟨⟨by rw [List.length_take]; omega, fun j hj => ?_, fun j => ?_⟩, ?_⟩, hS1.1.2.1.cg (s1.sm S3) (fun q a b => ⟨S3.I (by simp; omega), S3.J (by simp; omega)⟩) ⟨rI_nk (by decide), rI_nk (by decide), rI_nk (by decide)⟩, ?_, ?_, hS1.1.2.2.2.2.1, hS1.1.2.2.2.2.2⟩
    · rw [List.length_take] at hj
      rw [S3.I (by simp), hS1.1.1.1.2.1 j (by omega)]
      congr 1
      simp only [List.getD, List.getElem?_take]
      rw [if_pos (by omega)]
    · have := hS1.1.1.1.2.2 j
      simp only [List.getD, List.getElem?_take] at this ⊢
      split
      · exact this
      · decide
    · rw [rI_at, hx, List.length_take, Nat.min_eq_left (by omega)]
    · rw [rI_nk (by decide)]; exact hS1.1.2.2.1
    · rw [rI_nk (by decide)]; exact hS1.1.2.2.2.1
  · rw [Int32.toInt_toInt64, Int32.toInt_toInt64, pk_lT (by decide), nI_toInt (by omega)] at c
    rw [Int32.lt_iff_toInt_lt, Int32.lt_iff_toInt_lt, nI_toInt (by omega)]
    have e : (0 : Int32).toInt = 0 := by decide
    rw [e]; omega
end MFc
