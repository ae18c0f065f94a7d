/-! the calls that change nothing -/
theorem PI.mono {A : PM} {N N' : Nat} {p : PS} (h : PI A N p) (hn : N ≤ N') : PI A N' p := by
  have := PI.more (n := N' - N) h h.1.2.2 (fun _ z => z) ⟨[], by simp, fun w z => Or.inl z⟩
  rw [show N + (N' - N) = N' by omega] at this
  exact this
theorem nInj {a b : Nat} (h : nI a = nI b) (ha : a < 2 ^ 31) (hb : b < 2 ^ 31) : a = b := (nI_eq ha hb).mp h
theorem nI_nm1 {a : Nat} (h : a < 2 ^ 31) : ¬ nI a = (-1 : Int32) := fun e => nI_m1 h (by rw [e]; exact Int32.le_refl _)
section Det
variable {A : PM} {p : PS} {x y z : Int32} {u w : Int64}
theorem det_state (hA : okM A) (x y : Int32) : ∃ v : Int32, ∀ q : Int32 → Prop, q v → (∀ s, s < pn A → x = nI s → y = 0 → q (nI (po A s))) ∧ (∀ s z, s < pn A → z < pl A → x = nI s → y = nI (z + 1) → q (nI (pt A s z))) ∧ ((x < 0 ∨ nI (pn A) ≤ x ∨ y < 0 ∨ nI (pl A) < y) → q (-1 : Int32)) := by
  have a8 := hA.1.2
  have l3 := hA.2.1.2
  by_cases h1 : ∃ s, s < pn A ∧ x = nI s
  · obtain ⟨s, s1, s2⟩ := h1
    by_cases h2 : ∃ k, k ≤ pl A ∧ y = nI k
    · obtain ⟨k, k1, k2⟩ := h2
      have no : ¬ (x < 0 ∨ nI (pn A) ≤ x ∨ y < 0 ∨ nI (pl A) < y) := by
        rintro (c | c | c | c)
        · rw [s2] at c; exact nI_pos (by omega) c
        · rw [s2, nI_leI (by omega) (by omega)] at c; omega
        · rw [k2] at c; exact nI_pos (by omega) c
        · rw [k2, nI_ltI (by omega) (by omega)] at c; omega
      cases k with
      | zero =>
        refine ⟨nI (po A s), fun q hq => ⟨fun s' _ e _ => ?_, fun s' z _ hz _ e => ?_, fun c => absurd c no⟩⟩
        · rw [s2] at e; rw [← nInj e (by omega) (by omega)]; exact hq
        · rw [k2] at e; have := nInj e (by decide) (by omega); omega
      | succ k =>
        refine ⟨nI (pt A s k), fun q hq => ⟨fun s' _ e e2 => ?_, fun s' z _ hz e e2 => ?_, fun c => absurd c no⟩⟩
        · rw [k2] at e2
          have := nInj (b := 0) e2 (by omega) (by decide); omega
        · rw [s2] at e; rw [k2] at e2
          have a := nInj e (by omega) (by omega)
          have b := nInj e2 (by omega) (by omega)
          have b : k = z := by omega
          rw [← a, ← b]; exact hq
    · exact ⟨-1, fun q hq => ⟨fun s' _ _ e => absurd ⟨0, Nat.zero_le _, e⟩ h2, fun s' z _ hz _ e => absurd ⟨z + 1, hz, e⟩ h2, fun _ => hq⟩⟩
  · exact ⟨-1, fun q hq => ⟨fun s' hs e _ => absurd ⟨s', hs, e⟩ h1, fun s' z hs _ e _ => absurd ⟨s', hs, e⟩ h1, fun _ => hq⟩⟩
theorem det_run (hA : okM A) (x : Int64) : ∃ v : Int32, ∀ q : Int32 → Prop, q v → (∀ w, isW (pl A) x w → q (nI (rn (pt A) 0 w))) ∧ ((¬ ∃ w, isW (pl A) x w) → q (-1 : Int32)) := by
  have l3 := hA.2.1.2
  by_cases h : ∃ w, isW (pl A) x w
  · obtain ⟨w, hw⟩ := h
    exact ⟨_, fun q hq => ⟨fun w' h' => by rw [isW_inj (by omega) h' hw]; exact hq, fun n => absurd ⟨w, hw⟩ n⟩⟩
  · exact ⟨-1, fun q hq => ⟨fun w' h' => absurd ⟨w', h'⟩ h, fun _ => hq⟩⟩
theorem det_joins (hA : okM A) (x y : Int64) : ∃ v : Int64, ∀ q : Int64 → Prop, q v → (∀ u v, isW (pl A) x u → isW (pl A) y v → u.length + v.length ≤ 30 → q (lN (cd (u ++ v)))) ∧ ((¬ ∃ u v, isW (pl A) x u ∧ isW (pl A) y v ∧ u.length + v.length ≤ 30) → q (-1 : Int64)) := by
  have l3 := hA.2.1.2
  by_cases h : ∃ u v, isW (pl A) x u ∧ isW (pl A) y v ∧ u.length + v.length ≤ 30
  · obtain ⟨a, b, h1, h2, h3⟩ := h
    exact ⟨_, fun q hq => ⟨fun u' v' g1 g2 _ => by rw [isW_inj (by omega) g1 h1, isW_inj (by omega) g2 h2]; exact hq, fun n => absurd ⟨a, b, h1, h2, h3⟩ n⟩⟩
  · exact ⟨-1, fun q hq => ⟨fun u' v' g1 g2 g3 => absurd ⟨u', v', g1, g2, g3⟩ h, fun _ => hq⟩⟩
theorem det_letter (hA : okM A) (x : Int64) (y : Int32) : ∃ v : Int32, ∀ q : Int32 → Prop, q v → ((¬ ∃ w, isW (pl A) x w) → q (-1 : Int32)) ∧ ∀ w, isW (pl A) x w → (y = (-1 : Int32) → q (nI w.length)) ∧ (∀ i, i < w.length → y = nI i → q (nI (w.getD i 0))) ∧ (y ≠ (-1 : Int32) → (¬ ∃ i, i < w.length ∧ y = nI i) → q (-1 : Int32)) := by
  have l3 := hA.2.1.2
  by_cases h : ∃ w, isW (pl A) x w
  · obtain ⟨w, hw⟩ := h
    have w30 := hw.2.1
    have un : ∀ {w'}, isW (pl A) x w' → w' = w := fun h' => isW_inj (by omega) h' hw
    by_cases h1 : y = (-1 : Int32)
    · refine ⟨nI w.length, fun q hq => ⟨fun n => absurd ⟨w, hw⟩ n, fun w' h' => ?_⟩⟩
      rw [un h']
      exact ⟨fun _ => hq, fun i hi e => absurd (e.symm.trans h1) (nI_nm1 (by omega)), fun n => absurd h1 n⟩
    · by_cases h2 : ∃ i, i < w.length ∧ y = nI i
      · obtain ⟨i, i1, i2⟩ := h2
        refine ⟨nI (w.getD i 0), fun q hq => ⟨fun n => absurd ⟨w, hw⟩ n, fun w' h' => ?_⟩⟩
        rw [un h']
        refine ⟨fun c => absurd c h1, fun j hj e => ?_, fun _ n => absurd ⟨i, i1, i2⟩ n⟩
        rw [i2] at e; rw [← nInj e (by omega) (by omega)]; exact hq
      · refine ⟨-1, fun q hq => ⟨fun n => absurd ⟨w, hw⟩ n, fun w' h' => ?_⟩⟩
        rw [un h']
        exact ⟨fun c => absurd c h1, fun j hj e => absurd ⟨j, hj, e⟩ h2, fun _ _ => hq⟩
  · exact ⟨-1, fun q hq => ⟨fun _ => hq, fun w' h' => absurd ⟨w', h'⟩ h⟩⟩
theorem neg_toInt {y : Int32} {i : Nat} (hi : i ≤ 30) (h : -y = nI i) : y.toInt = -(i : Int) := by
  have e : y = -(nI i) := by rw [← h, Int32.neg_neg]
  rw [e, Int32.toInt_neg, nI_toInt (by omega)]
  exact Int.bmod_eq_of_le (by omega) (by omega)
theorem det_cut (hA : okM A) (x : Int64) (y : Int32) : ∃ v : Int64, ∀ q : Int64 → Prop, q v → ((¬ ∃ w, isW (pl A) x w) → q (-1 : Int64)) ∧ ∀ w, isW (pl A) x w → (∀ i, i ≤ w.length → y = nI i → q (lN (cd (w.take i)))) ∧ (∀ i, i ≤ w.length → 0 < i → -y = nI i → y < 0 → q (lN (cd (w.drop i)))) ∧ ((y.toInt < -(w.length : Int) ∨ (w.length : Int) < y.toInt) → q (-1 : Int64)) := by
  have l3 := hA.2.1.2
  by_cases h : ∃ w, isW (pl A) x w
  · obtain ⟨w, hw⟩ := h
    have w30 := hw.2.1
    have un : ∀ {w'}, isW (pl A) x w' → w' = w := fun h' => isW_inj (by omega) h' hw
    by_cases h1 : ∃ i, i ≤ w.length ∧ y = nI i
    · obtain ⟨i, i1, i2⟩ := h1
      have ty : y.toInt = (i : Int) := by rw [i2, nI_toInt (by omega)]
      refine ⟨lN (cd (w.take i)), fun q hq => ⟨fun n => absurd ⟨w, hw⟩ n, fun w' h' => ?_⟩⟩
      rw [un h']
      refine ⟨fun j hj e => ?_, fun j hj h0 e c => ?_, fun c => ?_⟩
      · rw [i2] at e; rw [← nInj e (by omega) (by omega)]; exact hq
      · rw [i2] at c; exact absurd c (nI_pos (by omega))
      · omega
    · by_cases h2 : ∃ i, i ≤ w.length ∧ 0 < i ∧ -y = nI i ∧ y < 0
      · obtain ⟨i, i1, i2, i3, i4⟩ := h2
        have ty := neg_toInt (by omega) i3
        refine ⟨lN (cd (w.drop i)), fun q hq => ⟨fun n => absurd ⟨w, hw⟩ n, fun w' h' => ?_⟩⟩
        rw [un h']
        refine ⟨fun j hj e => absurd ⟨j, hj, e⟩ h1, fun j hj h0 e c => ?_, fun c => ?_⟩
        · rw [i3] at e; rw [← nInj e (by omega) (by omega)]; exact hq
        · omega
      · refine ⟨-1, fun q hq => ⟨fun n => absurd ⟨w, hw⟩ n, fun w' h' => ?_⟩⟩
        rw [un h']
        exact ⟨fun j hj e => absurd ⟨j, hj, e⟩ h1, fun j hj h0 e c => absurd ⟨j, hj, h0, e, c⟩ h2, fun _ => hq⟩
  · exact ⟨-1, fun q hq => ⟨fun _ => hq, fun w' h' => absurd ⟨w', h'⟩ h⟩⟩
theorem det_word (x : Int32) : ∃ v : Int64, ∀ q : Int64 → Prop, q v → (∀ k w, k ≤ 1000000 → x = nI k → kw (pl A) k = some w → q (lN (cd w))) ∧ (∀ k, k ≤ 1000000 → x = nI k → kw (pl A) k = none → q (-1 : Int64)) ∧ ((¬ ∃ k, k ≤ 1000000 ∧ x = nI k) → q (-1 : Int64)) := by
  by_cases h : ∃ k, k ≤ 1000000 ∧ x = nI k
  · obtain ⟨k, k1, k2⟩ := h
    have un : ∀ {k'}, k' ≤ 1000000 → x = nI k' → k' = k := fun a b => by rw [k2] at b; exact (nInj b (by omega) (by omega)).symm
    cases e : kw (pl A) k with
    | none => exact ⟨-1, fun q hq => ⟨fun k' w a b c => (by rw [un a b, e] at c; cases c), fun k' a b c => hq, fun n => absurd ⟨k, k1, k2⟩ n⟩⟩
    | some w => exact ⟨lN (cd w), fun q hq => ⟨fun k' w' a b c => (by rw [un a b, e] at c; cases c; exact hq), fun k' a b c => (by rw [un a b, e] at c; cases c), fun n => absurd ⟨k, k1, k2⟩ n⟩⟩
  · exact ⟨-1, fun q hq => ⟨fun k' w a b _ => absurd ⟨k', a, b⟩ h, fun k' a b _ => absurd ⟨k', a, b⟩ h, fun _ => hq⟩⟩
theorem det_known (hA : okM A) (S : List (List Nat)) (x : Int64) : ∃ v : Int32, ∀ q : Int32 → Prop, q v → (∀ w, isW (pl A) x w → (w ∈ S → q (nI 1)) ∧ (w ∉ S → q (nI 0))) ∧ ((¬ ∃ w, isW (pl A) x w) → q (-1 : Int32)) := by
  have l3 := hA.2.1.2
  by_cases h : ∃ w, isW (pl A) x w
  · obtain ⟨w, hw⟩ := h
    have un : ∀ {w'}, isW (pl A) x w' → w' = w := fun h' => isW_inj (by omega) h' hw
    by_cases c : w ∈ S
    · exact ⟨nI 1, fun q hq => ⟨fun w' h' => by rw [un h']; exact ⟨fun _ => hq, fun n => absurd c n⟩, fun n => absurd ⟨w, hw⟩ n⟩⟩
    · exact ⟨nI 0, fun q hq => ⟨fun w' h' => by rw [un h']; exact ⟨fun n => absurd n c, fun _ => hq⟩, fun n => absurd ⟨w, hw⟩ n⟩⟩
  · exact ⟨-1, fun q hq => ⟨fun w' h' => absurd ⟨w', h'⟩ h, fun _ => hq⟩⟩
/-- heads and tails, by number -/
theorem det_nth {L : List (List Nat)} (hL : L.length < 2 ^ 31) (x : Int32) : ∃ v : Int64, ∀ q : Int64 → Prop, q v → (x = (-1 : Int32) → q (nI L.length).toInt64) ∧ (∀ k, k < L.length → x = nI k → q (lN (cd (L.getD k [])))) ∧ (x ≠ (-1 : Int32) → (¬ ∃ k, k < L.length ∧ x = nI k) → q (-1 : Int64)) := by
  by_cases h1 : x = (-1 : Int32)
  · exact ⟨_, fun q hq => ⟨fun _ => hq, fun k hk e => absurd (e.symm.trans h1) (nI_nm1 (by omega)), fun n => absurd h1 n⟩⟩
  · by_cases h2 : ∃ k, k < L.length ∧ x = nI k
    · obtain ⟨k, k1, k2⟩ := h2
      refine ⟨lN (cd (L.getD k [])), fun q hq => ⟨fun c => absurd c h1, fun j hj e => ?_, fun _ n => absurd ⟨k, k1, k2⟩ n⟩⟩
      rw [k2] at e; rw [← nInj e (by omega) (by omega)]; exact hq
    · exact ⟨-1, fun q hq => ⟨fun c => absurd c h1, fun j hj e => absurd ⟨j, hj, e⟩ h2, fun _ _ => hq⟩⟩
end Det
