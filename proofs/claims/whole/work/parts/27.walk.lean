/-! the first word by which two answer unlike; the first word to each state -/
theorem cd_lt14 {u w : List Nat} (hu : vw 4 u) (hl : u.length ≤ 14) (h : cd w ≤ cd u) : w.length ≤ 14 := by
  have a := cd_hi hu
  have b := cd_lo w
  have c := p4le hl
  apply Nat.le_of_not_lt
  intro g
  have e : 4 ^ 15 ≤ 4 ^ w.length := p4le g
  have e2 : (4 : Nat) ^ 15 = 4 * 4 ^ 14 := by decide
  omega
/-- the least word that parts two, if one does -/
theorem least_un {A B : PM} (hA : okM A) (hB : okM B) (hl : pl B = pl A) {p q : Nat} (hp : p < pn A) (hq : q < pn B) {w : List Nat} (hw : vw (pl A) w) (hu : an A p w ≠ an B q w) (hl2 : ∀ u, vw (pl A) u → cd u < cd w → an A p u = an B q u) : w.length ≤ 14 := by
  have l3 := hA.2.1.2
  refine Classical.byContradiction fun hc => hu (moore hA hB hl hp hq (fun u hu hlu => hl2 u hu ?_) w hw)
  exact Nat.lt_of_not_le fun g => hc (cd_lt14 (vw_mono hu (by omega)) hlu g)
theorem FR_of {u : List Nat} (hu : vw 4 u) (hl : u.length ≤ 15) : FP FR u := by
  intro v y e
  subst e
  have h2 := vw_app.mp hu
  have h3 := cd_hi h2.1
  rw [List.length_append, List.length_singleton] at hl
  have h4 : 4 ^ v.length ≤ 4 ^ 14 := p4le (by omega)
  have e : (4 : Nat) ^ 14 = 268435456 := by decide
  unfold FR
  omega
def reOK (M : Mem) (r : Nat) (A : PM) : Prop := ∀ s, s < pn A → ∃ c, mJ M (r + 1) (8 * s + s) = lN c ∧ isRe (pl A) A s c
section Walk
variable {d r : Nat} {Q : Option Value → Mem → Prop} {M : Mem} {A B : PM} {a b : Nat}
theorem w_X5_firstUnlike {p q0 : Nat} (hd : 3 < d) (hs : SeaSh M r) (ha : MacSh M a) (hA0 : MacAt M a A) (hA : okM A) (hb : MacSh M b) (hB0 : MacAt M b B) (hB : okM B) (hl : pl B = pl A) (hp : p < pn A) (hq : q0 < pn B) (na : ∀ i, i < 3 → a + i ∉ [r, r + 1, r + 2]) (nb : ∀ i, i < 3 → b + i ∉ [r, r + 1, r + 2])
    (h : ∀ M' c, Sm [r, r + 1, r + 2] M M' → isFU (pl A) A p B q0 c → Q (some (.long (lN c))) M') : ClD d mdX5_firstUnlike [.ref r, .ref a, .int (nI p), .ref b, .int (nI q0)] M Q := by
  have l3 := hA.2.1.2
  refine w_fu hd hs ha hA0 hA hb hB0 hB hl hp hq na nb (fun M' w S hw hu hlst => h M' _ S (Or.inr ⟨w, hw, least_un hA hB hl hp hq hw hu hlst, rfl, hu, hlst⟩)) (fun M' q S hBA hBI heq => h M' 0 S (Or.inl ⟨rfl, ?_⟩))
  refine moore hA hB hl hp hq (fun u hu hlu => ?_)
  obtain ⟨k, k1, k2, -⟩ := hBI.all (by omega) FR_d (Nat.le_refl _) u hu (FR_of (vw_mono hu (by omega)) (by omega))
  have g := heq k k1
  obtain ⟨-, -, -, m4, m5⟩ := stP_lt hA hB hl hp hq (hBI.2.1 k k1).1
  obtain ⟨-, -, -, m4', m5'⟩ := stP_lt hA hB hl hp hq hu
  unfold nd at k2
  unfold an at g ⊢
  rw [← m4, ← m5, k2, m4', m5'] at g
  exact g
theorem w_X5_walk (hd : 4 < d) (hs : SeaSh M r) (ha : MacSh M a) (hA0 : MacAt M a A) (hA : okM A) (na : ∀ i, i < 3 → a + i ∉ [r, r + 1, r + 2])
    (h : ∀ M', Sm [r, r + 1, r + 2] M M' → reOK M' r A → Q none M') : ClD d mdX5_walk [.ref r, .ref a] M Q := by
  have l3 := hA.2.1.2
  have a8 := hA.1.2
  have a0 : 0 < pn A := hA.1.1
  refine ⟨4, hd, Cl.of moX5_walk (Nat.le_of_ble_eq_true rfl) (gX5_walk_0 hs.1.1 (w_fu (p := 0) (q0 := 0) (by decide) hs ha hA0 hA ha hA0 hA rfl a0 a0 na na (fun M' w S hw hu _ => absurd rfl hu) (fun M' q S hBA hBI heq => gX5_walk_8 ⟨rfl, h M' S ?_⟩)))⟩
  have hpair : ∀ {u}, vw (pl A) u → rn (stP A A) (8 * 0 + 0) u = 8 * rn (pt A) 0 u + rn (pt A) 0 u := fun hu => rn_pair hA hA rfl a0 a0 hu
  have hnd : ∀ k, k < q.length → nd (stP A A) (8 * 0 + 0) q k = 8 * rn (pt A) 0 (qk q k) + rn (pt A) 0 (qk q k) := fun k hk => hpair (hBI.2.1 k hk).1
  have hlen : q.length ≤ 8 := by
    have := nodup_le (nodup_of_ne (f := fun k => rn (pt A) 0 (qk q k)) (n := q.length) (fun x y h1 h2 e => hBI.2.2.2.1 x y h1 h2 (by
      have e : rn (pt A) 0 (qk q x) = rn (pt A) 0 (qk q y) := e
      rw [hnd x (by omega), hnd y h2, e]))) (K := List.range 8) (fun y hy => by
      obtain ⟨k, hk, rfl⟩ := List.mem_map.mp hy
      have hk : k < q.length := by simpa using hk
      have := rn_lt hA a0 (hBI.2.1 k hk).1
      simp; omega)
    simpa using this
  have hcl : ∀ u, vw (pl A) u → ∃ k, k < q.length ∧ nd (stP A A) (8 * 0 + 0) q k = rn (stP A A) (8 * 0 + 0) u := by
    intro u
    induction u using snoc_ind with
    | h0 => exact fun _ => ⟨0, hBI.1.1, by unfold nd; rw [hBI.1.2]⟩
    | h1 u x ih =>
      intro hu
      have h2 := vw_app.mp hu
      obtain ⟨k, k1, k2⟩ := ih h2.1
      have g := hBI.2.1 k k1
      obtain ⟨k', g1, g2⟩ := hBI.2.2.2.2.2.1 k x k1 (h2.2 x (by simp)) (Or.inl k1) (by
        have e1 := cd_hi (vw_mono g.1 (show pl A ≤ 4 by omega))
        have e2 : 4 ^ (qk q k).length ≤ 4 ^ 8 := p4le (by omega)
        have e3 : (4 : Nat) ^ 8 = 65536 := by decide
        unfold FR; omega)
      exact ⟨k', g1, by rw [g2, k2, rn_snoc]⟩
  intro s hs8
  by_cases hex : ∃ k, k < q.length ∧ nd (stP A A) (8 * 0 + 0) q k = 8 * s + s
  · obtain ⟨k, k1, k2⟩ := hex
    have g := hBI.2.1 k k1
    have e := hnd k k1
    refine ⟨cd (qk q k), by rw [← k2]; exact hBA.2.2.1 k k1, Or.inr ⟨qk q k, g.1, by omega, rfl, by omega, fun u hu he => hBI.2.2.2.2.1 k k1 u hu ?_⟩⟩
    rw [hpair hu, k2, he]
  · refine ⟨0, hBA.2.2.2 _ (by omega) (fun k hk e => hex ⟨k, hk, e⟩), Or.inl ⟨rfl, fun u hu he => ?_⟩⟩
    obtain ⟨k, k1, k2⟩ := hcl u hu
    exact hex ⟨k, k1, by rw [k2, hpair hu, he]⟩
end Walk
