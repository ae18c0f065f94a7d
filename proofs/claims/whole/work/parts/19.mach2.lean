/-! the class's Machine: what writes, what is drawn, what is parted -/
theorem upto (N : Nat) (P : Nat → Prop) (h : ∀ i, i ≤ N → (i < N → P (i + 1)) → P i) : ∀ i, i ≤ N → P i := by
  have key : ∀ f i, i + f = N → P i := by
    intro f
    induction f with
    | zero => intro i hi; exact h i (by omega) (fun q => by omega)
    | succ f ih => intro i hi; exact h i (by omega) (fun _ => ih (i + 1) (by omega))
  exact fun i hi => key (N - i) i (by omega)
def clM (A : PM) : Prop := ∀ s, s < pn A → ∀ x, x < pl A → pt A s x < pn A
section Mach2
variable {d r : Nat} {Q : Option Value → Mem → Prop} {M : Mem} {A : PM}
theorem w_X2_isClosed (hd : 2 < d) (hs : MacSh M r) (ha : MacAt M r A) (hb : bdM A) (h1 : clM A → Q (some (.int (nI 1))) M) (h2 : ¬ clM A → Q (some (.int (nI 0))) M) : ClD d mdX2_isClosed [.ref r] M Q := by
  have hn := hb.1
  have hm := hb.2.1
  have e0 := ha.1.1
  have e1 := ha.1.2
  refine ⟨2, hd, Cl.of moX2_isClosed (Nat.le_of_ble_eq_true rfl) (gX2_isClosed_0 ?_)⟩
  refine upto (pn A) (fun s => (∀ s', s' < s → ∀ x, x < pl A → pt A s' x < pn A) → Wp 2 mdX2_isClosed 2 [(0, .ref r), (1, .int (nI s))] [] M (fun r M' => ROK mdX2_isClosed r ∧ Q r M')) ?_ 0 (Nat.zero_le _) (fun _ h => by omega)
  intro s hs1 ih hinv
  refine gX2_isClosed_2 hs.1.1 (fun c => ⟨⟨_, rfl, by decide⟩, h1 ?_⟩) (fun c => ?_)
  · rw [e0, nI_leI (by omega) (by omega)] at c
    exact fun s' hs' => hinv s' (by omega)
  · have hsn : s < pn A := Nat.lt_of_not_le fun q => c (by rw [e0]; exact nI_le q (by omega))
    refine upto (pl A) (fun x => (∀ x', x' < x → pt A s x' < pn A) → Wp 2 mdX2_isClosed 12 [(0, .ref r), (1, .int (nI s)), (2, .int (nI x))] [] M (fun r M' => ROK mdX2_isClosed r ∧ Q r M')) ?_ 0 (Nat.zero_le _) (fun _ h => by omega)
    intro x hx1 ih2 hinv2
    refine gX2_isClosed_12 hs.1.1 (fun c1 => ?_) (fun c1 => ?_)
    · rw [e1, nI_leI (by omega) (by omega)] at c1
      rw [nI_add]
      refine ih hsn (fun s' hs' y hy => ?_)
      by_cases e : s' = s
      · subst e; exact hinv2 y (by omega)
      · exact hinv s' (by omega) y hy
    · have hxl : x < pl A := Nat.lt_of_not_le fun q => c1 (by rw [e1]; exact nI_le q (by omega))
      have hb4 := hb.2.2.2 s hsn x hxl
      refine w_X2_nextOf (by decide) hs ha hb (fun s' z hs' hz g1 g2 => ?_) (fun hc => ?_)
      · have q1 : s = s' := (nI_eq (by omega) (by omega)).mp g1
        have q2 : x = z := (nI_eq (by omega) (by omega)).mp g2
        subst q1; subst q2
        refine gX2_isClosed_26 hs.1.1 (fun c2 => ?_) (fun c2 => ⟨⟨_, rfl, by decide⟩, h2 (fun hcl => c2 ?_)⟩)
        · rw [e0, nI_ltI (by omega) (by omega)] at c2
          rw [nI_add]
          refine ih2 hxl (fun x' hx' => ?_)
          by_cases e : x' = x
          · subst e; exact c2
          · exact hinv2 x' (by omega)
        · rw [e0]; exact nI_lt (hcl _ hsn _ hxl) (by omega)
      · exfalso
        rcases hc with hc | hc | hc | hc
        · exact nI_pos (by omega) hc
        · exact nI_ge hsn (by omega) hc
        · exact nI_pos (by omega) hc
        · exact nI_ge hxl (by omega) hc
end Mach2
