/-! the class's face: what each method would cost -/
section XFh
variable {z d r b P st sp N : Nat} {Q : Option Value → Mem → Prop} {Mz M M' M1 : Mem} {A A' : PM} {p p' q : PS} {X : List Nat} {R : List Int64} {g : GU} {S : List Nat}
theorem CX.c50 (hS : CX Mz M X A st sp p R) (hc : CP 88 M 50 A st sp q) (F : Sm [2, 87] M M') : CP 88 M' 50 A st sp q :=
  hc.fm F.fm (fun x hx => by
    have l := hS.1.1.2.1.1.2.1
    have l : slq M 51 = 53 ∨ 88 ≤ slq M 51 := l
    simp at hx
    refine ⟨?_, by omega, by omega⟩
    show x ≠ slq M 51
    omega)
theorem w_X11_costs {x : Int32} (hd : 8 < d) (hS : CX Mz M X A st sp p R) (h1 : ∀ M', CX Mz M' X A st sp p R → (¬ ∃ k, k ≤ 3 ∧ x = nI k) → Q (some (.int (-1 : Int32))) M')
    (h2 : ∀ M' k, k ≤ 3 → x = nI k → CX Mz M' X A st sp p (csR A st sp k) → Q (some (.int (csV A st sp k))) M') : ClD d mdX11_costs [.ref 2, .int x] M Q := by
  have r := hS.r
  have p50 := hS.1.1.1.2.2.2.2.2
  have e5 : mR M 2 5 = 50 := r.2.1
  refine ⟨8, hd, Cl.of moX11_costs (Nat.le_of_ble_eq_true rfl) (gX11_costs_0 hS.k (by rw [e5]; exact p50.1.1) (fun c => ⟨⟨_, rfl⟩, h1 M hS ?_⟩) (fun c c2 => ?_) (fun c c2 => ⟨⟨_, rfl⟩, h1 M hS ?_⟩))⟩
  · rintro ⟨k, k1, k2⟩
    rw [k2] at c; exact nI_pos (by omega) c
  · obtain ⟨k, k1, k2⟩ := nI_of c
    rw [k2, nI_ltI k1 (by decide)] at c2
    have h2 := fun M' => h2 M' k (by omega) k2
    unfold csR csV at h2
    rw [e5, k2]
    refine ClD.mono (w_thought (Q := fun r1 M1 => Wp 8 mdX11_costs 26 [(0, .ref 2)] (r1.toList ++ []) M1 (fun r M' => ROK mdX11_costs r ∧ Q r M')) (W := fun M1 => Wp 8 mdX11_costs 19 [(0, .ref 2)] [] M1 (fun r M' => ROK mdX11_costs r ∧ Q r M')) (mm := k) (by omega) hS (fun M2 hS2 C2 s2 => ?_) (by decide) (fun M1 hS1 p1 hl => ?_)) (fun r1 M1 q => ?_)
    · obtain ⟨L, hL⟩ : ∃ L, L = cstF A st sp k := ⟨_, rfl⟩
      rw [← hL] at C2 s2 h2
      refine gX11_costs_26 hS2.k (w_X11_clearNumbers (by decide) hS2 (fun M3 hS3 S3 => ?_))
      have C3 := hS2.c50 C2 S3
      have B : ∀ {M3 R3}, CX Mz M3 X A st sp p R3 → CP 88 M3 50 A st sp L.2 → (mR M3 2 5 = 50 ∧ mR M3 50 0 = 51 ∧ mR M3 51 1 = 52 ∧ mR M3 50 3 = bP 50 L.2) ∧ (mK M3 50 = 6 ∧ mK M3 51 = 4 ∧ mK M3 52 = 12) ∧ (mI M3 52 0 = nI (qs L.2).1.length ∧ mI M3 51 4 = nI (qs L.2).2) ∧ mI M3 (bP 50 L.2) 6 = nI (ql L.2) ∧ (mI M3 (bP 50 L.2 + 1) 0 = nI (qH L.2).length ∧ mI M3 (bP 50 L.2 + 3) 0 = nI (qT L.2).length) ∧ ∃ cn, NT cn ∧ mK M3 (bP 50 L.2) = cn + 4 ∧ NotSh M3 (bP 50 L.2) 51 cn := fun {M3 R3} h3 c3 => by
        obtain ⟨m12, m6, mht, -, ⟨k6, e0, e3, k4, e1, k12⟩, cn, nt, n0, n1, -, -⟩ := c3.mn
        exact ⟨⟨h3.r.2.1, e0, e1, e3⟩, ⟨k6, k4, k12⟩, m12, m6, mht, cn, n0, n1, nt⟩
      obtain ⟨⟨e5', e0, e1, e3⟩, ⟨k6, k4, k12⟩, m12, -⟩ := B hS3 C3
      refine gX11_costs_30 hS3.k (by rw [e5']; exact k6) (by rw [e5', e0]; exact k4) (by rw [e5', e0, e1]; exact k12) ?_
      rw [e5', e0, e1, m12.1]
      refine w_X11_put (by decide) hS3 (by decide) (fun M4 hS4 S4 => ?_)
      have C4 := hS3.c50 C3 S4
      obtain ⟨⟨e5', e0, e1, e3⟩, ⟨k6, k4, k12⟩, -, m6, -, cn, n0, n1, nt⟩ := B hS4 C4
      refine gX11_costs_48 hS4.k (by rw [e5']; exact k6) n0 (by rw [e5', e3]; exact n1) ?_
      rw [e5', e3, m6]
      refine w_X11_put (by decide) hS4 (by show 1 < 8; decide) (fun M5 hS5 S5 => ?_)
      have C5 := hS4.c50 C4 S5
      have s5 : mI M5 50 5 = nI L.1 := by rw [S5.I (by simp), S4.I (by simp), S3.I (by simp)]; exact s2
      obtain ⟨⟨e5', e0, e1, e3⟩, ⟨k6, k4, k12⟩, -, -⟩ := B hS5 C5
      refine gX11_costs_63 hS5.k (by rw [e5']; exact k6) ?_
      rw [e5', s5]
      refine w_X11_put (by decide) hS5 (by show 2 < 8; decide) (fun M6 hS6 S6 => ?_)
      have C6 := hS5.c50 C5 S6
      obtain ⟨⟨e5', e0, e1, e3⟩, ⟨k6, k4, k12⟩, -, -, mht, cn, n0, n1, nt⟩ := B hS6 C6
      have n21 : mR M6 (bP 50 L.2) 1 = bP 50 L.2 + 1 := nt.2.1.2.1
      refine gX11_costs_75 hS6.k (by rw [e5']; exact k6) n0 (by rw [e5', e3]; exact n1) (by rw [e5', e3, n21]; exact nt.2.2.1.1) ?_
      rw [e5', e3, n21, mht.1]
      refine w_X11_put (by decide) hS6 (by show 3 < 8; decide) (fun M7 hS7 S7 => ?_)
      have C7 := hS6.c50 C6 S7
      obtain ⟨⟨e5', e0, e1, e3⟩, ⟨k6, k4, k12⟩, -, -, mht, cn, n0, n1, nt⟩ := B hS7 C7
      have n22 : mR M7 (bP 50 L.2) 2 = bP 50 L.2 + 3 := nt.2.1.2.2.1
      refine gX11_costs_93 hS7.k (by rw [e5']; exact k6) n0 (by rw [e5', e3]; exact n1) (by rw [e5', e3, n22]; exact nt.2.2.2.1.1) ?_
      rw [e5', e3, n22, mht.2]
      refine w_X11_put (by decide) hS7 (by show 4 < 8; decide) (fun M8 hS8 S8 => ?_)
      have C8 := hS7.c50 C7 S8
      obtain ⟨⟨e5', e0, e1, e3⟩, ⟨k6, k4, k12⟩, m12, -⟩ := B hS8 C8
      refine gX11_costs_111 hS8.k (by rw [e5']; exact k6) (by rw [e5', e0]; exact k4) ⟨⟨_, rfl⟩, ?_⟩
      rw [e5', e0, m12.2]
      exact h2 M8 hS8
    · refine gX11_costs_19 hS1.k (by rw [hS1.r.2.1]; exact p1.1.1) ?_
      rw [hS1.r.2.1]; exact hl
    · obtain ⟨q1, q2⟩ := q
      rw [q1]; exact q2
  · rintro ⟨k, k1, k2⟩
    rw [k2, nI_ltI (by omega) (by decide)] at c2; omega
theorem w_X11_cheapest (hd : 8 < d) (hS : CX Mz M X A st sp p R) (h : ∀ M', CX Mz M' X A st sp p (chR A st sp 4) → Q (some (.int (nI (chF (csV A st sp) 4).1))) M') : ClD d mdX11_cheapest [.ref 2] M Q := by
  refine ⟨8, hd, Cl.of moX11_cheapest (Nat.le_of_ble_eq_true rfl) (gX11_cheapest_0 hS.k (w_X11_clearNumbers (by decide) hS (fun M1 hS1 _ => gX11_cheapest_8 ?_)))⟩
  refine upto 4 (fun k => ∀ M1, CX Mz M1 X A st sp p (chR A st sp k) → Wp 8 mdX11_cheapest 10 [(0, .ref 2), (1, .int (nI (chF (csV A st sp) k).1)), (2, .int (chF (csV A st sp) k).2), (3, .int (nI k))] [] M1 (fun r M' => ROK mdX11_cheapest r ∧ Q r M')) ?_ 0 (Nat.zero_le _) M1 hS1

  intro k hk ih M1 hS1
  have p50 := hS1.1.1.1.2.2.2.2.2
  have e5 : mR M1 2 5 = 50 := hS1.r.2.1
  refine gX11_cheapest_10 hS1.k (by rw [e5]; exact p50.1.1) (fun c => ⟨⟨_, rfl⟩, ?_⟩) (fun c => ?_) <;> rw [nI_leI (by decide) (by omega)] at c
  · have e : k = 4 := by omega
    subst e
    exact h M1 hS1
  · obtain ⟨cv0, hcv⟩ : ∃ c : Nat → Int32, c = csV A st sp := ⟨_, rfl⟩
    have ev : cv0 k = nI (qs (cstF A st sp k).2).2 := by rw [hcv]; rfl
    rw [← hcv] at ih ⊢
    obtain ⟨v1, hv1⟩ : ∃ v1, v1 = nI (chF cv0 k).1 := ⟨_, rfl⟩
    obtain ⟨v2, hv2⟩ : ∃ v2, v2 = (chF cv0 k).2 := ⟨_, rfl⟩
    rw [← hv1, ← hv2, e5]
    refine ClD.mono (w_thought (Q := fun r1 M1 => Wp 8 mdX11_cheapest 30 [(0, .ref 2), (1, .int v1), (2, .int v2), (3, .int (nI k))] (r1.toList ++ []) M1 (fun r M' => ROK mdX11_cheapest r ∧ Q r M')) (W := fun M1 => Wp 8 mdX11_cheapest 23 [(0, .ref 2), (1, .int v1), (2, .int v2), (3, .int (nI k))] [] M1 (fun r M' => ROK mdX11_cheapest r ∧ Q r M')) (mm := k) (by omega) hS1 (fun M2 hS2 C2 s2 => ?_) (by decide) (fun M2 hS2 p2 hl => ?_)) (fun r1 M1 q => ?_)
    · obtain ⟨m12, -, -, -, ⟨k6, e0, e3, k4, -, -⟩, -⟩ := C2.mn
      have e52 : mR M2 2 5 = 50 := hS2.r.2.1
      have m4 : mI M2 51 4 = cv0 k := by rw [ev]; exact m12.2
      refine gX11_cheapest_30 hS2.k (by rw [e52]; exact k6) (by rw [e52, e0]; exact k4) ?_
      rw [e52, e0, m4]
      refine w_X11_put (by decide) hS2 (by rw [chR_len]; omega) (fun M3 hS3 S3 => ?_)
      have nx := ih (by omega) M3 (by rw [chR_s, ← hcv]; exact hS3)
      have YES : (k = 0 ∨ cv0 k < (chF cv0 k).2) → Wp 8 mdX11_cheapest 59 [(0, .ref 2), (3, .int (nI k)), (4, .int (cv0 k))] [] M3 (fun r M' => ROK mdX11_cheapest r ∧ Q r M') := fun q => by
        refine gX11_cheapest_59 ?_
        rw [nI_add]
        rw [show chF cv0 (k + 1) = (k, cv0 k) from if_pos q] at nx
        exact nx
      refine gX11_cheapest_49 (fun c2 => YES (Or.inl ?_)) (fun c2 c3 => ?_) (fun c2 c3 => YES (Or.inr (by rw [hv2] at c3; exact Int32.not_le.mp c3)))
      · have c2 : nI k = nI 0 := c2
        rw [nI_eq (by omega) (by decide)] at c2; exact c2
      · rw [nI_add, hv1, hv2]
        rw [hv2] at c3
        rw [show chF cv0 (k + 1) = chF cv0 k from if_neg (fun q => by
          rcases q with q | q
          · subst q; exact c2 rfl
          · exact Int32.not_le.mpr q c3)] at nx
        exact nx
    · refine gX11_cheapest_23 hS2.k (by rw [hS2.r.2.1]; exact p2.1.1) ?_
      rw [hS2.r.2.1]; exact hl
    · obtain ⟨q1, q2⟩ := q
      rw [q1]; exact q2
end XFh
