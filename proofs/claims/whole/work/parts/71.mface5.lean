/-! the reference: its face, the guess and the tree -/
section MFh
variable {d m st sp N : Nat} {Q : Option Value → Mem → Prop} {Mz M M' : Mem} {A : PM} {p p' : PS} {X : List Nat} {R : List Int64}
theorem MoS.s3 (h : MoS Mz M m X A st sp p R) (S : Sm [m + 18, m + 19, m + 20] M M') : MoS Mz M' m X A st sp p R := h.fx S.x (h.1.2.1.sm S (fun q hq => by simp at hq; omega)) rfl
theorem MoS.g0 (h : MoS Mz M m X A st sp p R) : (qg p = none → mI M (m + 15) 0 = nI 0) ∧ ∀ g, qg p = some g → MoG M m 0 (some g) := h.1.2.1.gf
theorem w_X12_why {x : Int32} (hd : 3 < d) (hS : MoS Mz M m X A st sp p R) (h1 : (¬ ∃ s, s < 8 ∧ x = nI s) → Q (some (.int (-1 : Int32))) M) (h2 : ∀ s, s < 8 → x = nI s → qg p = none → Q (some (.int (-2 : Int32))) M) (h3 : ∀ s g, x = nI s → qg p = some g → s < pn g.2 → Q (some (.int (nI 0))) M) (h4 : ∀ s g, s < 8 → x = nI s → qg p = some g → ¬ s < pn g.2 → Q (some (.int (-1 : Int32))) M) : ClD d mdX12_why [.ref m, .int x] M Q := by
  have s1 := hS.sh.1
  have f20 := s1.f20
  refine ⟨3, hd, Cl.of moX12_why (Nat.le_of_ble_eq_true rfl) (gX12_why_0 ?_)⟩
  refine w_inI (a := 0) (b := 7) (by decide) (by decide) (by decide) (fun s _ hs es => gX12_why_9 s1.1 (by rw [f20.1]; exact f20.2.1) (fun _ => by rw [f20.1, f20.2.2]; exact z_in (by decide) (by decide)) (fun _ c => ?_) (fun _ c => ?_) (fun c => absurd c (by decide))) (fun hn => gX12_why_9 s1.1 (by rw [f20.1]; exact f20.2.1) (fun c => absurd rfl c) (fun c => absurd rfl c) (fun c => absurd rfl c) (fun _ => ⟨⟨_, rfl⟩, h1 (fun ⟨s, k1, k2⟩ => hn ⟨s, Nat.zero_le _, by omega, k2⟩)⟩))
  · rw [f20.1, nI_clamp (by decide)] at c
    cases hg : qg p with
    | none => rw [hS.g0.1 hg] at c; exact absurd rfl c
    | some g =>
      have G := hS.g0.2 g hg
      have g8 := G.2.2.2.1.1.2
      have hm1 : MoM M m 1 g.2 := G.2.2.1
      refine w_X12_isState (A := g.2) (by decide) s1 (by decide) hm1.1 g8 (fun s' hs' es' => gX12_why_34 (fun c => absurd c (by decide)) (fun _ => ⟨⟨_, rfl⟩, h3 s' g es' hg hs'⟩)) (fun hn => gX12_why_34 (fun _ => ⟨⟨_, rfl⟩, h4 s g (by omega) es hg (fun q => ?_)⟩) (fun c => absurd rfl c))
      rcases hn with q1 | q1
      · rw [es] at q1; exact nI_pos (by omega) q1
      · rw [es, nI_leI (by omega) (by omega)] at q1; omega
  · rw [f20.1, nI_clamp (by decide)] at c
    cases hg : qg p with
    | none => exact ⟨⟨_, rfl⟩, h2 s (by omega) es hg⟩
    | some g => rw [(hS.g0.2 g hg).1] at c; exact absurd c (by decide)
theorem w_X12_guessed {x y : Int32} (hd : 4 < d) (hS : MoS Mz M m X A st sp p R) (hI : PI A N p) (h : ∀ M', MoS Mz M' m X A st sp p R → ((¬ ∃ k, k ≤ pl A ∧ y = nI k) ∨ (¬ ∃ s, s < 8 ∧ x = nI s) → Q (some (.int (-1 : Int32))) M') ∧ ∀ s k, s < 8 → x = nI s → k ≤ pl A → y = nI k → (qg p = none → Q (some (.int (-2 : Int32))) M') ∧ ∀ g, qg p = some g → (¬ s < pn g.2 → Q (some (.int (-1 : Int32))) M') ∧ (s < pn g.2 → (k = 0 → Q (some (.int (nI (po g.2 s)))) M') ∧ ∀ z, z < pl A → k = z + 1 → Q (some (.int (nI (pt g.2 s z)))) M')) : ClD d mdX12_guessed [.ref m, .int x, .int y] M Q := by
  have hA := hS.sh.2
  have l3 := hA.2.1
  obtain ⟨M1, hM1⟩ : ∃ M1, M1 = sI M m 0 (nI 0) := ⟨_, rfl⟩
  have hS1 : MoS Mz M1 m X A st sp p R := by rw [hM1]; exact hS.th
  have s1 := hS1.sh.1
  have h := h M1 hS1
  refine ⟨4, hd, Cl.of moX12_guessed (Nat.le_of_ble_eq_true rfl) (gX12_guessed_0 hS.sh.1.1 ?_)⟩
  rw [← hM1, hS1.l3.1, nI_l (by omega)]
  refine w_inI (a := 0) (by decide) (by decide) (by omega) (fun k _ hk ek => gX12_guessed_16 s1.1 (fun c => absurd c (by decide)) (fun _ => ?_)) (fun hn => gX12_guessed_16 s1.1 (fun _ => ⟨⟨_, rfl⟩, h.1 (Or.inl (fun ⟨k, k1, k2⟩ => hn ⟨k, Nat.zero_le _, k1, k2⟩))⟩) (fun c => absurd rfl c))
  refine w_X12_why (by decide) hS1 (fun hn => gX12_guessed_24 s1.1 (fun c => absurd rfl c) (fun _ => ⟨⟨_, rfl⟩, h.1 (Or.inr hn)⟩)) (fun s hs es hg => gX12_guessed_24 s1.1 (fun _ => ?_) (fun c => absurd c (by decide))) (fun s g es hg hs => gX12_guessed_24 s1.1 (fun _ => ?_) (fun c => absurd c (by decide))) (fun s g hs es hg hn => gX12_guessed_24 s1.1 (fun c => absurd rfl c) (fun _ => ⟨⟨_, rfl⟩, ((h.2 s k hs es hk ek).2 g hg).1 hn⟩))
  · refine w_X12_why (by decide) hS1 (fun hn => absurd ⟨s, hs, es⟩ hn) (fun _ _ _ _ => gX12_guessed_35 s1.1 (fun c => absurd c (by decide)) (fun c => absurd c (by decide)) (fun _ => ⟨⟨_, rfl⟩, (h.2 s k hs es hk ek).1 hg⟩)) (fun _ g _ hg' _ => by rw [hg] at hg'; cases hg') (fun _ g _ _ hg' _ => by rw [hg] at hg'; cases hg')
  · have G := hS1.g0.2 g hg
    have g8 := G.2.2.2.1.1.2
    have hgu := hI.gu hA hg
    have hh := ((h.2 s k (by omega) es hk ek).2 g hg).2 hs
    have OK : Wp 4 mdX12_guessed 35 [(0, .ref m), (1, .int x), (2, .int y)] [.int (nI 0)] M1 (fun r M' => ROK mdX12_guessed r ∧ Q r M') := by
      refine gX12_guessed_35 s1.1 (fun _ c => ?_) (fun _ c => ?_) (fun c => absurd rfl c)
      · have k0 : 0 < k := Nat.pos_of_ne_zero (fun q => c (by rw [ek, q]; rfl))
        have hz := hh.2 (k - 1) (by omega) (by omega)
        rw [ek, es, z_sub (by omega)]
        exact w_X12_comes (by decide) s1 (by decide) G.2.2.1 G.2.2.2.1 hs (by rw [hgu.2.1]; omega) (gX12_guessed_63 ⟨⟨_, rfl⟩, hz⟩)
      · have hz : k = 0 := by
          have c : y = nI 0 := c
          rw [ek, nI_eq (by omega) (by decide)] at c; exact c
        rw [es]
        exact w_X12_shown (by decide) s1 (by decide) G.2.2.1 G.2.2.2.1 hs (gX12_guessed_51 (gX12_guessed_63 ⟨⟨_, rfl⟩, hh.1 hz⟩))
    refine w_X12_why (by decide) hS1 (fun hn => absurd ⟨s, by omega, es⟩ hn) (fun _ _ _ hg' => by rw [hg] at hg'; cases hg') (fun _ _ _ _ _ => OK) (fun s' g' hs' es' hg' hn => absurd ?_ hn)
    rw [hg] at hg'; cases hg'
    rw [es, nI_eq (by omega) (by omega)] at es'
    omega
theorem w_X12_access {x : Int32} (hd : 4 < d) (hS : MoS Mz M m X A st sp p R) (h : ∀ M', MoS Mz M' m X A st sp p R → ((¬ ∃ s, s < 8 ∧ x = nI s) → Q (some (.long (-1 : Int64))) M') ∧ ∀ s, s < 8 → x = nI s → (qg p = none → Q (some (.long (-2 : Int64))) M') ∧ ∀ g, qg p = some g → (¬ s < pn g.2 → Q (some (.long (-1 : Int64))) M') ∧ (s < pn g.2 → Q (some (.long (lN (cd (g.1.getD s []))))) M')) : ClD d mdX12_access [.ref m, .int x] M Q := by
  obtain ⟨M1, hM1⟩ : ∃ M1, M1 = sI M m 0 (nI 0) := ⟨_, rfl⟩
  have hS1 : MoS Mz M1 m X A st sp p R := by rw [hM1]; exact hS.th
  have s1 := hS1.sh.1
  have h := h M1 hS1
  have f21 := s1.f21
  have K : mK M1 (mR M1 m 21) = 2 := by rw [f21.1]; exact f21.2.1
  refine ⟨4, hd, Cl.of moX12_access (Nat.le_of_ble_eq_true rfl) (gX12_access_0 hS.sh.1.1 ?_)⟩
  rw [← hM1]
  have em1 : (-1 : Int32).toInt64 = (-1 : Int64) := by decide
  have em2 : (-2 : Int32).toInt64 = (-2 : Int64) := by decide
  refine w_X12_why (by decide) hS1 (fun hn => gX12_access_10 s1.1 K (fun c => absurd c (by decide)) (fun c => absurd c (by decide)) (fun _ => ?_)) (fun s hs es hg => gX12_access_10 s1.1 K (fun c => absurd c (by decide)) (fun c => absurd c (by decide)) (fun _ => ?_)) (fun s g es hg hs => gX12_access_10 s1.1 K (fun _ => ?_) (fun _ => ⟨⟨_, rfl⟩, ?_⟩) (fun c => absurd rfl c)) (fun s g hs es hg hn => gX12_access_10 s1.1 K (fun c => absurd c (by decide)) (fun c => absurd c (by decide)) (fun _ => ?_))
  · refine w_X12_why (by decide) hS1 (fun _ => gX12_access_18 ⟨⟨_, rfl⟩, by rw [em1]; exact h.1 hn⟩) (fun s hs es _ => absurd ⟨s, hs, es⟩ hn) (fun s g es hg hs => absurd ⟨s, by have := (hS1.g0.2 g hg).2.2.2.1.1.2; omega, es⟩ hn) (fun s g hs es _ _ => absurd ⟨s, hs, es⟩ hn)
  · refine w_X12_why (by decide) hS1 (fun hn => absurd ⟨s, hs, es⟩ hn) (fun _ _ _ _ => gX12_access_18 ⟨⟨_, rfl⟩, by rw [em2]; exact (h.2 s hs es).1 hg⟩) (fun _ g _ hg' _ => by rw [hg] at hg'; cases hg') (fun _ g _ _ hg' _ => by rw [hg] at hg'; cases hg')
  · have g8 := (hS1.g0.2 g hg).2.2.2.1.1.2
    rw [es, f21.1, f21.2.2]; exact z_in (by omega) (by decide)
  · have G := hS1.g0.2 g hg
    have g8 := G.2.2.2.1.1.2
    have := G.2.1 s (by rw [G.2.2.2.2]; exact hs)
    rw [show 8 * 0 + s = s by omega] at this
    rw [es, f21.1, nI_clamp (by omega), this]
    exact ((h.2 s (by omega) es).2 g hg).2 hs
  · refine w_X12_why (by decide) hS1 (fun hn => absurd ⟨s, hs, es⟩ hn) (fun _ _ _ hg' => by rw [hg] at hg'; cases hg') (fun s' g' es' hg' hs' => absurd ?_ hn) (fun _ _ _ _ _ _ => gX12_access_18 ⟨⟨_, rfl⟩, by rw [em1]; exact ((h.2 s hs es).2 g hg).1 hn⟩)
    rw [hg] at hg'; cases hg'
    have g8 := (hS1.g0.2 g hg).2.2.2.1.1.2
    rw [es, nI_eq (by omega) (by omega)] at es'
    omega
theorem w_X12_reads {x : Int64} (hd : 4 < d) (hS : MoS Mz M m X A st sp p R) (hI : PI A N p) (h1 : ∀ M', MoS Mz M' m X A st sp p R → ((¬ ∃ w, isW (pl A) x w) → Q (some (.int (-1 : Int32))) M') ∧ ∀ w, isW (pl A) x w → qg p = none → Q (some (.int (-2 : Int32))) M') (h2 : ∀ M' w g, isW (pl A) x w → qg p = some g → MoS Mz M' m X A st sp p [(nI (an g.2 0 w)).toInt64] → Q (some (.int (nI (rn (pt g.2) 0 w)))) M') : ClD d mdX12_reads [.ref m, .long x] M Q := by
  have hA := hS.sh.2
  have l3 := hA.2.1
  obtain ⟨M1, hM1⟩ : ∃ M1, M1 = sI M m 0 (nI 0) := ⟨_, rfl⟩
  have hS1 : MoS Mz M1 m X A st sp p R := by rw [hM1]; exact hS.th
  have s1 := hS1.sh.1
  have h1 := h1 M1 hS1
  have f20 := s1.f20
  have K : mK M1 (mR M1 m 20) = 3 := by rw [f20.1]; exact f20.2.1
  refine ⟨4, hd, Cl.of moX12_reads (Nat.le_of_ble_eq_true rfl) (gX12_reads_0 hS.sh.1.1 ?_)⟩
  rw [← hM1]
  refine w_X12_isWord (by decide) s1.1 hS1.l3.1 l3.1 l3.2 (fun w hw => gX12_reads_10 s1.1 K (fun _ => by rw [f20.1, f20.2.2]; exact z_in (by decide) (by decide)) (fun _ c => ?_) (fun _ c => ⟨⟨_, rfl⟩, ?_⟩) (fun c => absurd c (by decide))) (fun hn => gX12_reads_10 s1.1 K (fun c => absurd rfl c) (fun c => absurd rfl c) (fun c => absurd rfl c) (fun _ => ⟨⟨_, rfl⟩, h1.1 hn⟩))
  · rw [f20.1, nI_clamp (by decide)] at c
    cases hg : qg p with
    | none => rw [hS1.g0.1 hg] at c; exact absurd rfl c
    | some g =>
      have hgu := hI.gu hA hg
      have hS2 := hS1.nil
      have G := hS2.g0.2 g hg
      have hw0 := hw
      obtain ⟨w1, w2, w3⟩ := hw
      rw [w3]
      refine w_X12_answer (by decide) hS2.sh.1 (by decide) G.2.2.1 hgu.1 (by rw [hgu.2.1]; exact w1) w2 (gX12_reads_39 hS2.sh.1.1 (w_X12_enters (by decide) hS2 (by decide) (fun M3 S3 _ => gX12_reads_43 S3.sh.1.1 (w_X12_endInGuess (by decide) S3.sh.1 (by decide) (S3.g0.2 g hg) (by rw [hgu.2.1]; exact w1) w2 (gX12_reads_49 ⟨⟨_, rfl⟩, h2 M3 w g hw0 hg S3⟩)))))
  · rw [f20.1, nI_clamp (by decide)] at c
    cases hg : qg p with
    | none => exact h1.2 w hw hg
    | some g => rw [(hS1.g0.2 g hg).1] at c; exact absurd c (by decide)
theorem w_X12_errs (hd : 4 < d) (hS : MoS Mz M m X A st sp p R) (hI : PI A N p) (h : ∀ M', MoS Mz M' m X A st sp p R → (qg p = none → Q (some (.long (-2 : Int64))) M') ∧ ∀ g, qg p = some g → Q (some (.long (lN (fuC g.2 0 A 0)))) M') : ClD d mdX12_errs [.ref m] M Q := by
  obtain ⟨M1, hM1⟩ : ∃ M1, M1 = sI M m 0 (nI 0) := ⟨_, rfl⟩
  have hS1 : MoS Mz M1 m X A st sp p R := by rw [hM1]; exact hS.th
  have s1 := hS1.sh.1
  have f20 := s1.f20
  refine ⟨4, hd, Cl.of moX12_errs (Nat.le_of_ble_eq_true rfl) (gX12_errs_0 hS.sh.1.1 ?_ ?_ ?_ ?_)⟩ <;> rw [← hM1, f20.1]
  · exact hS.sh.1.f20.2.1
  · rw [f20.2.2]; exact z_in (by decide) (by decide)
  · rw [nI_clamp (by decide)]
    intro c
    cases hg : qg p with
    | none => exact ⟨⟨_, rfl⟩, (h M1 hS1).1 hg⟩
    | some g => rw [(hS1.g0.2 g hg).1] at c; exact absurd c (by decide)
  · rw [nI_clamp (by decide)]
    intro c
    cases hg : qg p with
    | none => rw [hS1.g0.1 hg] at c; exact absurd rfl c
    | some g => exact w_X12_wrongFirst (by decide) hS1.1.2.1 hI hg (fun M2 S2 P2 => gX12_errs_19 ⟨⟨_, rfl⟩, (h M2 (hS1.s3 S2)).2 g hg⟩)
theorem w_X12_like {x y : Int32} (hd : 3 < d) (hS : MoS Mz M m X A st sp p R) (h : ∀ M', MoS Mz M' m X A st sp p R → ((¬ ∃ s t, s < pn A ∧ t < pn A ∧ x = nI s ∧ y = nI t) → Q (some (.long (-1 : Int64))) M') ∧ ∀ s t, s < pn A → t < pn A → x = nI s → y = nI t → Q (some (.long (lN (fuC A s A t)))) M') : ClD d mdX12_like [.ref m, .int x, .int y] M Q := by
  have hA := hS.sh.2
  have a8 := hA.1.2
  obtain ⟨M1, hM1⟩ : ∃ M1, M1 = sI M m 0 (nI 0) := ⟨_, rfl⟩
  have hS1 : MoS Mz M1 m X A st sp p R := by rw [hM1]; exact hS.th
  have s1 := hS1.sh.1
  have l3 := hS1.l3
  have ne : ∀ {z : Int32}, (z < 0 ∨ nI (pn A) ≤ z) → ¬ ∃ t, t < pn A ∧ z = nI t := fun {z} hz => by
    rintro ⟨t, t1, t2⟩
    rcases hz with q | q
    · rw [t2] at q; exact nI_pos (by omega) q
    · rw [t2, nI_leI (by omega) (by omega)] at q; omega
  refine ⟨3, hd, Cl.of moX12_like (Nat.le_of_ble_eq_true rfl) (gX12_like_0 hS.sh.1.1 ?_)⟩
  rw [← hM1]
  refine w_X12_isState (by decide) s1 (by decide) l3.2.1 a8 (fun s hs es => gX12_like_11 s1.1 (fun c => absurd c (by decide)) (fun _ => ?_)) (fun hn => gX12_like_11 s1.1 (fun _ => ⟨⟨_, rfl⟩, (h M1 hS1).1 (fun ⟨s, t, q1, _, q3, _⟩ => ne hn ⟨s, q1, q3⟩)⟩) (fun c => absurd rfl c))
  refine w_X12_isState (by decide) s1 (by decide) l3.2.1 a8 (fun t ht et => gX12_like_20 s1.1 (fun c => absurd c (by decide)) (fun _ => ?_)) (fun hn => gX12_like_20 s1.1 (fun _ => ⟨⟨_, rfl⟩, (h M1 hS1).1 (fun ⟨s, t, _, q1, _, q3⟩ => ne hn ⟨t, q1, q3⟩)⟩) (fun c => absurd rfl c))
  rw [es, et]
  exact w_X12_firstUnlike (by decide) s1 (by decide) (by decide) l3.2 hA l3.2 hA rfl l3.1 hs ht (fun M2 S2 => gX12_like_31 ⟨⟨_, rfl⟩, (h M2 (hS1.s3 S2)).2 s t hs ht es et⟩)
end MFh
