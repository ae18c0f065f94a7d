/-! the class's face: the guess -/
section XFd
variable {z d r b P st sp N : Nat} {Q : Option Value → Mem → Prop} {Mz M M' M1 : Mem} {A A' : PM} {p p' : PS} {X : List Nat} {R : List Int64} {g : GU}
/-- the lists of a pupil -/
theorem CP.lst (hc : CP z M P A st sp p) : (LstAt M (bP P p + 1) (qH p) ∧ LstAt M (bP P p + 3) (qT p)) ∧ mI M (bP P p) 6 = nI (ql p) ∧ okV A (qH p) ∧ okV A (qT p) := by
  unfold bP
  by_cases c : qm p = 3
  · obtain ⟨-, s, -, ri, ⟨-, i6⟩, -⟩ := hc.2.2.2.1 c
    rw [if_pos c]
    exact ⟨ri.2.2.1, i6, ri.2.2.2.1.1, ri.2.2.2.1.2⟩
  · obtain ⟨-, s, -, tp1, ⟨-, i6⟩, -⟩ := hc.2.2.1 c
    have tp : TI z M (P + 4) (P + 1) A st sp s (qH p) (qT p) ∧ True := ⟨tp1, trivial⟩
    rw [if_neg c]
    exact ⟨tp.1.2.2.1, i6, tp.1.2.2.2.1.1, tp.1.2.2.2.1.2⟩
theorem eo_pos' {o : Option Nat} (h : 0 ≤ eo o) : o ≠ none := fun e => by rw [e] at h; exact absurd h (by decide)
/-- what the guess's face asks of the pupil -/
theorem CX.gg (hS : CX Mz M X A st sp p R) : ∃ cn bb, bb = bP 18 p ∧ NotSh M bb 19 cn ∧ NT cn ∧ mK M bb = cn + 4 ∧ mR M (mR M 2 4) 3 = bb ∧ mR M bb 4 = bb + 7 ∧ MacSh M (bb + 7) ∧ GueAt M bb (qg p) ∧ (bb = 22 ∨ bb = 38) ∧ mK M (mR M 2 4) = 6 ∧ mR M 2 4 = 18 := by
  have hc := hS.1.2.2.1
  have e4 : mR M 2 4 = 18 := hS.r.1.2.2.2.2
  obtain ⟨⟨cn, n1, -, -⟩, n2, n3⟩ := hc.gue
  refine ⟨cn, bP 18 p, rfl, n1, n1.1.1, n1.1.2, by rw [e4]; exact n3, n1.2.1.2.2.2.2, n1.2.2.2.2.2, n2, by unfold bP; split <;> omega, by rw [e4]; exact hc.1.1.1, e4⟩
theorem w_fuX {a b : Nat} {B C : PM} {s t : Nat} (hd : 3 < d) (hS : CX Mz M X A st sp p R) (ha : MacSh M a) (hB0 : MacAt M a B) (hB : okM B) (hb : MacSh M b) (hC0 : MacAt M b C) (hC : okM C) (hl : pl C = pl B) (hs : s < pn B) (ht : t < pn C) (na : a + 2 < 13 ∨ 15 < a) (nb : b + 2 < 13 ∨ 15 < b) (h : ∀ M', CX Mz M' X A st sp p R → Sm [13, 14, 15] M M' → Q (some (.long (lN (fuC B s C t)))) M') : ClD d mdX5_firstUnlike [.ref 13, .ref a, .int (nI s), .ref b, .int (nI t)] M Q :=
  w_X5_firstUnlike hd hS.1.1.2.2 ha hB0 hB hb hC0 hC hl hs ht (fun i hi hm => by simp at hm; omega) (fun i hi hm => by simp at hm; omega) (fun M1 c S1 hc => by
    rw [← fuC_of hc]
    exact h M1 (hS.fs S1 (fun q hq => by simp at hq; unfold frL; omega)) S1)
theorem w_X11_like {x y : Int32} (hd : 4 < d) (hS : CX Mz M X A st sp p R) (h : ∀ M', CX Mz M' X A st sp p R → ((¬ ∃ s t, s < pn A ∧ t < pn A ∧ x = nI s ∧ y = nI t) → Q (some (.long (-1 : Int64))) M') ∧ ∀ s t, s < pn A → t < pn A → x = nI s → y = nI t → Q (some (.long (lN (fuC A s A t)))) M') : ClD d mdX11_like [.ref 2, .int x, .int y] M Q := by
  have hA := hS.ok
  have a8 := hA.1.2
  have m3 := hS.1.m3
  have r := hS.r
  have sea := hS.1.1.2.2
  refine ⟨4, hd, Cl.of moX11_like (Nat.le_of_ble_eq_true rfl) (gX11_like_0 hS.k (by rw [r.1.1]; exact m3.1.1.1) (by rw [r.1.2.2.2.1]; exact sea.1.1) (fun c => ⟨⟨_, rfl⟩, (h M hS).1 ?_⟩) (fun c c2 => ⟨⟨_, rfl⟩, (h M hS).1 ?_⟩) (fun c c2 c3 => ⟨⟨_, rfl⟩, (h M hS).1 ?_⟩) (fun c c2 c3 c4 => ?_) (fun c c2 c3 c4 => ⟨⟨_, rfl⟩, (h M hS).1 ?_⟩))⟩
  · rintro ⟨s, t, q1, q2, q3, q4⟩
    rw [q3] at c; exact nI_pos (by omega) c
  · rintro ⟨s, t, q1, q2, q3, q4⟩
    rw [q3, r.1.1, m3.2.1.1, nI_leI (by omega) (by omega)] at c2; omega
  · rintro ⟨s, t, q1, q2, q3, q4⟩
    rw [q4] at c3; exact nI_pos (by omega) c3
  · obtain ⟨s, s1, s2⟩ := nI_of c
    obtain ⟨t, t1, t2⟩ := nI_of c3
    rw [s2, r.1.1, m3.2.1.1, nI_leI (by omega) s1] at c2
    rw [t2, r.1.1, m3.2.1.1, nI_ltI t1 (by omega)] at c4
    rw [r.1.1, r.1.2.2.2.1, s2, t2]
    exact w_fuX (by decide) hS m3.1 m3.2 hA m3.1 m3.2 hA rfl (by omega) c4 (by decide) (by decide) (fun M1 hS1 _ => gX11_like_51 ⟨⟨_, rfl⟩, (h M1 hS1).2 s t (by omega) c4 s2 t2⟩)
  · rintro ⟨s, t, q1, q2, q3, q4⟩
    rw [q4, r.1.1, m3.2.1.1, nI_ltI (by omega) (by omega)] at c4; omega
theorem w_X11_refuseGuessed {x : Int32} (hd : 2 < d) (hS : CX Mz M X A st sp p R) (h1 : (¬ ∃ s, s < 8 ∧ x = nI s) → Q (some (.int (-1 : Int32))) M) (h2 : ∀ s, s < 8 → x = nI s → qg p = none → Q (some (.int (-2 : Int32))) M) (h3 : ∀ s g, x = nI s → qg p = some g → s < pn g.2 → Q (some (.int (nI 0))) M) (h4 : ∀ s g, s < 8 → x = nI s → qg p = some g → ¬ s < pn g.2 → Q (some (.int (-1 : Int32))) M) : ClD d mdX11_refuseGuessed [.ref 2, .int x] M Q := by
  obtain ⟨cn, bb, -, nt, n0, n1, n2, n3, n4, n5, -, k6, -⟩ := hS.gg
  refine ⟨2, hd, Cl.of moX11_refuseGuessed (Nat.le_of_ble_eq_true rfl) (gX11_refuseGuessed_0 hS.k k6 n0 (by rw [n2]; exact n1) (fun c => ⟨⟨_, rfl⟩, h1 ?_⟩) (fun c c2 => ?_) (fun c c2 => ⟨⟨_, rfl⟩, h1 ?_⟩))⟩
  · rintro ⟨s, s1, s2⟩
    rw [s2] at c; exact nI_pos (by omega) c
  · obtain ⟨s, s1, s2⟩ := nI_of c
    rw [s2, nI_ltI s1 (by decide)] at c2
    rw [n2]
    refine w_X3_hasGuess (by decide) nt n5 (fun e => gX11_refuseGuessed_22 hS.k k6 n0 (by rw [n2]; exact n1) (by rw [n2, n3]; exact n4.1.1) (fun c => absurd rfl c) (fun c => absurd rfl c) (fun _ => ⟨⟨_, rfl⟩, h2 s c2 s2 e⟩)) (fun g e => ?_)
    rw [e] at n5
    have e0 : mI M (mR M (mR M (mR M 2 4) 3) 4) 0 = nI (pn g.2) := by rw [n2, n3]; exact n5.1.2.1.1
    have g8 := n5.2.1.1.2
    refine gX11_refuseGuessed_22 hS.k k6 n0 (by rw [n2]; exact n1) (by rw [n2, n3]; exact n4.1.1) (fun _ c3 => ⟨⟨_, rfl⟩, h4 s g c2 s2 e ?_⟩) (fun _ c3 => ⟨⟨_, rfl⟩, h3 s g s2 e ?_⟩) (fun c => absurd c (by decide)) <;> rw [e0, s2, nI_leI (by omega) (by omega)] at c3 <;> omega
  · rintro ⟨s, s1, s2⟩
    rw [s2, nI_ltI (by omega) (by decide)] at c2; omega
theorem w_X11_guessed {x y : Int32} (hd : 3 < d) (hS : CX Mz M X A st sp p R) (hI : PI A N p) (h : ∀ M', CX Mz M' X A st sp p R → ((¬ ∃ k, k ≤ pl A ∧ y = nI k) ∨ (¬ ∃ s, s < 8 ∧ x = nI s) → Q (some (.int (-1 : Int32))) M') ∧ ∀ s k, s < 8 → x = nI s → k ≤ pl A → y = nI k → (qg p = none → Q (some (.int (-2 : Int32))) M') ∧ ∀ g, qg p = some g → (¬ s < pn g.2 → Q (some (.int (-1 : Int32))) M') ∧ (s < pn g.2 → (k = 0 → Q (some (.int (nI (po g.2 s)))) M') ∧ ∀ z, z < pl A → k = z + 1 → Q (some (.int (nI (pt g.2 s z)))) M')) : ClD d mdX11_guessed [.ref 2, .int x, .int y] M Q := by
  have hA := hS.ok
  have l3 := hA.2.1.2
  have m3 := hS.1.m3
  have r := hS.r
  have h := h M hS
  obtain ⟨cn, bb, -, nt, n0, n1, n2, n3, n4, n5, -, k6, -⟩ := hS.gg
  have el : mI M (mR M 2 0) 1 = nI (pl A) := by rw [r.1.1]; exact m3.2.1.2
  have K2 : mK M (mR M (mR M 2 4) 3) = cn + 4 := by rw [n2]; exact n1
  have K3 : mK M (mR M (mR M (mR M 2 4) 3) 4) = 5 := by rw [n2, n3]; exact n4.1.1
  refine ⟨3, hd, Cl.of moX11_guessed (Nat.le_of_ble_eq_true rfl) (gX11_guessed_0 hS.k (by rw [r.1.1]; exact m3.1.1.1) (fun c => ⟨⟨_, rfl⟩, h.1 (Or.inl ?_)⟩) (fun c c2 => ?_) (fun c c2 => ⟨⟨_, rfl⟩, h.1 (Or.inl ?_)⟩))⟩
  · rintro ⟨k, k1, k2⟩
    rw [k2] at c; exact nI_pos (by omega) c
  · obtain ⟨k, k1, k2⟩ := nI_of c
    rw [k2, el, nI_leI k1 (by omega)] at c2
    refine w_X11_refuseGuessed (by decide) hS (fun hn => gX11_guessed_22 hS.k k6 n0 K2 K3 (fun c => absurd c (by decide)) (fun _ => gX11_guessed_46 ⟨⟨_, rfl⟩, h.1 (Or.inr hn)⟩)) (fun s hs es eg => gX11_guessed_22 hS.k k6 n0 K2 K3 (fun c => absurd c (by decide)) (fun _ => gX11_guessed_46 ⟨⟨_, rfl⟩, (h.2 s k hs es c2 k2).1 eg⟩)) (fun s g es eg hs => gX11_guessed_22 hS.k k6 n0 K2 K3 (fun _ => ?_) (fun c => absurd (by decide) c)) (fun s g hs es eg hn => gX11_guessed_22 hS.k k6 n0 K2 K3 (fun c => absurd c (by decide)) (fun _ => gX11_guessed_46 ⟨⟨_, rfl⟩, ((h.2 s k hs es c2 k2).2 g eg).1 hn⟩))
    rw [eg] at n5
    have g8 := n5.2.1.1.2
    have hgu := hI.gu hA eg
    have hh := ((h.2 s k (by omega) es c2 k2).2 g eg).2 hs
    rw [n2, n3]
    refine w_X2_look (by decide) n4 n5.1.2 n5.2.1.bd (fun s' hs' es' ey => gX11_guessed_46 ⟨⟨_, rfl⟩, ?_⟩) (fun s' z hs' hz es' ez => gX11_guessed_46 ⟨⟨_, rfl⟩, ?_⟩) (fun q => ?_)
    · have e : s' = s := by rw [es, nI_eq (by omega) (by omega)] at es'; omega
      have ek : k = 0 := by
        have ey : y = nI 0 := ey
        rw [k2, nI_eq k1 (by decide)] at ey; exact ey
      rw [e]; exact hh.1 ek
    · have e : s' = s := by rw [es, nI_eq (by omega) (by omega)] at es'; omega
      have ek : k = z + 1 := by
        rw [hgu.2.1] at hz
        rw [k2, nI_eq k1 (by omega)] at ez; exact ez
      rw [e]; exact hh.2 z (by rw [← hgu.2.1]; exact hz) ek
    · exfalso
      rw [es, k2, hgu.2.1] at q
      rcases q with q | q | q | q
      · exact nI_pos (by omega) q
      · rw [nI_leI (by omega) (by omega)] at q; omega
      · exact nI_pos k1 q
      · rw [nI_ltI (by omega) k1] at q; omega
  · rintro ⟨k, k1, k2⟩
    rw [k2, el, nI_leI (by omega) (by omega)] at c2; exact c2 k1
theorem w_X11_access {x : Int32} (hd : 3 < d) (hS : CX Mz M X A st sp p R) (h : ∀ M', CX Mz M' X A st sp p R → ((¬ ∃ s, s < 8 ∧ x = nI s) → Q (some (.long (-1 : Int64))) M') ∧ ∀ s, s < 8 → x = nI s → (qg p = none → Q (some (.long (-2 : Int64))) M') ∧ ∀ g, qg p = some g → (¬ s < pn g.2 → Q (some (.long (-1 : Int64))) M') ∧ (s < pn g.2 → Q (some (.long (lN (cd (g.1.getD s []))))) M')) : ClD d mdX11_access [.ref 2, .int x] M Q := by
  have h := h M hS
  obtain ⟨cn, bb, -, nt, n0, n1, n2, n3, n4, n5, -, k6, -⟩ := hS.gg
  have n33 : mR M bb 3 = bb + 5 := nt.2.1.2.2.2.1
  have ls := nt.2.2.2.2.1
  have em1 : (-1 : Int32).toInt64 = (-1 : Int64) := by decide
  have em2 : (-2 : Int32).toInt64 = (-2 : Int64) := by decide
  have K2 : mK M (mR M (mR M 2 4) 3) = cn + 4 := by rw [n2]; exact n1
  have K3 : mK M (mR M (mR M (mR M 2 4) 3) 3) = 11 := by rw [n2, n33]; exact ls.1
  refine ⟨3, hd, Cl.of moX11_access (Nat.le_of_ble_eq_true rfl) (gX11_access_0 hS.k (w_X11_refuseGuessed (by decide) hS (fun hn => gX11_access_5 hS.k k6 n0 K2 K3 (fun c => absurd c (by decide)) (fun _ => gX11_access_29 ⟨⟨_, rfl⟩, by rw [em1]; exact h.1 hn⟩)) (fun s hs es eg => gX11_access_5 hS.k k6 n0 K2 K3 (fun c => absurd c (by decide)) (fun _ => gX11_access_29 ⟨⟨_, rfl⟩, by rw [em2]; exact (h.2 s hs es).1 eg⟩)) (fun s g es eg hs => gX11_access_5 hS.k k6 n0 K2 K3 (fun _ => ?_) (fun c => absurd (by decide) c)) (fun s g hs es eg hn => gX11_access_5 hS.k k6 n0 K2 K3 (fun c => absurd c (by decide)) (fun _ => gX11_access_29 ⟨⟨_, rfl⟩, by rw [em1]; exact ((h.2 s hs es).2 g eg).1 hn⟩))))⟩
  rw [eg] at n5
  have g8 := n5.2.1.1.2
  have hh := ((h.2 s (by omega) es).2 g eg).2 hs
  rw [n2, n33, es]
  exact w_lget (by decide) ls n5.1.1 (by rw [n5.2.2]; exact g8) (by decide) (by rw [n5.2.2]; exact hs) (gX11_access_29 ⟨⟨_, rfl⟩, hh⟩)
theorem w_X11_reads {x : Int64} (hd : 3 < d) (hS : CX Mz M X A st sp p R) (hI : PI A N p) (h1 : ∀ M', CX Mz M' X A st sp p R → ((¬ ∃ w, isW (pl A) x w) → Q (some (.int (-1 : Int32))) M') ∧ ∀ w, isW (pl A) x w → qg p = none → Q (some (.int (-2 : Int32))) M') (h2 : ∀ M' w g, isW (pl A) x w → qg p = some g → CX Mz M' X A st sp p [(nI (an g.2 0 w)).toInt64] → Q (some (.int (nI (rn (pt g.2) 0 w)))) M') : ClD d mdX11_reads [.ref 2, .long x] M Q := by
  have hA := hS.ok
  have l3 := hA.2.1.2
  have h1 := h1 M hS
  obtain ⟨cn, bb, ebb, nt, n0, n1, n2, n3, n4, n5, nb, k6, -⟩ := hS.gg
  have K2 : mK M (mR M (mR M 2 4) 3) = cn + 4 := by rw [n2]; exact n1
  refine ⟨3, hd, Cl.of moX11_reads (Nat.le_of_ble_eq_true rfl) (gX11_reads_0 hS.k (w_X11_isNoWord (by decide) hS (fun w hw => gX11_reads_5 hS.k k6 n0 K2 (fun _ => ?_) (fun c => absurd rfl c)) (fun hn => gX11_reads_5 hS.k k6 n0 K2 (fun c => absurd c (by decide)) (fun _ => ⟨⟨_, rfl⟩, h1.1 hn⟩))))⟩
  rw [n2]
  refine w_X3_hasGuess (by decide) nt n5 (fun e => gX11_reads_22 n0 n1 (by rw [n3]; exact n4.1.1) (fun c => absurd rfl c) (fun _ => ⟨⟨_, rfl⟩, h1.2 w hw e⟩)) (fun g e => gX11_reads_22 n0 n1 (by rw [n3]; exact n4.1.1) (fun _ => ?_) (fun c => absurd c (by decide)))
  have hw0 := hw
  obtain ⟨w1, w2, w3⟩ := hw
  have hgu := hI.gu hA e
  rw [e] at n5
  have wg : vw (pl g.2) w := by rw [hgu.2.1]; exact w1
  rw [n3, w3]
  refine w_X2_endFrom (s := some 0) (by decide) n4 n5.1.2 n5.2.1.bd (fun j e => by cases e; decide) (vw_mono w1 (by omega)) w2 (gX11_reads_37 hS.k ?_)
  rw [rnO_ok hgu.1 hgu.1.1.1 wg]
  refine w_X11_clearNumbers (by decide) hS (fun M1 hS1 S1 => ?_)
  have q1 : MacAt M1 (bb + 7) g.2 := n5.1.2.sm S1 (by simp; omega) (by simp; omega) (by simp; omega)
  refine gX11_reads_43 n0 (by rw [S1.2.2.1]; exact n1) (by rw [S1.2.1, S1.2.2.1, n3]; exact n4.1.1) ?_
  rw [S1.2.1, n3]
  have rl := rn_lt hgu.1 hgu.1.1.1 wg
  have g8 := hgu.1.1.2
  refine w_outO (s := some (rn (pt g.2) 0 w)) (by decide) (n4.sm S1) q1 hgu.1.bd (fun j e => by cases e; omega) (gX11_reads_53 hS1.k ?_)
  rw [show ouO g.2 (some (rn (pt g.2) 0 w)) = some (an g.2 0 w) from if_pos rl]
  exact w_X11_put (by decide) hS1 (by decide) (fun M2 hS2 _ => gX11_reads_57 ⟨⟨_, rfl⟩, h2 M2 w g hw0 e hS2⟩)
theorem w_X11_errs (hd : 4 < d) (hS : CX Mz M X A st sp p R) (hI : PI A N p) (h : ∀ M', CX Mz M' X A st sp p R → (qg p = none → Q (some (.long (-2 : Int64))) M') ∧ ∀ g, qg p = some g → Q (some (.long (lN (fuC g.2 0 A 0)))) M') : ClD d mdX11_errs [.ref 2] M Q := by
  have hA := hS.ok
  have m3 := hS.1.m3
  have r := hS.r
  have sea := hS.1.1.2.2
  obtain ⟨cn, bb, ebb, nt, n0, n1, n2, n3, n4, n5, nb, k6, -⟩ := hS.gg
  refine ⟨4, hd, Cl.of moX11_errs (Nat.le_of_ble_eq_true rfl) (gX11_errs_0 hS.k k6 n0 (by rw [n2]; exact n1) ?_)⟩
  rw [n2]
  have K : mK M (mR M 2 3) = 7 := by rw [r.1.2.2.2.1]; exact sea.1.1
  refine w_X3_hasGuess (by decide) nt n5 (fun e => gX11_errs_12 hS.k n0 n1 K (fun _ => ⟨⟨_, rfl⟩, (h M hS).1 e⟩) (fun c => absurd rfl c)) (fun g e => gX11_errs_12 hS.k n0 n1 K (fun c => absurd c (by decide)) (fun _ => ?_))
  have hgu := hI.gu hA e
  rw [e] at n5
  rw [r.1.1, r.1.2.2.2.1, n3]
  exact w_fuX (by decide) hS n4 n5.1.2 hgu.1 m3.1 m3.2 hA hgu.2.1.symm hgu.1.1.1 hA.1.1 (by omega) (by decide) (fun M1 hS1 _ => gX11_errs_32 ⟨⟨_, rfl⟩, (h M1 hS1).2 g e⟩)
theorem w_X11_wrong {x : Int32} (hd : 4 < d) (hS : CX Mz M X A st sp p R) (hI : PI A N p) (h1 : ∀ M', CX Mz M' X A st sp p R → ((¬ ∃ k, k ≤ 8 ∧ x = nI k) → Q (some (.int (-1 : Int32))) M') ∧ ∀ k, k ≤ 8 → x = nI k → qg p = none → Q (some (.int (-2 : Int32))) M')
    (h2 : ∀ M' k g, k ≤ 8 → x = nI k → qg p = some g → CX Mz M' X A st sp p [(nI (cU (pl A) k)).toInt64] → Q (some (.int (nI (uT g.2 A (k + 1))))) M') : ClD d mdX11_wrong [.ref 2, .int x] M Q := by
  have hA := hS.ok
  have m3 := hS.1.m3
  have r := hS.r
  have sea := hS.1.1.2.2
  have l8 := hS.1.1.2.1.2.2.2
  have h1 := h1 M hS
  obtain ⟨cn, bb, ebb, nt, n0, n1, n2, n3, n4, n5, nb, k6, -⟩ := hS.gg
  have K : mK M (mR M 2 3) = 7 := by rw [r.1.2.2.2.1]; exact sea.1.1
  refine ⟨4, hd, Cl.of moX11_wrong (Nat.le_of_ble_eq_true rfl) (gX11_wrong_0 hS.k k6 n0 (by rw [n2]; exact n1) (fun c => ⟨⟨_, rfl⟩, h1.1 ?_⟩) (fun c c2 => ?_) (fun c c2 => ⟨⟨_, rfl⟩, h1.1 ?_⟩))⟩
  · rintro ⟨k, k1, k2⟩
    rw [k2] at c; exact nI_pos (by omega) c
  · obtain ⟨k, k1, k2⟩ := nI_of c
    rw [k2, nI_leI k1 (by decide)] at c2
    rw [n2]
    refine w_X3_hasGuess (by decide) nt n5 (fun e => gX11_wrong_24 hS.k n0 n1 K (fun c => absurd rfl c) (fun _ => ⟨⟨_, rfl⟩, h1.2 k c2 k2 e⟩)) (fun g e => gX11_wrong_24 hS.k n0 n1 K (fun _ => ?_) (fun c => absurd c (by decide)))
    have hgu := hI.gu hA e
    rw [e] at n5
    rw [r.1.1, r.1.2.2.2.1, n3, k2]
    refine w_X5_countUnlike (by decide) c2 sea (by omega) n4 n5.1.2 hgu.1 m3.1 m3.2 hA hgu.2.1.symm (by omega) (by omega) (fun i hi hm => by simp at hm; omega) (fun i hi hm => by simp at hm; omega) (fun M1 F1 sea1 => ?_)
    have hS1 : CX Mz M1 X A st sp p R := hS.fr F1 (fun q hq => by simp at hq; unfold frL; omega) sea1
    refine gX11_wrong_46 hS1.k (w_X11_clearNumbers (by decide) hS1 (fun M2 hS2 S2 => ?_))
    have m32 := hS2.1.m3
    refine gX11_wrong_51 hS2.k (by rw [hS2.r.1.1]; exact m32.1.1.1) ?_
    rw [hS2.r.1.1, m32.2.1.2]
    exact w_X1_countUpTo (by decide) c2 hA.2.1.2 (gX11_wrong_63 hS2.k (w_X11_put (by decide) hS2 (by decide) (fun M3 hS3 _ => gX11_wrong_67 ⟨⟨_, rfl⟩, h2 M3 k g c2 k2 e hS3⟩)))
  · rintro ⟨k, k1, k2⟩
    rw [k2, nI_leI (by omega) (by decide)] at c2; exact c2 k1
theorem w_X11_parted {x y : Int32} (hd : 4 < d) (hS : CX Mz M X A st sp p R) (hI : PI A N p) (h : ∀ M', CX Mz M' X A st sp p R → ((¬ ∃ s t, s < 8 ∧ t < 8 ∧ x = nI s ∧ y = nI t) → Q (some (.long (-1 : Int64))) M') ∧ ∀ s t, s < 8 → t < 8 → x = nI s → y = nI t → (qg p = none → Q (some (.long (-2 : Int64))) M') ∧ ∀ g, qg p = some g → (¬ (s < pn g.2 ∧ t < pn g.2) → Q (some (.long (-1 : Int64))) M') ∧ (s < pn g.2 → t < pn g.2 → Q (some (.long (lN (fuC g.2 s g.2 t)))) M')) : ClD d mdX11_parted [.ref 2, .int x, .int y] M Q := by
  have hA := hS.ok
  have r := hS.r
  have sea := hS.1.1.2.2
  have h1 := h M hS
  obtain ⟨cn, bb, ebb, nt, n0, n1, n2, n3, n4, n5, nb, k6, -⟩ := hS.gg
  have K : mK M (mR M 2 3) = 7 := by rw [r.1.2.2.2.1]; exact sea.1.1
  have K2 : mK M (mR M (mR M 2 4) 3) = cn + 4 := by rw [n2]; exact n1
  have em2 : (-2 : Int32).toInt64 = (-2 : Int64) := by decide
  have nm1 : ¬ (-2 : Int32) = (-1 : Int32) := by decide
  have zm1 : ¬ (nI 0 : Int32) = (-1 : Int32) := by decide
  refine ⟨4, hd, Cl.of moX11_parted (Nat.le_of_ble_eq_true rfl) (gX11_parted_0 hS.k ?_)⟩
  refine w_X11_refuseGuessed (by decide) hS (fun hn => ?_) (fun s hs es eg => ?_) (fun s g es eg hs => ?_) (fun s g hs es eg hn => ?_)
  · refine gX11_parted_5 hS.k (w_X11_refuseGuessed (by decide) hS (fun _ => ?_) (fun _ _ _ _ => ?_) (fun _ _ _ _ _ => ?_) (fun _ _ _ _ _ _ => ?_)) <;> exact gX11_parted_11 hS.k k6 n0 K2 K (fun _ => ⟨⟨_, rfl⟩, h1.1 (fun ⟨s, t, q1, _, q3, _⟩ => hn ⟨s, q1, q3⟩)⟩) (fun c => absurd rfl c) (fun c => absurd rfl c) (fun c => absurd rfl c)
  · refine gX11_parted_5 hS.k (w_X11_refuseGuessed (by decide) hS (fun hn => gX11_parted_11 hS.k k6 n0 K2 K (fun c => absurd c nm1) (fun _ c => absurd rfl c) (fun _ c => absurd rfl c) (fun _ _ => ⟨⟨_, rfl⟩, h1.1 (fun ⟨_, t, _, q1, _, q3⟩ => hn ⟨t, q1, q3⟩)⟩)) (fun t ht et _ => gX11_parted_11 hS.k k6 n0 K2 K (fun c => absurd c nm1) (fun _ _ c => absurd c (by decide)) (fun _ _ _ => ⟨⟨_, rfl⟩, by rw [em2]; exact (h1.2 s t hs ht es et).1 eg⟩) (fun _ c => absurd c nm1)) (fun _ g _ eg' _ => by rw [eg] at eg'; cases eg') (fun _ g _ _ eg' _ => by rw [eg] at eg'; cases eg'))
  · have hgu := hI.gu hA eg
    have n5' := n5
    rw [eg] at n5
    have g8 := n5.2.1.1.2
    refine gX11_parted_5 hS.k (w_X11_refuseGuessed (by decide) hS (fun hn => gX11_parted_11 hS.k k6 n0 K2 K (fun c => absurd c zm1) (fun _ c => absurd rfl c) (fun _ c => absurd rfl c) (fun _ _ => ⟨⟨_, rfl⟩, h1.1 (fun ⟨_, t, _, q1, _, q3⟩ => hn ⟨t, q1, q3⟩)⟩)) (fun _ _ _ eg' => by rw [eg] at eg'; cases eg') (fun t g' et eg' ht => ?_) (fun t g' ht et eg' hn => gX11_parted_11 hS.k k6 n0 K2 K (fun c => absurd c zm1) (fun _ c => absurd rfl c) (fun _ c => absurd rfl c) (fun _ _ => ⟨⟨_, rfl⟩, ((h1.2 s t (by omega) ht es et).2 g eg).1 ?_⟩)))
    · rw [eg] at eg'; cases eg'
      refine gX11_parted_11 hS.k k6 n0 K2 K (fun c => absurd c zm1) (fun _ _ _ => ?_) (fun _ _ c => absurd (by decide) c) (fun _ c => absurd c zm1)
      rw [n2, n3, r.1.2.2.2.1, es, et]
      exact w_fuX (by decide) hS n4 n5.1.2 hgu.1 n4 n5.1.2 hgu.1 rfl hs ht (by omega) (by omega) (fun M1 hS1 _ => gX11_parted_64 ⟨⟨_, rfl⟩, (((h M1 hS1).2 s t (by omega) (by omega) es et).2 g eg).2 hs ht⟩)
    · rw [eg] at eg'; cases eg'
      exact fun q => hn q.2
  · by_cases et : ∃ t, t < 8 ∧ y = nI t
    · obtain ⟨t, t1, t2⟩ := et
      have val := ((h1.2 s t hs t1 es t2).2 g eg).1 (fun q => hn q.1)
      refine gX11_parted_5 hS.k (w_X11_refuseGuessed (by decide) hS (fun _ => ?_) (fun _ _ _ _ => ?_) (fun _ _ _ _ _ => ?_) (fun _ _ _ _ _ _ => ?_)) <;> exact gX11_parted_11 hS.k k6 n0 K2 K (fun _ => ⟨⟨_, rfl⟩, val⟩) (fun c => absurd rfl c) (fun c => absurd rfl c) (fun c => absurd rfl c)
    · have val := h1.1 (fun ⟨_, t, _, q1, _, q3⟩ => et ⟨t, q1, q3⟩)
      refine gX11_parted_5 hS.k (w_X11_refuseGuessed (by decide) hS (fun _ => ?_) (fun _ _ _ _ => ?_) (fun _ _ _ _ _ => ?_) (fun _ _ _ _ _ _ => ?_)) <;> exact gX11_parted_11 hS.k k6 n0 K2 K (fun _ => ⟨⟨_, rfl⟩, val⟩) (fun c => absurd rfl c) (fun c => absurd rfl c) (fun c => absurd rfl c)
end XFd
