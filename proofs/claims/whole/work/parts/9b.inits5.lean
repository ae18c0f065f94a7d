/-! the constructor of the class -/
theorem CC.build {st sp : Nat} {M M' : Mem} {A : PM} {p : PS} {X : List Nat} {R : List Int64} {L : List Nat} (h123 : CSh M ∧ SL M ∧ SeaSh M 13) (h4 : TxtAt M 11 X) (h6 : ∃ s, AI 88 M 51 A st sp s) (h7 : ∃ k T n, SetAt M 82 k T n) (h8 : RwAt M R) (F : Fa 19 L M M') (hL : ∀ q, q ∈ L → 17 < q ∧ q < 50) (hc : CP 88 M' 18 A st sp p) : CC M' X A st sp p R ∧ XF M M' := by
  obtain ⟨h1, h2, h3⟩ := h123
  obtain ⟨s, h6⟩ := h6
  obtain ⟨k, T, n, h7⟩ := h7
  have l8 := h2.2.2.2
  have sl := h2
  obtain ⟨⟨l1, l2, l3⟩, ⟨b1, b2, b3⟩, ⟨d1, d2, d3⟩, -⟩ := h2
  have nf : ∀ q, (q < 18 ∨ q = 51 ∨ q = 52 ∨ q = 53 ∨ q = 82 ∨ q = 83 ∨ 87 ≤ q) → q ≠ slq M 19 → q ∉ slq M 19 :: L := fun q hq hn hm => by
    rcases List.mem_cons.mp hm with e | e
    · exact hn e
    · have := hL q e; omega
  have e3 : mR M 82 1 = slq M 81 := rfl
  have hS : ∀ q, q ∈ L → (2 ≤ q ∧ q < 88) ∧ (q = 20 → 19 = 19) ∧ (q = 52 → 19 = 51) ∧ (q = 82 → 19 = 81) := fun q hq => by have := hL q hq; omega
  obtain ⟨sc, -, aic⟩ := hc.ai
  obtain ⟨ka, Ta, sa, -, -⟩ := aic.2.1.2.2
  exact ⟨⟨⟨h1.fm F.1 l8, sl.up (Or.inl rfl) F hS sa.1.2.2.2.2, SeaSh.fm F.1 (by omega) h3 (nf _ (by omega) (by omega))⟩, h4.fm F.1 (by omega) (nf 11 (by omega) (by omega)) (nf 12 (by omega) (by omega)), hc, ⟨s, h6.fm F.1 (nf _ (by omega) (by omega)) (nf _ (by omega) (by omega)) (nf _ (by omega) (by omega)) (nf _ (by omega) (by omega)) (nf _ (by omega) (by omega)) (nf _ (by omega) (by omega))⟩, ⟨k, T, n, h7.fm F.1 (by omega) (nf _ (by omega) (by omega)) (nf _ (by omega) (by omega))⟩, h8.fm F.1 l8 (nf _ (by omega) (by omega)) (nf _ (by omega) (by omega))⟩, XF.fa sl (Or.inl rfl) F hS⟩
theorem AI.build {M : Mem} {r : Nat} (h1 : AskSh M r 3) (h2 : SetZ M (r + 1)) (h3 : mI M r 2 = nI 1 ∧ mI M r 3 = nI 1 ∧ mI M r 4 = nI 0) (h4 : MacSh M 3) (h5 : MacAt M 3 mach0) (hz : 88 ≤ mC M + 2) (hr : 7 < r) (hr2 : r + 35 ≤ 88) : AI 88 M r mach0 1 1 ([], 0) := by
  refine ⟨h1, ⟨h3, ⟨fun w hw => by simp at hw, List.nodup_nil⟩, 8, fun _ => 0, h2.1, fun c => ⟨fun ⟨w, hw, _⟩ => by simp at hw, fun ⟨z, i, _, z2⟩ => absurd z2.symm z⟩, by decide⟩, h4, h5, ⟨⟨by decide, by decide⟩, ⟨by decide, by decide⟩, fun _ _ => by show 0 < 4; decide, fun _ _ _ _ => by show 0 < 1; decide⟩, Or.inl h2.2, hz, hr, hr2⟩
section Inm
variable {d a : Nat} {Q : Option Value → Mem → Prop} {M : Mem}
theorem w_X11_init (hd : 7 < d) (ha : a = 2) (hf : Fo M a 13) (h : ∀ M', CC M' [] mach0 1 1 (newP mach0 1 1 0) [] → (mC M' + 768 ≤ 86 + sN M' ∧ mS M' + 2 * 768 ≤ mS M + 2935 + 2 * sN M') → (∀ p, p < 2 → mI M' p = mI M p ∧ mJ M' p = mJ M p ∧ mR M' p = mR M p) → (∀ p, p < 2 → mK M' p = mK M p ∧ mN M' p = mN M p) → 86 ≤ mC M' → Q none M') : ClD d mdX11_init [.ref a] M Q := by
  obtain ⟨f1, f2, f3⟩ := hf
  have e : mC M + 2 = a + 1 := by omega
  have own : ∀ {M : Mem} (p : Nat), p ∈ [a] → p ∈ [a] ∨ mC M + 2 ≤ p := fun p hp => Or.inl hp
  refine ⟨7, hd, Cl.of moX11_init (Nat.le_of_ble_eq_true rfl) (gX11_init_0 (by decide) f1 ?_)⟩
  -- the machine told
  have F := Fo.of M 5 5
  rw [e] at F ⊢
  refine gX11_init_8 F.1 (w_X2_init (by decide) F (fun N1 K1 s1 v1 => ?_))
  obtain ⟨A1, ⟨A2, A3⟩, ⟨A4, A5⟩, A6, A7, A8, -⟩ := sto (f := 0) e (Nat.le_refl _) K1
  refine gX11_init_12 (A8.trans f1) ?_
  obtain ⟨M1, hM1⟩ : ∃ M1, M1 = sR N1 a 0 (a + 1) := ⟨_, rfl⟩
  rw [show a + (1 + 1 + 3) = a + 5 from rfl] at A7
  rw [← hM1] at A1 A2 A3 A4 A5 A6 A7 ⊢
  -- the draft
  have F := Fo.of M1 5 5
  rw [A7] at F ⊢
  refine gX11_init_19 F.1 (w_X2_init (by decide) F (fun N2 K2 s2 v2 => ?_))
  obtain ⟨B1, ⟨B2, B3⟩, ⟨B4, B5⟩, B6, B7, B8, -⟩ := sto (f := 1) A7 (by decide) K2
  refine gX11_init_23 ((B8.trans A5).trans f1) ?_
  obtain ⟨M2, hM2⟩ : ∃ M2, M2 = sR N2 a 1 (a + 5) := ⟨_, rfl⟩
  rw [show a + (5 + 1 + 3) = a + 9 from rfl] at B7
  rw [← hM2] at B1 B2 B3 B4 B5 B6 B7 ⊢
  -- the text
  have F := Fo.of M2 9 3
  rw [B7] at F ⊢
  refine gX11_init_30 F.1 (w_X7_init (by decide) F (fun N3 K3 s3 v3 => ?_))
  obtain ⟨C1, ⟨C2, C3⟩, ⟨C4, C5⟩, C6, C7, C8, -⟩ := sto (f := 2) B7 (by decide) K3
  refine gX11_init_34 (((C8.trans B5).trans A5).trans f1) ?_
  obtain ⟨M3, hM3⟩ : ∃ M3, M3 = sR N3 a 2 (a + 9) := ⟨_, rfl⟩
  rw [show a + (9 + 1 + 1) = a + 11 from rfl] at C7
  rw [← hM3] at C1 C2 C3 C4 C5 C6 C7 ⊢
  -- the search
  have F := Fo.of M3 7 5
  rw [C7] at F ⊢
  refine gX11_init_41 F.1 (w_X5_init (by decide) F (fun N4 K4 s4 => ?_))
  obtain ⟨D1, ⟨D2, D3⟩, ⟨D4, D5⟩, D6, D7, D8, -⟩ := sto (f := 3) C7 (by decide) K4
  refine gX11_init_45 ((((D8.trans C5).trans B5).trans A5).trans f1) ?_
  obtain ⟨M4, hM4⟩ : ∃ M4, M4 = sR N4 a 3 (a + 11) := ⟨_, rfl⟩
  rw [show a + (11 + 1 + 4) = a + 16 from rfl] at D7
  rw [← hM4] at D1 D2 D3 D4 D5 D6 D7 ⊢
  -- the pupil
  have F := Fo.of M4 6 7
  rw [D7] at F ⊢
  have k4 : mK M4 a = 13 := (((D5.trans C5).trans B5).trans A5).trans f1
  have g0 : mR (nwC M4 6 7) a 0 = 3 := by rw [wR_ne (by omega), D3 0 (by decide), C3 0 (by decide), B3 0 (by decide), A2]; omega
  have g3 : mR (nwC M4 6 7) a 3 = 13 := by rw [wR_ne (by omega), D2]; omega
  refine gX11_init_52 (kNw k4 (by omega)) F.1 ?_
  rw [g0, g3]
  refine w_X4_init (by decide) F (fun N5 K5 s5 t5 u5 v5 => ?_)
  obtain ⟨E1, ⟨E2, E3⟩, ⟨E4, E5⟩, E6, E7, E8, -⟩ := sto (f := 4) D7 (by decide) K5
  refine gX11_init_64 (E8.trans k4) ?_
  obtain ⟨M5, hM5⟩ : ∃ M5, M5 = sR N5 a 4 (a + 16) := ⟨_, rfl⟩
  rw [show a + (16 + 1 + 31) = a + 48 from rfl] at E7
  rw [← hM5] at E1 E2 E3 E4 E5 E6 E7 ⊢
  -- the pupil in thought
  have F := Fo.of M5 6 7
  rw [E7] at F ⊢
  have k5 : mK M5 a = 13 := E5.trans k4
  have g0 : mR (nwC M5 6 7) a 0 = 3 := by rw [wR_ne (by omega), E3 0 (by decide), D3 0 (by decide), C3 0 (by decide), B3 0 (by decide), A2]; omega
  have g3 : mR (nwC M5 6 7) a 3 = 13 := by rw [wR_ne (by omega), E3 3 (by decide), D2]; omega
  refine gX11_init_71 (kNw k5 (by omega)) F.1 ?_
  rw [g0, g3]
  refine w_X4_init (by decide) F (fun N6 K6 s6 t6 u6 v6 => ?_)
  obtain ⟨G1, ⟨G2, G3⟩, ⟨G4, G5⟩, G6, G7, G8, -⟩ := sto (f := 5) E7 (by decide) K6
  refine gX11_init_83 (G8.trans k5) ?_
  obtain ⟨M6, hM6⟩ : ∃ M6, M6 = sR N6 a 5 (a + 48) := ⟨_, rfl⟩
  rw [show a + (48 + 1 + 31) = a + 80 from rfl] at G7
  rw [← hM6] at G1 G2 G3 G4 G5 G6 G7 ⊢
  have k6 : mK M6 a = 13 := G5.trans k5
  -- the trials
  have F := Fo.of M6 12 2
  rw [G7] at F ⊢
  refine gX11_init_90 F.1 (w_X10_init (by decide) F (fun N7 K7 s7 => ?_))
  obtain ⟨H1, ⟨H2, H3⟩, ⟨H4, H5⟩, H6, H7, H8, -⟩ := sto (f := 6) G7 (by decide) K7
  refine gX11_init_94 (H8.trans k6) ?_
  obtain ⟨M7, hM7⟩ : ∃ M7, M7 = sR N7 a 6 (a + 80) := ⟨_, rfl⟩
  rw [show a + (80 + 1 + 1) = a + 82 from rfl] at H7
  rw [← hM7] at H1 H2 H3 H4 H5 H6 H7 ⊢
  have k7 : mK M7 a = 13 := H5.trans k6
  -- the words that part
  have F := Fo.of M7 11 2
  rw [H7] at F ⊢
  refine gX11_init_101 F.1 (w_X9_init (cap := 8) (by decide) F (by decide) (fun N8 K8 s8 _ => ?_))
  obtain ⟨I1, ⟨I2, I3⟩, ⟨I4, I5⟩, I6, I7, I8, -⟩ := sto (f := 7) H7 (by decide) K8
  refine gX11_init_107 (I8.trans k7) ?_
  obtain ⟨M8, hM8⟩ : ∃ M8, M8 = sR N8 a 7 (a + 82) := ⟨_, rfl⟩
  rw [show a + (82 + 1 + 1) = a + 84 from rfl] at I7
  rw [← hM8] at I1 I2 I3 I4 I5 I6 I7 ⊢
  have k8 : mK M8 a = 13 := I5.trans k7
  rw [I7]
  refine gX11_init_115 (kNw k8 (by omega)) ?_
  obtain ⟨J1, ⟨J2, J3⟩, ⟨J4, J5⟩, ⟨J6, J7⟩, J8, J9⟩ := stp (f := 8) (kd := 1) (len := 8) I7 (by decide)
  obtain ⟨M9, hM9⟩ : ∃ M9, M9 = sR (nwC M8 1 8) a 8 (a + 84) := ⟨_, rfl⟩
  rw [← hM9] at J1 J2 J3 J4 J5 J6 J7 J8 J9 ⊢
  have k9 : mK M9 a = 13 := J7.trans k8
  rw [J9]
  have kx : mK (nwC M9 2 8) a = 13 := kNw k9 (by omega)
  obtain ⟨L1, ⟨L2, L3⟩, ⟨L4, L5⟩, ⟨L6, L7⟩, L8, L9⟩ := stp (f := 9) (kd := 2) (len := 8) J9 (by decide)
  obtain ⟨Mx, hMx⟩ : ∃ Mx, Mx = sR (nwC M9 2 8) a 9 (a + 85) := ⟨_, rfl⟩
  rw [← hMx] at L1 L2 L3 L4 L5 L6 L7 L8 L9
  have q8 : Kp [a] M8 Mx 2 16 := J1.tr L1 own
  have q7 : Kp [a] M7 Mx 4 26 := I1.tr q8 own
  have q6 : Kp [a] M6 Mx 6 284 := H1.tr q7 own
  have q5 : Kp [a] M5 Mx 38 1400 := G1.tr q6 own
  have q4 : Kp [a] M4 Mx 70 2516 := E1.tr q5 own
  have q3 : Kp [a] M3 Mx 75 2777 := D1.tr q4 own
  have q2 : Kp [a] M2 Mx 77 2844 := C1.tr q3 own
  have q1 : Kp [a] M1 Mx 81 2889 := B1.tr q2 own
  have q0 : Kp [a] M Mx 85 2934 := A1.tr q1 own
  have off : ∀ {lo hi : Nat}, a < lo → ∀ p, p ∈ [a] → p < lo ∨ hi ≤ p := fun h p hp => by simp at hp; omega
  have c0 := q0.2.2.1
  have kx : mK Mx a = 13 := L7.trans k9
  have R4 : mR Mx a 4 = a + 16 := by rw [L5 4 (by decide), J5 4 (by decide), I3 4 (by decide), H3 4 (by decide), G3 4 (by decide)]; exact E2
  -- the parts
  have p3 : MacSh Mx (a + 1) := (s1.kr ((A6 (a + 5)).mono (by omega) (by omega))).kr (q1.kr (by omega) (off (by omega)))
  have p3v : MacAt Mx (a + 1) mach0 := (v1.kr ((A6 (a + 5)).mono (by omega) (by omega))).kr (q1.kr (by omega) (off (by omega)))
  have p7 : MacSh Mx (a + 5) := (s2.kr ((B6 (a + 9)).mono (by omega) (by omega))).kr (q2.kr (by omega) (off (by omega)))
  have p11 : TxtSh Mx (a + 9) := (s3.kr ((C6 (a + 11)).mono (by omega) (by omega))).kr (q3.kr (by omega) (off (by omega)))
  have p11v : TxtAt Mx (a + 9) [] := (v3.kr ((C6 (a + 11)).mono (by omega) (by omega))).kr (q3.kr (by omega) (off (by omega)))
  have p13 : SeaSh Mx (a + 11) := (s4.kr ((D6 (a + 16)).mono (by omega) (by omega))).kr (q4.kr (by omega) (off (by omega)))
  have W5 : Kr (a + 16) (a + 48) N5 Mx := ((E6 (a + 48)).mono (by omega) (by omega)).tr (q5.kr (by omega) (off (by omega)))
  have W6 : Kr (a + 48) (a + 80) N6 Mx := ((G6 (a + 80)).mono (by omega) (by omega)).tr (q6.kr (by omega) (off (by omega)))
  have cN5 : mC N5 ≤ mC Mx := by have := q5.2.2.1; have e5 : mC M5 = mC N5 := by rw [hM5]; rfl
                                 omega
  have cN6 : mC N6 ≤ mC Mx := by have := q6.2.2.1; have e5 : mC M6 = mC N6 := by rw [hM6]; rfl
                                 omega
  have cN7 : mC N7 ≤ mC Mx := by have := q7.2.2.1; have e5 : mC M7 = mC N7 := by rw [hM7]; rfl
                                 omega
  have p18 : PuSh Mx (a + 16) := s5.kr (W5.mono (by omega) (by omega))
  have p19 : AskSh Mx (a + 16 + 1) 3 := t5.kr (W5.mono (by omega) (by omega))
  have p20 : SetZ Mx (a + 16 + 2) := u5.kr (W5.mono (by omega) (by omega)) cN5
  have p19v : mI Mx (a + 16 + 1) 2 = nI 1 ∧ mI Mx (a + 16 + 1) 3 = nI 1 ∧ mI Mx (a + 16 + 1) 4 = nI 0 := by rw [(W5 (a + 16 + 1) (by omega) (by omega)).1]; exact v5
  have p50 : PuSh Mx (a + 48) := s6.kr (W6.mono (by omega) (by omega))
  have p51 : AskSh Mx (a + 48 + 1) 3 := t6.kr (W6.mono (by omega) (by omega))
  have p52 : SetZ Mx (a + 48 + 2) := u6.kr (W6.mono (by omega) (by omega)) cN6
  have p51v : mI Mx (a + 48 + 1) 2 = nI 1 ∧ mI Mx (a + 48 + 1) 3 = nI 1 ∧ mI Mx (a + 48 + 1) 4 = nI 0 := by rw [(W6 (a + 48 + 1) (by omega) (by omega)).1]; exact v6
  have p82 : SetZ Mx (a + 80) := s7.kr (((H6 (a + 82)).mono (by omega) (by omega)).tr (q7.kr (by omega) (off (by omega)))) cN7
  have p84 : LstSh Mx (a + 82) 8 := (s8.kr ((I6 (a + 84)).mono (by omega) (by omega))).kr (q8.kr (by omega) (off (by omega)))
  obtain ⟨-, -, -, z86, w86⟩ := L1.kr (lo := a + 84) (hi := a + 85) (by omega) (off (by omega)) (a + 84) (by omega) (by omega)
  have tb : ∀ q, q ∈ xTab → mR Mx a q.1 = q.2 := by
    have R0 : mR Mx a 0 = a + 1 := by rw [L5 0 (by decide), J5 0 (by decide), I3 0 (by decide), H3 0 (by decide), G3 0 (by decide), E3 0 (by decide), D3 0 (by decide), C3 0 (by decide), B3 0 (by decide)]; exact A2
    have R1 : mR Mx a 1 = a + 5 := by rw [L5 1 (by decide), J5 1 (by decide), I3 1 (by decide), H3 1 (by decide), G3 1 (by decide), E3 1 (by decide), D3 1 (by decide), C3 1 (by decide)]; exact B2
    have R2 : mR Mx a 2 = a + 9 := by rw [L5 2 (by decide), J5 2 (by decide), I3 2 (by decide), H3 2 (by decide), G3 2 (by decide), E3 2 (by decide), D3 2 (by decide)]; exact C2
    have R3 : mR Mx a 3 = a + 11 := by rw [L5 3 (by decide), J5 3 (by decide), I3 3 (by decide), H3 3 (by decide), G3 3 (by decide), E3 3 (by decide)]; exact D2
    have R5 : mR Mx a 5 = a + 48 := by rw [L5 5 (by decide), J5 5 (by decide), I3 5 (by decide), H3 5 (by decide)]; exact G2
    have R6 : mR Mx a 6 = a + 80 := by rw [L5 6 (by decide), J5 6 (by decide), I3 6 (by decide)]; exact H2
    have R7 : mR Mx a 7 = a + 82 := by rw [L5 7 (by decide), J5 7 (by decide)]; exact I2
    have R8 : mR Mx a 8 = a + 84 := by rw [L5 8 (by decide)]; exact J4
    have R9 : mR Mx a 9 = a + 85 := L4
    rw [ha] at R0 R1 R2 R3 R4 R5 R6 R7 R8 R9 ⊢
    intro q hq
    simp only [xTab, List.mem_cons, List.not_mem_nil, or_false] at hq
    rcases hq with e | e | e | e | e | e | e | e | e | e <;> subst e <;> assumption
  have i10 : mI Mx a 10 = 0 := by rw [L6, J6, I4, H4, G4, E4, D4, C4, B4, A4]; exact f2 10
  have k18 : mK Mx (mR Mx a 4) = 6 := by rw [R4]; exact p18.1.1
  refine gX11_init_123 (kNw k9 (by omega)) (kNw k9 (by omega)) (by rw [hMx] at k18; exact k18) ?_
  rw [← hMx, R4]
  subst ha
  have hC : 88 ≤ mC Mx + 2 := by omega
  have ai19 := AI.build (r := 19) p19 p20 p19v p3 p3v hC (by decide) (by decide)
  have ai51 := AI.build (r := 51) p51 p52 p51v p3 p3v hC (by decide) (by decide)
  have q19 : slq Mx 19 = 21 := p20.2
  have q51 : slq Mx 51 = 53 := p52.2
  have q81 : slq Mx 81 = 83 := p82.2
  have n19 : mN Mx (slq Mx 19) = 256 := p20.1.1.2.2.1
  have n51 : mN Mx (slq Mx 51) = 256 := p52.1.1.2.2.1
  have n81 : mN Mx (slq Mx 81) = 256 := p82.1.1.2.2.1
  refine w_X4_renew (P := 18) (by decide) (by decide) p18 ai19 (by decide) (fun M' F hc => gX11_init_134 ⟨rfl, ?_⟩)
  have hL : ∀ q, q ∈ puS 18 → 17 < q ∧ q < 50 := fun q hq => by
    unfold puS at hq
    obtain ⟨i, hi, e⟩ := List.mem_map.mp hq
    have := List.mem_range.mp hi
    omega
  obtain ⟨cc, xf⟩ := CC.build ⟨⟨⟨kx, tb⟩, ⟨⟨by rw [z86]; exact J2, by rw [w86]; exact J3⟩, L2, L3⟩, p7, p11, p84, p50⟩, ⟨⟨Or.inl q19, Or.inl q51, Or.inl q81⟩, ⟨by omega, by omega, by omega⟩, ⟨by omega, by omega, by omega⟩, hC⟩, p13⟩ p11v ⟨_, ai51⟩ ⟨8, _, _, p82.1⟩ (R := []) ⟨i10, by decide, fun j hj => by simp at hj⟩ F hL hc
  have s0 : sN Mx = 768 := by unfold sN; omega
  have cS := q0.2.2.2
  obtain ⟨x1, x2, x3, x4⟩ := xf
  have old : ∀ p, p < 2 → p ∉ clS Mx := fun p hp hm => by
    rw [clS_mem] at hm; omega
  exact h M' cc ⟨by omega, by omega⟩ (fun p hp => by
    have a1 := x1.1 p (by omega) (old p hp)
    have a2 := q0.1 p (by omega) (by simp; omega)
    exact ⟨a1.1.trans a2.1, a1.2.1.trans a2.2.1, a1.2.2.trans a2.2.2⟩) (fun p hp => by
    have a1 := x1.2.1 p (by omega)
    have a2 := q0.2.1 p (by omega)
    exact ⟨a1.1.trans a2.1, a1.2.trans a2.2⟩) (by have := x1.2.2.2.1; omega)
end Inm
