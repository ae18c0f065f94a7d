/-! the reference: a new pupil -/
section MFr
variable {d m u st sp : Nat} {Q : Option Value → Mem → Prop} {M M' : Mem} {A : PM}
theorem w_X12_fresh {mm : Nat} (hd : 5 < d) (hs : MoSh M m) (hu : u < 2) (hm : mm ≤ 3) (h3 : mI M m 3 = nI (pl A) ∧ mI M m 8 = nI st ∧ mI M m 9 = nI sp) (h0 : MoM M m 0 A) (hA : okM A)
    (h : ∀ M', Fu m u M M' → MoP M' m u A st sp (newP A st sp mm) → Q none M') : ClD d mdX12_fresh [.ref m, .int (nI u), .int (nI mm)] M Q := by
  have l3 := hA.2.1.2
  have a8 := hA.1.2
  have f10 := hs.f10
  have vu : vp_in (nI u) 2 := z_in hu (by omega)
  refine ⟨5, hd, Cl.of moX12_fresh (Nat.le_of_ble_eq_true rfl) (gX12_fresh_0 hs.1 (by rw [f10.1]; exact f10.2.1) (by rw [f10.1, f10.2.2]; exact vu) ?_)⟩
  rw [f10.1, nI_clamp (by omega)]
  have F0 : Fu m u M (sI M (m + 5) u (nI mm)) := Fu.I M (p := 5) (by decide) (by decide) rfl
  refine upto 16384 (fun k => ∀ M1, Fu m u M M1 → mI M1 (m + 5) u = nI mm → (∀ c, c < k → mJ M1 (m + 11) (16384 * u + c) = lN 0) → Wp 5 mdX12_fresh 9 [(0, .ref m), (1, .int (nI u)), (2, .int (nI mm)), (3, .int (nI k))] [] M1 (fun r M' => ROK mdX12_fresh r ∧ Q r M')) ?_ 0 (Nat.zero_le _) _ F0 (rI_at _ _ _ _) (fun c hc => by omega)
  intro k hk ih M1 F j5 hz
  have s1 := hs.sm F.1
  have f11 := s1.f11
  have f12 := s1.f12
  have f16 := s1.f16
  have f17 := s1.f17
  have f18 := s1.f18
  have f19 := s1.f19
  have f20 := s1.f20
  refine gX12_fresh_9 s1.1 (by rw [f17.1]; exact f17.2.1) ?_ ?_ ?_ ?_ ?_ ?_ ?_ ?_ ?_ ?_ ?_ ?_ ?_ ?_ ?_
  · simp only [eRI, eKI]; rw [f18.1]; exact f18.2.1
  · simp only [eRI, eKI]; rw [f19.1]; exact f19.2.1
  · simp only [eRI, eKI]; rw [f20.1]; exact f20.2.1
  · simp only [eRI, eKI]; rw [f11.1]; exact f11.2.1
  · simp only [eRI, eKI]; rw [f12.1]; exact f12.2.1
  · rw [f16.1]; exact f16.2.1
  · intro _; rw [f17.1, f17.2.2]; exact vu
  · intro _; simp only [eRI, eNI]; rw [f18.1, f18.2.2]; exact vu
  · intro _; simp only [eRI, eNI]; rw [f19.1, f19.2.2]; exact vu
  · intro _; simp only [eRI, eNI]; rw [f20.1, f20.2.2]; exact vu
  · intro _; simp only [eRI, eNI]; rw [f11.1, f11.2.2]; exact vu
  · intro _; simp only [eRI, eNI]; rw [f12.1, f12.2.2]; exact vu
  · intro c
    rw [nI_leI (by decide) (by omega)] at c
    have ek : k = 16384 := by omega
    subst ek
    simp only [eRI]
    rw [f17.1, f18.1, f19.1, f20.1, f11.1, f12.1, nI_clamp (by omega)]
    have st' : ∀ (q : Nat) (M2 : Mem), 2 ≤ q → q ≤ 17 → ow u q u → Fu m u M M2 → Fu m u M (sI M2 (m + q) u (nI 0)) := fun q M2 h1 h2 ho F2 => F2.tr (Fu.I M2 h1 h2 ho)
    obtain ⟨M2, hM2⟩ : ∃ M2, M2 = sI (sI (sI (sI (sI (sI M1 (m + 12) u (nI 0)) (m + 13) u (nI 0)) (m + 14) u (nI 0)) (m + 15) u (nI 0)) (m + 6) u (nI 0)) (m + 7) u (nI 0) := ⟨_, rfl⟩
    rw [← hM2]
    have F2 : Fu m u M M2 := by
      rw [hM2]
      exact st' 7 _ (by decide) (by decide) rfl (st' 6 _ (by decide) (by decide) rfl (st' 15 _ (by decide) (by decide) rfl (st' 14 _ (by decide) (by decide) rfl (st' 13 _ (by decide) (by decide) rfl (st' 12 _ (by decide) (by decide) rfl F)))))
    have v : mI M2 (m + 12) u = nI 0 ∧ mI M2 (m + 13) u = nI 0 ∧ mI M2 (m + 14) u = nI 0 ∧ mI M2 (m + 15) u = nI 0 ∧ mI M2 (m + 6) u = nI 0 ∧ mI M2 (m + 7) u = nI 0 ∧ mI M2 (m + 5) u = nI mm := by
      rw [hM2]
      refine ⟨?_, ?_, ?_, ?_, ?_, ?_, ?_⟩
      · rw [rI_np (by omega), rI_np (by omega), rI_np (by omega), rI_np (by omega), rI_np (by omega), rI_at]
      · rw [rI_np (by omega), rI_np (by omega), rI_np (by omega), rI_np (by omega), rI_at]
      · rw [rI_np (by omega), rI_np (by omega), rI_np (by omega), rI_at]
      · rw [rI_np (by omega), rI_np (by omega), rI_at]
      · rw [rI_np (by omega), rI_at]
      · rw [rI_at]
      · rw [rI_np (by omega), rI_np (by omega), rI_np (by omega), rI_np (by omega), rI_np (by omega), rI_np (by omega)]; exact j5
    obtain ⟨v12, v13, v14, v15, v6, v7, v5⟩ := v
    have z2 : ∀ c, c < 16384 → mJ M2 (m + 11) (16384 * u + c) = lN 0 := by rw [hM2]; exact hz
    have I2 : MoT M2 m u A st sp ([], 0) [] [] := by
      refine ⟨⟨hs.sm F2.1, hu⟩, ⟨?_, ?_, ?_⟩, h0.fu F2 (by omega) hA.1.2 hA.2.1.2, hA, ⟨fun _ => 0, fun c hc => ⟨z2 c hc, by show 0 < 2 ^ 61; decide⟩, hinv_0 _ _, fun c => ?_, nzc_0 _, ⟨v12, v13⟩, fun w hw => by simp at hw, List.nodup_nil⟩, ⟨v6, v7⟩, ⟨fun j hj => ?_, fun j hj => ?_⟩, ⟨fun w hw => by simp at hw, fun w hw => by simp at hw⟩, Nat.zero_le _, Nat.zero_le _⟩
      · rw [F2.2.1 3 (by decide) (by decide)]; exact h3.1
      · rw [F2.2.1 8 (by decide) (by decide)]; exact h3.2.1
      · rw [F2.2.1 9 (by decide) (by decide)]; exact h3.2.2
      · rw [← hset_0 16384 c]
        exact ⟨fun ⟨w, hw, _⟩ => by simp at hw, fun q => q.elim⟩
      · rw [List.length_nil] at hj; omega
      · rw [List.length_nil] at hj; omega
    refine w_X12_headComes (w := []) (by decide) I2 (by decide) ⟨vw_nil _, by decide⟩ (fun M3 S3 F3 I3 => gX12_fresh_83 I3.sh.1 ?_)
    refine w_X12_tailComes (w := []) (by decide) I3 (by decide) ⟨vw_nil _, by decide⟩ (fun M4 S4 F4 I4 hz4 => ?_)
    have FF : Fu m u M M4 := (F2.tr F3).tr F4
    have w5 : mI M4 (m + 5) u = nI mm := by rw [S4.I (by simp), S3.I (by simp)]; exact v5
    have w14 : mI M4 (m + 14) u = nI 0 := by rw [S4.I (by simp), S3.I (by simp)]; exact v14
    have w15 : mI M4 (m + 15) u = nI 0 := by rw [S4.I (by simp), S3.I (by simp)]; exact v15
    have f22 := I4.sh.f22
    have hz5 : ∀ c, c < 4 → mI M4 (m + 17) (512 * u + c) = nI 0 := fun c hc => by
      have := hz4 c
      rw [if_pos ⟨by show 4 * 0 ≤ c; omega, by show c < 4 * 0 + 4; omega⟩] at this
      exact this
    refine gX12_fresh_89 I4.sh.1 (fun c => ⟨rfl, ?_⟩) (fun c => ?_) <;> rw [nI_eq (by omega) (by decide)] at c
    · refine h M4 FF ⟨([], 0), ?_, I4, ⟨w5, w14⟩, w15, fun c3 => absurd c3 c⟩
      show eqS ([], 0) (if mm = 3 then aS st sp ([], 0) [] else ([], 0))
      rw [if_neg c]; exact eqS.rf List.nodup_nil
    · rw [f22.1, pk_mul]
      refine I4.ask (w := []) (by decide) (by decide) (vw_nil _) (by decide) (fun M5 S5 F5 I5 => ?_)
      have ha4 := an_lt hA (vw_nil (pl A))
      have k17 : mK M5 (m + 17) = 1 := by rw [S5.2.2.1]; exact f22.2.1
      have n17 : mN M5 (m + 17) = 1024 := by rw [S5.2.2.2.1]; exact f22.2.2
      refine gX12_fresh_109 k17 ?_ ⟨rfl, ?_⟩ <;> rw [nI_add]
      · rw [n17]; exact z_in (by omega) (by decide)
      · rw [nI_clamp (by omega)]
        obtain ⟨M6, hM6⟩ : ∃ M6, M6 = sI M5 (m + 17) (512 * u + an A 0 []) (nI 1) := ⟨_, rfl⟩
        rw [← hM6]
        have F6 : Fu m u M5 M6 := by rw [hM6]; exact Fu.I M5 (p := 17) (by decide) (by decide) (by show 512 * u ≤ _ ∧ _; omega)
        have S6 : Sm [m + 17] M5 M6 := by rw [hM6]; exact Sm.sI (by simp) _ _ _
        have I6 : MoT M6 m u A st sp (aS st sp ([], 0) []) [[]] [[]] := I5.fu F6 (I5.2.2.2.2.1.sm S6 (by simp) (by simp) (by simp)) ⟨by rw [S6.I (by simp)], by rw [S6.I (by simp)]⟩ ⟨S6.J (by simp), S6.I (by simp), S6.J (by simp)⟩
        refine h M6 ((FF.tr F5).tr F6) ⟨aS st sp ([], 0) [], ?_, I6, ⟨?_, ?_⟩, ?_, fun _ c hc => ?_⟩
        · show eqS _ (if mm = 3 then aS st sp ([], 0) [] else ([], 0))
          rw [if_pos c]; exact eqS.rf I6.nd
        · rw [S6.I (by simp), S5.I (by simp)]; exact w5
        · rw [S6.I (by simp), S5.I (by simp)]; exact w14
        · show mI M6 (m + 15) u = nI 0
          rw [S6.I (by simp), S5.I (by simp)]; exact w15
        · show mI M6 (m + 17) (512 * u + c) = nI ((if mm = 3 then upN (fun _ => 0) (an A 0 []) 1 else fun _ => 0) c)
          rw [if_pos ‹mm = 3›]
          have hc : c < 4 * 1 := hc
          rw [hM6]
          unfold upN
          by_cases z : c = an A 0 []
          · rw [z, rI_at, if_pos rfl]
          · rw [rI_nk (by omega), if_neg z, S5.I (by simp)]
            exact hz5 c (by omega)
  · intro c
    rw [nI_leI (by decide) (by omega)] at c
    rw [f16.1, f16.2.2, pk_mul, nI_add]; exact z_in (by omega) (by decide)
  · intro c
    rw [nI_leI (by decide) (by omega)] at c
    rw [f16.1, pk_mul, nI_add, nI_add, nI_clamp (by omega)]
    have F3 : Fu m u M1 (sJ M1 (m + 11) (16384 * u + k) (lN 0)) := Fu.J M1 (p := 11) (by decide) (by decide) (by show 16384 * u ≤ _ ∧ _; omega)
    refine ih (by omega) _ (F.tr F3) (by rw [rI_J]; exact j5) (fun c' hc' => ?_)
    by_cases z : c' = k
    · subst z; exact rJ_at _ _ _ _
    · rw [rJ_nk (by omega)]; exact hz c' (by omega)
end MFr
