/-! the reference: lessons -/
section MLs
variable {d m u st sp : Nat} {Q : Option Value → Mem → Prop} {M M' : Mem} {A : PM} {s : List (List Nat) × Nat} {H T : List (List Nat)} {g : GU} {K : Nat → Nat} {p : PS}
def leS (m : Nat) : List Nat := [m + 6, m + 7, m + 8, m + 9, m + 10, m + 11, m + 12, m + 13, m + 17]
theorem w_X12_givesWay {w : List Nat} {lo c0 a : Nat} (hd : 5 < d) (hi : MoT M m u A st sp s H T) (hg : MoG M m u (some g)) (hgH : g.1 = H) (hgl : pl g.2 = pl A) (hK : MoK M m u T K) (hW : TW H T K) (hU : UQ K) (hT8 : T.length < 8) (hH8 : H.length < 8) (ha : a = rn (pt g.2) 0 (w.take (lo + 1))) (hc0 : K c0 = 1 + a) (hw : vw (pl A) w) (hwl : w.length ≤ 14) (hlo : lo + 1 ≤ w.length) (hl7 : ∀ h, h ∈ H → h.length ≤ 14) (hn : s.1.length + 2 < 8192)
    (h : ∀ M', Sm (leS m) M M' → Fu m u M M' → MoT M' m u A st sp (aS st sp (aS st sp s (H.getD a [] ++ w.drop (lo + 1))) (nLf g w (lo + 1) ++ w.drop (lo + 1))) (H ++ [nLf g w (lo + 1)]) (T ++ [w.drop (lo + 1)]) → MoK M' m u (T ++ [w.drop (lo + 1)]) (lesK A H T K a (w.drop (lo + 1)) (nLf g w (lo + 1))) → Q none M') : ClD d mdX12_givesWay [.ref m, .int (nI u), .long (lN (cd w)), .int (nI lo), .long (lN (cd (w.drop (lo + 1))))] M Q := by
  have hA := hi.ok
  have l3 := hA.2.1.2
  have a2 := hi.1.2
  have hw4 := vw_mono hw (show pl A ≤ 4 by omega)
  have hgo := hg.2.2.2.1
  have hr : ∀ n, rn (pt g.2) 0 (w.take n) < H.length := fun n => by
    have := rn_lt hgo hgo.1.1 (w := w.take n) (by rw [hgl]; exact vw_take hw n)
    rw [← hg.2.2.2.2, hgH] at this; exact this
  have hpn : pn g.2 = H.length := by rw [← hg.2.2.2.2, hgH]
  have haH : a < H.length := by rw [ha]; exact hr _
  obtain ⟨lw, lc⟩ := hW.leaf (c := c0) (by omega) (by omega)
  have hlt : lo < w.length := by omega
  have hx : w.getD lo 0 < pl A := by
    rw [List.getD, List.getElem?_eq_getElem hlt]; exact hw _ (List.getElem_mem hlt)
  obtain ⟨e, he⟩ : ∃ e, e = w.drop (lo + 1) := ⟨_, rfl⟩
  obtain ⟨v, hv⟩ : ∃ v, v = nLf g w (lo + 1) := ⟨_, rfl⟩
  rw [← he, ← hv] at h
  rw [← he]
  have ev : v = H.getD (rn (pt g.2) 0 (w.take lo)) [] ++ [w.getD lo 0] := by
    rw [hv]; unfold nLf acc
    rw [Nat.add_sub_cancel, hgH]
  have vh := hi.2.2.2.2.2.2.2.1.1
  have hvv : vw (pl A) v := by
    rw [ev]; exact vw_app.mpr ⟨(vh.get (hr _)).1, fun y hy => by rw [List.mem_singleton] at hy; rw [hy]; exact hx⟩
  have hvl : v.length ≤ 15 := by
    rw [ev, List.length_append, List.length_singleton]
    have := hl7 _ (getD_mem (hr lo)); omega
  have hev : vw (pl A) e := by rw [he]; exact vw_drop hw _
  have hel : e.length ≤ 14 := by rw [he, List.length_drop]; omega
  have hal := hl7 _ (getD_mem haH)
  have hav := (vh.get haH).1
  refine ⟨5, hd, Cl.of moX12_givesWay (Nat.le_of_ble_eq_true rfl) (gX12_givesWay_0 ?_)⟩
  rw [nI_add]
  refine w_X12_firstOf (by decide) hw4 (by omega) hlo (gX12_givesWay_10 hi.sh.1 (w_X12_endInGuess (by decide) hi.sh a2 hg (by rw [hgl]; exact vw_take hw _) (by rw [List.length_take]; omega) (gX12_givesWay_13 ?_)))
  rw [← ha]
  refine w_X12_firstOf (by decide) hw4 (by omega) (by omega) (gX12_givesWay_25 hi.sh.1 (w_X12_endInGuess (by decide) hi.sh a2 hg (by rw [hgl]; exact vw_take hw _) (by rw [List.length_take]; omega) (gX12_givesWay_28 hi.sh.1 (w_X12_accessOf (by decide) hi.sh a2 hg (by rw [hpn]; exact hr _) (gX12_givesWay_31 ?_)))))
  refine w_X12_lengthOf (by decide) hw4 (by omega) (gX12_givesWay_36 (w_X12_letterOf (by decide) hw4 (by omega) hlt (gX12_givesWay_41 ?_)))
  rw [hgH]
  refine w_X12_longer (by decide) (by omega) ?_
  rw [← ev]
  have f12 := hi.sh.f12
  have f22 := hi.sh.f22
  have hn7 := hi.n.1.2
  have hn6 := hi.n.1.1
  have vu : vp_in (nI u) 2 := z_in a2 (by omega)
  refine gX12_givesWay_44 hi.sh.1 (by rw [f12.1]; exact f12.2.1) (by rw [f12.1, f12.2.2]; exact vu) ?_
  rw [f12.1, nI_clamp (by omega), hn7]
  -- where the leaf is
  refine upto (4 * T.length) (fun k => ∀ n, n < 512 → (c0 < k → n = c0) → Wp 5 mdX12_givesWay 60 [(0, .ref m), (1, .int (nI u)), (5, .long (lN (cd e))), (7, .int (nI a)), (8, .long (lN (cd v))), (10, .int (nI T.length)), (11, .int (nI n)), (12, .int (nI k))] [] M (fun r M' => ROK mdX12_givesWay r ∧ Q r M')) ?_ 0 (Nat.zero_le _) 0 (by decide) (fun h => by omega)
  intro k hk ih n hn5 hni
  refine gX12_givesWay_60 hi.sh.1 (by rw [f12.1]; exact f12.2.1) (by rw [f22.1]; exact f22.2.1) (by rw [f12.1, f12.2.2]; exact vu) (fun c => ?_) (fun c => ?_) (fun c c1 => ?_) (fun c c1 => ?_) <;> rw [f12.1, nI_clamp (by omega), hn7, pk_mul, nI_leI (by omega) (by omega)] at c
  · have en0 : n = c0 := hni (by omega)
    subst en0
    refine w_X12_tailComes (by decide) hi (by omega) ⟨hev, by omega⟩ (fun M1 S1 F1 I1 hz => ?_)
    have f22 := I1.sh.f22
    refine gX12_givesWay_115 I1.sh.1 (by rw [f22.1]; exact f22.2.1) ?_ ?_ <;> rw [f22.1, pk_mul, nI_add]
    · rw [f22.2.2]; exact z_in (by omega) (by omega)
    · rw [nI_clamp (by omega), nI_add]
      obtain ⟨M2, hM2⟩ : ∃ M2, M2 = sI M1 (m + 17) (512 * u + n) (nI (100 + T.length)) := ⟨_, rfl⟩
      rw [← hM2]
      have F2 : Fu m u M1 M2 := by rw [hM2]; exact Fu.I M1 (p := 17) (by decide) (by decide) (by show 512 * u ≤ _ ∧ _; omega)
      have S2 : Sm [m + 17] M1 M2 := by rw [hM2]; exact Sm.sI (by simp) _ _ _
      have tI : ∀ {M3 M4 s3 H3 T3}, MoT M3 m u A st sp s3 H3 T3 → Fu m u M3 M4 → Sm [m + 17] M3 M4 → MoT M4 m u A st sp s3 H3 T3 := fun I F S => I.fu F (I.2.2.2.2.1.sm S (by simp) (by simp) (by simp)) ⟨by rw [S.I (by simp)], by rw [S.I (by simp)]⟩ ⟨S.J (by simp), S.I (by simp), S.J (by simp)⟩
      have I2 := tI I1 F2 S2
      refine w_X12_headOf (by decide) I2 haH (gX12_givesWay_142 (w_X12_both (by decide) (vw_mono hav (by omega)) (vw_mono hev (by omega)) (by omega) ?_))
      have hw1 : vw (pl A) (H.getD a [] ++ e) := vw_app.mpr ⟨hav, hev⟩
      have hw2 : vw (pl A) (v ++ e) := vw_app.mpr ⟨hvv, hev⟩
      refine gX12_givesWay_147 I2.sh.1 (I2.ask (w := H.getD a [] ++ e) (by decide) (by omega) hw1 (by rw [List.length_append]; omega) (fun M3 S3 F3 I3 => gX12_givesWay_150 ?_))
      refine w_X12_both (by decide) (vw_mono hvv (by omega)) (vw_mono hev (by omega)) (by omega) ?_
      have hl1 := aS_len st sp s (H.getD a [] ++ e)
      refine gX12_givesWay_161 I3.sh.1 (I3.ask (w := v ++ e) (by decide) (by omega) hw2 (by rw [List.length_append]; omega) (fun M4 S4 F4 I4 => ?_))
      obtain ⟨o1, ho1⟩ : ∃ o1, o1 = an A 0 (H.getD a [] ++ e) := ⟨_, rfl⟩
      obtain ⟨o2, ho2⟩ : ∃ o2, o2 = an A 0 (v ++ e) := ⟨_, rfl⟩
      have b1 : o1 < 4 := by rw [ho1]; exact an_lt hA hw1
      have b2 : o2 < 4 := by rw [ho2]; exact an_lt hA hw2
      rw [← ho1, ← ho2]
      have g22 := I4.sh.f22
      have g11 := I4.sh.f11
      have hadd : ∀ o, o < 4 → (nI 4) * (((nI 128) * (nI u)) + (nI T.length)) + nI o = nI (512 * u + (T.length * 4 + o)) := fun o _ => by
        rw [pk_mul, nI_add, pk_mul, nI_add]; congr 1; omega
      have vin : ∀ o, o < 4 → vp_in (nI (512 * u + (T.length * 4 + o))) 1024 := fun o ho => z_in (by omega) (by omega)
      refine gX12_givesWay_164 I4.sh.1 (by rw [g22.1]; exact g22.2.1) ?_ ?_ ?_ ?_ ?_ ?_ <;> rw [hadd _ b1]
      · simp only [eRI, eKI]; rw [g11.1]; exact g11.2.1
      · simp only [eRI, eKI]; rw [g22.1]; exact g22.2.1
      · rw [g22.1, g22.2.2]; exact vin _ b1
      · simp only [eRI, eNI]; rw [g11.1, g11.2.2]; exact vu
      · rw [hadd _ b2]; simp only [eRI, eNI]; rw [g22.1, g22.2.2]; exact vin _ b2
      · rw [hadd _ b2]; simp only [eRI]
        rw [g22.1, g11.1, nI_clamp (by omega), nI_clamp (by omega), nI_clamp (by omega), rI_np (by omega), I4.n.1.1, nI_add, nI_add]
        obtain ⟨M5, hM5⟩ : ∃ M5, M5 = sI M4 (m + 17) (512 * u + (T.length * 4 + o1)) (nI (1 + a)) := ⟨_, rfl⟩
        obtain ⟨M6, hM6⟩ : ∃ M6, M6 = sI M5 (m + 17) (512 * u + (T.length * 4 + o2)) (nI (1 + H.length)) := ⟨_, rfl⟩
        rw [← hM5, ← hM6]
        have F5 : Fu m u M4 M5 := by rw [hM5]; exact Fu.I M4 (p := 17) (by decide) (by decide) (by show 512 * u ≤ _ ∧ _; omega)
        have S5 : Sm [m + 17] M4 M5 := by rw [hM5]; exact Sm.sI (by simp) _ _ _
        have F6 : Fu m u M5 M6 := by rw [hM6]; exact Fu.I M5 (p := 17) (by decide) (by decide) (by show 512 * u ≤ _ ∧ _; omega)
        have S6 : Sm [m + 17] M5 M6 := by rw [hM6]; exact Sm.sI (by simp) _ _ _
        have I6 := tI (tI I4 F5 S5) F6 S6
        refine w_X12_headComes (by decide) I6 (by omega) ⟨hvv, by omega⟩ (fun M7 S7 F7 I7 => gX12_givesWay_221 ⟨rfl, ?_⟩)
        refine h M7 ((((S1.mono (by simp [leS])).tr (S2.mono (by simp [leS]))).tr (S3.mono (by simp [leS]))).tr (((S4.mono (by simp [leS])).tr (S5.mono (by simp [leS]))).tr ((S6.mono (by simp [leS])).tr (S7.mono (by simp [leS]))))) (((F1.tr F2).tr F3).tr ((F4.tr F5).tr (F6.tr F7))) I7 (fun c hc => ?_)
        rw [List.length_append, List.length_singleton] at hc
        have eK : mI M7 (m + 17) = mI M6 (m + 17) := S7.I (by simp)
        have eK4 : mI M4 (m + 17) = mI M2 (m + 17) := (S4.I (by simp)).trans (S3.I (by simp))
        unfold lesK upN
        rw [eK, hM6, ← ho1, ← ho2]
        by_cases z2 : c = T.length * 4 + o2
        · rw [z2, rI_at, if_pos rfl]
        · rw [rI_nk (by omega), if_neg z2, hM5]
          by_cases z1 : c = T.length * 4 + o1
          · rw [z1, rI_at, if_pos rfl]
          · rw [rI_nk (by omega), if_neg z1, eK4, hM2]
            by_cases z0 : c = n
            · rw [z0, rI_at]; dsimp only; rw [if_pos hc0]
            · rw [rI_nk (by omega), hz c]
              have hne : K c ≠ 1 + a := fun q => z0 (hU n c (by omega) (by omega) (by rw [q, hc0]))
              dsimp only; rw [if_neg hne]
              by_cases z4 : 4 * T.length ≤ c
              · rw [if_pos (by omega), hW.2.1 c z4]
              · rw [if_neg (by omega)]; exact hK c (by omega)
  · rw [f22.1, f22.2.2, pk_mul, nI_add]; exact z_in (by omega) (by omega)
  all_goals
    rw [f22.1, pk_mul, nI_add, nI_clamp (by omega), hK k (by omega), nI_add] at c1
    have kb := hW.le k
    rw [nI_eq (by omega) (by omega)] at c1
    rw [nI_add]
  · refine ih (by omega) n hn5 (fun hlt => hni ?_)
    refine Nat.lt_of_le_of_ne (by omega) (fun q => ?_)
    subst q
    exact c1 hc0
  · refine ih (by omega) k (by omega) (fun _ => ?_)
    exact hU c0 k (by omega) (by omega) (by rw [c1, hc0])
end MLs
