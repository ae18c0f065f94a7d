/-! the reference: its face, the table's lines -/
section MLi
variable {d m st sp N : Nat} {Q : Option Value → Mem → Prop} {M M' : Mem} {A : PM} {p p' : PS} {X : List Nat} {R : List Int64} {s : List (List Nat) × Nat} {H T : List (List Nat)}
theorem w_X12_areAllAsked (hd : 3 < d) (hi : MoT M m 0 A st sp s H T) (hn : s.1.length < 16384) (hlen : ∀ h e, h ∈ H → e ∈ T → h.length + 1 + e.length ≤ 30) (h1 : (∀ w, w ∈ rwW (pl A) H T → w ∈ s.1) → Q (some (.int (nI 1))) M) (h0 : (¬ ∀ w, w ∈ rwW (pl A) H T → w ∈ s.1) → Q (some (.int (nI 0))) M) : ClD d mdX12_areAllAsked [.ref m] M Q := by
  have hA := hi.ok
  have l3 := hA.2.1.2
  have s1 := hi.sh
  have f11 := s1.f11
  have f12 := s1.f12
  have n0 : vp_in (nI 0) 2 := z_in (by decide) (by decide)
  have nn := hi.n
  have K11 : mK M (mR M m 11) = 1 := by rw [f11.1]; exact f11.2.1
  have K12 : mK M (mR M m 12) = 1 := by rw [f12.1]; exact f12.2.1
  have V11 : vp_in (nI 0) (mN M (mR M m 11)) := by rw [f11.1, f11.2.2]; exact n0
  have V12 : vp_in (nI 0) (mN M (mR M m 12)) := by rw [f12.1, f12.2.2]; exact n0
  have e11 : mI M (mR M m 11) (nI 0).toNatClampNeg = nI H.length := by rw [f11.1, nI_clamp (by decide)]; exact nn.1.1
  have e12 : mI M (mR M m 12) (nI 0).toNatClampNeg = nI T.length := by rw [f12.1, nI_clamp (by decide)]; exact nn.1.2
  let NB : Prop := ∃ w, w ∈ rwW (pl A) H T ∧ w ∉ s.1
  let ok : Nat → Nat → Prop := fun k e => H.getD k [] ++ T.getD e [] ∈ s.1 ∧ ∀ x, x < pl A → H.getD k [] ++ [x] ++ T.getD e [] ∈ s.1
  have one : ¬ (nI 1 : Int32) = 0 := by decide
  refine ⟨3, hd, Cl.of moX12_areAllAsked (Nat.le_of_ble_eq_true rfl) (gX12_areAllAsked_0 ?_)⟩
  refine upto H.length (fun k => ∀ v : Int32, (v = nI 1 ∧ ∀ i j, i < k → j < T.length → ok i j) ∨ (v = nI 0 ∧ NB) → Wp 3 mdX12_areAllAsked 4 [(0, .ref m), (1, .int v), (2, .int (nI k))] [] M (fun r M' => ROK mdX12_areAllAsked r ∧ Q r M')) ?_ 0 (Nat.zero_le _) (nI 1) (Or.inl ⟨rfl, fun _ _ h => by omega⟩)
  intro k hk ih v hv
  refine gX12_areAllAsked_4 s1.1 K11 V11 (fun c => ?_) (fun c => ?_) <;> rw [e11, nI_leI (by omega) (by omega)] at c
  · have ek : k = H.length := by omega
    rcases hv with ⟨v1, v2⟩ | ⟨v1, w, v2, v3⟩
    · rw [v1]
      refine ⟨⟨_, rfl, by decide⟩, h1 (fun w hw => ?_)⟩
      obtain ⟨h, hh, e, he, q⟩ := rwW_mem.mp hw
      obtain ⟨i, i1, i2⟩ := mem_getD hh
      obtain ⟨j, j1, j2⟩ := mem_getD he
      have g := v2 i j (by omega) j1
      rw [← i2, ← j2] at q
      rcases q with q | ⟨x, x1, q⟩
      · rw [q]; exact g.1
      · rw [q]; exact g.2 x x1
    · rw [v1]; exact ⟨⟨_, rfl, by decide⟩, h0 (fun q => v3 (q w v2))⟩
  · have hkl : k < H.length := by omega
    have hh := hi.2.2.2.2.2.2.2.1.1.get hkl
    refine upto T.length (fun e => ∀ v : Int32, (v = nI 1 ∧ (∀ i j, i < k → j < T.length → ok i j) ∧ ∀ j, j < e → ok k j) ∨ (v = nI 0 ∧ NB) → Wp 3 mdX12_areAllAsked 16 [(0, .ref m), (1, .int v), (2, .int (nI k)), (3, .int (nI e))] [] M (fun r M' => ROK mdX12_areAllAsked r ∧ Q r M')) ?_ 0 (Nat.zero_le _) v (hv.imp (fun q => ⟨q.1, q.2, fun _ h => by omega⟩) id)
    intro e he ih2 v hv
    have NX : ∀ v : Int32, (v = nI 1 ∧ (∀ i j, i < k → j < T.length → ok i j) ∧ (∀ j, j < e → ok k j) ∧ H.getD k [] ++ T.getD e [] ∈ s.1) ∨ (v = nI 0 ∧ NB) → e < T.length → Wp 3 mdX12_areAllAsked 62 [(0, .ref m), (1, .int v), (2, .int (nI k)), (3, .int (nI e)), (4, .int (nI 0))] [] M (fun r M' => ROK mdX12_areAllAsked r ∧ Q r M') := by
      intro v hv hel
      have ht := hi.2.2.2.2.2.2.2.1.2.get hel
      have hle := hlen _ _ (getD_mem hkl) (getD_mem hel)
      refine upto (pl A) (fun x => ∀ v : Int32, (v = nI 1 ∧ (∀ i j, i < k → j < T.length → ok i j) ∧ (∀ j, j < e → ok k j) ∧ H.getD k [] ++ T.getD e [] ∈ s.1 ∧ ∀ y, y < x → H.getD k [] ++ [y] ++ T.getD e [] ∈ s.1) ∨ (v = nI 0 ∧ NB) → Wp 3 mdX12_areAllAsked 62 [(0, .ref m), (1, .int v), (2, .int (nI k)), (3, .int (nI e)), (4, .int (nI x))] [] M (fun r M' => ROK mdX12_areAllAsked r ∧ Q r M')) ?_ 0 (Nat.zero_le _) v (hv.imp (fun q => ⟨q.1, q.2.1, q.2.2.1, q.2.2.2, fun _ h => by omega⟩) id)
      intro x hx ih3 v hv
      refine gX12_areAllAsked_62 s1.1 (fun c => ?_) (fun c c2 => ?_) (fun c c2 => ?_) <;> rw [nn.2.2.2, nI_leI (by omega) (by omega)] at c
      · rw [nI_add]
        refine ih2 hel v (hv.imp (fun q => ⟨q.1, q.2.1, fun j hj => ?_⟩) id)
        by_cases z : j = e
        · rw [z]; exact ⟨q.2.2.2.1, fun y hy => q.2.2.2.2 y (by omega)⟩
        · exact q.2.2.1 j (by omega)
      · rw [nI_add]
        rcases hv with q | q
        · exact absurd c2 (by rw [q.1]; decide)
        · exact ih3 (by omega) (nI 0) (Or.inr ⟨rfl, q.2⟩)
      · have hxl : x < pl A := by omega
        rcases hv with q | q
        · have hwx : vw (pl A) (H.getD k [] ++ [x]) := vw_app.mpr ⟨hh.1, fun v hv => by rw [List.mem_singleton] at hv; rw [hv]; exact hxl⟩
          refine w_X12_headOf (by decide) hi hkl (gX12_areAllAsked_83 (w_X12_longer (by decide) (by omega) (gX12_areAllAsked_88 s1.1 (w_X12_tailOf (by decide) hi hel (gX12_areAllAsked_94 (w_X12_both (by decide) (vw_mono hwx (by omega)) (vw_mono ht.1 (by omega)) (by rw [List.length_append, List.length_singleton]; omega) (gX12_areAllAsked_97 s1.1 ?_)))))))
          refine w_X12_wasAsked (by decide) s1 (by decide) hi.2.2.2.2.1 hn (vw_mono (vw_app.mpr ⟨hwx, ht.1⟩) (by omega)) (by rw [List.length_append, List.length_append, List.length_singleton]; omega) (fun hin => gX12_areAllAsked_100 (fun c => absurd c one) (fun _ => ?_)) (fun hin => gX12_areAllAsked_100 (fun _ => ?_) (fun c => absurd rfl c)) <;> rw [nI_add]
          · refine ih3 hxl (nI 1) (Or.inl ⟨rfl, q.2.1, q.2.2.1, q.2.2.2.1, fun y hy => ?_⟩)
            by_cases z : y = x
            · rw [z]; exact hin
            · exact q.2.2.2.2 y (by omega)
          · exact ih3 hxl (nI 0) (Or.inr ⟨rfl, _, rwW_mem.mpr ⟨_, getD_mem hkl, _, getD_mem hel, Or.inr ⟨x, hxl, rfl⟩⟩, hin⟩)
        · exact absurd (by rw [q.1]; rfl) c2
    refine gX12_areAllAsked_16 s1.1 K12 V12 (fun c => ?_) (fun c c2 => ?_) (fun c c2 => ?_) <;> rw [e12, nI_leI (by omega) (by omega)] at c
    · rw [nI_add]
      refine ih hkl v (hv.imp (fun q => ⟨q.1, fun i j hi' hj => ?_⟩) id)
      by_cases z : i = k
      · rw [z]; exact q.2.2 j (by omega)
      · exact q.2.1 i j (by omega) hj
    · rcases hv with q | q
      · exact absurd c2 (by rw [q.1]; decide)
      · exact gX12_areAllAsked_57 (gX12_areAllAsked_58 (NX (nI 0) (Or.inr ⟨rfl, q.2⟩) (by omega)))
    · have hel : e < T.length := by omega
      have ht := hi.2.2.2.2.2.2.2.1.2.get hel
      have hle := hlen _ _ (getD_mem hkl) (getD_mem hel)
      rcases hv with q | q
      · refine w_X12_headOf (by decide) hi hkl (gX12_areAllAsked_38 s1.1 (w_X12_tailOf (by decide) hi hel (gX12_areAllAsked_44 (w_X12_both (by decide) (vw_mono hh.1 (by omega)) (vw_mono ht.1 (by omega)) (by omega) (gX12_areAllAsked_47 s1.1 ?_)))))
        refine w_X12_wasAsked (by decide) s1 (by decide) hi.2.2.2.2.1 hn (vw_mono (vw_app.mpr ⟨hh.1, ht.1⟩) (by omega)) (by rw [List.length_append]; omega) (fun hin => gX12_areAllAsked_50 (fun c => absurd c one) (fun _ => gX12_areAllAsked_58 (NX (nI 1) (Or.inl ⟨rfl, q.2.1, q.2.2, hin⟩) hel))) (fun hin => gX12_areAllAsked_50 (fun _ => gX12_areAllAsked_57 (gX12_areAllAsked_58 (NX (nI 0) (Or.inr ⟨rfl, _, rwW_mem.mpr ⟨_, getD_mem hkl, _, getD_mem hel, Or.inl rfl⟩, hin⟩) hel))) (fun c => absurd rfl c))
      · exact absurd (by rw [q.1]; rfl) c2
end MLi
