/-! a call with its depth; the JDK's Math and arraycopy -/
def ClD (d : Nat) (k : MD) (args : List Value) (M : Mem) (Q : Option Value → Mem → Prop) : Prop := ∃ e, e < d ∧ Cl e k args M Q
def jmax (x y : Int32) : Int32 := if x < y then y else x
def jmin (x y : Int32) : Int32 := if y < x then y else x
def jabs (x : Int64) : Int64 := if 0 < x then x else -x
def cpOK (M : Mem) (se : Nat) (sp : Int32) (de : Nat) (dp ln : Int32) : Prop := ¬ sp < 0 ∧ ¬ dp < 0 ∧ ¬ ln < 0 ∧ sp.toNatClampNeg + ln.toNatClampNeg ≤ mN M se ∧ dp.toNatClampNeg + ln.toNatClampNeg ≤ mN M de
def cpM (M : Mem) (se : Nat) (sp : Int32) (de : Nat) (dp ln : Int32) : Mem := (fun q j => if q = de then va_cpy (mI M se) (mI M de) sp.toNatClampNeg dp.toNatClampNeg ln.toNatClampNeg j else mI M q j, M.2)
section More
variable {d : Nat} {k : MD} {pc ix : Nat} {ls : List (Nat × Value)} {st : List Value} {M : Mem} {Q : Option Value → Mem → Prop}
theorem Wp.step1 {pc2 : Nat} {st0 st2 : List Value} (hd1 : 1 ≤ d)
    (hs : ∀ (p : Program) (l : LF) (e : Env) (R : Room) (s : State) (m : MethodId) (args : Array Value) (below : List Frame) (meth : Method) (c : Code) (H : Heap) (locs : List Loc) (cells slots : Nat) (Z : State → Prop) (g : GX) (la : Array Slot), Cx k p s m args meth c → Kx g s → Rep g M H → lv_has la (kL k) (ls.map (cl g)) → 1 ≤ R.frames → 64 ≤ R.locals → cells ≤ R.cells → slots ≤ R.slots →
      W p l e R s m args below meth c H locs cells slots Z (F0 m pc2 la (st2.map (cv g))) → W p l e R s m args below meth c H locs cells slots Z (F0 m pc la (st0.map (cv g))))
    (h : Wp d k pc2 ls st2 M Q) : Wp d k pc ls st0 M Q := by
  obtain ⟨r, M', a, b, b3⟩ := h
  refine ⟨r, M', a, b, fun p l e R s m args below meth c H locs cells slots Z g la hC hK hX hP hg hS hl hf hlo hc1 hc2 kk => ?_⟩
  exact hs p l e R s m args below meth c H locs cells slots Z g la hC hK hP hl (by omega) (by omega) (by omega) (by omega) (b3 p l e R s m args below meth c H locs cells slots Z g la hC hK hX hP hg hS hl hf hlo hc1 hc2 kk)
theorem r_math_max {x y : Int32} (hd : decode (kB k) pc = .ok (.invokestatic ix, 3)) (hl1 : Cond.methodLink (kO k) ix Lib.Math.max.name ∈ ALLG) (hd1 : 1 ≤ d) (hro : (st.map fun v => v.category).sum ≤ 8) (h : Wp d k (pc + 3) ls (.int (jmax x y) :: st) M Q) : Wp d k pc ls (.int y :: .int x :: st) M Q :=
  Wp.step1 (st2 := .int (jmax x y) :: st) hd1 (fun p l e R s m args below meth c H locs cells slots Z g la hC hK hP hl hf hlo hcc hss kk => by
    have hts := hC.2.2.2.2.1
    have h8 : ((st.map (cv g)).map fun v => v.category).sum ≤ 8 := by rw [cats_map]; exact hro
    exact va_mmax hC.1 hC.2.1 (hC.2.2.1.trans hl.1.symm) hC.2.2.2.1 (hts _ hl1) (hts _ mt_s_max) (hts _ mt_i) (hts _ mt_c_max) hf (by omega) hcc hss hd kk) h
theorem r_math_min {x y : Int32} (hd : decode (kB k) pc = .ok (.invokestatic ix, 3)) (hl1 : Cond.methodLink (kO k) ix Lib.Math.min.name ∈ ALLG) (hd1 : 1 ≤ d) (hro : (st.map fun v => v.category).sum ≤ 8) (h : Wp d k (pc + 3) ls (.int (jmin x y) :: st) M Q) : Wp d k pc ls (.int y :: .int x :: st) M Q :=
  Wp.step1 (st2 := .int (jmin x y) :: st) hd1 (fun p l e R s m args below meth c H locs cells slots Z g la hC hK hP hl hf hlo hcc hss kk => by
    have hts := hC.2.2.2.2.1
    have h8 : ((st.map (cv g)).map fun v => v.category).sum ≤ 8 := by rw [cats_map]; exact hro
    exact va_mmin hC.1 hC.2.1 (hC.2.2.1.trans hl.1.symm) hC.2.2.2.1 (hts _ hl1) (hts _ mt_s_min) (hts _ mt_i) (hts _ mt_c_min) hf (by omega) hcc hss hd kk) h
theorem r_math_abs {x : Int64} (hd : decode (kB k) pc = .ok (.invokestatic ix, 3)) (hl1 : Cond.methodLink (kO k) ix Lib.MathLoose.abs_long.x ∈ ALLG) (hd1 : 1 ≤ d) (hro : (st.map fun v => v.category).sum ≤ 8) (h : Wp d k (pc + 3) ls (.long (jabs x) :: st) M Q) : Wp d k pc ls (.long x :: st) M Q :=
  Wp.step1 (st2 := .long (jabs x) :: st) hd1 (fun p l e R s m args below meth c H locs cells slots Z g la hC hK hP hl hf hlo hcc hss kk => by
    have hts := hC.2.2.2.2.1
    have h8 : ((st.map (cv g)).map fun v => v.category).sum ≤ 8 := by rw [cats_map]; exact hro
    exact va_mabs_long hC.1 hC.2.1 (hC.2.2.1.trans hl.1.symm) hC.2.2.2.1 (hts _ hl1) (hts _ mt_s_abs) (hts _ mt_i) (hts _ mt_c_abs) hf (by omega) hcc hss hd kk) h
theorem cp_room {a L d : Nat} (h : a ≤ 8) (hl : 64 * d ≤ L) (hd : 1 ≤ d) : 2 * 0 + a + (nativeFrameWords "java/lang/System" "arraycopy" 5 + 11) ≤ L := by
  have h3 : nativeFrameWords "java/lang/System" "arraycopy" 5 ≤ 30 := by decide
  omega
theorem r_copyi {se de : Nat} {sp dp n : Int32} (hd : decode (kB k) pc = .ok (.invokestatic ix, 3)) (hl1 : Cond.methodLink (kO k) ix arraycopyName ∈ ALLG) (hk0 : mK M se = 1) (hk1 : mK M de = 1) (hok : cpOK M se sp de dp n) (hd1 : 1 ≤ d) (hro : (st.map fun v => v.category).sum ≤ 8) (h : Wp d k (pc + 3) ls st (cpM M se sp de dp n) Q) : Wp d k pc ls (.int n :: .int dp :: .ref de :: .int sp :: .ref se :: st) M Q :=
  Wp.stepM (M := M) (M2 := cpM M se sp de dp n) (pc2 := pc + 3) (st2 := st) 0 0 rfl rfl (fun p l e R s m args below meth c H locs cells slots Z g la hC hK hX hP hg hS hl hfr hlo hc1 hc2 kk => by
    have hts := hC.2.2.2.2.1
    obtain ⟨h1, h2, h3, h4, h5⟩ := hok
    have nn : ∀ z : Int32, ¬ z < 0 → z.toInt = (z.toNatClampNeg : Int) := by
      intro z hz
      have hz0 : (0 : Int) ≤ z.toInt := by
        have := Int32.not_lt.mp hz
        simpa using Int32.le_iff_toInt_le.mp this
      show z.toInt = ((z.toInt.toNat : Nat) : Int)
      omega
    have ne0 : mK M se ≠ 0 := by rw [hk0]; omega
    have ne1 : mK M de ≠ 0 := by rw [hk1]; omega
    have a0 := hP.2.1 se ne0
    have a1 := hP.2.1 de ne1
    have hc0 : cok0 g (mK M se) (mN M se) (mI M se) (mJ M se) (mR M se) H (gb g + (se - 2)) := hP.2.2 se
    have hcd : cok0 g (mK M de) (mN M de) (mI M de) (mJ M de) (mR M de) H (gb g + (de - 2)) := hP.2.2 de
    rw [hk0] at hc0
    rw [hk1] at hcd
    have hc0 : H[gb g + (se - 2)]? = some (arrV g.2.1 (mN M se) (fun j => .int (mI M se j))) := hc0
    have hcd : H[gb g + (de - 2)]? = some (arrV g.2.1 (mN M de) (fun j => .int (mI M de j))) := hcd
    rw [List.map_cons, List.map_cons, List.map_cons, List.map_cons, List.map_cons]
    show W p l e R s m args below meth c H locs cells slots Z (F0 m pc la (.int n :: .int dp :: cr g de :: .int sp :: cr g se :: st.map (cv g)))
    rw [cr_ge g a0.1, cr_ge g a1.1]
    have h8 : ((st.map (cv g)).map fun v => v.category).sum ≤ 8 := by rw [cats_map]; exact hro
    intro T hT X
    obtain ⟨-, k0, hkk, cm0, hkk0⟩ := hK.2.1.1 (mN M se) (fun j => .int (mI M se j))
    obtain ⟨-, k1, hkk', cm1, hkk1⟩ := hK.2.1.1 (mN M de) (fun j => .int (mI M de j))
    obtain ⟨vm', X', step⟩ := X.arraycopy hC.1 hC.2.2.2.1 (hts _ hl1) (hts _ cp_n) (hts _ cp_s) (hts _ cp_i) (src := gb g + (se - 2)) (dst := gb g + (de - 2)) (cs := arrV g.2.1 (mN M se) (fun j => .int (mI M se j))) (cd := arrV g.2.1 (mN M de) (fun j => .int (mI M de j))) (srcPos := sp) (destPos := dp) (n := n) (by rw [hT]; exact hc0) (by rw [hT]; exact hcd)
      (fun _ h => by cases h) (fun _ h => by cases h) (fun h => by cases h) (fun h => by cases h) hkk hkk' hkk0 hkk1 (by simp [refKind]) h1 h2 h3
      (by rw [nn sp h1, nn n h3, arrV_size]; omega)
      (by rw [nn dp h2, nn n h3, arrV_size]; omega)
      (fun vm₁ _ i hi => by
        have e : (arrV g.2.1 (mN M se) (fun j => .int (mI M se j))).slots.getD (sp.toNatClampNeg + i) .null = .int (mI M se (sp.toNatClampNeg + i)) := by
          rw [Array.getD_eq_getD_getElem?, arrV_read _ _ (by omega)]
          rfl
        refine ⟨?_, ?_⟩
        · rw [e]
          rfl
        · rw [e]
          exact trivial)
      (g := F0 m pc la (.int n :: .int dp :: .ref (gb g + (de - 2)) :: .int sp :: .ref (gb g + (se - 2)) :: st.map (cv g))) rfl (by rw [hC.2.2.1]; exact hl.1) (rest := st.map (cv g)) rfl (by rw [hC.2.1]; exact hd) (by omega) (by show 2 * 0 + _ + _ ≤ _; exact cp_room h8 hlo hd1)
    have e1 : copied (arrV g.2.1 (mN M se) (fun j => .int (mI M se j))) (arrV g.2.1 (mN M de) (fun j => .int (mI M de j))) sp dp n = arrV g.2.1 (mN M de) (fun j => .int (va_cpy (mI M se) (mI M de) sp.toNatClampNeg dp.toNatClampNeg n.toNatClampNeg j)) := va_copied (fun z => .int z) g.2.1 g.2.1 (mI M se) (mI M de) h4
    rw [e1] at X' step
    have hlt : gb g + (de - 2) < H.size := (Array.getElem?_eq_some_iff.mp hcd).1
    have oq : ∀ q : Nat, q ≠ gb g + (de - 2) → (H.setIfInBounds (gb g + (de - 2)) (arrV g.2.1 (mN M de) (fun j => .int (va_cpy (mI M se) (mI M de) sp.toNatClampNeg dp.toNatClampNeg n.toNatClampNeg j))))[q]? = H[q]? := fun q hq => by simp [Array.getElem?_setIfInBounds, Ne.symm hq]
    have hP2 : Rep g (cpM M se sp de dp n) (H.setIfInBounds (gb g + (de - 2)) (arrV g.2.1 (mN M de) (fun j => .int (va_cpy (mI M se) (mI M de) sp.toNatClampNeg dp.toNatClampNeg n.toNatClampNeg j)))) := by
      refine Rep.upd hP ne1 (by simp) oq rfl (fun _ => rfl) (fun _ => rfl) (fun p hp => funext fun j => if_neg hp) (fun _ _ => rfl) (fun _ _ => rfl) ?_
      show cok0 g (mK M de) (mN M de) (mI (cpM M se sp de dp n) de) (mJ M de) (mR M de) _ (gb g + (de - 2))
      rw [hk1]
      show _ = some (arrV _ _ _)
      have e2 : mI (cpM M se sp de dp n) de = va_cpy (mI M se) (mI M de) sp.toNatClampNeg dp.toNatClampNeg n.toNatClampNeg := funext fun j => if_pos rfl
      rw [e2]
      simp [Array.getElem?_setIfInBounds, hlt]
    have hS2 : ∀ L : List Loc, (∀ q ∈ L, q.base = gb g + (de - 2)) → va_S (ZA g) s.heap (H.setIfInBounds (gb g + (de - 2)) (arrV g.2.1 (mN M de) (fun j => .int (va_cpy (mI M se) (mI M de) sp.toNatClampNeg dp.toNatClampNeg n.toNatClampNeg j)))) (locs ++ L) := by
      intro L hL
      refine ⟨by simp; exact hS.1, fun q g1 g2 => ?_, fun q hq => ?_⟩
      · rw [oq q (fun e => g2 (by rw [e]; exact Nat.le_add_right _ _))]
        exact hS.2.1 q g1 g2
      · rcases List.mem_append.mp hq with h | h
        · exact hS.2.2 q h
        · rw [hL q h]; exact Nat.le_add_right _ _
    have hheap : ((T.setVm vm').setCell (gb g + (de - 2)) (arrV g.2.1 (mN M de) (fun j => .int (va_cpy (mI M se) (mI M de) sp.toNatClampNeg dp.toNatClampNeg n.toNatClampNeg j)))).heap = H.setIfInBounds (gb g + (de - 2)) (arrV g.2.1 (mN M de) (fun j => .int (va_cpy (mI M se) (mI M de) sp.toNatClampNeg dp.toNatClampNeg n.toNatClampNeg j))) := by rw [← hT]; rfl
    obtain ⟨t, b1, b2⟩ := kk _ _ hP2 (hS2 _ (fun q hq => by
      obtain ⟨z, -, hz⟩ := List.mem_map.mp hq
      rw [← hz])) _ hheap X'
    exact ⟨t, step t b1, b2⟩) h
end More
theorem sw11 {x : Int32} (h0 : ¬ x = 0) (h1 : ¬ x = 1) (h2 : ¬ x = 2) (h3 : ¬ x = 3) (h4 : ¬ x = 4) (h5 : ¬ x = 5) (h6 : ¬ x = 6) (h7 : ¬ x = 7) (h8 : ¬ x = 8) (h9 : ¬ x = 9) (h10 : ¬ x = 10) : x.toInt < 0 ∨ 10 < x.toInt := by
  rw [← Int32.toInt_inj] at h0 h1 h2 h3 h4 h5 h6 h7 h8 h9 h10
  have e0 : (0 : Int32).toInt = 0 := by decide
  have e1 : (1 : Int32).toInt = 1 := by decide
  have e2 : (2 : Int32).toInt = 2 := by decide
  have e3 : (3 : Int32).toInt = 3 := by decide
  have e4 : (4 : Int32).toInt = 4 := by decide
  have e5 : (5 : Int32).toInt = 5 := by decide
  have e6 : (6 : Int32).toInt = 6 := by decide
  have e7 : (7 : Int32).toInt = 7 := by decide
  have e8 : (8 : Int32).toInt = 8 := by decide
  have e9 : (9 : Int32).toInt = 9 := by decide
  have e10 : (10 : Int32).toInt = 10 := by decide
  rw [e0] at h0; rw [e1] at h1; rw [e2] at h2; rw [e3] at h3; rw [e4] at h4; rw [e5] at h5; rw [e6] at h6; rw [e7] at h7; rw [e8] at h8; rw [e9] at h9; rw [e10] at h10
  omega
