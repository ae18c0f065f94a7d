/-! the law's row: the class's row, and what it throws is caught -/
abbrev mdL_row : MD := (RL, yL_row, cL_row, 4, some .int, none)
theorem coL_row : Cond.codeWith yL_row cL_row 4 (some .int) [(0, 8, 11, 13)] ∈ ALLG := List.mem_filter.mpr ⟨by decide +kernel, by decide +kernel⟩
theorem stL_row : Cond.static yL_row ∈ ALLG := List.mem_filter.mpr ⟨by decide +kernel, by decide +kernel⟩
theorem iniL : Cond.initialized yL_row.cls ∈ ALLG := List.mem_filter.mpr ⟨by decide +kernel, by decide +kernel⟩
theorem exL13 : Cond.classLink RL 13 "java/util/NoSuchElementException" ∈ ALLG := List.mem_filter.mpr ⟨by decide +kernel, by decide +kernel⟩
theorem exCa : Cond.castable "java/util/NoSuchElementException" "java/util/NoSuchElementException" ∈ exWs := by decide +kernel
def ConR (d : Nat) (args : List Value) (M : Mem) (r : Int32) (M' : Mem) : Prop := (mC M ≤ mC M' ∧ mS M ≤ mS M') ∧ ∀ (l : LF) (g : GX), Met l yL_row (Cond.codeWith yL_row cL_row 4 (some .int) [(0, 8, 11, 13)] :: ALLG) ({ frames := d, cells := mC M' - mC M, slots := mS M' - mS M, locals := 64 * d } : Room) (va_Pc (args.map (cv g)) (rowP g M)) (fun _ st oc t => (oc = .returned (some (.int r)) ∧ Rep g M' t.heap) ∧ va_F (ZA g) st t) (mC M' - mC M) (mS M' - mS M) (ZA g)
/-- a run of the law's row to its return is a contract -/
theorem ConR.of {d : Nat} {args : List Value} {M M' : Mem} {x : Int32} (hsz : (lg_sl args).length ≤ 4) (h : Go d mdL_row 0 (lv_args 0 args) [] M (some (.int x)) M') : ConR d args M x M' := by
  refine ⟨h.1, fun l g => ?_⟩
  refine va_MetW (cc := cL_row) (maxL := 4) (ret := some .int) (by decide +kernel) rfl ?_
  intro p e s m av below meth c s₁ B hml hv
  obtain ⟨rfl, hP, hK, hgb, -⟩ := hv
  have hts := atoms_spec (ws := Cond.codeWith yL_row cL_row 4 (some .int) [(0, 8, 11, 13)] :: ALLG) B.pre
  have hl := lv_entry (args.map (cv g)) (n := 4) (by rw [sl_len]; exact hsz)
  rw [args_cl] at hl
  rw [lg_entry_eq]
  have hlocks := B.notSynchronized
  have hC : Cx mdL_row p s m (args.map (cv g)).toArray meth c := ⟨B.exec, B.bytes, hml, findClass_of_methodNamed B.named, fun w hw => hts w (List.mem_cons_of_mem _ hw), (name_of_methodNamed B.named B.method).1⟩
  refine h.2 p l e ({ frames := d, cells := mC M' - mC M, slots := mS M' - mS M, locals := 64 * d } : Room) s m _ below meth c s.heap [] 0 0 (MQ below (fun _ st oc t => (oc = .returned (some (.int x)) ∧ Rep g M' t.heap) ∧ va_F (ZA g) st t) (args.map (cv g)).toArray s (mC M' - mC M) (mS M' - mS M) (ZA g)) g _ hC hK True.intro hP hgb va_S.rf hl (Nat.le_refl _) (Nat.le_refl _) (Nat.le_of_eq (Nat.zero_add _)) (Nat.le_of_eq (Nat.zero_add _)) ?_
  intro H' locs' pc' la' hra hP' hS'
  rw [Nat.zero_add, Nat.zero_add]
  exact W.iret B.exec B.bytes B.returns (fun t ht _ => ⟨⟨rfl, by rw [ht]; exact hP'⟩, hS'.F ht⟩) hS'.2.2 hra
section LRow
variable {d : Nat} {Q : Option Value → Mem → Prop} {M : Mem}
/-- the class's row, where it returns -/
theorem w_X11_row {i : Nat} (hd : 1 < d) (hk : mK M 2 = 13) (h9 : mR M 2 9 = 87) (hk9 : mK M 87 = 2) (hn9 : mN M 87 = 8) {n : Nat} (hn : mI M 2 10 = nI n) (hi : i < n) (hn8 : n ≤ 8) (h : Q (some (.long (mJ M 87 i))) M) : ClD d mdX11_row [.ref 2, .int (nI i)] M Q := by
  refine ⟨1, hd, Cl.of moX11_row (Nat.le_of_ble_eq_true rfl) ?_⟩
  refine r_iload_n dX11_row_0 rfl 1 rfl ?_
  refine r_if_lt (tgt := 21) dX11_row_1 (by decide) (fun c => absurd c (nI_pos (by omega))) (fun _ => ?_)
  refine r_iload_n dX11_row_4 rfl 1 rfl ?_
  refine r_aload_n dX11_row_5 rfl 0 rfl ?_
  refine r_getI ck9 dX11_row_6 flX11_315 rfl hk ?_
  refine r_icmp_ge (tgt := 21) dX11_row_9 (by decide) (fun c => ?_) (fun _ => ?_)
  · rw [hn, nI_leI (by omega) (by omega)] at c; omega
  refine r_iload_n dX11_row_12 rfl 1 rfl ?_
  refine r_aload_n dX11_row_13 rfl 0 rfl ?_
  refine r_getR ck9 dX11_row_14 flX11_65 rfl hk ?_
  rw [h9]
  refine r_alen dX11_row_17 (Or.inr (Or.inl hk9)) ?_
  rw [hn9]
  refine r_icmp_lt (tgt := 29) dX11_row_18 (by decide) (fun _ => ?_) (fun c => ?_)
  · refine r_aload_n dX11_row_29 rfl 0 rfl ?_
    refine r_getR ck9 dX11_row_30 flX11_65 rfl hk ?_
    rw [h9]
    refine r_iload_n dX11_row_33 rfl 1 rfl ?_
    refine r_lald dX11_row_34 hk9 (by rw [hn9]; exact z_in (by omega) (by decide)) ?_
    rw [nI_clamp (by omega)]
    exact r_ret (some (.long (mJ M 87 i))) dX11_row_35 rfl ⟨⟨_, rfl⟩, h⟩
  · rw [nI_ltI (by omega) (by decide)] at c; omega
theorem w_row1 {o i : Nat} (hk : mK M 2 = 13) (h9 : mR M 2 9 = 87) (hk9 : mK M 87 = 2) (hn9 : mN M 87 = 8) {n : Nat} (hn : mI M 2 10 = nI n) (hi : i < n) (hn8 : n ≤ 8) (ho : mK M o = 2) (hon : mN M o = 1) : ConR 3 [.ref 2, .int (nI i), .ref o] M (nI 0) (sJ M o 0 (mJ M 87 i)) := by
  refine ConR.of (Nat.le_of_ble_eq_true rfl) ?_
  have h : Wp 3 mdL_row 0 (lv_args 0 [.ref 2, .int (nI i), .ref o]) [] M (fun r M' => r = some (.int (nI 0)) ∧ M' = sJ M o 0 (mJ M 87 i)) := by
    refine r_aload_n dL_row_0 rfl 2 rfl ?_
    refine r_iconst (v := nI 0) dL_row_1 rfl ?_
    refine r_aload_n dL_row_2 rfl 0 rfl ?_
    refine r_iload_n dL_row_3 rfl 1 rfl ?_
    have key : Wp 3 mdL_row (4 + 3) (lv_args 0 [.ref 2, .int (nI i), .ref o]) [.long (mJ M 87 i), .int (nI 0), .ref o] M (fun r M' => r = some (.int (nI 0)) ∧ M' = sJ M o 0 (mJ M 87 i)) := by
      refine r_last dL_row_7 ho (by rw [hon]; exact z_in (by decide) (by decide)) ?_
      rw [nI_clamp (by decide)]
      refine r_goto (tgt := 14) dL_row_8 (by decide) ?_
      refine r_iconst (v := nI 0) dL_row_14 rfl ?_
      exact r_ret (some (.int (nI 0))) dL_row_15 rfl ⟨rfl, rfl⟩
    obtain ⟨e, he, hc⟩ := w_X11_row (d := 2) (Q := fun r1 M1 => Wp 3 mdL_row (4 + 3) (lv_args 0 [.ref 2, .int (nI i), .ref o]) (r1.toList ++ [.int (nI 0), .ref o]) M1 (fun r M' => r = some (.int (nI 0)) ∧ M' = sJ M o 0 (mJ M 87 i))) (by decide) hk h9 hk9 hn9 hn hi hn8 key
    exact r_callV (ci := 9) (As := [.int (nI i)]) moX11_row dL_row_4 mlL_7 imX11_row seX11_row hk rfl (by omega) (Nat.le_of_ble_eq_true rfl) hc
  obtain ⟨r, M', ⟨rfl, rfl⟩, hg⟩ := h
  exact hg
theorem w_row2 {o : Nat} {x : Int32} (hk : mK M 2 = 13) (hx : x < 0 ∨ mI M 2 10 ≤ x) (ho : 2 ≤ o) : ConR 8 [.ref 2, .int x, .ref o] M (nI 1) (nwC M 0 6) := by
  have c1 : mC (nwC M 0 6) = mC M + 1 := rfl
  have c2 : mS (nwC M 0 6) = mS M + 6 := rfl
  refine ⟨⟨by omega, by omega⟩, fun l g => ?_⟩
  rw [show mC (nwC M 0 6) - mC M = 1 by omega, show mS (nwC M 0 6) - mS M = 6 by omega]
  refine va_MetW (cc := cL_row) (maxL := 4) (ret := some .int) (by decide +kernel) rfl ?_
  intro p e s m av below meth c s₁ B hml hv
  obtain ⟨rfl, hP, hK, hgb, hT⟩ := hv
  have hts := atoms_spec (ws := Cond.codeWith yL_row cL_row 4 (some .int) [(0, 8, 11, 13)] :: ALLG) B.pre
  have hts2 : ∀ w ∈ ALLG, w.before ([Value.ref 2, Value.int x, Value.ref o].map (cv g)).toArray s = true := fun w hw => hts w (List.mem_cons_of_mem _ hw)
  have hl := lv_entry ([Value.ref 2, Value.int x, Value.ref o].map (cv g)) (n := 4) (by rw [sl_len]; exact Nat.le_of_ble_eq_true rfl)
  rw [args_cl] at hl
  rw [lg_entry_eq]
  have hlocks := B.notSynchronized
  have hown : s.vm.findClass RL = some m.cls := findClass_of_methodNamed B.named
  have hx0 := B.exec
  have hb := B.bytes
  have htab := vx_table (x := yL_row) B (hts _ List.mem_cons_self)
  have e2 : cr g 2 = .ref (gb g + (2 - 2)) := cr_ge g (Nat.le_refl 2)
  have eo : cr g o = .ref (gb g + (o - 2)) := cr_ge g ho
  generalize hla : (lg_sl ([Value.ref 2, Value.int x, Value.ref o].map (cv g)) ++ List.replicate (4 - (lg_sl ([Value.ref 2, Value.int x, Value.ref o].map (cv g))).length) Slot.unset).toArray = la at hl ⊢
  have h0 : la[0]? = some (.val (.ref (gb g + (2 - 2)))) := by
    have := lv_at hl 0 (mp_at g (q := (0, Value.ref 2)) rfl)
    rw [← e2]; exact this
  have h1 : la[1]? = some (.val (.int x)) := lv_at hl 1 (mp_at g (q := (1, Value.int x)) rfl)
  have h2 : la[2]? = some (.val (.ref (gb g + (o - 2)))) := by
    have := lv_at hl 2 (mp_at g (q := (2, Value.ref o)) rfl)
    rw [← eo]; exact this
  refine lv_aload_n hx0 hb dL_row_0 rfl h2 ?_
  refine lv_iconst (v := nI 0) hx0 hb dL_row_1 rfl ?_
  refine lv_aload_n hx0 hb dL_row_2 rfl h0 ?_
  refine lv_iload_n hx0 hb dL_row_3 rfl h1 ?_
  obtain ⟨e1, hrv⟩ := recvW (s := s) hP hK (ci := 9) (a := 2) hk
  obtain ⟨hcode, hini, hdd, -⟩ := moX11_row
  have hr := vx_runV (C := RX11) (ret := some .long) (n := 1) (As := [Value.int x]) (rest := [Value.int (nI 0), Value.ref (gb g + (o - 2))]) (l := l) (R := (headSpec (Cond.codeWith yL_row cL_row 4 (some .int) [(0, 8, 11, 13)] :: ALLG) ({ frames := 8, cells := 1, slots := 6, locals := 64 * 8 } : Room)).room) (e := e) (below := below) (meth := meth) (locs := []) (cells := 0) (slots := 0) (g := F0 m 4 la [Value.int x, Value.ref (gb g + (2 - 2)), Value.int (nI 0), Value.ref (gb g + (o - 2))]) ⟨hx0, hb, hml, hown, hts2⟩ (row_throws l g (M := M) hk hx)
      ⟨⟨rfl, rfl, by decide, by decide, fun w hw a' U hW => by
          rcases List.mem_cons.mp hw with e | e
          · rw [e]; exact word_at hW (good_of_word (List.mem_filter.mp hcode).2) (hts2 _ hcode)
          · exact word_at hW (good_of_word (List.mem_filter.mp e).2) (hts2 _ e), List.mem_cons_self, hts2 _ hcode, hts2 _ hini, ⟨hdd.1, hdd.2.1⟩, fun sig h => by
          have h2 : Option.map (fun d => d.parameters.length) (parseMethodDescriptor yX11_row.desc) = some 1 := hdd.2.2
          rw [h] at h2
          exact (Option.some.inj h2).symm, hts2 _ mlL_7⟩, hts2 _ imX11_row, hts2 _ seX11_row⟩
      ⟨row_bl _, hrv, fun U hU hW => by
        have hA : [Value.ref 2, Value.int x].map (cv g) = .ref (gb g + (2 - 2)) :: [Value.int x] := by rw [← e2]; rfl
        rw [← hA]
        exact ⟨rfl, by rw [hU]; exact hP, hK.warm hW, by rw [hU]; exact hgb, hT.at (fun q _ _ => rfl) hW hU⟩⟩
      rfl rfl hl.1 rfl (lv_room (Nat.le_of_ble_eq_true rfl)) dL_row_4 ⟨by decide, by decide⟩
  refine vx_calll hr (A0 := ZA g) (H0 := s.heap) va_S.rf (fun _ _ h => h) (fun _ h => h) (fun _ _ h => h) (fun E ce q9 u t H1 locs1 ht hA hpx hB hz hk9 hS1 hce hvm hcls => ?_) (fun r u t H1 locs1 _ _ hf => hf.elim)
  obtain ⟨rfl, hP1⟩ := hB
  refine vx_catch (own := RL) (name := "java/util/NoSuchElementException") hown [] ((tableOf [(0, 8, 11, 13)]).head (by decide)) [] (by rw [htab]; rfl) (fun z hz => nomatch hz) (by decide +kernel) (by decide +kernel) (hts2 _ exL13) (exGood hts2 hT.2 _ exCa) hce hvm hcls ?_
  refine lv_astore_n hx0 hb dL_row_11 rfl hl (by decide) rfl (fun la2 hl2 => ?_)
  refine lv_iconst (v := nI 1) hx0 hb dL_row_12 rfl ?_
  exact W.iret hx0 hb B.returns (fun t2 ht2 _ => ⟨⟨rfl, by rw [ht2, ← ht]; exact hP1⟩, hS1.F ht2⟩) hS1.2.2 dL_row_13
end LRow
