/-! the law: its script, and its row -/
abbrev mdL_law (L : Nat) (xs : Nat → Int32) : MD := (RL, yL_law, cL_law, 8, some .boolean, some (L, xs))
section LawR
variable {d d2 : Nat} {k : MD} {pc : Nat} {ls : List (Nat × Value)} {st rest : List Value} {M M1 : Mem} {Q : Option Value → Mem → Prop} {L : Nat} {xs : Nat → Int32} {As : List Value} {r1 : Int32}
theorem r_slen (hkX : kX k = some (L, xs)) (hd : decode (kB k) pc = .ok (.arraylength, 1)) (h : Wp d k (pc + 1) ls (.int (nI L) :: st) M Q) : Wp d k pc ls (.ref 1 :: st) M Q :=
  Wp.step (ls2 := ls) (st2 := .int (nI L) :: st) (fun p l e R s m args below meth c H locs cells slots Z g la hC hK hX hP hS hl kk => by
    rw [hkX] at hX
    obtain ⟨x1, x2, x3, -⟩ := hX
    rw [List.map_cons]
    show W p l e R s m args below meth c H locs cells slots Z (F0 m pc la (.ref g.2.2.2.2.2 :: st.map (cv g)))
    exact va_slen hC.1 hC.2.1 x1 (by omega) (fun h => by have h : gb g ≤ g.2.2.2.2.2 := h; omega) hS hd (kk la hl)) h
theorem r_sald {i : Int32} (hkX : kX k = some (L, xs)) (hd : decode (kB k) pc = .ok (.iaload, 1)) (hin : vp_in i L) (h : Wp d k (pc + 1) ls (.int (xs i.toNatClampNeg) :: st) M Q) : Wp d k pc ls (.int i :: .ref 1 :: st) M Q :=
  Wp.step (ls2 := ls) (st2 := .int (xs i.toNatClampNeg) :: st) (fun p l e R s m args below meth c H locs cells slots Z g la hC hK hX hP hS hl kk => by
    rw [hkX] at hX
    obtain ⟨x1, x2, x3, -⟩ := hX
    rw [List.map_cons, List.map_cons]
    show W p l e R s m args below meth c H locs cells slots Z (F0 m pc la (.int i :: .ref g.2.2.2.2.2 :: st.map (cv g)))
    exact va_sld hC.1 hC.2.1 x1 (by omega) (fun h => by have h : gb g ≤ g.2.2.2.2.2 := h; omega) hS hin hd (kk la hl)) h
theorem r_callRow {q0 : Nat × (Nat → Int32)} (hkO : kO k = RL) (hkX : kX k = some q0) (hd : decode (kB k) pc = .ok (.invokestatic 190, 3)) (hn : As.length = 3) (hlt : d2 < d) (hro : (rest.map fun v => v.category).sum ≤ 8) (hc : ConR d2 As M r1 M1) (h : Wp d k (pc + 3) ls (.int r1 :: rest) M1 Q) : Wp d k pc ls (As.reverse ++ rest) M Q := by
  obtain ⟨r, M', hq, ⟨b1, b2⟩, b3⟩ := h
  obtain ⟨⟨c1, c2⟩, hM⟩ := hc
  refine ⟨r, M', hq, ⟨by omega, by omega⟩, fun p l e R s m args below meth c H locs cells slots Z g la hC hK hX hP hg hS hl hf hlo hc1 hc2 kk => ?_⟩
  have hts := hC.2.2.2.2.1
  have hT : Tz g s s.heap := by
    rw [hkX] at hX; exact hX.2.2.2
  rw [List.map_append, List.map_reverse]
  refine runW (r1 := some (.int r1)) (M1 := M1) (mc := mC M1 - mC M) (ms := mS M1 - mS M) (rest := rest.map (cv g)) (vx_runSW (ret := some .int) (hh := [(0, 8, 11, 13)]) (n := 3) ⟨hC.1, hC.2.1, hC.2.2.1, hC.2.2.2.1, hts⟩ (hM l g)
      ⟨⟨rfl, rfl, by show d2 + 1 ≤ R.frames; omega, by show 8 + (4 + 11) + 64 * d2 ≤ R.locals; omega, fun w hw a' U hW => by
          rcases List.mem_cons.mp hw with e | e
          · rw [e]; exact word_at hW (good_of_word (List.mem_filter.mp coL_row).2) (hts _ coL_row)
          · exact word_at hW (good_of_word (List.mem_filter.mp e).2) (hts _ e), List.mem_cons_self⟩, hts _ coL_row, hts _ iniL, ⟨by decide +kernel, by decide +kernel⟩, fun sig h => by
          have h2 : Option.map (fun d => d.parameters.length) (parseMethodDescriptor yL_row.desc) = some 3 := by decide +kernel
          rw [h] at h2
          exact (Option.some.inj h2).symm, by rw [hkO]; exact hts _ mlL_190, hts _ stL_row⟩
      ⟨row_bl _, fun U hU hW => ⟨rfl, by rw [hU]; exact hP, hK.warm hW, by rw [hU]; exact Nat.le_trans hg hS.1, hT.at hS.2.1 hW hU⟩⟩
      rfl (by rw [List.length_map]; exact hn) hl.1 rfl (cats_rest hro) hd ⟨by omega, by omega⟩) hS hg fun H1 locs1 hP1 hS1 => ?_
  have h9 := b3 p l e R s m args below meth c H1 locs1 (cells + (mC M1 - mC M)) (slots + (mS M1 - mS M)) Z g la hC hK hX hP1 hg hS1 hl hf hlo (by omega) (by omega) fun H' locs' pc' la' hr hP' hS' => by
    have h8 := kk H' locs' pc' la' hr hP' hS'
    rw [show cells + (mC M1 - mC M) + (mC M' - mC M1) = cells + (mC M' - mC M) by omega, show slots + (mS M1 - mS M) + (mS M' - mS M1) = slots + (mS M' - mS M) by omega]
    exact h8
  exact h9
end LawR
