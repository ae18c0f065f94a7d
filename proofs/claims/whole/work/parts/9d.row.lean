/-! the class's row, where it throws -/
section VY
/-! vy_throw0 follows vx_throw0 of the kit's text; it tells besides how many cells there are then. -/
variable {p : Program} {l : Launch} {e : Env} {R : Room} {s : State} {m : MethodId} {args : Array Value} {below : List Frame} {meth : Method} {c : Code} {H : Heap} {locs : List Loc} {cells slots : Nat} {Q : State → Prop}
variable {mc ms : Nat} {free : Addr → Prop} {A0 A1 : Nat → Prop} {H0 : Heap} {a : Array Value} {ls : Array Slot} {st0 rest : List Value}
variable {Qc : Array Value → State → Outcome → State → Prop} {XC : String → State → State → Prop}
theorem vy_throw0 {cc : ByteArray} {pc : Nat} (hexec : p.tables.exec = Jvm.exec) (hb : c.code = cc) (hl : l.stackTraces = false) {own cls : String} {names : List String} {ik ic mc ms : Nat} {A : Nat → Prop}
    (hown : s.vm.findClass own = some m.cls) (hcls : Bundle.fit cls = true) (hnames : ∀ n ∈ names, Bundle.fit n = true)
    (hk : (Cond.classLink own ik cls).before args s = true) (hini : (Cond.initialized cls).before args s = true) (hat : ∀ w ∈ vx_at0 own ic cls names, w.before args s = true)
    (hgood : ∀ w ∈ Cond.classLink own ik cls :: Cond.initialized cls :: vx_at0 own ic cls names, vx_ot w = true)
    (hU : vx_Zq Bundle.tN "UNASSIGNED_STACK" Bundle.steD A s s.heap) (hN : vx_Zq Bundle.tN "SUPPRESSED_SENTINEL" Bundle.listD A s s.heap) (hS : va_S A s.heap H locs) (hsize : ls.size = c.maxLocals)
    (d0 : decode cc pc = .ok (.new ik, 3)) (d3 : decode cc (pc + 3) = .ok (.dup, 1)) (d4 : decode cc (pc + 4) = .ok (.invokespecial ic, 3)) (d7 : decode cc (pc + 7) = .ok (.athrow, 1))
    (hout : ∀ x ∈ c.exceptionTable.toList, covers x (pc + 7) = false)
    (hRframes : names.length + 3 < R.frames) (hRlocals : (rest.map fun v => v.category).sum + (13 * (names.length + 1) + 42) ≤ R.locals) (hRcells : cells + 1 ≤ R.cells) (hRslots : slots + 6 ≤ R.slots) (hlocks : meth.locks = false)
    (hx : ∀ t : State, s.vm.Alike t.vm → t.heap.size = H.size + 1 → (∀ q : Nat, q < H.size → t.heap[q]? = H[q]?) → XC cls s t)
    (hf : ∀ z ∈ locs, free z.base) (hc : cells + 1 ≤ mc) (hs : slots + 6 ≤ ms) :
    W p l e R s m args below meth c H locs cells slots (vx_MQ below Qc XC args s mc ms free) (F0 m pc ls rest) := by
  intro T hT X
  have htr : e.platform.stackTraces = false := (show e.platform.stackTraces = l.stackTraces by rw [X.admits.platform]).trans hl
  have Y := vx_rebase X (R' := { frames := R.frames, locals := R.locals, cells := 1, slots := 6 }) (Nat.le_refl _) (Nat.le_refl _) hRcells hRslots
  obtain ⟨s', hA⟩ : ∃ z, z = (T.setVm s.vm).setFrames (.invoking m args :: below) := ⟨_, rfl⟩
  rw [← hA] at Y
  have hvm : s'.vm = s.vm := by rw [hA]; rfl
  have hhp : s'.heap = H := by rw [hA]; exact hT
  have hW0 : s.WarmedH s'.vm := by rw [hvm]; exact State.WarmedH.refl s
  have hat' : ∀ w ∈ vx_at0 own ic cls names, w.before args s' = true := fun w hw => vx_ot_at hW0 hvm.symm (hgood w (List.mem_cons_of_mem _ (List.mem_cons_of_mem _ hw))) (hat w hw)
  have hk' : (Cond.classLink own ik cls).before args s' = true := vx_ot_at hW0 hvm.symm (hgood _ List.mem_cons_self) hk
  have hini' : (Cond.initialized cls).before args s' = true := vx_ot_at hW0 hvm.symm (hgood _ (List.mem_cons_of_mem _ List.mem_cons_self)) hini
  have hU' : vx_Zq Bundle.tN "UNASSIGNED_STACK" Bundle.steD A s' s'.heap := by rw [hhp]; exact vx_Zq.moved hW0.alike (hU.kept hS.2.1)
  have hN' : vx_Zq Bundle.tN "SUPPRESSED_SENTINEL" Bundle.listD A s' s'.heap := by rw [hhp]; exact vx_Zq.moved hW0.alike (hN.kept hS.2.1)
  have h : ∀ w ∈ Bundle.ownAtoms0 own ic cls names, w.before args s' = true := vx_own hat' (vx_isRefq hU'.1) (vx_isRefq hN'.1) hU'.2.word hN'.2.word
  have hown' : s'.vm.findClass own = some m.cls := by rw [hvm]; exact hown
  have hins : (Cond.instantiable cls 6).before args s' = true := h _ (by simp [Bundle.ownAtoms0])
  obtain ⟨vm₁, cX, kX, hfX, hkX, -, -, X₁, st1⟩ := Y.newCold hexec (own := own) (C := cls) (index := ik) (n := 6) hown' hk' hins hini'
    (g := F0 m pc ls rest) rfl (by rw [hb]; exact d0) (Nat.le_refl _) (Nat.le_refl _)
  generalize hT1 : (T.setVm vm₁).pushCell { cls := cX, slots := kX.instanceTypes.map defaultValue, vm := .none } = T1 at X₁ st1
  have hcat : (Value.ref T.heap.size).category = 1 := rfl
  have hcellA : T1.heap[T.heap.size]? = some (freshCell cX kX) := by rw [← hT1]; exact State.heap_pushCell_size _ _
  have d3' : decode c.code (pc + 3) = .ok (.dup, 1) := by rw [hb]; exact d3
  obtain ⟨U, hsteps, hrun, hend, hW, hsame, ce, hce, hO⟩ := X₁.ctorThrow0 hexec htr (own := own) (cls := cls) (names := names) (ic := ic) hown' hcls hnames h (fun x hx => nomatch hx) hfX hkX hcellA (by rw [hhp, hT]; exact Nat.le_refl _)
    (g := { method := m, pc := pc + 4, locals := ls, stack := .ref T.heap.size :: .ref T.heap.size :: rest, locked := none }) rfl hsize rfl rfl (rest := rest) rfl
    (by rw [hb]; exact d4) (by rw [hb]; exact d7) hout hRframes (by simp only [List.map_cons, List.sum_cons, hcat]; omega) hlocks
  obtain ⟨f1, f2⟩ := vx_frame hsame
  rw [hhp] at f1 f2
  have f3 : U.heap.size = H.size + 1 := by
    have h3 : U.heap.size ≤ s'.heap.size + (0 + 1) := hsame.2.2.1
    rw [hhp] at h3
    have h4 := (Array.getElem?_eq_some_iff.mp hce).1
    rw [hT] at h4
    omega
  have hWs : s.WarmedH U.vm := State.WarmedH.trans hW0 hW
  have hcl : s.vm.findClass cls = some ce.cls := by
    have h9 := hO.cls
    rw [hvm] at h9
    exact h9
  have hall : s.sameButNew ({ U with vm := s.vm } : State) locs mc ms := by
    subst hA
    obtain ⟨e1, e2⟩ := hsame
    rw [State.setFrames_setFrames] at e1
    have h2 : (T.setVm s.vm).sameButNew ({ U with vm := s.vm } : State) [] (0 + 1) (0 + 6) := ⟨e1, e2⟩
    have h3 := X.same.trans h2
    rw [List.append_nil] at h3
    exact h3.mono hc hs
  refine ⟨U, ?_, .threw T.heap.size, hrun, hend, Or.inr ⟨T.heap.size, rfl, cls, ce, locs, hx U hWs.alike f3 (fun q hq => f2 q hq (fun z hz => nomatch hz)), hce, hO.vm, hcl, hWs, hall, hf⟩⟩
  refine st1 _ ?_
  show Steps p.tables e below (T1.setTop { method := m, pc := pc + 3, locals := ls, stack := .ref T.heap.size :: rest, locked := none }) _
  jvm_step X₁.here [X₁.here.top, hexec, d3', Value.category]
  exact hsteps
end VY
def nsE : String := "java/util/NoSuchElementException"
theorem lf_nt (l : LF) : l.1.stackTraces = false := by
  have h : l.1.flags = flags0 := l.2
  unfold Launch.stackTraces
  rw [h]; decide +kernel
theorem ex1 : Cond.classLink RX11 325 "java/util/NoSuchElementException" ∈ ALLG := List.mem_filter.mpr ⟨by decide +kernel, by decide +kernel⟩
theorem ex2 : Cond.initialized "java/util/NoSuchElementException" ∈ ALLG := List.mem_filter.mpr ⟨by decide +kernel, by decide +kernel⟩
theorem ex3 : ∀ w ∈ Cond.classLink RX11 325 "java/util/NoSuchElementException" :: Cond.initialized "java/util/NoSuchElementException" :: exWs, vx_ot w = true := by decide +kernel
theorem exGood {args : Array Value} {s : State} (hts : ∀ w ∈ ALLG, w.before args s = true) (hn : ∀ w ∈ exNG, va_Nw w s) : ∀ w ∈ exWs, w.before args s = true := fun w hw => by
  by_cases g : goodWord w = true
  · exact hts w (List.mem_filter.mpr ⟨exWs_in w hw, g⟩)
  · have hm : w ∈ exNG := List.mem_filter.mpr ⟨hw, by simpa using g⟩
    exact va_Nw.use (exNG_on hm) (hn w hm)
theorem Tz.at {g : GX} {s U : State} {H : Heap} (h : Tz g s s.heap) (hS : ∀ q : Nat, q < s.heap.size → ¬ ZA g q → H[q]? = s.heap[q]?) (hW : s.WarmedH U.vm) (hU : U.heap = H) : Tz g U U.heap := by
  rw [hU]
  exact ⟨⟨vx_Zq.moved hW.alike (h.1.1.kept hS), vx_Zq.moved hW.alike (h.1.2.kept hS)⟩, fun w hw => exNG_warm hw hW (h.2 w hw)⟩
theorem Tz.same {g : GX} {u U : State} (hv : u.vm = U.vm) (hh : u.heap = U.heap) (h : Tz g u u.heap) : Tz g U U.heap := by
  have hA : u.vm.Alike U.vm := by rw [← hv]; exact Vm.Alike.refl u.vm
  rw [← hh]
  exact ⟨⟨vx_Zq.moved hA h.1.1, vx_Zq.moved hA h.1.2⟩, fun w hw => va_Nw.same (exNG_on hw) hv (h.2 w hw)⟩
def rowP (g : GX) (M : Mem) : State → Prop := fun U => Rep g M U.heap ∧ Kx g U ∧ gb g ≤ U.heap.size ∧ Tz g U U.heap
theorem row_bl {g : GX} {M : Mem} (vs : List Value) : FrameBlind (va_Pc (vs.map (cv g)) (rowP g M)) := by
  intro a U g' mk h
  exact ⟨h.1, h.2.1, Kx.same rfl h.2.2.1, h.2.2.2.1, Tz.same (u := U) rfl rfl h.2.2.2.2⟩
/-- a field that is an int, outside a run to a return -/
theorem wl_getI {k : MD} {p : Program} {l : Launch} {e : Env} {R : Room} {s : State} {m : MethodId} {args : Array Value} {below : List Frame} {meth : Method} {c : Code} {H : Heap} {locs : List Loc} {cells slots : Nat} {Z : State → Prop} {g : GX} {M : Mem} {ix ci f a pc : Nat} {la : Array Slot} {st : List Value} (hok : ClsOK ci) (hd : decode (kB k) pc = .ok (.getfield ix, 3)) (hf : FL (kO k) ix ci f) (ht : fk ci f = 0) (hk : mK M a = ci + 4) (hC : Cx k p s m args meth c) (hK : Kx g s) (hP : Rep g M H) (kk : W p l e R s m args below meth c H locs cells slots Z (F0 m (pc + 3) la (.int (mI M a f) :: st))) : W p l e R s m args below meth c H locs cells slots Z (F0 m pc la (.ref (gb g + (a - 2)) :: st)) := by
  obtain ⟨hci, hfN, ref, hlink, hsame⟩ := hf
  obtain ⟨hws, -, -, -, -⟩ := hok
  have hcok : cok0 g (mK M a) (mN M a) (mI M a) (mJ M a) (mR M a) H (gb g + (a - 2)) := hP.2.2 a
  rw [hk] at hcok
  obtain ⟨-, cell, q1, q2, q3, q4⟩ : ci < 11 ∧ t_OB (gb g + (a - 2)) (g.1.1 ci) (clN ci) (g.1.2 ci) H (fv0 g ci (mI M a) (mJ M a) (mR M a)) := hcok
  obtain ⟨hSl, hfc, kC, hkC, hkind⟩ := hK.1 ci hci
  obtain ⟨cf, kf, fi, fd, hi, hsl⟩ := hSl f hfN
  have hts := hC.2.2.2.2.1
  have hsm : s.fieldFound? ref ((clT ci) f).2.1 ((clT ci) f).2.2.1 = some (cf, kf, fi, fd) := by
    rcases hsame with e | e
    · rw [e]; exact hi
    · exact u_same (hts _ e) _ hi
  refine W.getf hC.1 hC.2.1 hC.2.2.2.1 (hts _ hlink) hsm (u_facts hfc hkC (u_lays hts hws hfN) hi).1 q1 (by rw [q3]; exact fun h => by cases h) (v := .int (mI M a f)) ?_ rfl rfl hd kk
  rw [hsl, q4 f hfN]
  unfold fv0; rw [if_pos ht]
/-- where the class's row throws -/
theorem row_throws (l : LF) (g : GX) {M : Mem} {x : Int32} (hk : mK M 2 = 13) (hx : x < 0 ∨ mI M 2 10 ≤ x) : vx_Met l yX11_row (Cond.code yX11_row cX11_row 2 (some .long) :: ALLG) ({ frames := 6, cells := 1, slots := 6, locals := 192 } : Room) (va_Pc ([Value.ref 2, Value.int x].map (cv g)) (rowP g M)) (va_Ql (fun (_ : Int64) (_ : Unit) => False) (fun _ _ => True) (ZA g)) (vx_X (fun (_ : Unit) => True) (fun E _ t => E = nsE ∧ Rep g (nwC M 0 6) t.heap) (ZA g)) 1 6 (ZA g) := by
  refine vx_ofW (by decide +kernel) rfl ?_
  intro p e s m av below meth c s₁ B hml htab hv
  obtain ⟨rfl, hP, hK, hgb, hT⟩ := hv
  have hts := atoms_spec (ws := Cond.code yX11_row cX11_row 2 (some .long) :: ALLG) B.pre
  have hts2 : ∀ w ∈ ALLG, w.before ([Value.ref 2, Value.int x].map (cv g)).toArray s = true := fun w hw => hts w (List.mem_cons_of_mem _ hw)
  have hl := lv_entry ([Value.ref 2, Value.int x].map (cv g)) (n := 2) (by rw [sl_len]; exact Nat.le_of_ble_eq_true rfl)
  rw [args_cl] at hl
  rw [lg_entry_eq]
  have hlocks := B.notSynchronized
  have hown : s.vm.findClass RX11 = some m.cls := findClass_of_methodNamed B.named
  have hx0 := B.exec
  have hb := B.bytes
  have hC : Cx mdX11_row p s m ([Value.ref 2, Value.int x].map (cv g)).toArray meth c := ⟨hx0, hb, hml, hown, hts2, (name_of_methodNamed B.named B.method).1⟩
  have e2 : cr g 2 = .ref (gb g + (2 - 2)) := cr_ge g (Nat.le_refl 2)
  generalize hla : (lg_sl ([Value.ref 2, Value.int x].map (cv g)) ++ List.replicate (2 - (lg_sl ([Value.ref 2, Value.int x].map (cv g))).length) Slot.unset).toArray = la at hl ⊢
  have h0 : la[0]? = some (.val (.ref (gb g + (2 - 2)))) := by
    have := lv_at hl 0 (mp_at g (q := (0, Value.ref 2)) rfl)
    rw [← e2]; exact this
  have h1 : la[1]? = some (.val (.int x)) := lv_at hl 1 (mp_at g (q := (1, Value.int x)) rfl)
  -- the throw
  have TH : W p l e (headSpec (Cond.code yX11_row cX11_row 2 (some .long) :: ALLG) ({ frames := 6, cells := 1, slots := 6, locals := 192 } : Room)).room s m ([Value.ref 2, Value.int x].map (cv g)).toArray below meth c s.heap [] 0 0 (vx_MQ below (va_Ql (fun (_ : Int64) (_ : Unit) => False) (fun _ _ => True) (ZA g)) (vx_X (fun (_ : Unit) => True) (fun E _ t => E = nsE ∧ Rep g (nwC M 0 6) t.heap) (ZA g)) ([Value.ref 2, Value.int x].map (cv g)).toArray s 1 6 (ZA g)) (F0 m 21 la []) := by
    refine vy_throw0 (A := ZA g) (names := ["java/lang/RuntimeException", "java/lang/Exception"]) hx0 hb (lf_nt l) hown (by decide +kernel) (by decide +kernel) (hts2 _ ex1) (hts2 _ ex2) (exGood hts2 hT.2) ex3 hT.1.1 hT.1.2 va_S.rf (by rw [hl.1]; exact hml.symm) dX11_row_21 dX11_row_24 dX11_row_25 dX11_row_28 (fun x hx => absurd (htab x hx) not_false) (by decide) (by decide) (Nat.le_refl _) (Nat.le_refl _) hlocks (fun t hA hz hq => ?_) (fun z hz => nomatch hz) (Nat.le_refl _) (Nat.le_refl _)
    exact ⟨(), trivial, ⟨rfl, Rep.new hP hz hq True.intro⟩, by rw [hz]; exact Nat.le_succ _, fun q h1 _ => hq q h1⟩
  refine lv_iload_n hx0 hb dX11_row_0 rfl h1 ?_
  refine lv_if_lt hx0 hb (tgt := 21) dX11_row_1 (by decide) (fun _ => TH) (fun hn => ?_)
  refine lv_iload_n hx0 hb dX11_row_4 rfl h1 ?_
  refine lv_aload_n hx0 hb dX11_row_5 rfl h0 ?_
  refine wl_getI (k := mdX11_row) (M := M) (a := 2) (f := 10) ck9 dX11_row_6 flX11_315 rfl hk hC hK hP ?_
  exact lv_icmp_ge hx0 hb (tgt := 21) dX11_row_9 (by decide) (fun _ => TH) (fun h2 => absurd (hx.resolve_left hn) h2)
