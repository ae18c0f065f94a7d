/-! THE CORE. An abstract memory (labels for cells, in the order in which they are made), runs from one place of a method to its return over that memory, rows for instructions, contracts for methods. Everything behind this part speaks of the abstract memory alone. -/
-- the abstract memory: ints, longs, references (by label and place), kinds, lengths, how many cells and slots were made
abbrev Mem : Type := (Nat → Nat → Int32) × (Nat → Nat → Int64) × (Nat → Nat → Nat) × (Nat → Nat) × (Nat → Nat) × Nat × Nat
def mI (M : Mem) : Nat → Nat → Int32 := M.1
def mJ (M : Mem) : Nat → Nat → Int64 := M.2.1
def mR (M : Mem) : Nat → Nat → Nat := M.2.2.1
def mK (M : Mem) : Nat → Nat := M.2.2.2.1
def mN (M : Mem) : Nat → Nat := M.2.2.2.2.1
def mC (M : Mem) : Nat := M.2.2.2.2.2.1
def mS (M : Mem) : Nat := M.2.2.2.2.2.2
def up2 {α : Type} (f : Nat → Nat → α) (p k : Nat) (v : α) : Nat → Nat → α := fun q j => if q = p ∧ j = k then v else f q j
def sI (M : Mem) (p k : Nat) (v : Int32) : Mem := (up2 M.1 p k v, M.2)
def sJ (M : Mem) (p k : Nat) (v : Int64) : Mem := (M.1, up2 M.2.1 p k v, M.2.2)
def sR (M : Mem) (p k : Nat) (v : Nat) : Mem := (M.1, M.2.1, up2 M.2.2.1 p k v, M.2.2.2)
/-- a new cell of kind kd with n slots: its label is mC M + 2 -/
def nwC (M : Mem) (kd n : Nat) : Mem := (fun q j => if q = mC M + 2 then 0 else mI M q j, fun q j => if q = mC M + 2 then 0 else mJ M q j, fun q j => if q = mC M + 2 then 0 else mR M q j, fun q => if q = mC M + 2 then kd else mK M q, fun q => if q = mC M + 2 then n else mN M q, mC M + 1, mS M + n)
-- classes by number
def tyTab (ci : Nat) : Nat → FieldType := match ci with
  | 0 => tyX0
  | 1 => tyX2
  | 2 => tyX4
  | 3 => tyX5
  | 4 => tyX6
  | 5 => tyX7
  | 6 => tyX8
  | 7 => tyX9
  | 8 => tyX10
  | 9 => tyX11
  | _ => tyX12
def clQ (ci : Nat) : vw_C := (vwCl[ci]?).getD (RX12, TX12, 51)
def clC (ci : Nat) : String := (clQ ci).1
def clT (ci : Nat) : u_T := (clQ ci).2.1
def clN (ci : Nat) : Nat := (clQ ci).2.2
/-- 0: an int, 1: a long, 2: a reference -/
def fk (ci f : Nat) : Nat := match tyTab ci f with
  | .int => 0
  | .long => 1
  | _ => 2
abbrev GX : Type := va_G × ClassId × ClassId × ClassId × Nat × Nat
def gb (g : GX) : Nat := g.2.2.2.2.1
def cr (g : GX) (p : Nat) : Value := if p = 0 then .null else if p = 1 then .ref g.2.2.2.2.2 else .ref (gb g + (p - 2))
def cv (g : GX) : Value → Value
  | .ref p => cr g p
  | v => v
def cl (g : GX) (q : Nat × Value) : Nat × Value := (q.1, cv g q.2)
def fv0 (g : GX) (ci : Nat) (fi : Nat → Int32) (fj : Nat → Int64) (fr : Nat → Nat) (j : Nat) : Value := if fk ci j = 0 then .int (fi j) else if fk ci j = 1 then .long (fj j) else cr g (fr j)
def cok0 (g : GX) (kd n : Nat) (fi : Nat → Int32) (fj : Nat → Int64) (fr : Nat → Nat) (H : Heap) (ad : Nat) : Prop := match kd with
  | 0 => True
  | 1 => H[ad]? = some (arrV g.2.1 n (fun j => .int (fi j)))
  | 2 => H[ad]? = some (arrV g.2.2.1 n (fun j => .long (fj j)))
  | 3 => H[ad]? = some (arrV g.2.2.2.1 n (fun j => .int (fi j)))
  | k + 4 => k < 11 ∧ t_OB ad (g.1.1 k) (clN k) (g.1.2 k) H (fv0 g k fi fj fr)
def cok (g : GX) (M : Mem) (H : Heap) (p : Nat) : Prop := cok0 g (mK M p) (mN M p) (mI M p) (mJ M p) (mR M p) H (gb g + (p - 2))
theorem cok0.kept {g : GX} {kd n : Nat} {fi : Nat → Int32} {fj : Nat → Int64} {fr : Nat → Nat} {H H1 : Heap} {ad : Nat} (h : cok0 g kd n fi fj fr H ad) (hq : H1[ad]? = H[ad]?) : cok0 g kd n fi fj fr H1 ad := by
  match kd, h with
  | 0, _ => exact True.intro
  | 1, h => exact hq.trans h
  | 2, h => exact hq.trans h
  | 3, h => exact hq.trans h
  | k + 4, h => exact ⟨h.1, h.2.kept hq⟩
def Rep (g : GX) (M : Mem) (H : Heap) : Prop := H.size = gb g + mC M ∧ (∀ p, mK M p ≠ 0 → 2 ≤ p ∧ p < mC M + 2) ∧ ∀ p, cok g M H p
def nestML : List (String × Nat × MethodName) := [(RX11, 21, yX7_init), (RX11, 28, yX5_init), (RX11, 47, yX10_init), (RX11, 9, yX2_init), (RX0, 9, yX10_init), (RX3, 28, yX2_init)]
def absML : List MethodName := [⟨"AskingPupil$Notes", "advance", "()I"⟩, ⟨"AskingPupil$Notes", "begin", "()V"⟩, ⟨"AskingPupil$Notes", "lesson", "(J)I"⟩]
def NestOK (U : State) : Prop := (∀ q ∈ nestML, va_Nw (.methodLinkNest q.1 q.2.1 q.2.2 "AskingPupil") U) ∧ ∀ x ∈ absML, va_Nw (.declares x) U
def Kx (g : GX) (U : State) : Prop := (∀ (ci : Nat), ci < 11 → u_Kn U (clC ci) (clT ci) (clN ci) (g.1.1 ci) (g.1.2 ci)) ∧ (ArrOfT U g.2.1 .int ∧ U.vm.findClass ("[" ++ FieldType.int.toString) = some g.2.1) ∧ (ArrOfT U g.2.2.1 .long ∧ U.vm.findClass ("[" ++ FieldType.long.toString) = some g.2.2.1) ∧ (ArrOfT U g.2.2.2.1 .boolean ∧ U.vm.findClass ("[" ++ FieldType.boolean.toString) = some g.2.2.2.1) ∧ NestOK U
theorem Kx.warm {g : GX} {u U : State} (hW : u.WarmedH U.vm) (h : Kx g u) : Kx g U := by
  obtain ⟨h1, ⟨a1, a2⟩, ⟨b1, b2⟩, ⟨c1, c2⟩, n1, n2⟩ := h
  refine ⟨fun ci hci => u_Kn_moved hW.alike (h1 ci hci), ⟨arrOfT_moved hW.alike a1, by rw [hW.alike.findClass]; exact a2⟩, ⟨arrOfT_moved hW.alike b1, by rw [hW.alike.findClass]; exact b2⟩, ⟨arrOfT_moved hW.alike c1, by rw [hW.alike.findClass]; exact c2⟩, fun q hq => va_Nw.warmM hW (n1 q hq), fun x hx => va_Nw.warmD hW (n2 x hx)⟩
theorem Kx.same {g : GX} {u U : State} (hv : u.vm = U.vm) (h : Kx g u) : Kx g U := by
  obtain ⟨h1, ⟨a1, a2⟩, ⟨b1, b2⟩, ⟨c1, c2⟩, n1, n2⟩ := h
  have hA : u.vm.Alike U.vm := by rw [← hv]; exact Vm.Alike.refl u.vm
  refine ⟨fun ci hci => u_Kn_moved hA (h1 ci hci), ⟨arrOfT_moved hA a1, by rw [← hv]; exact a2⟩, ⟨arrOfT_moved hA b1, by rw [← hv]; exact b2⟩, ⟨arrOfT_moved hA c1, by rw [← hv]; exact c2⟩, fun q hq => va_Nw.same rfl hv (n1 q hq), fun x hx => va_Nw.same rfl hv (n2 x hx)⟩
-- the words, the good ones
def ALLG : List Cond := lw_tbl.filter goodWord
theorem inG {w : Cond} (i : Nat) (h : lw_tbl[i]? = some w) (hg : goodWord w = true) : w ∈ ALLG := List.mem_filter.mpr ⟨List.mem_of_getElem? h, hg⟩
-- a method: its class, name, code, locals, what it returns, the script that it reads
abbrev MD : Type := String × MethodName × ByteArray × Nat × Option FieldType × Option (Nat × (Nat → Int32))
def kO (k : MD) : String := k.1
def kY (k : MD) : MethodName := k.2.1
def kB (k : MD) : ByteArray := k.2.2.1
def kL (k : MD) : Nat := k.2.2.2.1
def kR (k : MD) : Option FieldType := k.2.2.2.2.1
def kX (k : MD) : Option (Nat × (Nat → Int32)) := k.2.2.2.2.2
abbrev ZA (g : GX) : Nat → Prop := fun q => gb g ≤ q
/-- launches that keep no stack traces -/
abbrev LF : Type := {l : Launch // l.flags = flags0}
/-- what a throw reads of the heap, and its words that are not good ones -/
def Tz (g : GX) (s : State) (H : Heap) : Prop := (vx_Zq Bundle.tN "UNASSIGNED_STACK" Bundle.steD (ZA g) s H ∧ vx_Zq Bundle.tN "SUPPRESSED_SENTINEL" Bundle.listD (ZA g) s H) ∧ ∀ w ∈ exNG, va_Nw w s
def Scr (g : GX) (o : Option (Nat × (Nat → Int32))) (s : State) : Prop := match o with
  | none => True
  | some q => va_X g.2.2.2.2.2 q.1 q.2 s s.heap ∧ g.2.2.2.2.2 < gb g ∧ gb g = s.heap.size ∧ Tz g s s.heap
def Cx (k : MD) (p : Program) (s : State) (m : MethodId) (args : Array Value) (meth : Method) (c : Code) : Prop :=
  p.tables.exec = Jvm.exec ∧ c.code = kB k ∧ c.maxLocals = kL k ∧ s.vm.findClass (kO k) = some m.cls ∧ (∀ w ∈ ALLG, w.before args s = true) ∧ meth.name = (kY k).name
def RetAt (k : MD) (pc : Nat) : Prop := match kR k with
  | none => decode (kB k) pc = .ok (.return_, 1)
  | some .long => decode (kB k) pc = .ok (.lreturn, 1)
  | some _ => decode (kB k) pc = .ok (.ireturn, 1)
/-- from a place of a method to its return: with r, and the memory M' -/
def Go (d : Nat) (k : MD) (pc : Nat) (ls : List (Nat × Value)) (st : List Value) (M : Mem) (r : Option Value) (M' : Mem) : Prop :=
  (mC M ≤ mC M' ∧ mS M ≤ mS M') ∧ ∀ (p : Program) (l : LF) (e : Env) (R : Room) (s : State) (m : MethodId) (args : Array Value) (below : List Frame) (meth : Method) (c : Code) (H : Heap) (locs : List Loc) (cells slots : Nat) (Z : State → Prop) (g : GX) (la : Array Slot),
    Cx k p s m args meth c → Kx g s → Scr g (kX k) s → Rep g M H → gb g ≤ s.heap.size → va_S (ZA g) s.heap H locs → lv_has la (kL k) (ls.map (cl g)) → d ≤ R.frames → 64 * d ≤ R.locals → cells + (mC M' - mC M) ≤ R.cells → slots + (mS M' - mS M) ≤ R.slots →
    (∀ (H' : Heap) (locs' : List Loc) (pc' : Nat) (la' : Array Slot), RetAt k pc' → Rep g M' H' → va_S (ZA g) s.heap H' locs' → W p l e R s m args below meth c H' locs' (cells + (mC M' - mC M)) (slots + (mS M' - mS M)) Z (F0 m pc' la' (r.toList.map (cv g)))) →
    W p l e R s m args below meth c H locs cells slots Z (F0 m pc la (st.map (cv g)))
/-- a method's contract at a memory: it returns r and leaves M' -/
def Con (d : Nat) (k : MD) (args : List Value) (M : Mem) (r : Option Value) (M' : Mem) : Prop :=
  (mC M ≤ mC M' ∧ mS M ≤ mS M') ∧ ∀ (l : LF) (g : GX), Met l (kY k) (Cond.code (kY k) (kB k) (kL k) (kR k) :: ALLG) ({ frames := d, cells := mC M' - mC M, slots := mS M' - mS M, locals := 64 * d }) (va_Pc (args.map (cv g)) (fun U => Rep g M U.heap ∧ Kx g U ∧ gb g ≤ U.heap.size)) (fun _ st oc t => (oc = .returned (r.map (cv g)) ∧ Rep g M' t.heap) ∧ va_F (ZA g) st t) (mC M' - mC M) (mS M' - mS M) (ZA g)
/-- the same, with a condition on what comes -/
def Wp (d : Nat) (k : MD) (pc : Nat) (ls : List (Nat × Value)) (st : List Value) (M : Mem) (Q : Option Value → Mem → Prop) : Prop := ∃ r M', Q r M' ∧ Go d k pc ls st M r M'
def Cl (d : Nat) (k : MD) (args : List Value) (M : Mem) (Q : Option Value → Mem → Prop) : Prop := ∃ r M', Q r M' ∧ Con d k args M r M'
theorem Wp.mono {d : Nat} {k : MD} {pc : Nat} {ls : List (Nat × Value)} {st : List Value} {M : Mem} {Q Q' : Option Value → Mem → Prop} (h : Wp d k pc ls st M Q) (hq : ∀ r M', Q r M' → Q' r M') : Wp d k pc ls st M Q' := by
  obtain ⟨r, M', a, b⟩ := h
  exact ⟨r, M', hq _ _ a, b⟩
theorem Cl.mono {d : Nat} {k : MD} {args : List Value} {M : Mem} {Q Q' : Option Value → Mem → Prop} (h : Cl d k args M Q) (hq : ∀ r M', Q r M' → Q' r M') : Cl d k args M Q' := by
  obtain ⟨r, M', a, b⟩ := h
  exact ⟨r, M', hq _ _ a, b⟩
theorem cv_cat (g : GX) (v : Value) : (cv g v).category = v.category := by
  cases v <;> try rfl
  rename_i a
  show (cr g a).category = _
  unfold cr
  by_cases h0 : a = 0
  · rw [if_pos h0]; rfl
  · rw [if_neg h0]
    by_cases h1 : a = 1
    · rw [if_pos h1]; rfl
    · rw [if_neg h1]; rfl
theorem cats_map (g : GX) (st : List Value) : ((st.map (cv g)).map fun v => v.category) = st.map fun v => v.category := by
  rw [List.map_map]
  exact List.map_congr_left fun v _ => cv_cat g v
/-- one step that changes neither memory nor heap -/
theorem Go.step {d : Nat} {k : MD} {pc pc2 : Nat} {ls ls2 : List (Nat × Value)} {st st2 : List Value} {M : Mem} {r : Option Value} {M' : Mem}
    (hs : ∀ (p : Program) (l : LF) (e : Env) (R : Room) (s : State) (m : MethodId) (args : Array Value) (below : List Frame) (meth : Method) (c : Code) (H : Heap) (locs : List Loc) (cells slots : Nat) (Z : State → Prop) (g : GX) (la : Array Slot), Cx k p s m args meth c → Kx g s → Scr g (kX k) s → Rep g M H → va_S (ZA g) s.heap H locs → lv_has la (kL k) (ls.map (cl g)) →
      (∀ la2 : Array Slot, lv_has la2 (kL k) (ls2.map (cl g)) → W p l e R s m args below meth c H locs cells slots Z (F0 m pc2 la2 (st2.map (cv g)))) → W p l e R s m args below meth c H locs cells slots Z (F0 m pc la (st.map (cv g))))
    (h : Go d k pc2 ls2 st2 M r M') : Go d k pc ls st M r M' := by
  refine ⟨h.1, fun p l e R s m args below meth c H locs cells slots Z g la hC hK hX hP hg hS hl hf hlo hc1 hc2 kk => ?_⟩
  exact hs p l e R s m args below meth c H locs cells slots Z g la hC hK hX hP hS hl fun la2 hl2 => h.2 p l e R s m args below meth c H locs cells slots Z g la2 hC hK hX hP hg hS hl2 hf hlo hc1 hc2 kk
theorem Wp.step {d : Nat} {k : MD} {pc pc2 : Nat} {ls ls2 : List (Nat × Value)} {st st2 : List Value} {M : Mem} {Q : Option Value → Mem → Prop}
    (hs : ∀ (p : Program) (l : LF) (e : Env) (R : Room) (s : State) (m : MethodId) (args : Array Value) (below : List Frame) (meth : Method) (c : Code) (H : Heap) (locs : List Loc) (cells slots : Nat) (Z : State → Prop) (g : GX) (la : Array Slot), Cx k p s m args meth c → Kx g s → Scr g (kX k) s → Rep g M H → va_S (ZA g) s.heap H locs → lv_has la (kL k) (ls.map (cl g)) →
      (∀ la2 : Array Slot, lv_has la2 (kL k) (ls2.map (cl g)) → W p l e R s m args below meth c H locs cells slots Z (F0 m pc2 la2 (st2.map (cv g)))) → W p l e R s m args below meth c H locs cells slots Z (F0 m pc la (st.map (cv g))))
    (h : Wp d k pc2 ls2 st2 M Q) : Wp d k pc ls st M Q := by
  obtain ⟨r, M', a, b⟩ := h
  exact ⟨r, M', a, Go.step hs b⟩
