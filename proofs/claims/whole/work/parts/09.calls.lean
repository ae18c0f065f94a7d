/-! a method's contract out of a run from its entry; rows for calls -/
theorem sl_len (g : GX) (vs : List Value) : (lg_sl (vs.map (cv g))).length = (lg_sl vs).length := by
  induction vs with
  | nil => rfl
  | cons v vs ih =>
    unfold lg_sl at ih ⊢
    rw [List.map_cons, List.flatMap_cons, List.flatMap_cons, List.length_append, List.length_append, ih, cv_cat]
    by_cases h : v.category = 2
    · rw [if_pos h, if_pos h]; rfl
    · rw [if_neg h, if_neg h]; rfl
theorem args_cl (g : GX) : ∀ (vs : List Value) (i : Nat), lv_args i (vs.map (cv g)) = (lv_args i vs).map (cl g)
  | [], _ => rfl
  | v :: vs, i => by
    show (i, cv g v) :: lv_args (if (cv g v).category = 2 then i + 2 else i + 1) (vs.map (cv g)) = (i, cv g v) :: (lv_args (if v.category = 2 then i + 2 else i + 1) vs).map (cl g)
    rw [cv_cat, args_cl g vs]
theorem GoodAll (y y2 : Cond) (h : y2 ∈ ALLG) : GoodIn (y :: ALLG) (y2 :: ALLG) := by
  intro w hw
  have hg : ∀ w, w ∈ ALLG → goodWord w = true := fun w h => (List.mem_filter.mp h).2
  rcases List.mem_cons.mp hw with e | e
  · rw [e]; exact ⟨List.mem_cons_of_mem _ h, good_of_word (hg _ h)⟩
  · exact ⟨List.mem_cons_of_mem _ e, good_of_word (hg _ e)⟩
/-- what a method is by the tables: its code, its class, how many arguments it takes -/
def MOK (k : MD) (n : Nat) : Prop := Cond.code (kY k) (kB k) (kL k) (kR k) ∈ ALLG ∧ Cond.initialized (kY k).cls ∈ ALLG ∧ ((kY k).cls ≠ "java/lang/invoke/MethodHandle" ∧ (kY k).cls ≠ "java/lang/invoke/VarHandle" ∧ (parseMethodDescriptor (kY k).desc).map (fun d => d.parameters.length) = some n) ∧ kL k ≤ 40 ∧ plainName (kY k).cls = true ∧ kX k = none ∧ kO k = (kY k).cls
/-- what it may return: a boolean is 0 or 1 -/
def ROK (k : MD) (r : Option Value) : Prop := match kR k with
  | none => r = none
  | some .long => ∃ x : Int64, r = some (.long x)
  | some .int => ∃ x : Int32, r = some (.int x)
  | some .boolean => ∃ x : Int32, r = some (.int x) ∧ narrow .boolean (.int x) = .int x
  | some _ => False
theorem Con.of {d n : Nat} {k : MD} {args : List Value} {M M' : Mem} {r : Option Value} (hm : MOK k n) (hsz : (lg_sl args).length ≤ kL k) (hr : ROK k r) (h : Go d k 0 (lv_args 0 args) [] M r M') : Con d k args M r M' := by
  refine ⟨h.1, fun l g => ?_⟩
  obtain ⟨hcode, hini, hd, hL, hpl, hX, hO⟩ := hm
  refine Met.ofW (cc := kB k) (maxL := kL k) (ret := kR k) hpl rfl ?_
  intro p e s m av below meth c s₁ B hml hv
  obtain ⟨rfl, hP, hK, hgb⟩ := hv
  have hts := atoms_spec (ws := Cond.code (kY k) (kB k) (kL k) (kR k) :: ALLG) B.pre
  have hl := lv_entry (args.map (cv g)) (n := kL k) (by rw [sl_len]; exact hsz)
  rw [args_cl] at hl
  rw [lg_entry_eq]
  have hlocks := B.notSynchronized
  have hC : Cx k p s m (args.map (cv g)).toArray meth c := ⟨B.exec, B.bytes, hml, by rw [hO]; exact findClass_of_methodNamed B.named, fun w hw => hts w (List.mem_cons_of_mem _ hw), (name_of_methodNamed B.named B.method).1⟩
  have hW := h.2 p l e ({ frames := d, cells := mC M' - mC M, slots := mS M' - mS M, locals := 64 * d } : Room) s m _ below meth c s.heap [] 0 0 (MQ below (fun _ st oc t => (oc = .returned (r.map (cv g)) ∧ Rep g M' t.heap) ∧ va_F (ZA g) st t) (args.map (cv g)).toArray s (mC M' - mC M) (mS M' - mS M) (ZA g)) g _ hC hK (by rw [hX]; exact True.intro) hP hgb va_S.rf hl (Nat.le_refl _) (Nat.le_refl _) (Nat.le_of_eq (Nat.zero_add _)) (Nat.le_of_eq (Nat.zero_add _)) ?_
  · exact hW
  · intro H' locs' pc' la' hra hP' hS'
    rw [Nat.zero_add, Nat.zero_add]
    have hB := B.returns
    unfold RetAt at hra
    unfold ROK at hr
    have hq : ∀ t : State, t.heap = H' → s.WarmedH t.vm → (Outcome.returned (r.map (cv g)) = Outcome.returned (r.map (cv g)) ∧ Rep g M' t.heap) ∧ va_F (ZA g) s t := fun t ht _ => ⟨⟨rfl, by rw [ht]; exact hP'⟩, hS'.F ht⟩
    generalize kR k = rt at hra hr hB
    match rt, hra, hr, hB with
    | none, hra, hr, hB =>
      subst hr
      exact W.vret B.exec B.bytes hB hq hS'.2.2 hra
    | some .long, hra, hr, hB =>
      obtain ⟨x, rfl⟩ := hr
      exact W.lret B.exec B.bytes hB hq hS'.2.2 hra
    | some .int, hra, hr, hB =>
      obtain ⟨x, rfl⟩ := hr
      exact W.iret B.exec B.bytes hB hq hS'.2.2 hra
    | some .boolean, hra, hr, hB =>
      obtain ⟨x, rfl, hx⟩ := hr
      exact W.zret B.exec B.bytes hB hx hq hS'.2.2 hra
theorem Cl.of {d n : Nat} {k : MD} {args : List Value} {M : Mem} {Q : Option Value → Mem → Prop} (hm : MOK k n) (hsz : (lg_sl args).length ≤ kL k) (h : Wp d k 0 (lv_args 0 args) [] M (fun r M' => ROK k r ∧ Q r M')) : Cl d k args M Q := by
  obtain ⟨r, M', ⟨a1, a2⟩, b⟩ := h
  exact ⟨r, M', a2, Con.of hm hsz a1 b⟩
theorem runW {p : Program} {l : LF} {e : Env} {R : Room} {s : State} {m : MethodId} {args : Array Value} {below : List Frame} {meth : Method} {c : Code} {H : Heap} {locs : List Loc} {cells slots mc ms pc : Nat} {la : Array Slot} {st0 rest : List Value} {g : GX} {r1 : Option Value} {M1 : Mem} {Z : State → Prop}
    (hr : va_Run p l e R s m args below meth c H locs cells slots mc ms (F0 m pc la st0) rest (fun st oc t => (oc = .returned (r1.map (cv g)) ∧ Rep g M1 t.heap) ∧ va_F (ZA g) st t) (ZA g)) (hS : va_S (ZA g) s.heap H locs) (hg : gb g ≤ s.heap.size)
    (kk : ∀ (H1 : Heap) (locs1 : List Loc), Rep g M1 H1 → va_S (ZA g) s.heap H1 locs1 → W p l e R s m args below meth c H1 locs1 (cells + mc) (slots + ms) Z (F0 m (pc + 3) la ((r1.map (cv g)).toList ++ rest))) : W p l e R s m args below meth c H locs cells slots Z (F0 m pc la st0) := by
  intro T hT X
  obtain ⟨v, st₀, t, T', L, h0, X', hL, e1, e2, ⟨⟨hv, hP1⟩, hz, hk⟩, st⟩ := hr T hT X
  cases hv
  rw [h0] at hz hk
  obtain ⟨t2, a1, b1⟩ := kk T'.heap (locs ++ L) (by rw [e1]; exact hP1) ⟨Nat.le_trans hS.1 (by rw [e1]; exact hz), fun q h1 h2 => by rw [e1, hk q (Nat.lt_of_lt_of_le h1 hS.1) h2]; exact hS.2.1 q h1 h2, fun q hq => by
      rcases List.mem_append.mp hq with h | h
      · exact hS.2.2 q h
      · exact hL q h⟩ T' rfl X'
  exact ⟨t2, st t2 a1, b1⟩
theorem preB {g : GX} {M : Mem} (vs : List Value) : FrameBlind (va_Pc (vs.map (cv g)) (fun U => Rep g M U.heap ∧ Kx g U ∧ gb g ≤ U.heap.size)) := by
  intro a U g' mk h
  exact ⟨h.1, h.2.1, Kx.same rfl h.2.2.1, h.2.2.2⟩
section Calls9
variable {d d2 : Nat} {k k2 : MD} {pc ix n : Nat} {ls : List (Nat × Value)} {rest : List Value} {M : Mem} {Q : Option Value → Mem → Prop} {As : List Value} {a : Nat}
theorem cats_rest {g : GX} {m : MethodId} {pc : Nat} {la : Array Slot} {st0 : List Value} (h : (rest.map fun v => v.category).sum ≤ 8) : 2 * (F0 m pc la st0).monitorRoom + ((rest.map (cv g)).map fun v => v.category).sum ≤ 8 := by
  rw [cats_map]
  exact lv_room (m := m) (pc := pc) (ls := la) (rest := st0) h
/-- a step by a call: what a run of the callee gives, in every start -/
theorem Wp.call {st : List Value} (hQ : Cl d2 k2 As M (fun r1 M1 => Wp d k (pc + 3) ls (r1.toList ++ rest) M1 Q)) (hlt : d2 < d)
    (hs : ∀ (r1 : Option Value) (M1 : Mem), Con d2 k2 As M r1 M1 → ∀ (p : Program) (l : LF) (e : Env) (R : Room) (s : State) (m : MethodId) (args : Array Value) (below : List Frame) (meth : Method) (c : Code) (H : Heap) (locs : List Loc) (cells slots : Nat) (g : GX) (la : Array Slot), Cx k p s m args meth c → Kx g s → Rep g M H → gb g ≤ s.heap.size → va_S (ZA g) s.heap H locs → lv_has la (kL k) (ls.map (cl g)) → d2 + 1 ≤ R.frames → 64 * d2 + 64 ≤ R.locals → cells + (mC M1 - mC M) ≤ R.cells → slots + (mS M1 - mS M) ≤ R.slots →
      va_Run p l e R s m args below meth c H locs cells slots (mC M1 - mC M) (mS M1 - mS M) (F0 m pc la (st.map (cv g))) (rest.map (cv g)) (fun st oc t => (oc = .returned (r1.map (cv g)) ∧ Rep g M1 t.heap) ∧ va_F (ZA g) st t) (ZA g)) : Wp d k pc ls st M Q := by
  obtain ⟨r1, M1, ⟨r, M', hq, ⟨b1, b2⟩, b3⟩, hc⟩ := hQ
  obtain ⟨⟨c1, c2⟩, -⟩ := id hc
  refine ⟨r, M', hq, ⟨by omega, by omega⟩, fun p l e R s m args below meth c H locs cells slots Z g la hC hK hX hP hg hS hl hf hlo hc1 hc2 kk => ?_⟩
  refine runW (hs r1 M1 hc p l e R s m args below meth c H locs cells slots g la hC hK hP hg hS hl (by omega) (by omega) (by omega) (by omega)) hS hg fun H1 locs1 hP1 hS1 => ?_
  have h9 := b3 p l e R s m args below meth c H1 locs1 (cells + (mC M1 - mC M)) (slots + (mS M1 - mS M)) Z g la hC hK hX hP1 hg hS1 hl hf hlo (by omega) (by omega) fun H' locs' pc' la' hr hP' hS' => by
    have h8 := kk H' locs' pc' la' hr hP' hS'
    rw [show cells + (mC M1 - mC M) + (mC M' - mC M1) = cells + (mC M' - mC M) by omega, show slots + (mS M1 - mS M) + (mS M' - mS M1) = slots + (mS M' - mS M) by omega]
    exact h8
  rw [List.map_append] at h9
  rw [show (r1.map (cv g)).toList = r1.toList.map (cv g) by cases r1 <;> rfl]
  exact h9
/-- a receiver: an object of class ci -/
theorem recvW {g : GX} {H : Heap} {s : State} {ci : Nat} (hP : Rep g M H) (hK : Kx g s) (hk : mK M a = ci + 4) : cr g a = .ref (gb g + (a - 2)) ∧ ∃ cell : Cell, H[gb g + (a - 2)]? = some cell ∧ cell.vm.isStatics = false ∧ s.vm.findClass (clC ci) = some cell.cls := by
  have ha := hP.2.1 a (by rw [hk]; omega)
  have hcok : cok0 g (mK M a) (mN M a) (mI M a) (mJ M a) (mR M a) H (gb g + (a - 2)) := hP.2.2 a
  rw [hk] at hcok
  obtain ⟨hci, cell, q1, q2, q3, -⟩ : ci < 11 ∧ t_OB (gb g + (a - 2)) (g.1.1 ci) (clN ci) (g.1.2 ci) H (fv0 g ci (mI M a) (mJ M a) (mR M a)) := hcok
  exact ⟨cr_ge g ha.1, cell, q1, by rw [q3]; rfl, by rw [q2]; exact (hK.1 ci hci).2.1⟩
theorem map_stack (g : GX) (x : Value) : (As.reverse ++ x :: rest).map (cv g) = (As.map (cv g)).reverse ++ cv g x :: rest.map (cv g) := by
  rw [List.map_append, List.map_cons, List.map_reverse]
theorem r_callV {ci : Nat} (hm : MOK k2 n) (hd : decode (kB k) pc = .ok (.invokevirtual ix, 3)) (hl1 : Cond.methodLink (kO k) ix (kY k2) ∈ ALLG) (hl2 : Cond.instanceMethod (kY k2) ∈ ALLG) (hl3 : Cond.selects (clC ci) (kY k2) (kY k2) ∈ ALLG) (hk : mK M a = ci + 4) (hn : As.length = n) (hlt : d2 < d) (hro : (rest.map fun v => v.category).sum ≤ 8) (h : Cl d2 k2 (.ref a :: As) M (fun r1 M1 => Wp d k (pc + 3) ls (r1.toList ++ rest) M1 Q)) : Wp d k pc ls (As.reverse ++ .ref a :: rest) M Q :=
  Wp.call h hlt fun r1 M1 hc p l e R s m args below meth c H locs cells slots g la hC hK hP hg hS hl hf hlo hc1 hc2 => by
    obtain ⟨hcode, hini, hdd, hL, hpl, hX, hO⟩ := hm
    have hts := hC.2.2.2.2.1
    obtain ⟨e1, hrv⟩ := recvW (s := s) hP hK hk
    rw [map_stack]
    show va_Run p l e R s m args below meth c H locs cells slots _ _ (F0 m pc la ((As.map (cv g)).reverse ++ cr g a :: rest.map (cv g))) _ _ _
    rw [e1]
    have hM := hc.2 l g
    have hA : (Value.ref a :: As).map (cv g) = .ref (gb g + (a - 2)) :: As.map (cv g) := by rw [List.map_cons]; exact congrArg (· :: As.map (cv g)) e1
    exact va_runV (C := clC ci) (ret := kR k2) (n := n) ⟨hC.1, hC.2.1, hC.2.2.1, hC.2.2.2.1, hts⟩ hM
      ⟨⟨rfl, rfl, hf, by show 8 + (kL k2 + 11) + 64 * d2 ≤ R.locals; omega, fun w hw a' U hW => by
          rcases List.mem_cons.mp hw with e | e
          · rw [e]; exact word_at hW (good_of_word (List.mem_filter.mp hcode).2) (hts _ hcode)
          · exact word_at hW (good_of_word (List.mem_filter.mp e).2) (hts _ e), List.mem_cons_self, hts _ hcode, hts _ hini, ⟨hdd.1, hdd.2.1⟩, fun sig h => by
          have h2 := hdd.2.2
          rw [h] at h2
          exact (Option.some.inj h2).symm, hts _ hl1⟩, hts _ hl2, hts _ hl3⟩
      ⟨preB _, hrv, fun U hU hW => by
        rw [← hA]
        exact ⟨rfl, by rw [hU]; exact hP, hK.warm hW, by rw [hU]; exact Nat.le_trans hg hS.1⟩⟩
      rfl (by rw [List.length_map]; exact hn) hl.1 rfl (cats_rest hro) hd ⟨hc1, hc2⟩
theorem r_callS (hm : MOK k2 n) (hd : decode (kB k) pc = .ok (.invokestatic ix, 3)) (hl1 : Cond.methodLink (kO k) ix (kY k2) ∈ ALLG) (hl2 : Cond.static (kY k2) ∈ ALLG) (hn : As.length = n) (hlt : d2 < d) (hro : (rest.map fun v => v.category).sum ≤ 8) (h : Cl d2 k2 As M (fun r1 M1 => Wp d k (pc + 3) ls (r1.toList ++ rest) M1 Q)) : Wp d k pc ls (As.reverse ++ rest) M Q :=
  Wp.call h hlt fun r1 M1 hc p l e R s m args below meth c H locs cells slots g la hC hK hP hg hS hl hf hlo hc1 hc2 => by
    obtain ⟨hcode, hini, hdd, hL, hpl, hX, hO⟩ := hm
    have hts := hC.2.2.2.2.1
    rw [List.map_append, List.map_reverse]
    have hM := hc.2 l g
    exact va_runS (ret := kR k2) (n := n) ⟨hC.1, hC.2.1, hC.2.2.1, hC.2.2.2.1, hts⟩ hM
      ⟨⟨rfl, rfl, hf, by show 8 + (kL k2 + 11) + 64 * d2 ≤ R.locals; omega, fun w hw a' U hW => by
          rcases List.mem_cons.mp hw with e | e
          · rw [e]; exact word_at hW (good_of_word (List.mem_filter.mp hcode).2) (hts _ hcode)
          · exact word_at hW (good_of_word (List.mem_filter.mp e).2) (hts _ e), List.mem_cons_self, hts _ hcode, hts _ hini, ⟨hdd.1, hdd.2.1⟩, fun sig h => by
          have h2 := hdd.2.2
          rw [h] at h2
          exact (Option.some.inj h2).symm, hts _ hl1⟩, hts _ hl2⟩
      ⟨preB _, fun U hU hW => ⟨rfl, by rw [hU]; exact hP, hK.warm hW, by rw [hU]; exact Nat.le_trans hg hS.1⟩⟩
      rfl (by rw [List.length_map]; exact hn) hl.1 rfl (cats_rest hro) hd ⟨hc1, hc2⟩
/-- an inherited method, or one that an abstract one's name stands for: the reference names x -/
theorem r_callU {ci : Nat} {x : MethodName} {owner : String} (hm : MOK k2 n) (hd : decode (kB k) pc = .ok (.invokevirtual ix, 3)) (hl1 : Cond.methodLink (kO k) ix x ∈ ALLG) (hl4 : Cond.sameMethod x.cls owner x.name x.desc ∈ ALLG) (hl2 : Cond.instanceMethod (kY k2) ∈ ALLG) (hl3 : Cond.selects (clC ci) x (kY k2) ∈ ALLG)
    (how : (owner ≠ "java/lang/invoke/MethodHandle" ∧ owner ≠ "java/lang/invoke/VarHandle") ∧ (parseMethodDescriptor x.desc).map (fun d => d.parameters.length) = some n) (hdec : kY k2 = ⟨owner, x.name, x.desc⟩ ∨ (⟨owner, x.name, x.desc⟩ : MethodName) ∈ absML)
    (hk : mK M a = ci + 4) (hn : As.length = n) (hlt : d2 < d) (hro : (rest.map fun v => v.category).sum ≤ 8) (h : Cl d2 k2 (.ref a :: As) M (fun r1 M1 => Wp d k (pc + 3) ls (r1.toList ++ rest) M1 Q)) : Wp d k pc ls (As.reverse ++ .ref a :: rest) M Q :=
  Wp.call h hlt fun r1 M1 hc p l e R s m args below meth c H locs cells slots g la hC hK hP hg hS hl hf hlo hc1 hc2 => by
    obtain ⟨hcode, hini, hdd, hL, hpl, hX, hO⟩ := hm
    have hts := hC.2.2.2.2.1
    obtain ⟨e1, hrv⟩ := recvW (s := s) hP hK hk
    rw [map_stack]
    show va_Run p l e R s m args below meth c H locs cells slots _ _ (F0 m pc la ((As.map (cv g)).reverse ++ cr g a :: rest.map (cv g))) _ _ _
    rw [e1]
    have hM := hc.2 l g
    have hA : (Value.ref a :: As).map (cv g) = .ref (gb g + (a - 2)) :: As.map (cv g) := by rw [List.map_cons]; exact congrArg (· :: As.map (cv g)) e1
    have hde : va_Decl s ⟨owner, x.name, x.desc⟩ := by
      rcases hdec with e | e
      · rw [← e]; exact va_Decl.of (hts _ hl2) (hts _ hcode)
      · exact va_Decl.abs (hK.2.2.2.2.2 _ e)
    exact va_runU (C := clC ci) (owner := owner) (x := x) (bytes := kB k2) (maxL := kL k2) (ret := kR k2) (n := n) ⟨hC.1, hC.2.1, hC.2.2.1, hC.2.2.2.1, hts⟩ hM
      ⟨⟨rfl, rfl, hf, by show 8 + (kL k2 + 11) + 64 * d2 ≤ R.locals; omega, fun w hw a' U hW => by
          rcases List.mem_cons.mp hw with e | e
          · rw [e]; exact word_at hW (good_of_word (List.mem_filter.mp hcode).2) (hts _ hcode)
          · exact word_at hW (good_of_word (List.mem_filter.mp e).2) (hts _ e), List.mem_cons_self⟩, hts _ hcode, hts _ hini, how.1, fun sig h => by
          have h2 := how.2
          rw [h] at h2
          exact (Option.some.inj h2).symm, hts _ hl1, hts _ hl4, hde, hts _ hl3, hts _ hl2⟩
      ⟨preB _, hrv, fun U hU hW => by
        rw [← hA]
        exact ⟨rfl, by rw [hU]; exact hP, hK.warm hW, by rw [hU]; exact Nat.le_trans hg hS.1⟩⟩
      rfl (by rw [List.length_map]; exact hn) hl.1 rfl (cats_rest hro) hd ⟨hc1, hc2⟩
/-- a constructor -/
theorem r_callI {ci : Nat} (hm : MOK k2 n) (hr : kR k2 = none) (hnm : (kY k2).name = "<init>") (hd : decode (kB k) pc = .ok (.invokespecial ix, 3)) (hl1 : Cond.methodLink (kO k) ix (kY k2) ∈ ALLG) (hl2 : Cond.instanceMethod (kY k2) ∈ ALLG) (hk : mK M a = ci + 4) (hn : As.length = n) (hlt : d2 < d) (hro : (rest.map fun v => v.category).sum ≤ 8) (h : Cl d2 k2 (.ref a :: As) M (fun r1 M1 => Wp d k (pc + 3) ls (r1.toList ++ rest) M1 Q)) : Wp d k pc ls (As.reverse ++ .ref a :: rest) M Q :=
  Wp.call h hlt fun r1 M1 hc p l e R s m args below meth c H locs cells slots g la hC hK hP hg hS hl hf hlo hc1 hc2 => by
    obtain ⟨hcode, hini, hdd, hL, hpl, hX, hO⟩ := hm
    have hts := hC.2.2.2.2.1
    obtain ⟨e1, hrv⟩ := recvW (s := s) hP hK hk
    rw [map_stack]
    show va_Run p l e R s m args below meth c H locs cells slots _ _ (F0 m pc la ((As.map (cv g)).reverse ++ cr g a :: rest.map (cv g))) _ _ _
    rw [e1]
    have hM := hc.2 l g
    have hA : (Value.ref a :: As).map (cv g) = .ref (gb g + (a - 2)) :: As.map (cv g) := by rw [List.map_cons]; exact congrArg (· :: As.map (cv g)) e1
    rw [hr] at hM hcode
    exact va_runI (n := n) ⟨hC.1, hC.2.1, hC.2.2.1, hC.2.2.2.1, hts⟩ hM
      ⟨⟨rfl, rfl, hf, by show 8 + (kL k2 + 11) + 64 * d2 ≤ R.locals; omega, fun w hw a' U hW => by
          rcases List.mem_cons.mp hw with e | e
          · rw [e]; exact word_at hW (good_of_word (List.mem_filter.mp hcode).2) (hts _ hcode)
          · exact word_at hW (good_of_word (List.mem_filter.mp e).2) (hts _ e), List.mem_cons_self, hts _ hcode, hts _ hini, ⟨hdd.1, hdd.2.1⟩, fun sig h => by
          have h2 := hdd.2.2
          rw [h] at h2
          exact (Option.some.inj h2).symm, hts _ hl1⟩, hnm, hts _ hl2⟩
      ⟨preB _, fun U hU hW => by
        rw [← hA]
        exact ⟨rfl, by rw [hU]; exact hP, hK.warm hW, by rw [hU]; exact Nat.le_trans hg hS.1⟩⟩
      rfl (by rw [List.length_map]; exact hn) hl.1 rfl (cats_rest hro) hd ⟨hc1, hc2⟩
/-- a private constructor of a nest mate -/
theorem r_callIN {ci : Nat} (hm : MOK k2 n) (hr : kR k2 = none) (hnm : (kY k2).name = "<init>") (hd : decode (kB k) pc = .ok (.invokespecial ix, 3)) (hl1 : (kO k, ix, kY k2) ∈ nestML) (hl2 : Cond.instanceMethod (kY k2) ∈ ALLG) (hk : mK M a = ci + 4) (hn : As.length = n) (hlt : d2 < d) (hro : (rest.map fun v => v.category).sum ≤ 8) (h : Cl d2 k2 (.ref a :: As) M (fun r1 M1 => Wp d k (pc + 3) ls (r1.toList ++ rest) M1 Q)) : Wp d k pc ls (As.reverse ++ .ref a :: rest) M Q :=
  Wp.call h hlt fun r1 M1 hc p l e R s m args below meth c H locs cells slots g la hC hK hP hg hS hl hf hlo hc1 hc2 => by
    obtain ⟨hcode, hini, hdd, hL, hpl, hX, hO⟩ := hm
    have hts := hC.2.2.2.2.1
    obtain ⟨e1, hrv⟩ := recvW (s := s) hP hK hk
    rw [map_stack]
    show va_Run p l e R s m args below meth c H locs cells slots _ _ (F0 m pc la ((As.map (cv g)).reverse ++ cr g a :: rest.map (cv g))) _ _ _
    rw [e1]
    have hM := hc.2 l g
    have hA : (Value.ref a :: As).map (cv g) = .ref (gb g + (a - 2)) :: As.map (cv g) := by rw [List.map_cons]; exact congrArg (· :: As.map (cv g)) e1
    rw [hr] at hM hcode
    exact va_runIN (n := n) (host := "AskingPupil") ⟨hC.1, hC.2.1, hC.2.2.1, hC.2.2.2.1, hts⟩ hM
      ⟨⟨⟨rfl, rfl, hf, by show 8 + (kL k2 + 11) + 64 * d2 ≤ R.locals; omega, fun w hw a' U hW => by
          rcases List.mem_cons.mp hw with e | e
          · rw [e]; exact word_at hW (good_of_word (List.mem_filter.mp hcode).2) (hts _ hcode)
          · exact word_at hW (good_of_word (List.mem_filter.mp e).2) (hts _ e), List.mem_cons_self⟩, hts _ hcode, hts _ hini, ⟨hdd.1, hdd.2.1⟩, fun sig h => by
          have h2 := hdd.2.2
          rw [h] at h2
          exact (Option.some.inj h2).symm, va_Nw.use rfl (hK.2.2.2.2.1 _ hl1)⟩, hnm, hts _ hl2⟩
      ⟨preB _, fun U hU hW => by
        rw [← hA]
        exact ⟨rfl, by rw [hU]; exact hP, hK.warm hW, by rw [hU]; exact Nat.le_trans hg hS.1⟩⟩
      rfl (by rw [List.length_map]; exact hn) hl.1 rfl (cats_rest hro) hd ⟨hc1, hc2⟩
/-- Object() -/
theorem r_objI {st : List Value} {ci : Nat} (hd : decode (kB k) pc = .ok (.invokespecial ix, 3)) (hl1 : Cond.methodLink (kO k) ix Lib.objectInit ∈ ALLG) (hl2 : Cond.instanceMethod Lib.objectInit ∈ ALLG) (hl3 : Cond.code Lib.objectInit ⟨#[0xb1]⟩ 1 none ∈ ALLG) (hk : mK M a = ci + 4) (hd1 : 1 ≤ d) (hro : (st.map fun v => v.category).sum ≤ 8) (h : Wp d k (pc + 3) ls st M Q) : Wp d k pc ls (.ref a :: st) M Q := by
  obtain ⟨r, M', hq, b, b3⟩ := h
  refine ⟨r, M', hq, b, fun p l e R s m args below meth c H locs cells slots Z g la hC hK hX hP hg hS hl hf hlo hc1 hc2 kk => ?_⟩
  have hts := hC.2.2.2.2.1
  obtain ⟨e1, hrv⟩ := recvW (s := s) hP hK hk
  rw [List.map_cons]
  show W p l e R s m args below meth c H locs cells slots Z (F0 m pc la (cr g a :: st.map (cv g)))
  rw [e1]
  have h8 := cats_rest (g := g) (m := m) (pc := pc) (la := la) (st0 := Value.ref (gb g + (a - 2)) :: st.map (cv g)) hro
  exact W.objInit hC.1 hC.2.1 hC.2.2.2.1 (hts _ hl1) (hts _ hl2) (hts _ hl3) rfl (by rw [hC.2.2.1]; exact hl.1) rfl hd (by omega) (by omega) (b3 p l e R s m args below meth c H locs cells slots Z g la hC hK hX hP hg hS hl hf hlo hc1 hc2 kk)
end Calls9
