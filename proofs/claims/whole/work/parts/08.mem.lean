/-! rows for fields, arrays, new cells; a call's row; a method's contract out of a run from its entry -/
theorem Rep.upd {g : GX} {M M2 : Mem} {H H1 : Heap} {a : Nat} (hP : Rep g M H) (ha : mK M a ≠ 0) (hz : H1.size = H.size) (ho : ∀ q, q ≠ gb g + (a - 2) → H1[q]? = H[q]?) (hC : mC M2 = mC M) (hK : ∀ p, mK M2 p = mK M p) (hN : ∀ p, mN M2 p = mN M p) (hI : ∀ p, p ≠ a → mI M2 p = mI M p) (hJ : ∀ p, p ≠ a → mJ M2 p = mJ M p) (hR : ∀ p, p ≠ a → mR M2 p = mR M p) (hc : cok g M2 H1 a) : Rep g M2 H1 := by
  obtain ⟨h1, h2, h3⟩ := hP
  refine ⟨by rw [hz, hC]; exact h1, fun p hp => by rw [hC]; exact h2 p (by rw [← hK]; exact hp), fun p => ?_⟩
  by_cases hpa : p = a
  · subst hpa; exact hc
  · by_cases h0 : mK M p = 0
    · unfold cok; rw [hK, h0]; exact True.intro
    · have hp := h2 p h0
      have hq := h2 a ha
      unfold cok
      rw [hK, hN, hI p hpa, hJ p hpa, hR p hpa]
      exact (h3 p).kept (ho _ (by omega))
theorem Rep.new {g : GX} {M : Mem} {H H1 : Heap} {kd n : Nat} (hP : Rep g M H) (hz : H1.size = H.size + 1) (ho : ∀ q, q < H.size → H1[q]? = H[q]?) (hc : cok0 g kd n (fun _ => 0) (fun _ => 0) (fun _ => 0) H1 H.size) : Rep g (nwC M kd n) H1 := by
  obtain ⟨h1, h2, h3⟩ := hP
  have eC : mC (nwC M kd n) = mC M + 1 := rfl
  refine ⟨by rw [hz, eC, h1]; rfl, fun p hp => ?_, fun p => ?_⟩
  · rw [eC]
    by_cases hpa : p = mC M + 2
    · omega
    · have e : mK (nwC M kd n) p = mK M p := if_neg hpa
      rw [e] at hp
      have := h2 p hp
      omega
  · unfold cok
    by_cases hpa : p = mC M + 2
    · subst hpa
      have e1 : mK (nwC M kd n) (mC M + 2) = kd := if_pos rfl
      have e2 : mN (nwC M kd n) (mC M + 2) = n := if_pos rfl
      have e3 : mI (nwC M kd n) (mC M + 2) = fun _ => 0 := funext fun j => if_pos rfl
      have e4 : mJ (nwC M kd n) (mC M + 2) = fun _ => 0 := funext fun j => if_pos rfl
      have e5 : mR (nwC M kd n) (mC M + 2) = fun _ => 0 := funext fun j => if_pos rfl
      rw [e1, e2, e3, e4, e5]
      rw [show gb g + (mC M + 2 - 2) = H.size by rw [h1]; omega]
      exact hc
    · have e1 : mK (nwC M kd n) p = mK M p := if_neg hpa
      have e2 : mN (nwC M kd n) p = mN M p := if_neg hpa
      have e3 : mI (nwC M kd n) p = mI M p := funext fun j => if_neg hpa
      have e4 : mJ (nwC M kd n) p = mJ M p := funext fun j => if_neg hpa
      have e5 : mR (nwC M kd n) p = mR M p := funext fun j => if_neg hpa
      rw [e1, e2, e3, e4, e5]
      by_cases h0 : mK M p = 0
      · rw [h0]; exact True.intro
      · exact (h3 p).kept (ho _ (by have := h2 p h0; omega))
/-- one step that changes the memory: it may make kc cells of ks slots -/
theorem Wp.stepM {d : Nat} {k : MD} {pc pc2 : Nat} {ls : List (Nat × Value)} {st st2 : List Value} {M M2 : Mem} {Q : Option Value → Mem → Prop} (kc ks : Nat) (e1 : mC M2 = mC M + kc) (e2 : mS M2 = mS M + ks)
    (hs : ∀ (p : Program) (l : LF) (e : Env) (R : Room) (s : State) (m : MethodId) (args : Array Value) (below : List Frame) (meth : Method) (c : Code) (H : Heap) (locs : List Loc) (cells slots : Nat) (Z : State → Prop) (g : GX) (la : Array Slot), Cx k p s m args meth c → Kx g s → Scr g (kX k) s → Rep g M H → gb g ≤ s.heap.size → va_S (ZA g) s.heap H locs → lv_has la (kL k) (ls.map (cl g)) → d ≤ R.frames → 64 * d ≤ R.locals → cells + kc ≤ R.cells → slots + ks ≤ R.slots →
      (∀ (H1 : Heap) (locs1 : List Loc), Rep g M2 H1 → va_S (ZA g) s.heap H1 locs1 → W p l e R s m args below meth c H1 locs1 (cells + kc) (slots + ks) Z (F0 m pc2 la (st2.map (cv g)))) → W p l e R s m args below meth c H locs cells slots Z (F0 m pc la (st.map (cv g))))
    (h : Wp d k pc2 ls st2 M2 Q) : Wp d k pc ls st M Q := by
  obtain ⟨r, M', a, ⟨b1, b2⟩, b3⟩ := h
  refine ⟨r, M', a, ⟨by omega, by omega⟩, fun p l e R s m args below meth c H locs cells slots Z g la hC hK hX hP hg hS hl hf hlo hc1 hc2 kk => ?_⟩
  refine hs p l e R s m args below meth c H locs cells slots Z g la hC hK hX hP hg hS hl hf hlo (by omega) (by omega) fun H1 locs1 hP1 hS1 => ?_
  refine b3 p l e R s m args below meth c H1 locs1 (cells + kc) (slots + ks) Z g la hC hK hX hP1 hg hS1 hl hf hlo (by omega) (by omega) fun H' locs' pc' la' hr hP' hS' => ?_
  have h9 := kk H' locs' pc' la' hr hP' hS'
  rw [show cells + kc + (mC M' - mC M2) = cells + (mC M' - mC M) by omega, show slots + ks + (mS M' - mS M2) = slots + (mS M' - mS M) by omega]
  exact h9
theorem zS_put {g : GX} {H0 H H1 : Heap} {locs : List Loc} {a i : Nat} (h : va_S (ZA g) H0 H locs) (z : H1.size = H.size) (oq : ∀ q : Nat, q ≠ gb g + (a - 2) → H1[q]? = H[q]?) : va_S (ZA g) H0 H1 (locs ++ [⟨gb g + (a - 2), i⟩]) := h.put z oq (Nat.le_add_right _ _)
-- the field a place of the pool names
def FL (own : String) (ix ci f : Nat) : Prop := ci < 11 ∧ f < clN ci ∧ ∃ ref, Cond.fieldLink own ix ref ((clT ci) f).2.1 ((clT ci) f).2.2.1 ∈ ALLG ∧ (ref = ((clT ci) f).1 ∨ Cond.sameField ref ((clT ci) f).1 ((clT ci) f).2.1 ((clT ci) f).2.2.1 ∈ ALLG)
theorem inGs {ws : List Cond} (ps : List Nat) (hp : ws = ps.filterMap (fun i => lw_tbl[i]?)) (h : ws.all goodWord = true) : ∀ w ∈ ws, w ∈ ALLG := by
  intro w hw
  have h1 := List.all_eq_true.mp h w hw
  rw [hp] at hw
  obtain ⟨i, -, hi⟩ := List.mem_filterMap.mp hw
  exact inG i hi h1
def ClsOK (ci : Nat) : Prop := (∀ w ∈ u_ws (clC ci) (clT ci) (clN ci), w ∈ ALLG) ∧ (∀ k, k < clN ci → parseFieldDescriptor ((clT ci) k).2.2.1 = some (tyTab ci k)) ∧ (∀ a, a < clN ci → ∀ b, b < clN ci → a ≠ b → ((clT ci) a).2.1 ≠ ((clT ci) b).2.1) ∧ Cond.instantiable (clC ci) (clN ci) ∈ ALLG ∧ Cond.initialized (clC ci) ∈ ALLG
section MemRows
variable {d : Nat} {k : MD} {pc : Nat} {ls : List (Nat × Value)} {st : List Value} {M : Mem} {Q : Option Value → Mem → Prop}
theorem r_get {ix ci f a : Nat} {v : Value} (hok : ClsOK ci) (hd : decode (kB k) pc = .ok (.getfield ix, 3)) (hf : FL (kO k) ix ci f) (hk : mK M a = ci + 4) (hv : ∀ g : GX, cv g v = fv0 g ci (mI M a) (mJ M a) (mR M a) f) (h : Wp d k (pc + 3) ls (v :: st) M Q) : Wp d k pc ls (.ref a :: st) M Q :=
  Wp.step (ls2 := ls) (st2 := v :: st) (fun p l e R s m args below meth c H locs cells slots Z g la hC hK hX hP hS hl kk => by
    obtain ⟨hci, hfN, ref, hlink, hsame⟩ := hf
    obtain ⟨hws, -, -, -, -⟩ := hok
    have ha := hP.2.1 a (by rw [hk]; omega)
    have hcok : cok0 g (mK M a) (mN M a) (mI M a) (mJ M a) (mR M a) H (gb g + (a - 2)) := hP.2.2 a
    rw [hk] at hcok
    obtain ⟨-, cell, q1, q2, q3, q4⟩ : ci < 11 ∧ t_OB (gb g + (a - 2)) (g.1.1 ci) (clN ci) (g.1.2 ci) H (fv0 g ci (mI M a) (mJ M a) (mR M a)) := hcok
    obtain ⟨hSl, hfc, kC, hkC, hkind⟩ := hK.1 ci hci
    obtain ⟨cf, kf, fi, fd, hi, hsl⟩ := hSl f hfN
    have hts := hC.2.2.2.2.1
    have hsm : s.fieldFound? ref ((clT ci) f).2.1 ((clT ci) f).2.2.1 = some (cf, kf, fi, fd) := by
      rcases hsame with e | e
      · rw [e]; exact hi
      · exact u_same (hts _ e) _ hi
    rw [List.map_cons]
    show W p l e R s m args below meth c H locs cells slots Z (F0 m pc la (cr g a :: st.map (cv g)))
    rw [cr_ge g ha.1]
    refine W.getf hC.1 hC.2.1 hC.2.2.2.1 (hts _ hlink) hsm (u_facts hfc hkC (u_lays hts hws hfN) hi).1 q1 (by rw [q3]; exact fun h => by cases h) (v := cv g v) ?_ rfl rfl hd (kk la hl)
    rw [hsl, q4 f hfN, hv g]) h
theorem r_getI {ix ci f a : Nat} (hok : ClsOK ci) (hd : decode (kB k) pc = .ok (.getfield ix, 3)) (hf : FL (kO k) ix ci f) (ht : fk ci f = 0) (hk : mK M a = ci + 4) (h : Wp d k (pc + 3) ls (.int (mI M a f) :: st) M Q) : Wp d k pc ls (.ref a :: st) M Q :=
  r_get hok hd hf hk (fun g => by unfold fv0; rw [if_pos ht]; rfl) h
theorem r_getJ {ix ci f a : Nat} (hok : ClsOK ci) (hd : decode (kB k) pc = .ok (.getfield ix, 3)) (hf : FL (kO k) ix ci f) (ht : fk ci f = 1) (hk : mK M a = ci + 4) (h : Wp d k (pc + 3) ls (.long (mJ M a f) :: st) M Q) : Wp d k pc ls (.ref a :: st) M Q :=
  r_get hok hd hf hk (fun g => by unfold fv0; rw [if_neg (by rw [ht]; decide), if_pos ht]; rfl) h
theorem r_getR {ix ci f a : Nat} (hok : ClsOK ci) (hd : decode (kB k) pc = .ok (.getfield ix, 3)) (hf : FL (kO k) ix ci f) (ht : fk ci f = 2) (hk : mK M a = ci + 4) (h : Wp d k (pc + 3) ls (.ref (mR M a f) :: st) M Q) : Wp d k pc ls (.ref a :: st) M Q :=
  r_get hok hd hf hk (fun g => by unfold fv0; rw [if_neg (by rw [ht]; decide), if_neg (by rw [ht]; decide)]; rfl) h
theorem r_put {ix ci f a : Nat} {v : Value} {M2 : Mem} (hok : ClsOK ci) (hd : decode (kB k) pc = .ok (.putfield ix, 3)) (hf : FL (kO k) ix ci f) (hfin : ((clT ci) f).2.2.2 = false ∨ (((clT ci) f).2.2.2 = true ∧ (kY k).name = "<init>" ∧ ((clT ci) f).1 = kO k)) (hk : mK M a = ci + 4)
    (hn : ∀ g : GX, narrow (tyTab ci f) (cv g v) = cv g v ∧ fits (tyTab ci f) (cv g v) = true) (eC : mC M2 = mC M) (eS : mS M2 = mS M) (eK : ∀ p, mK M2 p = mK M p) (eN : ∀ p, mN M2 p = mN M p) (eI : ∀ p, p ≠ a → mI M2 p = mI M p) (eJ : ∀ p, p ≠ a → mJ M2 p = mJ M p) (eR : ∀ p, p ≠ a → mR M2 p = mR M p)
    (hv : ∀ (g : GX) (j : Nat), fv0 g ci (mI M2 a) (mJ M2 a) (mR M2 a) j = if j = f then cv g v else fv0 g ci (mI M a) (mJ M a) (mR M a) j)
    (h : Wp d k (pc + 3) ls st M2 Q) : Wp d k pc ls (v :: .ref a :: st) M Q :=
  Wp.stepM 0 0 eC eS (fun p l e R s m args below meth c H locs cells slots Z g la hC hK hX hP hg hS hl hfr hlo hc1 hc2 kk => by
    obtain ⟨hci, hfN, ref, hlink, hsame⟩ := hf
    obtain ⟨hws, hty, hnm, -, -⟩ := hok
    have hne : mK M a ≠ 0 := by rw [hk]; omega
    have ha := hP.2.1 a hne
    have hcok : cok0 g (mK M a) (mN M a) (mI M a) (mJ M a) (mR M a) H (gb g + (a - 2)) := hP.2.2 a
    rw [hk] at hcok
    obtain ⟨-, cell, q1, q2, q3, q4⟩ : ci < 11 ∧ t_OB (gb g + (a - 2)) (g.1.1 ci) (clN ci) (g.1.2 ci) H (fv0 g ci (mI M a) (mJ M a) (mR M a)) := hcok
    obtain ⟨hSl, hfc, kC, hkC, hkind⟩ := hK.1 ci hci
    obtain ⟨cf, kf, fi, fd, hi, hsl⟩ := hSl f hfN
    have hts := hC.2.2.2.2.1
    have hsm : s.fieldFound? ref ((clT ci) f).2.1 ((clT ci) f).2.2.1 = some (cf, kf, fi, fd) := by
      rcases hsame with e | e
      · rw [e]; exact hi
      · exact u_same (hts _ e) _ hi
    have hlay := hts _ (hws _ (u_in_lay hfN))
    have hst := (u_facts hfc hkC (u_lays hts hws hfN) hi).1
    have hap : ∀ x y, x < clN ci → y < clN ci → x ≠ y → (g.1.2 ci) x ≠ (g.1.2 ci) y := by
      intro x y hx hy hxy
      obtain ⟨_, _, _, fa, hia, ea⟩ := hSl x hx
      obtain ⟨_, _, _, fb, hib, eb⟩ := hSl y hy
      rw [← ea, ← eb]
      refine u_apart (u_lays hts hws hx) (u_lays hts hws hy) hia hib ?_
      rw [(State.fieldFound?_type hia (hty x hx)).1, (State.fieldFound?_type hib (hty y hy)).1]
      exact hnm x hx y hy hxy
    have fin : ∀ H' : Heap, H'[gb g + (a - 2)]? = some (cell.setSlot fd.slot (cv g v)) → H'.size = H.size → (∀ q, q ≠ gb g + (a - 2) → H'[q]? = H[q]?) → W p l e R s m args below meth c H' (locs ++ [⟨gb g + (a - 2), fd.slot⟩]) cells slots Z { (F0 m pc la (cv g v :: .ref (gb g + (a - 2)) :: st.map (cv g))) with pc := pc + 3, stack := st.map (cv g) } := by
      intro H' e1 e2 e3
      rw [hsl] at e1
      refine kk H' _ (Rep.upd hP hne e2 e3 eC eK eN eI eJ eR ?_) (zS_put hS e2 e3)
      show cok0 g (mK M2 a) (mN M2 a) (mI M2 a) (mJ M2 a) (mR M2 a) H' (gb g + (a - 2))
      rw [eK, hk]
      refine ⟨hci, t_OB.to (V := updV (fv0 g ci (mI M a) (mJ M a) (mR M a)) f (cv g v)) ⟨_, e1, q2, q3, t_set q4 hap hfN (cv g v)⟩ fun j _ => ?_⟩
      rw [hv g j]
      rfl
    rw [List.map_cons, List.map_cons]
    show W p l e R s m args below meth c H locs cells slots Z (F0 m pc la (cv g v :: cr g a :: st.map (cv g)))
    rw [cr_ge g ha.1]
    unfold u_lay at hlay
    rcases hfin with h0 | ⟨h0, h1, h2⟩
    · rw [if_neg (by rw [h0]; decide)] at hlay
      have h6 := u_store hfc hkC hkind hlay hi (hty f hfN) (hn g).1 (hn g).2
      exact W.putK hC.1 hC.2.1 (f := fd) ⟨hC.2.2.2.1, hts _ hlink, ⟨_, _, _, hsm⟩, hst⟩ (by rw [q2]; exact h6) q1 q3 (by rw [hsl]; exact k2_hasslot (q4 f hfN)) rfl rfl hd fin
    · rw [if_pos h0] at hlay
      have hcf : m.cls = cf := by
        obtain ⟨_, _, c', _, _, _, -, -, hf', -, -, -, hown2, -⟩ := Cond.laysFinal_spec hlay
        have e1 : c' = cf := by have := hi.symm.trans hf'; simp at this; exact this.1.symm
        rw [h2] at hown2
        rw [← e1]; exact Option.some.inj (hC.2.2.2.1.symm.trans hown2)
      have h6 := u_fits hfc hkC hkind (Or.inr hlay) hi (hty f hfN) (hn g).1 (hn g).2
      exact W.putFinK hC.1 hC.2.1 hC.2.2.2.1 (hts _ hlink) hsm hst hcf (hC.2.2.2.2.2.trans h1) (by rw [q2]; exact h6) q1 q3 (by rw [hsl]; exact k2_hasslot (q4 f hfN)) rfl rfl hd fin) h
theorem fk_int {ci f : Nat} (h : fk ci f = 0) : tyTab ci f = .int := by
  unfold fk at h
  split at h
  · assumption
  · cases h
  · cases h
theorem fk_long {ci f : Nat} (h : fk ci f = 1) : tyTab ci f = .long := by
  unfold fk at h
  split at h
  · cases h
  · assumption
  · cases h
theorem r_putI {ix ci f a : Nat} {x : Int32} (hok : ClsOK ci) (hd : decode (kB k) pc = .ok (.putfield ix, 3)) (hf : FL (kO k) ix ci f) (ht : fk ci f = 0) (hfin : ((clT ci) f).2.2.2 = false ∨ (((clT ci) f).2.2.2 = true ∧ (kY k).name = "<init>" ∧ ((clT ci) f).1 = kO k)) (hk : mK M a = ci + 4) (h : Wp d k (pc + 3) ls st (sI M a f x) Q) : Wp d k pc ls (.int x :: .ref a :: st) M Q :=
  r_put (M2 := sI M a f x) hok hd hf hfin hk (fun g => by rw [fk_int ht]; exact ⟨rfl, rfl⟩) rfl rfl (fun _ => rfl) (fun _ => rfl) (fun p hp => funext fun j => if_neg (fun e => hp e.1)) (fun _ _ => rfl) (fun _ _ => rfl) (fun g j => by
    by_cases hj : j = f
    · subst hj
      rw [if_pos rfl]
      unfold fv0
      rw [if_pos ht]
      show Value.int (up2 M.1 a j x a j) = _
      unfold up2
      rw [if_pos ⟨rfl, rfl⟩]; rfl
    · rw [if_neg hj]
      unfold fv0
      have e : mI (sI M a f x) a j = mI M a j := if_neg (fun e => hj e.2)
      rw [e]; rfl) h
theorem r_putJ {ix ci f a : Nat} {x : Int64} (hok : ClsOK ci) (hd : decode (kB k) pc = .ok (.putfield ix, 3)) (hf : FL (kO k) ix ci f) (ht : fk ci f = 1) (hfin : ((clT ci) f).2.2.2 = false ∨ (((clT ci) f).2.2.2 = true ∧ (kY k).name = "<init>" ∧ ((clT ci) f).1 = kO k)) (hk : mK M a = ci + 4) (h : Wp d k (pc + 3) ls st (sJ M a f x) Q) : Wp d k pc ls (.long x :: .ref a :: st) M Q :=
  r_put (M2 := sJ M a f x) hok hd hf hfin hk (fun g => by rw [fk_long ht]; exact ⟨rfl, rfl⟩) rfl rfl (fun _ => rfl) (fun _ => rfl) (fun _ _ => rfl) (fun p hp => funext fun j => if_neg (fun e => hp e.1)) (fun _ _ => rfl) (fun g j => by
    by_cases hj : j = f
    · subst hj
      rw [if_pos rfl]
      unfold fv0
      rw [if_neg (by rw [ht]; decide), if_pos ht]
      show Value.long (up2 M.2.1 a j x a j) = _
      unfold up2
      rw [if_pos ⟨rfl, rfl⟩]; rfl
    · rw [if_neg hj]
      unfold fv0
      have e : mJ (sJ M a f x) a j = mJ M a j := if_neg (fun e => hj e.2)
      rw [e]; rfl) h
/-- a field of objects or arrays -/
def isRT : FieldType → Bool
  | .object _ => true
  | .array _ => true
  | _ => false
theorem fits_ref {ty : FieldType} (h : isRT ty = true) (g : GX) (x : Nat) : narrow ty (cr g x) = cr g x ∧ fits ty (cr g x) = true := by
  rcases cr_cases g x with e | ⟨a, e⟩ <;> rw [e] <;> cases ty <;> first | exact ⟨rfl, rfl⟩ | cases h
theorem r_putR {ix ci f a : Nat} {x : Nat} (hok : ClsOK ci) (hd : decode (kB k) pc = .ok (.putfield ix, 3)) (hf : FL (kO k) ix ci f) (ht : fk ci f = 2) (hr : isRT (tyTab ci f) = true) (hfin : ((clT ci) f).2.2.2 = false ∨ (((clT ci) f).2.2.2 = true ∧ (kY k).name = "<init>" ∧ ((clT ci) f).1 = kO k)) (hk : mK M a = ci + 4) (h : Wp d k (pc + 3) ls st (sR M a f x) Q) : Wp d k pc ls (.ref x :: .ref a :: st) M Q :=
  r_put (M2 := sR M a f x) hok hd hf hfin hk (fun g => fits_ref hr g x) rfl rfl (fun _ => rfl) (fun _ => rfl) (fun _ _ => rfl) (fun _ _ => rfl) (fun p hp => funext fun j => if_neg (fun e => hp e.1)) (fun g j => by
    by_cases hj : j = f
    · subst hj
      rw [if_pos rfl]
      unfold fv0
      rw [if_neg (by rw [ht]; decide), if_neg (by rw [ht]; decide)]
      show cr g (up2 M.2.2.1 a j x a j) = _
      unfold up2
      rw [if_pos ⟨rfl, rfl⟩]; rfl
    · rw [if_neg hj]
      unfold fv0
      have e : mR (sR M a f x) a j = mR M a j := if_neg (fun e => hj e.2)
      rw [e]; rfl) h
theorem ar_in {cA : ClassId} {n : Nat} {f : Nat → Value} {i : Int32} (h : vp_in i n) : ¬ (i < 0 ∨ (arrV cA n f).slots.size ≤ i.toNatClampNeg) := by rw [arrV_size]; exact h
theorem ar_rd {cA : ClassId} {n : Nat} {f : Nat → Value} {i : Int32} (h : vp_in i n) : (arrV cA n f).slots[i.toNatClampNeg]? = some (f i.toNatClampNeg) := arrV_read _ _ (Nat.not_le.mp fun q => h (Or.inr q))
theorem r_iald {a : Nat} {i : Int32} (hd : decode (kB k) pc = .ok (.iaload, 1)) (hk : mK M a = 1) (hin : vp_in i (mN M a)) (h : Wp d k (pc + 1) ls (.int (mI M a i.toNatClampNeg) :: st) M Q) : Wp d k pc ls (.int i :: .ref a :: st) M Q :=
  Wp.step (ls2 := ls) (st2 := .int (mI M a i.toNatClampNeg) :: st) (fun p l e R s m args below meth c H locs cells slots Z g la hC hK hX hP hS hl kk => by
    have ha := hP.2.1 a (by rw [hk]; omega)
    have hcok : cok0 g (mK M a) (mN M a) (mI M a) (mJ M a) (mR M a) H (gb g + (a - 2)) := hP.2.2 a
    rw [hk] at hcok
    rw [List.map_cons, List.map_cons]
    show W p l e R s m args below meth c H locs cells slots Z (F0 m pc la (.int i :: cr g a :: st.map (cv g)))
    rw [cr_ge g ha.1]
    exact W.iald hC.1 hC.2.1 hcok (hK.2.1.1 _ _) (fun q => by cases q) (ar_in hin) (ar_rd hin) rfl rfl hd (kk la hl)) h
theorem r_lald {a : Nat} {i : Int32} (hd : decode (kB k) pc = .ok (.laload, 1)) (hk : mK M a = 2) (hin : vp_in i (mN M a)) (h : Wp d k (pc + 1) ls (.long (mJ M a i.toNatClampNeg) :: st) M Q) : Wp d k pc ls (.int i :: .ref a :: st) M Q :=
  Wp.step (ls2 := ls) (st2 := .long (mJ M a i.toNatClampNeg) :: st) (fun p l e R s m args below meth c H locs cells slots Z g la hC hK hX hP hS hl kk => by
    have ha := hP.2.1 a (by rw [hk]; omega)
    have hcok : cok0 g (mK M a) (mN M a) (mI M a) (mJ M a) (mR M a) H (gb g + (a - 2)) := hP.2.2 a
    rw [hk] at hcok
    rw [List.map_cons, List.map_cons]
    show W p l e R s m args below meth c H locs cells slots Z (F0 m pc la (.int i :: cr g a :: st.map (cv g)))
    rw [cr_ge g ha.1]
    exact W.lald hC.1 hC.2.1 hcok (hK.2.2.1.1 _ _) (fun q => by cases q) (ar_in hin) (ar_rd hin) rfl rfl hd (kk la hl)) h
theorem r_zald {a : Nat} {i : Int32} (hd : decode (kB k) pc = .ok (.baload, 1)) (hk : mK M a = 3) (hin : vp_in i (mN M a)) (h : Wp d k (pc + 1) ls (.int (mI M a i.toNatClampNeg) :: st) M Q) : Wp d k pc ls (.int i :: .ref a :: st) M Q :=
  Wp.step (ls2 := ls) (st2 := .int (mI M a i.toNatClampNeg) :: st) (fun p l e R s m args below meth c H locs cells slots Z g la hC hK hX hP hS hl kk => by
    have ha := hP.2.1 a (by rw [hk]; omega)
    have hcok : cok0 g (mK M a) (mN M a) (mI M a) (mJ M a) (mR M a) H (gb g + (a - 2)) := hP.2.2 a
    rw [hk] at hcok
    rw [List.map_cons, List.map_cons]
    show W p l e R s m args below meth c H locs cells slots Z (F0 m pc la (.int i :: cr g a :: st.map (cv g)))
    rw [cr_ge g ha.1]
    exact W.zald hC.1 hC.2.1 hcok (hK.2.2.2.1.1 _ _) (fun q => by cases q) (ar_in hin) (ar_rd hin) rfl rfl hd (kk la hl)) h
theorem r_alen {a : Nat} (hd : decode (kB k) pc = .ok (.arraylength, 1)) (hk : mK M a = 1 ∨ mK M a = 2 ∨ mK M a = 3) (h : Wp d k (pc + 1) ls (.int (nI (mN M a)) :: st) M Q) : Wp d k pc ls (.ref a :: st) M Q :=
  Wp.step (ls2 := ls) (st2 := .int (nI (mN M a)) :: st) (fun p l e R s m args below meth c H locs cells slots Z g la hC hK hX hP hS hl kk => by
    have ha := hP.2.1 a (by omega)
    have hcok : cok0 g (mK M a) (mN M a) (mI M a) (mJ M a) (mR M a) H (gb g + (a - 2)) := hP.2.2 a
    rw [List.map_cons]
    show W p l e R s m args below meth c H locs cells slots Z (F0 m pc la (cr g a :: st.map (cv g)))
    rw [cr_ge g ha.1]
    rcases hk with hk | hk | hk <;> rw [hk] at hcok
    · exact W.alen (n := nI (mN M a)) hC.1 hC.2.1 hcok (hK.2.1.1 _ _) (by rw [arrV_size]; rfl) rfl rfl hd (kk la hl)
    · exact W.alen (n := nI (mN M a)) hC.1 hC.2.1 hcok (hK.2.2.1.1 _ _) (by rw [arrV_size]; rfl) rfl rfl hd (kk la hl)
    · exact W.alen (n := nI (mN M a)) hC.1 hC.2.1 hcok (hK.2.2.2.1.1 _ _) (by rw [arrV_size]; rfl) rfl rfl hd (kk la hl)) h
theorem arrV_congr {cA : ClassId} {n : Nat} {f f' : Nat → Value} (h : ∀ j, f j = f' j) : arrV cA n f = arrV cA n f' := by rw [funext h]
theorem r_iast {a : Nat} {i x : Int32} (hd : decode (kB k) pc = .ok (.iastore, 1)) (hk : mK M a = 1) (hin : vp_in i (mN M a)) (h : Wp d k (pc + 1) ls st (sI M a i.toNatClampNeg x) Q) : Wp d k pc ls (.int x :: .int i :: .ref a :: st) M Q :=
  Wp.stepM (M2 := sI M a i.toNatClampNeg x) (pc2 := pc + 1) (st2 := st) 0 0 rfl rfl (fun p l e R s m args below meth c H locs cells slots Z g la hC hK hX hP hg hS hl hfr hlo hc1 hc2 kk => by
    have hne : mK M a ≠ 0 := by rw [hk]; omega
    have ha := hP.2.1 a hne
    have hcok : cok0 g (mK M a) (mN M a) (mI M a) (mJ M a) (mR M a) H (gb g + (a - 2)) := hP.2.2 a
    rw [hk] at hcok
    rw [List.map_cons, List.map_cons, List.map_cons]
    show W p l e R s m args below meth c H locs cells slots Z (F0 m pc la (.int x :: .int i :: cr g a :: st.map (cv g)))
    rw [cr_ge g ha.1]
    refine W.iast hC.1 hC.2.1 hcok (hK.2.1.1 _ _) (fun q => by cases q) (ar_in hin) rfl rfl hd fun H' e1 e2 e3 => ?_
    refine kk H' _ (Rep.upd hP hne e2 e3 rfl (fun _ => rfl) (fun _ => rfl) (fun p hp => funext fun j => if_neg (fun e => hp e.1)) (fun _ _ => rfl) (fun _ _ => rfl) ?_) (zS_put hS e2 e3)
    show cok0 g (mK M a) (mN M a) (mI (sI M a i.toNatClampNeg x) a) (mJ M a) (mR M a) H' (gb g + (a - 2))
    rw [hk]
    show H'[gb g + (a - 2)]? = some (arrV _ _ _)
    rw [e1, arrV_store]
    refine congrArg some (arrV_congr fun j => ?_)
    show updV _ _ _ _ = Value.int (up2 M.1 a _ x a j)
    unfold updV up2
    by_cases hj : j = i.toNatClampNeg
    · rw [if_pos hj, if_pos ⟨rfl, hj⟩]
    · rw [if_neg hj, if_neg (fun e => hj e.2)]; rfl) h
theorem r_last {a : Nat} {i : Int32} {x : Int64} (hd : decode (kB k) pc = .ok (.lastore, 1)) (hk : mK M a = 2) (hin : vp_in i (mN M a)) (h : Wp d k (pc + 1) ls st (sJ M a i.toNatClampNeg x) Q) : Wp d k pc ls (.long x :: .int i :: .ref a :: st) M Q :=
  Wp.stepM (M2 := sJ M a i.toNatClampNeg x) (pc2 := pc + 1) (st2 := st) 0 0 rfl rfl (fun p l e R s m args below meth c H locs cells slots Z g la hC hK hX hP hg hS hl hfr hlo hc1 hc2 kk => by
    have hne : mK M a ≠ 0 := by rw [hk]; omega
    have ha := hP.2.1 a hne
    have hcok : cok0 g (mK M a) (mN M a) (mI M a) (mJ M a) (mR M a) H (gb g + (a - 2)) := hP.2.2 a
    rw [hk] at hcok
    rw [List.map_cons, List.map_cons, List.map_cons]
    show W p l e R s m args below meth c H locs cells slots Z (F0 m pc la (.long x :: .int i :: cr g a :: st.map (cv g)))
    rw [cr_ge g ha.1]
    refine W.last hC.1 hC.2.1 hcok (hK.2.2.1.1 _ _) (fun q => by cases q) (ar_in hin) rfl rfl hd fun H' e1 e2 e3 => ?_
    refine kk H' _ (Rep.upd hP hne e2 e3 rfl (fun _ => rfl) (fun _ => rfl) (fun _ _ => rfl) (fun p hp => funext fun j => if_neg (fun e => hp e.1)) (fun _ _ => rfl) ?_) (zS_put hS e2 e3)
    show cok0 g (mK M a) (mN M a) (mI M a) (mJ (sJ M a i.toNatClampNeg x) a) (mR M a) H' (gb g + (a - 2))
    rw [hk]
    show H'[gb g + (a - 2)]? = some (arrV _ _ _)
    rw [e1, arrV_store]
    refine congrArg some (arrV_congr fun j => ?_)
    show updV _ _ _ _ = Value.long (up2 M.2.1 a _ x a j)
    unfold updV up2
    by_cases hj : j = i.toNatClampNeg
    · rw [if_pos hj, if_pos ⟨rfl, hj⟩]
    · rw [if_neg hj, if_neg (fun e => hj e.2)]; rfl) h
/-- a boolean into its row: 0 or 1 -/
theorem r_zast {a : Nat} {i x : Int32} (hd : decode (kB k) pc = .ok (.bastore, 1)) (hk : mK M a = 3) (hin : vp_in i (mN M a)) (hx : narrow .boolean (.int x) = .int x) (h : Wp d k (pc + 1) ls st (sI M a i.toNatClampNeg x) Q) : Wp d k pc ls (.int x :: .int i :: .ref a :: st) M Q :=
  Wp.stepM (M2 := sI M a i.toNatClampNeg x) (pc2 := pc + 1) (st2 := st) 0 0 rfl rfl (fun p l e R s m args below meth c H locs cells slots Z g la hC hK hX hP hg hS hl hfr hlo hc1 hc2 kk => by
    have hne : mK M a ≠ 0 := by rw [hk]; omega
    have ha := hP.2.1 a hne
    have hcok : cok0 g (mK M a) (mN M a) (mI M a) (mJ M a) (mR M a) H (gb g + (a - 2)) := hP.2.2 a
    rw [hk] at hcok
    rw [List.map_cons, List.map_cons, List.map_cons]
    show W p l e R s m args below meth c H locs cells slots Z (F0 m pc la (.int x :: .int i :: cr g a :: st.map (cv g)))
    rw [cr_ge g ha.1]
    refine W.zast hC.1 hC.2.1 hcok (hK.2.2.2.1.1 _ _) (fun q => by cases q) (ar_in hin) rfl rfl hd fun H' e1 e2 e3 => ?_
    refine kk H' _ (Rep.upd hP hne e2 e3 rfl (fun _ => rfl) (fun _ => rfl) (fun p hp => funext fun j => if_neg (fun e => hp e.1)) (fun _ _ => rfl) (fun _ _ => rfl) ?_) (zS_put hS e2 e3)
    show cok0 g (mK M a) (mN M a) (mI (sI M a i.toNatClampNeg x) a) (mJ M a) (mR M a) H' (gb g + (a - 2))
    rw [hk]
    show H'[gb g + (a - 2)]? = some (arrV _ _ _)
    rw [e1, hx, arrV_store]
    refine congrArg some (arrV_congr fun j => ?_)
    show updV _ _ _ _ = Value.int (up2 M.1 a _ x a j)
    unfold updV up2
    by_cases hj : j = i.toNatClampNeg
    · rw [if_pos hj, if_pos ⟨rfl, hj⟩]
    · rw [if_neg hj, if_neg (fun e => hj e.2)]; rfl) h
/-- the kind of a row of numbers -/
def akd : ArrayType → Nat
  | .int => 1
  | .long => 2
  | .boolean => 3
  | _ => 0
theorem r_newa {n : Int32} {N : Nat} {at' : ArrayType} (hd : decode (kB k) pc = .ok (.newarray at', 2)) (ha : at' = .int ∨ at' = .long ∨ at' = .boolean) (hw : Cond.arrayClass (newarray.typeOf at') ∈ ALLG) (hn : ¬ n < 0) (hN : n.toNatClampNeg = N) (hb : N ≤ 100000) (h : Wp d k (pc + 2) ls (.ref (mC M + 2) :: st) (nwC M (akd at') N) Q) : Wp d k pc ls (.int n :: st) M Q :=
  Wp.stepM (M2 := nwC M (akd at') N) (pc2 := pc + 2) (st2 := .ref (mC M + 2) :: st) 1 N rfl rfl (fun p l e R s m args below meth c H locs cells slots Z g la hC hK hX hP hg hS hl hfr hlo hc1 hc2 kk => by
    have hbytes : N * componentBytes (newarray.typeOf at') ≤ 536870912 := by
      rcases ha with rfl | rfl | rfl <;> simp [newarray.typeOf, componentBytes] <;> omega
    rw [List.map_cons]
    refine va_newaK hC.1 hC.2.1 (hC.2.2.2.2.1 _ hw) rfl hd (n := n) (rest := st.map (cv g)) rfl hn hN hbytes hc1 hc2 rfl fun H' cA e1 z o _ hnm => ?_
    have hP2 : Rep g (nwC M (akd at') N) H' := by
      refine Rep.new hP z o ?_
      rcases ha with rfl | rfl | rfl
      · have e := hK.2.1.2.symm.trans hnm
        rw [show akd .int = 1 from rfl]
        show H'[H.size]? = some (arrV g.2.1 N _)
        rw [Option.some.inj e]; exact e1
      · have e := hK.2.2.1.2.symm.trans hnm
        rw [show akd .long = 2 from rfl]
        show H'[H.size]? = some (arrV g.2.2.1 N _)
        rw [Option.some.inj e]; exact e1
      · have e := hK.2.2.2.1.2.symm.trans hnm
        rw [show akd .boolean = 3 from rfl]
        show H'[H.size]? = some (arrV g.2.2.2.1 N _)
        rw [Option.some.inj e]; exact e1
    have h9 := kk H' locs hP2 ⟨Nat.le_trans hS.1 (by omega), fun q h1 h2 => (o q (Nat.lt_of_lt_of_le h1 hS.1)).trans (hS.2.1 q h1 h2), hS.2.2⟩
    rw [List.map_cons] at h9
    have e9 : cv g (.ref (mC M + 2)) = .ref H.size := by
      show cr g (mC M + 2) = _
      rw [cr_ge g (by omega), hP.1]; rfl
    rw [e9] at h9
    exact h9) h
theorem dflt0 (g : GX) (ci j : Nat) (hr : fk ci j = 2 → isRT (tyTab ci j) = true) : defaultValue (tyTab ci j) = fv0 g ci (fun _ => 0) (fun _ => 0) (fun _ => 0) j := by
  unfold fv0
  by_cases h0 : fk ci j = 0
  · rw [if_pos h0, fk_int h0]; rfl
  · rw [if_neg h0]
    by_cases h1 : fk ci j = 1
    · rw [if_pos h1, fk_long h1]; rfl
    · rw [if_neg h1]
      have h2 : fk ci j = 2 := by
        unfold fk at h0 h1 ⊢
        split at h0 <;> simp_all
      have h3 := hr h2
      show _ = cr g 0
      rw [show cr g 0 = .null from rfl]
      generalize tyTab ci j = ty at h3 ⊢
      cases ty <;> first | rfl | cases h3
theorem r_new {ix ci : Nat} (hok : ClsOK ci) (hci : ci < 11) (hr : ∀ j, j < clN ci → fk ci j = 2 → isRT (tyTab ci j) = true) (hd : decode (kB k) pc = .ok (.new ix, 3)) (hw : Cond.classLink (kO k) ix (clC ci) ∈ ALLG) (h : Wp d k (pc + 3) ls (.ref (mC M + 2) :: st) (nwC M (ci + 4) (clN ci)) Q) : Wp d k pc ls st M Q :=
  Wp.stepM (M2 := nwC M (ci + 4) (clN ci)) (pc2 := pc + 3) (st2 := .ref (mC M + 2) :: st) 1 (clN ci) rfl rfl (fun p l e R s m args below meth c H locs cells slots Z g la hC hK hX hP hg hS hl hfr hlo hc1 hc2 kk => by
    obtain ⟨hws, hty, hnm, hin, hini⟩ := hok
    have hts := hC.2.2.2.2.1
    have hKn := hK.1 ci hci
    refine W.newcK hC.1 hC.2.1 hC.2.2.2.1 (hts _ hw) (hts _ hin) (hts _ hini) rfl hd hc1 hc2 hKn.2.1 rfl fun H' kC hkC e1 z o => ?_
    have hP2 : Rep g (nwC M (ci + 4) (clN ci)) H' := Rep.new hP z o ⟨hci, (u_born (tyTab ci) hts hws hKn hkC e1 hty).to fun j hj => dflt0 g ci j (hr j hj)⟩
    have h9 := kk H' locs hP2 ⟨Nat.le_trans hS.1 (by omega), fun q h1 h2 => (o q (Nat.lt_of_lt_of_le h1 hS.1)).trans (hS.2.1 q h1 h2), hS.2.2⟩
    rw [List.map_cons] at h9
    have e9 : cv g (.ref (mC M + 2)) = .ref H.size := by
      show cr g (mC M + 2) = _
      rw [cr_ge g (by omega), hP.1]; rfl
    rw [e9] at h9
    exact h9) h
end MemRows
