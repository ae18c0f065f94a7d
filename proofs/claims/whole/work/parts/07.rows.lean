theorem mp_at {ls : List (Nat × Value)} {j : Nat} {q : Nat × Value} (g : GX) (h : ls[j]? = some q) : (ls.map (cl g))[j]? = some (cl g q) := by
  rw [List.getElem?_map, h]; rfl
theorem mp_filter (g : GX) (ls : List (Nat × Value)) (f : Nat × Value → Bool) (hf : ∀ q, f (cl g q) = f q) : (ls.map (cl g)).filter f = (ls.filter f).map (cl g) := by
  rw [List.filter_map]
  congr 1
  exact List.filter_congr fun q _ => hf q
def st1 (i : Nat) (v : Value) (ls : List (Nat × Value)) : List (Nat × Value) := (i, v) :: ls.filter (fun q => !(q.1 == i) && !(q.1 + 1 == i && q.2.category == 2))
def st2 (i : Nat) (v : Value) (ls : List (Nat × Value)) : List (Nat × Value) := (i, v) :: ls.filter (fun q => !(q.1 == i) && (!(q.1 == i + 1) && !(q.1 + 1 == i && q.2.category == 2)))
theorem mp_st1 (g : GX) (i : Nat) (v : Value) (ls : List (Nat × Value)) : (i, cv g v) :: (ls.map (cl g)).filter (fun q => !(q.1 == i) && !(q.1 + 1 == i && q.2.category == 2)) = (st1 i v ls).map (cl g) := by
  rw [mp_filter g ls _ (fun q => by show (!(q.1 == i) && !(q.1 + 1 == i && (cv g q.2).category == 2)) = _; rw [cv_cat])]
  rfl
theorem mp_st2 (g : GX) (i : Nat) (v : Value) (ls : List (Nat × Value)) : (i, cv g v) :: (ls.map (cl g)).filter (fun q => !(q.1 == i) && (!(q.1 == i + 1) && !(q.1 + 1 == i && q.2.category == 2))) = (st2 i v ls).map (cl g) := by
  rw [mp_filter g ls _ (fun q => by show (!(q.1 == i) && (!(q.1 == i + 1) && !(q.1 + 1 == i && (cv g q.2).category == 2))) = _; rw [cv_cat])]
  rfl
theorem cr_cases (g : GX) (p : Nat) : cr g p = .null ∨ ∃ a, cr g p = .ref a := by
  unfold cr
  by_cases h0 : p = 0
  · exact Or.inl (if_pos h0)
  · rw [if_neg h0]
    by_cases h1 : p = 1
    · exact Or.inr ⟨_, if_pos h1⟩
    · exact Or.inr ⟨_, if_neg h1⟩
theorem cr_ge (g : GX) {p : Nat} (h : 2 ≤ p) : cr g p = .ref (gb g + (p - 2)) := by
  unfold cr
  rw [if_neg (by omega), if_neg (by omega)]
section Rows
variable {d : Nat} {k : MD} {pc : Nat} {ls : List (Nat × Value)} {st : List Value} {M : Mem} {Q : Option Value → Mem → Prop}
theorem r_iconst {n : Int} {v : Int32} (hd : decode (kB k) pc = .ok (.iconst n, 1)) (hv : Int32.ofInt n = v) (h : Wp d k (pc + 1) ls (.int v :: st) M Q) : Wp d k pc ls (st) M Q :=
  Wp.step (ls2 := ls) (st2 := .int v :: st) (fun p l e R s m args below meth c H locs cells slots Z g la hC hK hX hP hS hl kk => lv_iconst hC.1 hC.2.1 hd hv (kk la hl)) h
theorem r_bipush {n : Int} {v : Int32} (hd : decode (kB k) pc = .ok (.bipush n, 2)) (hv : (Int8.ofInt n).toInt32 = v) (h : Wp d k (pc + 2) ls (.int v :: st) M Q) : Wp d k pc ls (st) M Q :=
  Wp.step (ls2 := ls) (st2 := .int v :: st) (fun p l e R s m args below meth c H locs cells slots Z g la hC hK hX hP hS hl kk => lv_bipush hC.1 hC.2.1 hd hv (kk la hl)) h
theorem r_sipush {n : Int} {v : Int32} (hd : decode (kB k) pc = .ok (.sipush n, 3)) (hv : (Int16.ofInt n).toInt32 = v) (h : Wp d k (pc + 3) ls (.int v :: st) M Q) : Wp d k pc ls (st) M Q :=
  Wp.step (ls2 := ls) (st2 := .int v :: st) (fun p l e R s m args below meth c H locs cells slots Z g la hC hK hX hP hS hl kk => lv_sipush hC.1 hC.2.1 hd hv (kk la hl)) h
theorem r_lconst {n : Fin 2} {v : Int64} (hd : decode (kB k) pc = .ok (.lconst n, 1)) (hv : Int64.ofNat (n : Nat) = v) (h : Wp d k (pc + 1) ls (.long v :: st) M Q) : Wp d k pc ls (st) M Q :=
  Wp.step (ls2 := ls) (st2 := .long v :: st) (fun p l e R s m args below meth c H locs cells slots Z g la hC hK hX hP hS hl kk => lv_lconst hC.1 hC.2.1 hd hv (kk la hl)) h
theorem r_ldc {ix : Nat} {v : Int32} (hd : decode (kB k) pc = .ok (.ldc ix, 2)) (hw : Cond.constant (kO k) ix v ∈ ALLG) (h : Wp d k (pc + 2) ls (.int v :: st) M Q) : Wp d k pc ls (st) M Q :=
  Wp.step (ls2 := ls) (st2 := .int v :: st) (fun p l e R s m args below meth c H locs cells slots Z g la hC hK hX hP hS hl kk => lv_ldc hC.1 hC.2.1 hC.2.2.2.1 (hC.2.2.2.2.1 _ hw) hd (kk la hl)) h
theorem r_ldcw {ix : Nat} {v : Int32} (hd : decode (kB k) pc = .ok (.ldc_w ix, 3)) (hw : Cond.constant (kO k) ix v ∈ ALLG) (h : Wp d k (pc + 3) ls (.int v :: st) M Q) : Wp d k pc ls (st) M Q :=
  Wp.step (ls2 := ls) (st2 := .int v :: st) (fun p l e R s m args below meth c H locs cells slots Z g la hC hK hX hP hS hl kk => lv_ldcw hC.1 hC.2.1 hC.2.2.2.1 (hC.2.2.2.2.1 _ hw) hd (kk la hl)) h
theorem r_ldc2 {ix : Nat} {v : Int64} (hd : decode (kB k) pc = .ok (.ldc2_w ix, 3)) (hw : Cond.constantLong (kO k) ix v ∈ ALLG) (h : Wp d k (pc + 3) ls (.long v :: st) M Q) : Wp d k pc ls (st) M Q :=
  Wp.step (ls2 := ls) (st2 := .long v :: st) (fun p l e R s m args below meth c H locs cells slots Z g la hC hK hX hP hS hl kk => lv_ldc2 hC.1 hC.2.1 hC.2.2.2.1 (hC.2.2.2.2.1 _ hw) hd (kk la hl)) h
theorem r_iload {i : Nat} {x : Int32} (hd : decode (kB k) pc = .ok (.iload i, 2)) (j : Nat) (hj : ls[j]? = some (i, .int x)) (h : Wp d k (pc + 2) ls (.int x :: st) M Q) : Wp d k pc ls (st) M Q :=
  Wp.step (ls2 := ls) (st2 := .int x :: st) (fun p l e R s m args below meth c H locs cells slots Z g la hC hK hX hP hS hl kk => lv_iload hC.1 hC.2.1 hd (lv_at hl j (mp_at g hj)) (kk la hl)) h
theorem r_iload_n {n : Fin 4} {i : Nat} {x : Int32} (hd : decode (kB k) pc = .ok (.iload_n n, 1)) (hi : (n : Nat) = i) (j : Nat) (hj : ls[j]? = some (i, .int x)) (h : Wp d k (pc + 1) ls (.int x :: st) M Q) : Wp d k pc ls (st) M Q :=
  Wp.step (ls2 := ls) (st2 := .int x :: st) (fun p l e R s m args below meth c H locs cells slots Z g la hC hK hX hP hS hl kk => lv_iload_n hC.1 hC.2.1 hd hi (lv_at hl j (mp_at g hj)) (kk la hl)) h
theorem r_lload {i : Nat} {x : Int64} (hd : decode (kB k) pc = .ok (.lload i, 2)) (j : Nat) (hj : ls[j]? = some (i, .long x)) (h : Wp d k (pc + 2) ls (.long x :: st) M Q) : Wp d k pc ls (st) M Q :=
  Wp.step (ls2 := ls) (st2 := .long x :: st) (fun p l e R s m args below meth c H locs cells slots Z g la hC hK hX hP hS hl kk => lv_lload hC.1 hC.2.1 hd (lv_at hl j (mp_at g hj)) (kk la hl)) h
theorem r_lload_n {n : Fin 4} {i : Nat} {x : Int64} (hd : decode (kB k) pc = .ok (.lload_n n, 1)) (hi : (n : Nat) = i) (j : Nat) (hj : ls[j]? = some (i, .long x)) (h : Wp d k (pc + 1) ls (.long x :: st) M Q) : Wp d k pc ls (st) M Q :=
  Wp.step (ls2 := ls) (st2 := .long x :: st) (fun p l e R s m args below meth c H locs cells slots Z g la hC hK hX hP hS hl kk => lv_lload_n hC.1 hC.2.1 hd hi (lv_at hl j (mp_at g hj)) (kk la hl)) h
theorem r_aload {i : Nat} {x : Nat} (hd : decode (kB k) pc = .ok (.aload i, 2)) (j : Nat) (hj : ls[j]? = some (i, .ref x)) (h : Wp d k (pc + 2) ls (.ref x :: st) M Q) : Wp d k pc ls st M Q :=
  Wp.step (ls2 := ls) (st2 := .ref x :: st) (fun p l e R s m args below meth c H locs cells slots Z g la hC hK hX hP hS hl kk => by
    have hq := lv_at hl j (mp_at g hj)
    have h2 := kk la hl
    rw [List.map_cons] at h2
    have e0 : cv g (.ref x) = cr g x := rfl
    rw [e0] at hq h2
    rcases cr_cases g x with e | ⟨a, e⟩
    · rw [e] at hq h2; exact lv_aloadN hC.1 hC.2.1 hd hq h2
    · rw [e] at hq h2; exact lv_aload hC.1 hC.2.1 hd hq h2) h
theorem r_aload_n {n : Fin 4} {i : Nat} {x : Nat} (hd : decode (kB k) pc = .ok (.aload_n n, 1)) (hi : (n : Nat) = i) (j : Nat) (hj : ls[j]? = some (i, .ref x)) (h : Wp d k (pc + 1) ls (.ref x :: st) M Q) : Wp d k pc ls st M Q :=
  Wp.step (ls2 := ls) (st2 := .ref x :: st) (fun p l e R s m args below meth c H locs cells slots Z g la hC hK hX hP hS hl kk => by
    have hq := lv_at hl j (mp_at g hj)
    have h2 := kk la hl
    rw [List.map_cons] at h2
    have e0 : cv g (.ref x) = cr g x := rfl
    rw [e0] at hq h2
    rcases cr_cases g x with e | ⟨a, e⟩
    · rw [e] at hq h2; exact lv_aload_nN hC.1 hC.2.1 hd hi hq h2
    · rw [e] at hq h2; exact lv_aload_n hC.1 hC.2.1 hd hi hq h2) h
theorem r_istore {i : Nat} {x : Int32} {ls' : List (Nat × Value)} (hd : decode (kB k) pc = .ok (.istore i, 2)) (hn : i < kL k) (hl' : st1 i (.int x) ls = ls') (h : Wp d k (pc + 2) ls' st M Q) : Wp d k pc ls (.int x :: st) M Q :=
  Wp.step (ls2 := ls') (st2 := st) (fun p l e R s m args below meth c H locs cells slots Z g la hC hK hX hP hS hl kk => lv_istore hC.1 hC.2.1 hd hl hn (mp_st1 g i (.int x) ls) (fun la2 h2 => kk la2 (hl' ▸ h2))) h
theorem r_istore_n {n : Fin 4} {i : Nat} {x : Int32} {ls' : List (Nat × Value)} (hd : decode (kB k) pc = .ok (.istore_n n, 1)) (hi : (n : Nat) = i) (hn : i < kL k) (hl' : st1 i (.int x) ls = ls') (h : Wp d k (pc + 1) ls' st M Q) : Wp d k pc ls (.int x :: st) M Q :=
  Wp.step (ls2 := ls') (st2 := st) (fun p l e R s m args below meth c H locs cells slots Z g la hC hK hX hP hS hl kk => lv_istore_n hC.1 hC.2.1 hd hi hl hn (mp_st1 g i (.int x) ls) (fun la2 h2 => kk la2 (hl' ▸ h2))) h
theorem r_lstore {i : Nat} {x : Int64} {ls' : List (Nat × Value)} (hd : decode (kB k) pc = .ok (.lstore i, 2)) (hn : i + 1 < kL k) (hl' : st2 i (.long x) ls = ls') (h : Wp d k (pc + 2) ls' st M Q) : Wp d k pc ls (.long x :: st) M Q :=
  Wp.step (ls2 := ls') (st2 := st) (fun p l e R s m args below meth c H locs cells slots Z g la hC hK hX hP hS hl kk => lv_lstore hC.1 hC.2.1 hd hl hn (mp_st2 g i (.long x) ls) (fun la2 h2 => kk la2 (hl' ▸ h2))) h
theorem r_lstore_n {n : Fin 4} {i : Nat} {x : Int64} {ls' : List (Nat × Value)} (hd : decode (kB k) pc = .ok (.lstore_n n, 1)) (hi : (n : Nat) = i) (hn : i + 1 < kL k) (hl' : st2 i (.long x) ls = ls') (h : Wp d k (pc + 1) ls' st M Q) : Wp d k pc ls (.long x :: st) M Q :=
  Wp.step (ls2 := ls') (st2 := st) (fun p l e R s m args below meth c H locs cells slots Z g la hC hK hX hP hS hl kk => lv_lstore_n hC.1 hC.2.1 hd hi hl hn (mp_st2 g i (.long x) ls) (fun la2 h2 => kk la2 (hl' ▸ h2))) h
theorem r_astore {i : Nat} {x : Nat} {ls' : List (Nat × Value)} (hd : decode (kB k) pc = .ok (.astore i, 2)) (hn : i < kL k) (hl' : st1 i (.ref x) ls = ls') (h : Wp d k (pc + 2) ls' st M Q) : Wp d k pc ls (.ref x :: st) M Q :=
  Wp.step (ls2 := ls') (st2 := st) (fun p l e R s m args below meth c H locs cells slots Z g la hC hK hX hP hS hl kk => by
    have hq := mp_st1 g i (.ref x) ls
    rw [List.map_cons]
    have e0 : cv g (.ref x) = cr g x := rfl
    rw [e0] at hq ⊢
    rcases cr_cases g x with e | ⟨a, e⟩
    · rw [e] at hq ⊢; exact lv_astoreN hC.1 hC.2.1 hd hl hn hq (fun la2 h2 => kk la2 (hl' ▸ h2))
    · rw [e] at hq ⊢; exact lv_astore hC.1 hC.2.1 hd hl hn hq (fun la2 h2 => kk la2 (hl' ▸ h2))) h
theorem r_astore_n {n : Fin 4} {i : Nat} {x : Nat} {ls' : List (Nat × Value)} (hd : decode (kB k) pc = .ok (.astore_n n, 1)) (hi : (n : Nat) = i) (hn : i < kL k) (hl' : st1 i (.ref x) ls = ls') (h : Wp d k (pc + 1) ls' st M Q) : Wp d k pc ls (.ref x :: st) M Q :=
  Wp.step (ls2 := ls') (st2 := st) (fun p l e R s m args below meth c H locs cells slots Z g la hC hK hX hP hS hl kk => by
    have hq := mp_st1 g i (.ref x) ls
    rw [List.map_cons]
    have e0 : cv g (.ref x) = cr g x := rfl
    rw [e0] at hq ⊢
    rcases cr_cases g x with e | ⟨a, e⟩
    · rw [e] at hq ⊢; exact lv_astore_nN hC.1 hC.2.1 hd hi hl hn hq (fun la2 h2 => kk la2 (hl' ▸ h2))
    · rw [e] at hq ⊢; exact lv_astore_n hC.1 hC.2.1 hd hi hl hn hq (fun la2 h2 => kk la2 (hl' ▸ h2))) h
theorem r_iinc {i : Nat} {n : Int} {x v : Int32} {ls' : List (Nat × Value)} (hd : decode (kB k) pc = .ok (.iinc i n, 3)) (j : Nat) (hj : ls[j]? = some (i, .int x)) (hv : x + Int32.ofInt n = v) (hn : i < kL k) (hl' : st1 i (.int v) ls = ls') (h : Wp d k (pc + 3) ls' st M Q) : Wp d k pc ls st M Q :=
  Wp.step (ls2 := ls') (st2 := st) (fun p l e R s m args below meth c H locs cells slots Z g la hC hK hX hP hS hl kk => lv_iinc hC.1 hC.2.1 hd hl (mp_at g hj) hv hn (mp_st1 g i (.int v) ls) (fun la2 h2 => kk la2 (hl' ▸ h2))) h
theorem r_iadd {x y : Int32} (hd : decode (kB k) pc = .ok (.iadd, 1))  (h : Wp d k (pc + 1) ls (.int (x + y) :: st) M Q) : Wp d k pc ls (.int y :: .int x :: st) M Q :=
  Wp.step (ls2 := ls) (st2 := .int (x + y) :: st) (fun p l e R s m args below meth c H locs cells slots Z g la hC hK hX hP hS hl kk => lv_iadd hC.1 hC.2.1 hd (kk la hl)) h
theorem r_isub {x y : Int32} (hd : decode (kB k) pc = .ok (.isub, 1))  (h : Wp d k (pc + 1) ls (.int (x - y) :: st) M Q) : Wp d k pc ls (.int y :: .int x :: st) M Q :=
  Wp.step (ls2 := ls) (st2 := .int (x - y) :: st) (fun p l e R s m args below meth c H locs cells slots Z g la hC hK hX hP hS hl kk => lv_isub hC.1 hC.2.1 hd (kk la hl)) h
theorem r_imul {x y : Int32} (hd : decode (kB k) pc = .ok (.imul, 1))  (h : Wp d k (pc + 1) ls (.int (x * y) :: st) M Q) : Wp d k pc ls (.int y :: .int x :: st) M Q :=
  Wp.step (ls2 := ls) (st2 := .int (x * y) :: st) (fun p l e R s m args below meth c H locs cells slots Z g la hC hK hX hP hS hl kk => lv_imul hC.1 hC.2.1 hd (kk la hl)) h
theorem r_iand {x y : Int32} (hd : decode (kB k) pc = .ok (.iand, 1))  (h : Wp d k (pc + 1) ls (.int (x &&& y) :: st) M Q) : Wp d k pc ls (.int y :: .int x :: st) M Q :=
  Wp.step (ls2 := ls) (st2 := .int (x &&& y) :: st) (fun p l e R s m args below meth c H locs cells slots Z g la hC hK hX hP hS hl kk => lv_iand hC.1 hC.2.1 hd (kk la hl)) h
theorem r_ishl {x y : Int32} (hd : decode (kB k) pc = .ok (.ishl, 1))  (h : Wp d k (pc + 1) ls (.int (x <<< (y &&& 31)) :: st) M Q) : Wp d k pc ls (.int y :: .int x :: st) M Q :=
  Wp.step (ls2 := ls) (st2 := .int (x <<< (y &&& 31)) :: st) (fun p l e R s m args below meth c H locs cells slots Z g la hC hK hX hP hS hl kk => lv_ishl hC.1 hC.2.1 hd (kk la hl)) h
theorem r_ishr {x y : Int32} (hd : decode (kB k) pc = .ok (.ishr, 1))  (h : Wp d k (pc + 1) ls (.int (x >>> (y &&& 31)) :: st) M Q) : Wp d k pc ls (.int y :: .int x :: st) M Q :=
  Wp.step (ls2 := ls) (st2 := .int (x >>> (y &&& 31)) :: st) (fun p l e R s m args below meth c H locs cells slots Z g la hC hK hX hP hS hl kk => lv_ishr hC.1 hC.2.1 hd (kk la hl)) h
theorem r_idiv {x y : Int32} (hd : decode (kB k) pc = .ok (.idiv, 1)) (hne : ¬ y = 0) (h : Wp d k (pc + 1) ls (.int (x / y) :: st) M Q) : Wp d k pc ls (.int y :: .int x :: st) M Q :=
  Wp.step (ls2 := ls) (st2 := .int (x / y) :: st) (fun p l e R s m args below meth c H locs cells slots Z g la hC hK hX hP hS hl kk => lv_idiv hC.1 hC.2.1 hd hne (kk la hl)) h
theorem r_irem {x y : Int32} (hd : decode (kB k) pc = .ok (.irem, 1)) (hne : ¬ y = 0) (h : Wp d k (pc + 1) ls (.int (x - x / y * y) :: st) M Q) : Wp d k pc ls (.int y :: .int x :: st) M Q :=
  Wp.step (ls2 := ls) (st2 := .int (x - x / y * y) :: st) (fun p l e R s m args below meth c H locs cells slots Z g la hC hK hX hP hS hl kk => lv_irem hC.1 hC.2.1 hd hne (kk la hl)) h
theorem r_ineg {x : Int32} (hd : decode (kB k) pc = .ok (.ineg, 1))  (h : Wp d k (pc + 1) ls (.int (-x) :: st) M Q) : Wp d k pc ls (.int x :: st) M Q :=
  Wp.step (ls2 := ls) (st2 := .int (-x) :: st) (fun p l e R s m args below meth c H locs cells slots Z g la hC hK hX hP hS hl kk => lv_ineg hC.1 hC.2.1 hd (kk la hl)) h
theorem r_iushr {x y : Int32} (hd : decode (kB k) pc = .ok (.iushr, 1))  (h : Wp d k (pc + 1) ls (.int (x.toUInt32 >>> (y.toUInt32 &&& Int32.toUInt32 31)).toInt32 :: st) M Q) : Wp d k pc ls (.int y :: .int x :: st) M Q :=
  Wp.step (ls2 := ls) (st2 := .int (x.toUInt32 >>> (y.toUInt32 &&& Int32.toUInt32 31)).toInt32 :: st) (fun p l e R s m args below meth c H locs cells slots Z g la hC hK hX hP hS hl kk => lv_iushr hC.1 hC.2.1 hd rfl (kk la hl)) h
theorem r_ladd {x y : Int64} (hd : decode (kB k) pc = .ok (.ladd, 1))  (h : Wp d k (pc + 1) ls (.long (x + y) :: st) M Q) : Wp d k pc ls (.long y :: .long x :: st) M Q :=
  Wp.step (ls2 := ls) (st2 := .long (x + y) :: st) (fun p l e R s m args below meth c H locs cells slots Z g la hC hK hX hP hS hl kk => lv_ladd hC.1 hC.2.1 hd (kk la hl)) h
theorem r_lsub {x y : Int64} (hd : decode (kB k) pc = .ok (.lsub, 1))  (h : Wp d k (pc + 1) ls (.long (x - y) :: st) M Q) : Wp d k pc ls (.long y :: .long x :: st) M Q :=
  Wp.step (ls2 := ls) (st2 := .long (x - y) :: st) (fun p l e R s m args below meth c H locs cells slots Z g la hC hK hX hP hS hl kk => lv_lsub hC.1 hC.2.1 hd (kk la hl)) h
theorem r_lmul {x y : Int64} (hd : decode (kB k) pc = .ok (.lmul, 1))  (h : Wp d k (pc + 1) ls (.long (x * y) :: st) M Q) : Wp d k pc ls (.long y :: .long x :: st) M Q :=
  Wp.step (ls2 := ls) (st2 := .long (x * y) :: st) (fun p l e R s m args below meth c H locs cells slots Z g la hC hK hX hP hS hl kk => lv_lmul hC.1 hC.2.1 hd (kk la hl)) h
theorem r_land {x y : Int64} (hd : decode (kB k) pc = .ok (.land, 1))  (h : Wp d k (pc + 1) ls (.long (x &&& y) :: st) M Q) : Wp d k pc ls (.long y :: .long x :: st) M Q :=
  Wp.step (ls2 := ls) (st2 := .long (x &&& y) :: st) (fun p l e R s m args below meth c H locs cells slots Z g la hC hK hX hP hS hl kk => lv_land hC.1 hC.2.1 hd (kk la hl)) h
theorem r_lor {x y : Int64} (hd : decode (kB k) pc = .ok (.lor, 1))  (h : Wp d k (pc + 1) ls (.long (x ||| y) :: st) M Q) : Wp d k pc ls (.long y :: .long x :: st) M Q :=
  Wp.step (ls2 := ls) (st2 := .long (x ||| y) :: st) (fun p l e R s m args below meth c H locs cells slots Z g la hC hK hX hP hS hl kk => lv_lor hC.1 hC.2.1 hd (kk la hl)) h
theorem r_ldiv {x y : Int64} (hd : decode (kB k) pc = .ok (.ldiv, 1)) (hne : ¬ y = 0) (h : Wp d k (pc + 1) ls (.long (x / y) :: st) M Q) : Wp d k pc ls (.long y :: .long x :: st) M Q :=
  Wp.step (ls2 := ls) (st2 := .long (x / y) :: st) (fun p l e R s m args below meth c H locs cells slots Z g la hC hK hX hP hS hl kk => lv_ldiv hC.1 hC.2.1 hd hne (kk la hl)) h
theorem r_lrem {x y : Int64} (hd : decode (kB k) pc = .ok (.lrem, 1)) (hne : ¬ y = 0) (h : Wp d k (pc + 1) ls (.long (x - x / y * y) :: st) M Q) : Wp d k pc ls (.long y :: .long x :: st) M Q :=
  Wp.step (ls2 := ls) (st2 := .long (x - x / y * y) :: st) (fun p l e R s m args below meth c H locs cells slots Z g la hC hK hX hP hS hl kk => lv_lrem hC.1 hC.2.1 hd hne (kk la hl)) h
theorem r_lshl {x : Int64} {y : Int32} (hd : decode (kB k) pc = .ok (.lshl, 1))  (h : Wp d k (pc + 1) ls (.long (x <<< (y.toInt64 &&& 63)) :: st) M Q) : Wp d k pc ls (.int y :: .long x :: st) M Q :=
  Wp.step (ls2 := ls) (st2 := .long (x <<< (y.toInt64 &&& 63)) :: st) (fun p l e R s m args below meth c H locs cells slots Z g la hC hK hX hP hS hl kk => lv_lshl hC.1 hC.2.1 hd rfl (kk la hl)) h
theorem r_lshr {x : Int64} {y : Int32} (hd : decode (kB k) pc = .ok (.lshr, 1))  (h : Wp d k (pc + 1) ls (.long (x >>> (y.toInt64 &&& 63)) :: st) M Q) : Wp d k pc ls (.int y :: .long x :: st) M Q :=
  Wp.step (ls2 := ls) (st2 := .long (x >>> (y.toInt64 &&& 63)) :: st) (fun p l e R s m args below meth c H locs cells slots Z g la hC hK hX hP hS hl kk => lv_lshr hC.1 hC.2.1 hd rfl (kk la hl)) h
theorem r_lushr {x : Int64} {y : Int32} (hd : decode (kB k) pc = .ok (.lushr, 1))  (h : Wp d k (pc + 1) ls (.long ((x.toUInt64 >>> (y.toInt64.toUInt64 &&& Int64.toUInt64 63)).toInt64) :: st) M Q) : Wp d k pc ls (.int y :: .long x :: st) M Q :=
  Wp.step (ls2 := ls) (st2 := .long ((x.toUInt64 >>> (y.toInt64.toUInt64 &&& Int64.toUInt64 63)).toInt64) :: st) (fun p l e R s m args below meth c H locs cells slots Z g la hC hK hX hP hS hl kk => lv_lushr hC.1 hC.2.1 hd rfl (kk la hl)) h
theorem r_i2l {x : Int32} (hd : decode (kB k) pc = .ok (.i2l, 1))  (h : Wp d k (pc + 1) ls (.long x.toInt64 :: st) M Q) : Wp d k pc ls (.int x :: st) M Q :=
  Wp.step (ls2 := ls) (st2 := .long x.toInt64 :: st) (fun p l e R s m args below meth c H locs cells slots Z g la hC hK hX hP hS hl kk => lv_i2l hC.1 hC.2.1 hd rfl (kk la hl)) h
theorem r_l2i {x : Int64} (hd : decode (kB k) pc = .ok (.l2i, 1))  (h : Wp d k (pc + 1) ls (.int x.toInt32 :: st) M Q) : Wp d k pc ls (.long x :: st) M Q :=
  Wp.step (ls2 := ls) (st2 := .int x.toInt32 :: st) (fun p l e R s m args below meth c H locs cells slots Z g la hC hK hX hP hS hl kk => lv_l2i hC.1 hC.2.1 hd rfl (kk la hl)) h
theorem r_lcmp {x y : Int64} (hd : decode (kB k) pc = .ok (.lcmp, 1))  (h : Wp d k (pc + 1) ls (.int (lg_cmp x y) :: st) M Q) : Wp d k pc ls (.long y :: .long x :: st) M Q :=
  Wp.step (ls2 := ls) (st2 := .int (lg_cmp x y) :: st) (fun p l e R s m args below meth c H locs cells slots Z g la hC hK hX hP hS hl kk => W.lcmp hC.1 hC.2.1 hd (kk la hl)) h
theorem r_dup {v : Value} (hd : decode (kB k) pc = .ok (.dup, 1)) (h1 : v.category = 1) (h : Wp d k (pc + 1) ls (v :: v :: st) M Q) : Wp d k pc ls (v :: st) M Q :=
  Wp.step (ls2 := ls) (st2 := v :: v :: st) (fun p l e R s m args below meth c H locs cells slots Z g la hC hK hX hP hS hl kk => lv_dup hC.1 hC.2.1 hd (by rw [cv_cat]; exact h1) (kk la hl)) h
theorem r_pop {v : Value} (hd : decode (kB k) pc = .ok (.pop, 1)) (h1 : v.category = 1) (h : Wp d k (pc + 1) ls (st) M Q) : Wp d k pc ls (v :: st) M Q :=
  Wp.step (ls2 := ls) (st2 := st) (fun p l e R s m args below meth c H locs cells slots Z g la hC hK hX hP hS hl kk => lv_pop hC.1 hC.2.1 hd (by rw [cv_cat]; exact h1) (kk la hl)) h
theorem r_pop2 {v : Value} (hd : decode (kB k) pc = .ok (.pop2, 1)) (h1 : v.category = 2) (h : Wp d k (pc + 1) ls (st) M Q) : Wp d k pc ls (v :: st) M Q :=
  Wp.step (ls2 := ls) (st2 := st) (fun p l e R s m args below meth c H locs cells slots Z g la hC hK hX hP hS hl kk => lv_pop2_2 hC.1 hC.2.1 hd (by rw [cv_cat]; exact h1) (kk la hl)) h
theorem r_dup2 {v w : Value} (hd : decode (kB k) pc = .ok (.dup2, 1)) (h1 : v.category = 1) (h2 : w.category = 1) (h : Wp d k (pc + 1) ls (v :: w :: v :: w :: st) M Q) : Wp d k pc ls (v :: w :: st) M Q :=
  Wp.step (ls2 := ls) (st2 := v :: w :: v :: w :: st) (fun p l e R s m args below meth c H locs cells slots Z g la hC hK hX hP hS hl kk => lv_dup2_11 hC.1 hC.2.1 hd (by rw [cv_cat]; exact h1) (by rw [cv_cat]; exact h2) (kk la hl)) h
theorem r_dup_x1 {v w : Value} (hd : decode (kB k) pc = .ok (.dup_x1, 1)) (h1 : v.category = 1) (h2 : w.category = 1) (h : Wp d k (pc + 1) ls (v :: w :: v :: st) M Q) : Wp d k pc ls (v :: w :: st) M Q :=
  Wp.step (ls2 := ls) (st2 := v :: w :: v :: st) (fun p l e R s m args below meth c H locs cells slots Z g la hC hK hX hP hS hl kk => lv_dup_x1 hC.1 hC.2.1 hd (by rw [cv_cat]; exact h1) (by rw [cv_cat]; exact h2) (kk la hl)) h
theorem r_goto {off : Int} {tgt : Nat} (hd : decode (kB k) pc = .ok (.goto off, 3)) (ht : (pc : Int) + off = (tgt : Int)) (h : Wp d k tgt ls st M Q) : Wp d k pc ls st M Q :=
  Wp.step (ls2 := ls) (st2 := st) (fun p l e R s m args below meth c H locs cells slots Z g la hC hK hX hP hS hl kk => lv_goto hC.1 hC.2.1 hd ht (kk la hl)) h
theorem r_if_eq {x : Int32} {off : Int} {tgt : Nat} (hd : decode (kB k) pc = .ok (.ifCond .eq off, 3)) (ht : (pc : Int) + off = (tgt : Int)) (kt : x = 0 → Wp d k tgt ls st M Q) (kf : ¬ x = 0 → Wp d k (pc + 3) ls st M Q) : Wp d k pc ls (.int x :: st) M Q := by
  by_cases hx : x = 0
  · exact Wp.step (ls2 := ls) (st2 := st) (fun p l e R s m args below meth c H locs cells slots Z g la hC hK hX hP hS hl kk => lv_if_eq hC.1 hC.2.1 hd ht (fun _ => kk la hl) (fun n => absurd hx n)) (kt hx)
  · exact Wp.step (ls2 := ls) (st2 := st) (fun p l e R s m args below meth c H locs cells slots Z g la hC hK hX hP hS hl kk => lv_if_eq hC.1 hC.2.1 hd ht (fun n => absurd n hx) (fun _ => kk la hl)) (kf hx)
theorem r_icmp_eq {x y : Int32} {off : Int} {tgt : Nat} (hd : decode (kB k) pc = .ok (.if_icmp .eq off, 3)) (ht : (pc : Int) + off = (tgt : Int)) (kt : x = y → Wp d k tgt ls st M Q) (kf : ¬ x = y → Wp d k (pc + 3) ls st M Q) : Wp d k pc ls (.int y :: .int x :: st) M Q := by
  by_cases hx : x = y
  · exact Wp.step (ls2 := ls) (st2 := st) (fun p l e R s m args below meth c H locs cells slots Z g la hC hK hX hP hS hl kk => lv_icmp_eq hC.1 hC.2.1 hd ht (fun _ => kk la hl) (fun n => absurd hx n)) (kt hx)
  · exact Wp.step (ls2 := ls) (st2 := st) (fun p l e R s m args below meth c H locs cells slots Z g la hC hK hX hP hS hl kk => lv_icmp_eq hC.1 hC.2.1 hd ht (fun n => absurd n hx) (fun _ => kk la hl)) (kf hx)
theorem r_lif_eq {x y : Int64} {off : Int} {tgt : Nat} (hd0 : decode (kB k) pc = .ok (.lcmp, 1)) (hd : decode (kB k) (pc + 1) = .ok (.ifCond .eq off, 3)) (ht : ((pc + 1 : Nat) : Int) + off = (tgt : Int)) (kt : x = y → Wp d k tgt ls st M Q) (kf : ¬ x = y → Wp d k (pc + 4) ls st M Q) : Wp d k pc ls (.long y :: .long x :: st) M Q :=
  r_lcmp hd0 (r_if_eq hd ht (fun n => kt ((lg_cmp_eq x y).mp n)) (fun n => kf (fun e => n ((lg_cmp_eq x y).mpr e))))
theorem r_if_ne {x : Int32} {off : Int} {tgt : Nat} (hd : decode (kB k) pc = .ok (.ifCond .ne off, 3)) (ht : (pc : Int) + off = (tgt : Int)) (kt : ¬ x = 0 → Wp d k tgt ls st M Q) (kf : x = 0 → Wp d k (pc + 3) ls st M Q) : Wp d k pc ls (.int x :: st) M Q := by
  by_cases hx : x = 0
  · exact Wp.step (ls2 := ls) (st2 := st) (fun p l e R s m args below meth c H locs cells slots Z g la hC hK hX hP hS hl kk => lv_if_ne hC.1 hC.2.1 hd ht (fun n => absurd hx n) (fun _ => kk la hl)) (kf hx)
  · exact Wp.step (ls2 := ls) (st2 := st) (fun p l e R s m args below meth c H locs cells slots Z g la hC hK hX hP hS hl kk => lv_if_ne hC.1 hC.2.1 hd ht (fun _ => kk la hl) (fun n => absurd n hx)) (kt hx)
theorem r_icmp_ne {x y : Int32} {off : Int} {tgt : Nat} (hd : decode (kB k) pc = .ok (.if_icmp .ne off, 3)) (ht : (pc : Int) + off = (tgt : Int)) (kt : ¬ x = y → Wp d k tgt ls st M Q) (kf : x = y → Wp d k (pc + 3) ls st M Q) : Wp d k pc ls (.int y :: .int x :: st) M Q := by
  by_cases hx : x = y
  · exact Wp.step (ls2 := ls) (st2 := st) (fun p l e R s m args below meth c H locs cells slots Z g la hC hK hX hP hS hl kk => lv_icmp_ne hC.1 hC.2.1 hd ht (fun n => absurd hx n) (fun _ => kk la hl)) (kf hx)
  · exact Wp.step (ls2 := ls) (st2 := st) (fun p l e R s m args below meth c H locs cells slots Z g la hC hK hX hP hS hl kk => lv_icmp_ne hC.1 hC.2.1 hd ht (fun _ => kk la hl) (fun n => absurd n hx)) (kt hx)
theorem r_lif_ne {x y : Int64} {off : Int} {tgt : Nat} (hd0 : decode (kB k) pc = .ok (.lcmp, 1)) (hd : decode (kB k) (pc + 1) = .ok (.ifCond .ne off, 3)) (ht : ((pc + 1 : Nat) : Int) + off = (tgt : Int)) (kt : ¬ x = y → Wp d k tgt ls st M Q) (kf : x = y → Wp d k (pc + 4) ls st M Q) : Wp d k pc ls (.long y :: .long x :: st) M Q :=
  r_lcmp hd0 (r_if_ne hd ht (fun n => kt (fun e => n ((lg_cmp_eq x y).mpr e))) (fun n => kf ((lg_cmp_eq x y).mp n)))
theorem r_if_lt {x : Int32} {off : Int} {tgt : Nat} (hd : decode (kB k) pc = .ok (.ifCond .lt off, 3)) (ht : (pc : Int) + off = (tgt : Int)) (kt : x < 0 → Wp d k tgt ls st M Q) (kf : ¬ x < 0 → Wp d k (pc + 3) ls st M Q) : Wp d k pc ls (.int x :: st) M Q := by
  by_cases hx : x < 0
  · exact Wp.step (ls2 := ls) (st2 := st) (fun p l e R s m args below meth c H locs cells slots Z g la hC hK hX hP hS hl kk => lv_if_lt hC.1 hC.2.1 hd ht (fun _ => kk la hl) (fun n => absurd hx n)) (kt hx)
  · exact Wp.step (ls2 := ls) (st2 := st) (fun p l e R s m args below meth c H locs cells slots Z g la hC hK hX hP hS hl kk => lv_if_lt hC.1 hC.2.1 hd ht (fun n => absurd n hx) (fun _ => kk la hl)) (kf hx)
theorem r_icmp_lt {x y : Int32} {off : Int} {tgt : Nat} (hd : decode (kB k) pc = .ok (.if_icmp .lt off, 3)) (ht : (pc : Int) + off = (tgt : Int)) (kt : x < y → Wp d k tgt ls st M Q) (kf : ¬ x < y → Wp d k (pc + 3) ls st M Q) : Wp d k pc ls (.int y :: .int x :: st) M Q := by
  by_cases hx : x < y
  · exact Wp.step (ls2 := ls) (st2 := st) (fun p l e R s m args below meth c H locs cells slots Z g la hC hK hX hP hS hl kk => lv_icmp_lt hC.1 hC.2.1 hd ht (fun _ => kk la hl) (fun n => absurd hx n)) (kt hx)
  · exact Wp.step (ls2 := ls) (st2 := st) (fun p l e R s m args below meth c H locs cells slots Z g la hC hK hX hP hS hl kk => lv_icmp_lt hC.1 hC.2.1 hd ht (fun n => absurd n hx) (fun _ => kk la hl)) (kf hx)
theorem r_lif_lt {x y : Int64} {off : Int} {tgt : Nat} (hd0 : decode (kB k) pc = .ok (.lcmp, 1)) (hd : decode (kB k) (pc + 1) = .ok (.ifCond .lt off, 3)) (ht : ((pc + 1 : Nat) : Int) + off = (tgt : Int)) (kt : x < y → Wp d k tgt ls st M Q) (kf : ¬ x < y → Wp d k (pc + 4) ls st M Q) : Wp d k pc ls (.long y :: .long x :: st) M Q :=
  r_lcmp hd0 (r_if_lt hd ht (fun n => kt ((lg_cmp_lt x y).mp n)) (fun n => kf (fun e => n ((lg_cmp_lt x y).mpr e))))
theorem r_if_ge {x : Int32} {off : Int} {tgt : Nat} (hd : decode (kB k) pc = .ok (.ifCond .ge off, 3)) (ht : (pc : Int) + off = (tgt : Int)) (kt : 0 ≤ x → Wp d k tgt ls st M Q) (kf : ¬ 0 ≤ x → Wp d k (pc + 3) ls st M Q) : Wp d k pc ls (.int x :: st) M Q := by
  by_cases hx : 0 ≤ x
  · exact Wp.step (ls2 := ls) (st2 := st) (fun p l e R s m args below meth c H locs cells slots Z g la hC hK hX hP hS hl kk => lv_if_ge hC.1 hC.2.1 hd ht (fun _ => kk la hl) (fun n => absurd hx n)) (kt hx)
  · exact Wp.step (ls2 := ls) (st2 := st) (fun p l e R s m args below meth c H locs cells slots Z g la hC hK hX hP hS hl kk => lv_if_ge hC.1 hC.2.1 hd ht (fun n => absurd n hx) (fun _ => kk la hl)) (kf hx)
theorem r_icmp_ge {x y : Int32} {off : Int} {tgt : Nat} (hd : decode (kB k) pc = .ok (.if_icmp .ge off, 3)) (ht : (pc : Int) + off = (tgt : Int)) (kt : y ≤ x → Wp d k tgt ls st M Q) (kf : ¬ y ≤ x → Wp d k (pc + 3) ls st M Q) : Wp d k pc ls (.int y :: .int x :: st) M Q := by
  by_cases hx : y ≤ x
  · exact Wp.step (ls2 := ls) (st2 := st) (fun p l e R s m args below meth c H locs cells slots Z g la hC hK hX hP hS hl kk => lv_icmp_ge hC.1 hC.2.1 hd ht (fun _ => kk la hl) (fun n => absurd hx n)) (kt hx)
  · exact Wp.step (ls2 := ls) (st2 := st) (fun p l e R s m args below meth c H locs cells slots Z g la hC hK hX hP hS hl kk => lv_icmp_ge hC.1 hC.2.1 hd ht (fun n => absurd n hx) (fun _ => kk la hl)) (kf hx)
theorem r_lif_ge {x y : Int64} {off : Int} {tgt : Nat} (hd0 : decode (kB k) pc = .ok (.lcmp, 1)) (hd : decode (kB k) (pc + 1) = .ok (.ifCond .ge off, 3)) (ht : ((pc + 1 : Nat) : Int) + off = (tgt : Int)) (kt : y ≤ x → Wp d k tgt ls st M Q) (kf : ¬ y ≤ x → Wp d k (pc + 4) ls st M Q) : Wp d k pc ls (.long y :: .long x :: st) M Q :=
  r_lcmp hd0 (r_if_ge hd ht (fun n => kt ((lg_cmp_ge x y).mp n)) (fun n => kf (fun e => n ((lg_cmp_ge x y).mpr e))))
theorem r_if_gt {x : Int32} {off : Int} {tgt : Nat} (hd : decode (kB k) pc = .ok (.ifCond .gt off, 3)) (ht : (pc : Int) + off = (tgt : Int)) (kt : 0 < x → Wp d k tgt ls st M Q) (kf : ¬ 0 < x → Wp d k (pc + 3) ls st M Q) : Wp d k pc ls (.int x :: st) M Q := by
  by_cases hx : 0 < x
  · exact Wp.step (ls2 := ls) (st2 := st) (fun p l e R s m args below meth c H locs cells slots Z g la hC hK hX hP hS hl kk => lv_if_gt hC.1 hC.2.1 hd ht (fun _ => kk la hl) (fun n => absurd hx n)) (kt hx)
  · exact Wp.step (ls2 := ls) (st2 := st) (fun p l e R s m args below meth c H locs cells slots Z g la hC hK hX hP hS hl kk => lv_if_gt hC.1 hC.2.1 hd ht (fun n => absurd n hx) (fun _ => kk la hl)) (kf hx)
theorem r_icmp_gt {x y : Int32} {off : Int} {tgt : Nat} (hd : decode (kB k) pc = .ok (.if_icmp .gt off, 3)) (ht : (pc : Int) + off = (tgt : Int)) (kt : y < x → Wp d k tgt ls st M Q) (kf : ¬ y < x → Wp d k (pc + 3) ls st M Q) : Wp d k pc ls (.int y :: .int x :: st) M Q := by
  by_cases hx : y < x
  · exact Wp.step (ls2 := ls) (st2 := st) (fun p l e R s m args below meth c H locs cells slots Z g la hC hK hX hP hS hl kk => lv_icmp_gt hC.1 hC.2.1 hd ht (fun _ => kk la hl) (fun n => absurd hx n)) (kt hx)
  · exact Wp.step (ls2 := ls) (st2 := st) (fun p l e R s m args below meth c H locs cells slots Z g la hC hK hX hP hS hl kk => lv_icmp_gt hC.1 hC.2.1 hd ht (fun n => absurd n hx) (fun _ => kk la hl)) (kf hx)
theorem r_lif_gt {x y : Int64} {off : Int} {tgt : Nat} (hd0 : decode (kB k) pc = .ok (.lcmp, 1)) (hd : decode (kB k) (pc + 1) = .ok (.ifCond .gt off, 3)) (ht : ((pc + 1 : Nat) : Int) + off = (tgt : Int)) (kt : y < x → Wp d k tgt ls st M Q) (kf : ¬ y < x → Wp d k (pc + 4) ls st M Q) : Wp d k pc ls (.long y :: .long x :: st) M Q :=
  r_lcmp hd0 (r_if_gt hd ht (fun n => kt ((lg_cmp_gt x y).mp n)) (fun n => kf (fun e => n ((lg_cmp_gt x y).mpr e))))
theorem r_if_le {x : Int32} {off : Int} {tgt : Nat} (hd : decode (kB k) pc = .ok (.ifCond .le off, 3)) (ht : (pc : Int) + off = (tgt : Int)) (kt : x ≤ 0 → Wp d k tgt ls st M Q) (kf : ¬ x ≤ 0 → Wp d k (pc + 3) ls st M Q) : Wp d k pc ls (.int x :: st) M Q := by
  by_cases hx : x ≤ 0
  · exact Wp.step (ls2 := ls) (st2 := st) (fun p l e R s m args below meth c H locs cells slots Z g la hC hK hX hP hS hl kk => lv_if_le hC.1 hC.2.1 hd ht (fun _ => kk la hl) (fun n => absurd hx n)) (kt hx)
  · exact Wp.step (ls2 := ls) (st2 := st) (fun p l e R s m args below meth c H locs cells slots Z g la hC hK hX hP hS hl kk => lv_if_le hC.1 hC.2.1 hd ht (fun n => absurd n hx) (fun _ => kk la hl)) (kf hx)
theorem r_icmp_le {x y : Int32} {off : Int} {tgt : Nat} (hd : decode (kB k) pc = .ok (.if_icmp .le off, 3)) (ht : (pc : Int) + off = (tgt : Int)) (kt : x ≤ y → Wp d k tgt ls st M Q) (kf : ¬ x ≤ y → Wp d k (pc + 3) ls st M Q) : Wp d k pc ls (.int y :: .int x :: st) M Q := by
  by_cases hx : x ≤ y
  · exact Wp.step (ls2 := ls) (st2 := st) (fun p l e R s m args below meth c H locs cells slots Z g la hC hK hX hP hS hl kk => lv_icmp_le hC.1 hC.2.1 hd ht (fun _ => kk la hl) (fun n => absurd hx n)) (kt hx)
  · exact Wp.step (ls2 := ls) (st2 := st) (fun p l e R s m args below meth c H locs cells slots Z g la hC hK hX hP hS hl kk => lv_icmp_le hC.1 hC.2.1 hd ht (fun n => absurd n hx) (fun _ => kk la hl)) (kf hx)
theorem r_lif_le {x y : Int64} {off : Int} {tgt : Nat} (hd0 : decode (kB k) pc = .ok (.lcmp, 1)) (hd : decode (kB k) (pc + 1) = .ok (.ifCond .le off, 3)) (ht : ((pc + 1 : Nat) : Int) + off = (tgt : Int)) (kt : x ≤ y → Wp d k tgt ls st M Q) (kf : ¬ x ≤ y → Wp d k (pc + 4) ls st M Q) : Wp d k pc ls (.long y :: .long x :: st) M Q :=
  r_lcmp hd0 (r_if_le hd ht (fun n => kt ((lg_cmp_le x y).mp n)) (fun n => kf (fun e => n ((lg_cmp_le x y).mpr e))))
theorem r_tableIn {dflt lo hi : Int} {offs : Array Int} {len : Nat} {x : Int32} {off : Int} {tgt : Nat} (hd : decode (kB k) pc = .ok (.tableswitch dflt lo hi offs, len)) (h1 : ¬ x.toInt < lo) (h2 : ¬ hi < x.toInt) (ho : offs[(x.toInt - lo).toNat]? = some off) (ht : (pc : Int) + off = (tgt : Int)) (h : Wp d k tgt ls st M Q) : Wp d k pc ls (.int x :: st) M Q :=
  Wp.step (ls2 := ls) (st2 := st) (fun p l e R s m args below meth c H locs cells slots Z g la hC hK hX hP hS hl kk => lv_tableIn hC.1 hC.2.1 hd h1 h2 ho ht (kk la hl)) h
theorem r_tableOut {dflt lo hi : Int} {offs : Array Int} {len : Nat} {x : Int32} {tgt : Nat} (hd : decode (kB k) pc = .ok (.tableswitch dflt lo hi offs, len)) (h1 : x.toInt < lo ∨ hi < x.toInt) (ht : (pc : Int) + dflt = (tgt : Int)) (h : Wp d k tgt ls st M Q) : Wp d k pc ls (.int x :: st) M Q :=
  Wp.step (ls2 := ls) (st2 := st) (fun p l e R s m args below meth c H locs cells slots Z g la hC hK hX hP hS hl kk => lv_tableOut hC.1 hC.2.1 hd h1 ht (kk la hl)) h
/-- fewer locals, in another order -/
theorem r_sub {ls' : List (Nat × Value)} (ks : List Nat) (hs : lv_pick ls ks = ls') (h : Wp d k pc ls' st M Q) : Wp d k pc ls st M Q :=
  Wp.step (ls2 := ls') (st2 := st) (fun p l e R s m args below meth c H locs cells slots Z g la hC hK hX hP hS hl kk => kk la (lv_sub hl ks (by
    rw [← hs]
    unfold lv_pick
    rw [List.map_filterMap]
    congr 1
    funext i
    rw [List.getElem?_map]))) h
theorem r_ret (r : Option Value) (hr : RetAt k pc) (hst : r.toList = st) (hq : Q r M) : Wp d k pc ls st M Q := by
  subst hst
  refine ⟨r, M, hq, ⟨Nat.le_refl _, Nat.le_refl _⟩, fun p l e R s m args below meth c H locs cells slots Z g la hC hK hX hP hg hS hl hf hlo hc1 hc2 kk => ?_⟩
  have h := kk H locs pc la hr hP hS
  rw [Nat.sub_self, Nat.sub_self] at h
  exact h
end Rows
