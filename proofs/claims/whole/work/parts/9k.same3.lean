/-! the calls that change nothing: the same answers -/
section Ops1
variable {n m : Nat} {M : Mem}
theorem PI.ht {A : PM} {N : Nat} {p : PS} (h : PI A N p) : 0 < (qH p).length ∧ 0 < (qT p).length := by
  obtain ⟨⟨D, e1⟩, D2, e2⟩ := h.1.1
  rw [e1, e2]; exact ⟨Nat.succ_pos _, Nat.succ_pos _⟩
theorem so_state (x y : Int32) (h : JI n m M) (hn : n ≤ 511) : SmI 30 mdX11_state mdX12_state m [.int x, .int y] M (JI (n + 1) m) := by
  obtain ⟨X, A, st, sp, p, R, hJ⟩ := h
  have hI := hJ.2.2.1
  have hA := hJ.1.ok
  have hN : 8 * n ≤ 4600 := by omega
  have lens := (hI.lens hA).2.2.2.1
  have hHT := hI.ht
  obtain ⟨v, hv⟩ := det_state hA x y
  exact js_I (v := v) hJ (fun _ => hI.mono (by omega)) (w_X11_state (by decide) hJ.cx  (fun M' h1 => hv (fun u => some (Value.int u) = some (Value.int v) ∧ CX M M' X A st sp p R) ⟨rfl, h1⟩)) (fun M1 hS => w_X12_state (by decide) hS  (fun M' h1 => hv (fun u => some (Value.int u) = some (Value.int v) ∧ MoS M1 M' m X A st sp p R) ⟨rfl, h1⟩) )
theorem so_run (x : Int64) (h : JI n m M) (hn : n ≤ 511) : SmI 30 mdX11_run mdX12_run m [.long x] M (JI (n + 1) m) := by
  obtain ⟨X, A, st, sp, p, R, hJ⟩ := h
  have hI := hJ.2.2.1
  have hA := hJ.1.ok
  have hN : 8 * n ≤ 4600 := by omega
  have lens := (hI.lens hA).2.2.2.1
  have hHT := hI.ht
  obtain ⟨v, hv⟩ := det_run hA x
  exact js_I (v := v) hJ (fun _ => hI.mono (by omega)) (w_X11_run (by decide) hJ.cx  (fun M' h1 => hv (fun u => some (Value.int u) = some (Value.int v) ∧ CX M M' X A st sp p R) ⟨rfl, h1⟩)) (fun M1 hS => w_X12_run (by decide) hS  (fun M' h1 => hv (fun u => some (Value.int u) = some (Value.int v) ∧ MoS M1 M' m X A st sp p R) ⟨rfl, h1⟩) )
theorem so_joins (x y : Int64) (h : JI n m M) (hn : n ≤ 511) : SmJ 30 mdX11_joins mdX12_joins m [.long x, .long y] M (JI (n + 1) m) := by
  obtain ⟨X, A, st, sp, p, R, hJ⟩ := h
  have hI := hJ.2.2.1
  have hA := hJ.1.ok
  have hN : 8 * n ≤ 4600 := by omega
  have lens := (hI.lens hA).2.2.2.1
  have hHT := hI.ht
  obtain ⟨v, hv⟩ := det_joins hA x y
  exact js_J (v := v) hJ (fun _ => hI.mono (by omega)) (w_X11_joins (by decide) hJ.cx  (fun M' h1 => hv (fun u => some (Value.long u) = some (Value.long v) ∧ CX M M' X A st sp p R) ⟨rfl, h1⟩)) (fun M1 hS => w_X12_joins (by decide) hS  (fun M' h1 => hv (fun u => some (Value.long u) = some (Value.long v) ∧ MoS M1 M' m X A st sp p R) ⟨rfl, h1⟩) )
theorem so_letter (x : Int64) (y : Int32) (h : JI n m M) (hn : n ≤ 511) : SmI 30 mdX11_letter mdX12_letter m [.long x, .int y] M (JI (n + 1) m) := by
  obtain ⟨X, A, st, sp, p, R, hJ⟩ := h
  have hI := hJ.2.2.1
  have hA := hJ.1.ok
  have hN : 8 * n ≤ 4600 := by omega
  have lens := (hI.lens hA).2.2.2.1
  have hHT := hI.ht
  obtain ⟨v, hv⟩ := det_letter hA x y
  exact js_I (v := v) hJ (fun _ => hI.mono (by omega)) (w_X11_letter (by decide) hJ.cx  (fun M' h1 => hv (fun u => some (Value.int u) = some (Value.int v) ∧ CX M M' X A st sp p R) ⟨rfl, h1⟩)) (fun M1 hS => w_X12_letter (by decide) hS  (fun M' h1 => hv (fun u => some (Value.int u) = some (Value.int v) ∧ MoS M1 M' m X A st sp p R) ⟨rfl, h1⟩) )
theorem so_cut (x : Int64) (y : Int32) (h : JI n m M) (hn : n ≤ 511) : SmJ 30 mdX11_cut mdX12_cut m [.long x, .int y] M (JI (n + 1) m) := by
  obtain ⟨X, A, st, sp, p, R, hJ⟩ := h
  have hI := hJ.2.2.1
  have hA := hJ.1.ok
  have hN : 8 * n ≤ 4600 := by omega
  have lens := (hI.lens hA).2.2.2.1
  have hHT := hI.ht
  obtain ⟨v, hv⟩ := det_cut hA x y
  exact js_J (v := v) hJ (fun _ => hI.mono (by omega)) (w_X11_cut (by decide) hJ.cx  (fun M' h1 => hv (fun u => some (Value.long u) = some (Value.long v) ∧ CX M M' X A st sp p R) ⟨rfl, h1⟩)) (fun M1 hS => w_X12_cut (by decide) hS  (fun M' h1 => hv (fun u => some (Value.long u) = some (Value.long v) ∧ MoS M1 M' m X A st sp p R) ⟨rfl, h1⟩) )
theorem so_word (x : Int32) (h : JI n m M) (hn : n ≤ 511) : SmJ 30 mdX11_word mdX12_word m [.int x] M (JI (n + 1) m) := by
  obtain ⟨X, A, st, sp, p, R, hJ⟩ := h
  have hI := hJ.2.2.1
  have hA := hJ.1.ok
  have hN : 8 * n ≤ 4600 := by omega
  have lens := (hI.lens hA).2.2.2.1
  have hHT := hI.ht
  obtain ⟨v, hv⟩ := det_word (A := A) x
  exact js_J (v := v) hJ (fun _ => hI.mono (by omega)) (w_X11_word (by decide) hJ.cx  (fun M' h1 => hv (fun u => some (Value.long u) = some (Value.long v) ∧ CX M M' X A st sp p R) ⟨rfl, h1⟩)) (fun M1 hS => w_X12_word (by decide) hS  (fun M' h1 => hv (fun u => some (Value.long u) = some (Value.long v) ∧ MoS M1 M' m X A st sp p R) ⟨rfl, h1⟩) )
theorem so_known (x : Int64) (h : JI n m M) (hn : n ≤ 511) : SmI 30 mdX11_known mdX12_known m [.long x] M (JI (n + 1) m) := by
  obtain ⟨X, A, st, sp, p, R, hJ⟩ := h
  have hI := hJ.2.2.1
  have hA := hJ.1.ok
  have hN : 8 * n ≤ 4600 := by omega
  have lens := (hI.lens hA).2.2.2.1
  have hHT := hI.ht
  obtain ⟨v, hv⟩ := det_known hA (qs p).1 x
  exact js_I (v := v) hJ (fun _ => hI.mono (by omega)) (w_X11_known (by decide) hJ.cx  (fun M' h1 => hv (fun u => some (Value.int u) = some (Value.int v) ∧ CX M M' X A st sp p R) ⟨rfl, h1⟩)) (fun M1 hS => w_X12_known (by decide) hS hI hN (fun M' h1 => hv (fun u => some (Value.int u) = some (Value.int v) ∧ MoS M1 M' m X A st sp p R) ⟨rfl, h1⟩) )
theorem so_head (x : Int32) (h : JI n m M) (hn : n ≤ 511) : SmJ 30 mdX11_head mdX12_head m [.int x] M (JI (n + 1) m) := by
  obtain ⟨X, A, st, sp, p, R, hJ⟩ := h
  have hI := hJ.2.2.1
  have hA := hJ.1.ok
  have hN : 8 * n ≤ 4600 := by omega
  have lens := (hI.lens hA).2.2.2.1
  have hHT := hI.ht
  obtain ⟨v, hv⟩ := det_nth (L := qH p) (by have := lens.1; omega) x
  exact js_J (v := v) hJ (fun _ => hI.mono (by omega)) (w_X11_head (by decide) hJ.cx hI (fun M' h1 => hv (fun u => some (Value.long u) = some (Value.long v) ∧ CX M M' X A st sp p R) ⟨rfl, h1⟩)) (fun M1 hS => w_X12_head (by decide) hS (hHT.1) (fun M' h1 => hv (fun u => some (Value.long u) = some (Value.long v) ∧ MoS M1 M' m X A st sp p R) ⟨rfl, h1⟩) )
theorem so_tail (x : Int32) (h : JI n m M) (hn : n ≤ 511) : SmJ 30 mdX11_tail mdX12_tail m [.int x] M (JI (n + 1) m) := by
  obtain ⟨X, A, st, sp, p, R, hJ⟩ := h
  have hI := hJ.2.2.1
  have hA := hJ.1.ok
  have hN : 8 * n ≤ 4600 := by omega
  have lens := (hI.lens hA).2.2.2.1
  have hHT := hI.ht
  obtain ⟨v, hv⟩ := det_nth (L := qT p) (by have := lens.2; omega) x
  exact js_J (v := v) hJ (fun _ => hI.mono (by omega)) (w_X11_tail (by decide) hJ.cx hI (fun M' h1 => hv (fun u => some (Value.long u) = some (Value.long v) ∧ CX M M' X A st sp p R) ⟨rfl, h1⟩)) (fun M1 hS => w_X12_tail (by decide) hS (hHT.2) (fun M' h1 => hv (fun u => some (Value.long u) = some (Value.long v) ∧ MoS M1 M' m X A st sp p R) ⟨rfl, h1⟩) )
theorem so_cell (x y z : Int32) (h : JI n m M) (hn : n ≤ 511) : SmI 30 mdX11_cell mdX12_cell m [.int x, .int y, .int z] M (JI (n + 1) m) := by
  obtain ⟨X, A, st, sp, p, R, hJ⟩ := h
  have hI := hJ.2.2.1
  have hA := hJ.1.ok
  have hN : 8 * n ≤ 4600 := by omega
  have lens := (hI.lens hA).2.2.2.1
  have hHT := hI.ht
  obtain ⟨v, hv⟩ := det_cell hA.2.1.2 (H := qH p) (T := qT p) (S := (qs p).1) (by have := lens.1; omega) (by have := lens.2; omega) (qm p = 3) (fun w => nI (an A 0 w)) x y z
  exact js_I (v := v) hJ (fun _ => hI.mono (by omega)) (w_X11_cell (by decide) hJ.cx hI (fun M' h1 => hv (fun u => some (Value.int u) = some (Value.int v) ∧ CX M M' X A st sp p R) ⟨rfl, h1⟩)) (fun M1 hS => w_X12_cell (by decide) hS hI hN (fun M' h1 => hv (fun u => some (Value.int u) = some (Value.int v) ∧ MoS M1 M' m X A st sp p R) ⟨rfl, h1⟩) )
theorem so_knot (x y : Int32) (h : JI n m M) (hn : n ≤ 511) : SmI 30 mdX11_knot mdX12_knot m [.int x, .int y] M (JI (n + 1) m) := by
  obtain ⟨X, A, st, sp, p, R, hJ⟩ := h
  have hI := hJ.2.2.1
  have hA := hJ.1.ok
  have hN : 8 * n ≤ 4600 := by omega
  have lens := (hI.lens hA).2.2.2.1
  have hHT := hI.ht
  obtain ⟨v, hv⟩ := det_knot (T := qT p) (by have := lens.2; omega) (qm p = 3) (qK p) x y
  exact js_I (v := v) hJ (fun _ => hI.mono (by omega)) (w_X11_knot (by decide) hJ.cx hI (fun M' h1 => hv (fun u => some (Value.int u) = some (Value.int v) ∧ CX M M' X A st sp p R) ⟨rfl, h1⟩)) (fun M1 hS => w_X12_knot (by decide) hS hI (fun M' h1 => hv (fun u => some (Value.int u) = some (Value.int v) ∧ MoS M1 M' m X A st sp p R) ⟨rfl, h1⟩) )
theorem so_guessed (x y : Int32) (h : JI n m M) (hn : n ≤ 511) : SmI 30 mdX11_guessed mdX12_guessed m [.int x, .int y] M (JI (n + 1) m) := by
  obtain ⟨X, A, st, sp, p, R, hJ⟩ := h
  have hI := hJ.2.2.1
  have hA := hJ.1.ok
  have hN : 8 * n ≤ 4600 := by omega
  have lens := (hI.lens hA).2.2.2.1
  have hHT := hI.ht
  obtain ⟨v, hv⟩ := det_guessed hA.2.1.2 (qg p) x y
  exact js_I (v := v) hJ (fun _ => hI.mono (by omega)) (w_X11_guessed (by decide) hJ.cx hI (fun M' h1 => hv (fun u => some (Value.int u) = some (Value.int v) ∧ CX M M' X A st sp p R) ⟨rfl, h1⟩)) (fun M1 hS => w_X12_guessed (by decide) hS hI (fun M' h1 => hv (fun u => some (Value.int u) = some (Value.int v) ∧ MoS M1 M' m X A st sp p R) ⟨rfl, h1⟩) )
theorem so_access (x : Int32) (h : JI n m M) (hn : n ≤ 511) : SmJ 30 mdX11_access mdX12_access m [.int x] M (JI (n + 1) m) := by
  obtain ⟨X, A, st, sp, p, R, hJ⟩ := h
  have hI := hJ.2.2.1
  have hA := hJ.1.ok
  have hN : 8 * n ≤ 4600 := by omega
  have lens := (hI.lens hA).2.2.2.1
  have hHT := hI.ht
  obtain ⟨v, hv⟩ := det_access (qg p) x
  exact js_J (v := v) hJ (fun _ => hI.mono (by omega)) (w_X11_access (by decide) hJ.cx  (fun M' h1 => hv (fun u => some (Value.long u) = some (Value.long v) ∧ CX M M' X A st sp p R) ⟨rfl, h1⟩)) (fun M1 hS => w_X12_access (by decide) hS  (fun M' h1 => hv (fun u => some (Value.long u) = some (Value.long v) ∧ MoS M1 M' m X A st sp p R) ⟨rfl, h1⟩) )
theorem so_errs  (h : JI n m M) (hn : n ≤ 511) : SmJ 30 mdX11_errs mdX12_errs m [] M (JI (n + 1) m) := by
  obtain ⟨X, A, st, sp, p, R, hJ⟩ := h
  have hI := hJ.2.2.1
  have hA := hJ.1.ok
  have hN : 8 * n ≤ 4600 := by omega
  have lens := (hI.lens hA).2.2.2.1
  have hHT := hI.ht
  obtain ⟨v, hv⟩ := det_errs (qg p) (fun g => lN (fuC g.2 0 A 0))
  exact js_J (v := v) hJ (fun _ => hI.mono (by omega)) (w_X11_errs (by decide) hJ.cx hI (fun M' h1 => hv (fun u => some (Value.long u) = some (Value.long v) ∧ CX M M' X A st sp p R) ⟨rfl, h1⟩)) (fun M1 hS => w_X12_errs (by decide) hS hI (fun M' h1 => hv (fun u => some (Value.long u) = some (Value.long v) ∧ MoS M1 M' m X A st sp p R) ⟨rfl, h1⟩) )
theorem so_passes (x : Int32) (h : JI n m M) (hn : n ≤ 511) : SmJ 30 mdX11_passes mdX12_passes m [.int x] M (JI (n + 1) m) := by
  obtain ⟨X, A, st, sp, p, R, hJ⟩ := h
  have hI := hJ.2.2.1
  have hA := hJ.1.ok
  have hN : 8 * n ≤ 4600 := by omega
  have lens := (hI.lens hA).2.2.2.1
  have hHT := hI.ht
  obtain ⟨v, hv⟩ := det_passes (qg p) (fun g k => lN (lwC g.2 A (tsS g.2 k).1)) x
  exact js_J (v := v) hJ (fun _ => hI.mono (by omega)) (w_X11_passes (by decide) hJ.cx hI (fun M' h1 => hv (fun u => some (Value.long u) = some (Value.long v) ∧ CX M M' X A st sp p R) ⟨rfl, h1⟩)) (fun M1 hS => w_X12_passes (by decide) hS hI hN (fun M' h1 => hv (fun u => some (Value.long u) = some (Value.long v) ∧ MoS M1 M' m X A st sp p R) ⟨rfl, h1⟩) )
theorem so_parted (x y : Int32) (h : JI n m M) (hn : n ≤ 511) : SmJ 30 mdX11_parted mdX12_parted m [.int x, .int y] M (JI (n + 1) m) := by
  obtain ⟨X, A, st, sp, p, R, hJ⟩ := h
  have hI := hJ.2.2.1
  have hA := hJ.1.ok
  have hN : 8 * n ≤ 4600 := by omega
  have lens := (hI.lens hA).2.2.2.1
  have hHT := hI.ht
  obtain ⟨v, hv⟩ := det_parted (qg p) (fun g s t => lN (fuC g.2 s g.2 t)) x y
  exact js_J (v := v) hJ (fun _ => hI.mono (by omega)) (w_X11_parted (by decide) hJ.cx hI (fun M' h1 => hv (fun u => some (Value.long u) = some (Value.long v) ∧ CX M M' X A st sp p R) ⟨rfl, h1⟩)) (fun M1 hS => w_X12_parted (by decide) hS  (fun M' h1 => hv (fun u => some (Value.long u) = some (Value.long v) ∧ MoS M1 M' m X A st sp p R) ⟨rfl, h1⟩) hI)
theorem so_like (x y : Int32) (h : JI n m M) (hn : n ≤ 511) : SmJ 30 mdX11_like mdX12_like m [.int x, .int y] M (JI (n + 1) m) := by
  obtain ⟨X, A, st, sp, p, R, hJ⟩ := h
  have hI := hJ.2.2.1
  have hA := hJ.1.ok
  have hN : 8 * n ≤ 4600 := by omega
  have lens := (hI.lens hA).2.2.2.1
  have hHT := hI.ht
  obtain ⟨v, hv⟩ := det_like hA.1.2 (fun s t => lN (fuC A s A t)) x y
  exact js_J (v := v) hJ (fun _ => hI.mono (by omega)) (w_X11_like (by decide) hJ.cx  (fun M' h1 => hv (fun u => some (Value.long u) = some (Value.long v) ∧ CX M M' X A st sp p R) ⟨rfl, h1⟩)) (fun M1 hS => w_X12_like (by decide) hS  (fun M' h1 => hv (fun u => some (Value.long u) = some (Value.long v) ∧ MoS M1 M' m X A st sp p R) ⟨rfl, h1⟩) )
theorem so_reach (x : Int32) (h : JI n m M) (hn : n ≤ 511) : SmJ 30 mdX11_reach mdX12_reach m [.int x] M (JI (n + 1) m) := by
  obtain ⟨X, A, st, sp, p, R, hJ⟩ := h
  have hI := hJ.2.2.1
  have hA := hJ.1.ok
  have hN : 8 * n ≤ 4600 := by omega
  have lens := (hI.lens hA).2.2.2.1
  have hHT := hI.ht
  obtain ⟨v, hv⟩ := det_reach hA.1.2 (fun s => lN (reC A s)) x
  exact js_J (v := v) hJ (fun _ => hI.mono (by omega)) (w_X11_reach (by decide) hJ.cx  (fun M' h1 => hv (fun u => some (Value.long u) = some (Value.long v) ∧ CX M M' X A st sp p R) ⟨rfl, h1⟩)) (fun M1 hS => w_X12_reach (by decide) hS  (fun M' h1 => hv (fun u => some (Value.long u) = some (Value.long v) ∧ MoS M1 M' m X A st sp p R) ⟨rfl, h1⟩) )
theorem so_count (x : Int32) (h : JI n m M) (hn : n ≤ 511) : SmI 30 mdX11_count mdX12_count m [.int x] M (JI (n + 1) m) := by
  obtain ⟨X, A, st, sp, p, R, hJ⟩ := h
  have hI := hJ.2.2.1
  exact js_I (v := cnV X A st sp p R x) hJ (fun _ => hI.mono (by omega)) (w_X11_count (by decide) hJ.cx (fun M' h1 => ⟨rfl, h1⟩)) (fun M1 hS => w_X12_count (by decide) hS (fun M' h1 => ⟨rfl, h1⟩))
end Ops1
