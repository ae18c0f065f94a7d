/-! the calls that change something, on -/
section Ops3
variable {n m : Nat} {M : Mem}
theorem so_step (h : JI n m M) (hn : n ≤ 511) : SmI 30 mdX11_step mdX12_step m [] M (JI (n + 1) m) := by
  obtain ⟨X, A, st, sp, p, R, hJ⟩ := h
  have hI := hJ.2.2.1
  have hA := hJ.1.ok
  have hN : 8 * n ≤ 4600 := by omega
  cases c : qg p with
  | none => exact js_I (v := nI (stepF A st sp p).1) hJ (fun _ => (hI.step hA c).1.mono (by omega)) (w_X11_step (by decide) hJ.cx hI hN (fun M' g hg => by rw [c] at hg; cases hg) (fun M' _ h1 => ⟨rfl, h1⟩)) (fun M1 hS => w_X12_step (by decide) hS hI hN (fun M' g hg => by rw [c] at hg; cases hg) (fun M' _ h1 => ⟨rfl, h1⟩))
  | some g => exact js_I (v := (-2 : Int32)) hJ (fun _ => hI.mono (by omega)) (w_X11_step (by decide) hJ.cx hI hN (fun M' g' _ h1 => ⟨rfl, h1⟩) (fun M' hg => by rw [c] at hg; cases hg)) (fun M1 hS => w_X12_step (by decide) hS hI hN (fun M' g' _ h1 => ⟨rfl, h1⟩) (fun M' hg => by rw [c] at hg; cases hg))
theorem so_guess (h : JI n m M) (hn : n ≤ 511) : SmI 30 mdX11_guess mdX12_guess m [] M (JI (n + 1) m) := by
  obtain ⟨X, A, st, sp, p, R, hJ⟩ := h
  have hI := hJ.2.2.1
  have hA := hJ.1.ok
  have hN : 8 * n ≤ 4600 := by omega
  obtain ⟨g1, -, ⟨g, hg⟩, -⟩ := gsF_PI (st := st) (sp := sp) hA 40 p hI mu_lt
  exact js_I (v := nI (pn g.2)) hJ (fun _ => g1.mono (by omega)) (w_X11_guess (by decide) hJ.cx hI hN (fun M' g' hg' h1 => by rw [hg] at hg'; cases hg'; exact ⟨rfl, h1⟩)) (fun M1 hS => w_X12_guess (by decide) hS hI hN (fun M' g' hg' h1 => by rw [hg] at hg'; cases hg'; exact ⟨rfl, h1⟩))
theorem so_learns (h : JI n m M) (hn : n ≤ 511) : SmI 30 mdX11_learns mdX12_learns m [] M (JI (n + 1) m) := by
  obtain ⟨X, A, st, sp, p, R, hJ⟩ := h
  have hI := hJ.2.2.1
  have hA := hJ.1.ok
  have hN : 8 * n ≤ 4600 := by omega
  obtain ⟨F, hF⟩ : ∃ F, F = learnF A st sp p := ⟨_, rfl⟩
  have hl : PI A (8 * n) F.2 ∧ qm F.2 = qm p ∧ ∃ g, qg F.2 = some g ∧ fuC g.2 0 A 0 = 0 := by rw [hF]; exact lnF_PI (st := st) (sp := sp) hA 40 p hI mu_lt
  obtain ⟨g1, -, g, hg, -⟩ := hl
  exact js_I (v := nI (pn g.2)) (p' := F.2) (R' := [(nI F.1).toInt64, (nI (ql F.2)).toInt64]) hJ (fun _ => g1.mono (by omega)) (w_X11_learns (by decide) hJ.cx hI hN (fun M' g' hg' h1 => by rw [← hF] at hg' h1; rw [hg] at hg'; cases hg'; exact ⟨rfl, h1⟩)) (fun M1 hS => w_X12_learns (by decide) hS hI hN (fun M' g' hg' h1 => by rw [← hF] at hg' h1; rw [hg] at hg'; cases hg'; exact ⟨rfl, h1⟩))
theorem so_tells (x : Int64) (h : JI n m M) (hn : n ≤ 511) : SmI 30 mdX11_tells mdX12_tells m [.long x] M (JI (n + 1) m) := by
  obtain ⟨X, A, st, sp, p, R, hJ⟩ := h
  have hI := hJ.2.2.1
  have hA := hJ.1.ok
  have l3 := hA.2.1.2
  have hN : 8 * n ≤ 4600 := by omega
  by_cases c : ∃ w, isW (pl A) x w ∧ w.length ≤ 14
  · have c0 := c
    obtain ⟨w, hw, hl⟩ := c
    have un : ∀ {w'}, isW (pl A) x w' → w' = w := fun h' => isW_inj (by omega) h' hw
    cases e : qg p with
    | none =>
      exact js_I (v := (-2 : Int32)) hJ (fun _ => hI.mono (by omega)) (w_X11_tells (by decide) hJ.cx hI hN (fun M' h1 => ⟨fun n => absurd c0 n, fun w' a b => ⟨fun _ => ⟨rfl, h1⟩, fun g' hg => by rw [e] at hg; cases hg⟩⟩) (fun M' w' g' _ _ hg => by rw [e] at hg; cases hg)) (fun M1 hS => w_X12_tells (by decide) hS hI hN (fun M' h1 => ⟨fun n => absurd c0 n, fun w' a b => ⟨fun _ => ⟨rfl, h1⟩, fun g' hg => by rw [e] at hg; cases hg⟩⟩) (fun M' w' g' _ _ hg => by rw [e] at hg; cases hg))
    | some g =>
      by_cases q : an g.2 0 w = an A 0 w
      · exact js_I (v := (-3 : Int32)) hJ (fun _ => hI.mono (by omega)) (w_X11_tells (by decide) hJ.cx hI hN (fun M' h1 => ⟨fun n => absurd c0 n, fun w' a b => ⟨fun hg => (by rw [e] at hg; cases hg), fun g' hg _ => ⟨rfl, h1⟩⟩⟩) (fun M' w' g' a b hg nq => by rw [e] at hg; cases hg; rw [un a] at nq; exact absurd q nq)) (fun M1 hS => w_X12_tells (by decide) hS hI hN (fun M' h1 => ⟨fun n => absurd c0 n, fun w' a b => ⟨fun hg => (by rw [e] at hg; cases hg), fun g' hg _ => ⟨rfl, h1⟩⟩⟩) (fun M' w' g' a b hg nq => by rw [e] at hg; cases hg; rw [un a] at nq; exact absurd q nq))
      · exact js_I (v := nI (lesF A st sp p g w).1) hJ (fun _ => (hI.les hA e hw.1 hl q).1.mono (by omega)) (w_X11_tells (by decide) hJ.cx hI hN (fun M' h1 => ⟨fun n => absurd c0 n, fun w' a b => ⟨fun hg => (by rw [e] at hg; cases hg), fun g' hg y => (by rw [e] at hg; cases hg; rw [un a] at y; exact absurd y q)⟩⟩) (fun M' w' g' a b hg nq h1 => by rw [e] at hg; cases hg; rw [un a] at h1 ⊢; exact ⟨rfl, h1⟩)) (fun M1 hS => w_X12_tells (by decide) hS hI hN (fun M' h1 => ⟨fun n => absurd c0 n, fun w' a b => ⟨fun hg => (by rw [e] at hg; cases hg), fun g' hg y => (by rw [e] at hg; cases hg; rw [un a] at y; exact absurd y q)⟩⟩) (fun M' w' g' a b hg nq h1 => by rw [e] at hg; cases hg; rw [un a] at h1 ⊢; exact ⟨rfl, h1⟩))
  · exact js_I (v := (-1 : Int32)) hJ (fun _ => hI.mono (by omega)) (w_X11_tells (by decide) hJ.cx hI hN (fun M' h1 => ⟨fun _ => ⟨rfl, h1⟩, fun w' a b => absurd ⟨w', a, b⟩ c⟩) (fun M' w' g' a b => absurd ⟨w', a, b⟩ c)) (fun M1 hS => w_X12_tells (by decide) hS hI hN (fun M' h1 => ⟨fun _ => ⟨rfl, h1⟩, fun w' a b => absurd ⟨w', a, b⟩ c⟩) (fun M' w' g' a b => absurd ⟨w', a, b⟩ c))
theorem so_lines (h : JI n m M) (hn : n ≤ 511) : SmI 30 mdX11_lines mdX12_lines m [] M (JI (n + 1) m) := by
  obtain ⟨X, A, st, sp, p, R, hJ⟩ := h
  have hI := hJ.2.2.1
  have hN : 8 * n ≤ 4600 := by omega
  by_cases c : qm p = 3
  · exact js_I (v := (-2 : Int32)) hJ (fun _ => hI.mono (by omega)) (w_X11_lines (by decide) hJ.cx hI (fun M' h1 => ⟨fun _ => ⟨rfl, h1⟩, fun n => absurd c n⟩) (fun M' n => absurd c n)) (fun M1 hS => w_X12_lines (by decide) hS hI hN (fun M' h1 => ⟨fun _ => ⟨rfl, h1⟩, fun n => absurd c n⟩) (fun M' n => absurd c n))
  · by_cases q : ∀ w, w ∈ rwW (pl A) (qH p) (qT p) → w ∈ (qs p).1
    · exact js_I (v := nI (cR (lkH A (qT p) (qH p)) (qH p).length)) hJ (fun _ => hI.mono (by omega)) (w_X11_lines (by decide) hJ.cx hI (fun M' h1 => ⟨fun n => absurd n c, fun _ n => absurd q n⟩) (fun M' _ _ h1 => ⟨rfl, h1⟩)) (fun M1 hS => w_X12_lines (by decide) hS hI hN (fun M' h1 => ⟨fun n => absurd n c, fun _ n => absurd q n⟩) (fun M' _ _ h1 => ⟨rfl, h1⟩))
    · exact js_I (v := (-3 : Int32)) hJ (fun _ => hI.mono (by omega)) (w_X11_lines (by decide) hJ.cx hI (fun M' h1 => ⟨fun n => absurd n c, fun _ _ => ⟨rfl, h1⟩⟩) (fun M' _ n => absurd n q)) (fun M1 hS => w_X12_lines (by decide) hS hI hN (fun M' h1 => ⟨fun n => absurd n c, fun _ _ => ⟨rfl, h1⟩⟩) (fun M' _ n => absurd n q))
theorem so_sift (x : Int64) (h : JI n m M) (hn : n ≤ 511) : SmI 30 mdX11_sift mdX12_sift m [.long x] M (JI (n + 1) m) := by
  obtain ⟨X, A, st, sp, p, R, hJ⟩ := h
  have hI := hJ.2.2.1
  have hA := hJ.1.ok
  have l3 := hA.2.1.2
  have hN : 8 * n ≤ 4600 := by omega
  by_cases c : ∃ w, isW (pl A) x w ∧ w.length ≤ 15
  · have c0 := c
    obtain ⟨w, hw, hl⟩ := c
    have un : ∀ {w'}, isW (pl A) x w' → w' = w := fun h' => isW_inj (by omega) h' hw
    by_cases c3 : qm p = 3
    · have hI' : PI A (8 * (n + 1)) (qm p, aSs st sp (qs p) (sw A (qT p) (qK p) w 8 0), ql p, qH p, qT p, qK p, qg p) := (PI.more (n := 8) hI (aSs_nodup hI.1.2.2) (fun u hu => (aSs_mem _ _ _ _ _).mpr (Or.inl hu)) ⟨sw A (qT p) (qK p) w 8 0, sw_len8 8 0, fun u hu => (aSs_mem _ _ _ _ _).mp hu⟩).mono (by omega)
      by_cases z : qK p (sfP A (qT p) (qK p) w) = 0
      · exact js_I (v := (-3 : Int32)) hJ (fun _ => hI') (w_X11_sift (by decide) hJ.cx hI hN (fun M' h1 => ⟨fun n => absurd c0 n, fun w' _ _ n => absurd c3 n⟩) (fun M' w' a b _ _ h1 => by rw [un a] at h1; exact ⟨rfl, h1⟩) (fun M' w' a b _ n => by rw [un a] at n; exact absurd z n)) (fun M1 hS => w_X12_sift (by decide) hS hI hN (fun M' h1 => ⟨fun n => absurd c0 n, fun w' _ _ n => absurd c3 n⟩) (fun M' w' a b _ _ h1 => by rw [un a] at h1; exact ⟨rfl, h1⟩) (fun M' w' a b _ n => by rw [un a] at n; exact absurd z n))
      · exact js_I (v := kcI (qK p (sfP A (qT p) (qK p) w))) hJ (fun _ => hI') (w_X11_sift (by decide) hJ.cx hI hN (fun M' h1 => ⟨fun n => absurd c0 n, fun w' _ _ n => absurd c3 n⟩) (fun M' w' a b _ n => by rw [un a] at n; exact absurd n z) (fun M' w' a b _ _ h1 => by rw [un a] at h1 ⊢; exact ⟨rfl, h1⟩)) (fun M1 hS => w_X12_sift (by decide) hS hI hN (fun M' h1 => ⟨fun n => absurd c0 n, fun w' _ _ n => absurd c3 n⟩) (fun M' w' a b _ n => by rw [un a] at n; exact absurd n z) (fun M' w' a b _ _ h1 => by rw [un a] at h1 ⊢; exact ⟨rfl, h1⟩))
    · exact js_I (v := (-2 : Int32)) hJ (fun _ => hI.mono (by omega)) (w_X11_sift (by decide) hJ.cx hI hN (fun M' h1 => ⟨fun n => absurd c0 n, fun w' _ _ _ => ⟨rfl, h1⟩⟩) (fun M' w' _ _ n => absurd n c3) (fun M' w' _ _ n => absurd n c3)) (fun M1 hS => w_X12_sift (by decide) hS hI hN (fun M' h1 => ⟨fun n => absurd c0 n, fun w' _ _ _ => ⟨rfl, h1⟩⟩) (fun M' w' _ _ n => absurd n c3) (fun M' w' _ _ n => absurd n c3))
  · exact js_I (v := (-1 : Int32)) hJ (fun _ => hI.mono (by omega)) (w_X11_sift (by decide) hJ.cx hI hN (fun M' h1 => ⟨fun _ => ⟨rfl, h1⟩, fun w' a b _ => absurd ⟨w', a, b⟩ c⟩) (fun M' w' a b => absurd ⟨w', a, b⟩ c) (fun M' w' a b => absurd ⟨w', a, b⟩ c)) (fun M1 hS => w_X12_sift (by decide) hS hI hN (fun M' h1 => ⟨fun _ => ⟨rfl, h1⟩, fun w' a b _ => absurd ⟨w', a, b⟩ c⟩) (fun M' w' a b => absurd ⟨w', a, b⟩ c) (fun M' w' a b => absurd ⟨w', a, b⟩ c))
theorem so_reads (x : Int64) (h : JI n m M) (hn : n ≤ 511) : SmI 30 mdX11_reads mdX12_reads m [.long x] M (JI (n + 1) m) := by
  obtain ⟨X, A, st, sp, p, R, hJ⟩ := h
  have hI := hJ.2.2.1
  have hA := hJ.1.ok
  have l3 := hA.2.1.2
  by_cases c : ∃ w, isW (pl A) x w
  · have c0 := c
    obtain ⟨w, hw⟩ := c
    have un : ∀ {w'}, isW (pl A) x w' → w' = w := fun h' => isW_inj (by omega) h' hw
    cases e : qg p with
    | none => exact js_I (v := (-2 : Int32)) hJ (fun _ => hI.mono (by omega)) (w_X11_reads (by decide) hJ.cx hI (fun M' h1 => ⟨fun n => absurd c0 n, fun w' a b => ⟨rfl, h1⟩⟩) (fun M' w' g' _ hg => by rw [e] at hg; cases hg)) (fun M1 hS => w_X12_reads (by decide) hS hI (fun M' h1 => ⟨fun n => absurd c0 n, fun w' a b => ⟨rfl, h1⟩⟩) (fun M' w' g' _ hg => by rw [e] at hg; cases hg))
    | some g => exact js_I (v := nI (rn (pt g.2) 0 w)) (R' := [(nI (an g.2 0 w)).toInt64]) hJ (fun _ => hI.mono (by omega)) (w_X11_reads (by decide) hJ.cx hI (fun M' h1 => ⟨fun n => absurd c0 n, fun w' a hg => by rw [e] at hg; cases hg⟩) (fun M' w' g' a hg h1 => by rw [e] at hg; cases hg; rw [un a] at h1 ⊢; exact ⟨rfl, h1⟩)) (fun M1 hS => w_X12_reads (by decide) hS hI (fun M' h1 => ⟨fun n => absurd c0 n, fun w' a hg => by rw [e] at hg; cases hg⟩) (fun M' w' g' a hg h1 => by rw [e] at hg; cases hg; rw [un a] at h1 ⊢; exact ⟨rfl, h1⟩))
  · exact js_I (v := (-1 : Int32)) hJ (fun _ => hI.mono (by omega)) (w_X11_reads (by decide) hJ.cx hI (fun M' h1 => ⟨fun _ => ⟨rfl, h1⟩, fun w' a => absurd ⟨w', a⟩ c⟩) (fun M' w' g' a => absurd ⟨w', a⟩ c)) (fun M1 hS => w_X12_reads (by decide) hS hI (fun M' h1 => ⟨fun _ => ⟨rfl, h1⟩, fun w' a => absurd ⟨w', a⟩ c⟩) (fun M' w' g' a => absurd ⟨w', a⟩ c))
theorem so_wrong (x : Int32) (h : JI n m M) (hn : n ≤ 511) : SmI 30 mdX11_wrong mdX12_wrong m [.int x] M (JI (n + 1) m) := by
  obtain ⟨X, A, st, sp, p, R, hJ⟩ := h
  have hI := hJ.2.2.1
  by_cases c : ∃ k, k ≤ 8 ∧ x = nI k
  · have c0 := c
    obtain ⟨k, k1, k2⟩ := c
    have un : ∀ {k'}, k' ≤ 8 → x = nI k' → k' = k := fun a b => by rw [k2] at b; exact (nInj b (by omega) (by omega)).symm
    cases e : qg p with
    | none => exact js_I (v := (-2 : Int32)) hJ (fun _ => hI.mono (by omega)) (w_X11_wrong (by decide) hJ.cx hI (fun M' h1 => ⟨fun n => absurd c0 n, fun k' _ _ _ => ⟨rfl, h1⟩⟩) (fun M' k' g' _ _ hg => by rw [e] at hg; cases hg)) (fun M1 hS => w_X12_wrong (by decide) hS hI (fun M' h1 => ⟨fun n => absurd c0 n, fun k' _ _ _ => ⟨rfl, h1⟩⟩) (fun M' k' g' _ _ hg => by rw [e] at hg; cases hg))
    | some g => exact js_I (v := nI (uT g.2 A (k + 1))) (R' := [(nI (cU (pl A) k)).toInt64]) hJ (fun _ => hI.mono (by omega)) (w_X11_wrong (by decide) hJ.cx hI (fun M' h1 => ⟨fun n => absurd c0 n, fun k' _ _ hg => by rw [e] at hg; cases hg⟩) (fun M' k' g' a b hg h1 => by rw [e] at hg; cases hg; rw [un a b] at h1 ⊢; exact ⟨rfl, h1⟩)) (fun M1 hS => w_X12_wrong (by decide) hS hI (fun M' h1 => ⟨fun n => absurd c0 n, fun k' _ _ hg => by rw [e] at hg; cases hg⟩) (fun M' k' g' a b hg h1 => by rw [e] at hg; cases hg; rw [un a b] at h1 ⊢; exact ⟨rfl, h1⟩))
  · exact js_I (v := (-1 : Int32)) hJ (fun _ => hI.mono (by omega)) (w_X11_wrong (by decide) hJ.cx hI (fun M' h1 => ⟨fun _ => ⟨rfl, h1⟩, fun k' a b _ => absurd ⟨k', a, b⟩ c⟩) (fun M' k' g' a b => absurd ⟨k', a, b⟩ c)) (fun M1 hS => w_X12_wrong (by decide) hS hI (fun M' h1 => ⟨fun _ => ⟨rfl, h1⟩, fun k' a b _ => absurd ⟨k', a, b⟩ c⟩) (fun M' k' g' a b => absurd ⟨k', a, b⟩ c))
theorem so_tests (x : Int32) (h : JI n m M) (hn : n ≤ 511) : SmI 30 mdX11_tests mdX12_tests_ m [.int x] M (JI (n + 1) m) := by
  obtain ⟨X, A, st, sp, p, R, hJ⟩ := h
  have hI := hJ.2.2.1
  have hN : 8 * n ≤ 4600 := by omega
  by_cases c : ∃ k, k ≤ 2 ∧ x = nI k
  · have c0 := c
    obtain ⟨k, k1, k2⟩ := c
    have un : ∀ {k'}, k' ≤ 2 → x = nI k' → k' = k := fun a b => by rw [k2] at b; exact (nInj b (by omega) (by omega)).symm
    cases e : qg p with
    | none => exact js_I (v := (-2 : Int32)) hJ (fun _ => hI.mono (by omega)) (w_X11_tests (by decide) hJ.cx hI (fun M' h1 => ⟨fun n => absurd c0 n, fun k' _ _ _ => ⟨rfl, h1⟩⟩) (fun M' k' g' _ _ hg => by rw [e] at hg; cases hg)) (fun M1 hS => w_X12_tests_ (by decide) hS hI hN (fun M' h1 => ⟨fun n => absurd c0 n, fun k' _ _ _ => ⟨rfl, h1⟩⟩) (fun M' k' g' _ _ hg => by rw [e] at hg; cases hg))
    | some g => exact js_I (v := nI (tsS g.2 k).1.length) (R' := tsR A g.2 (qs p).1 k) hJ (fun _ => hI.mono (by omega)) (w_X11_tests (by decide) hJ.cx hI (fun M' h1 => ⟨fun n => absurd c0 n, fun k' _ _ hg => by rw [e] at hg; cases hg⟩) (fun M' k' g' a b hg h1 => by rw [e] at hg; cases hg; rw [un a b] at h1 ⊢; exact ⟨rfl, h1⟩)) (fun M1 hS => w_X12_tests_ (by decide) hS hI hN (fun M' h1 => ⟨fun n => absurd c0 n, fun k' _ _ hg => by rw [e] at hg; cases hg⟩) (fun M' k' g' a b hg h1 => by rw [e] at hg; cases hg; rw [un a b] at h1 ⊢; exact ⟨rfl, h1⟩))
  · exact js_I (v := (-1 : Int32)) hJ (fun _ => hI.mono (by omega)) (w_X11_tests (by decide) hJ.cx hI (fun M' h1 => ⟨fun _ => ⟨rfl, h1⟩, fun k' a b _ => absurd ⟨k', a, b⟩ c⟩) (fun M' k' g' a b => absurd ⟨k', a, b⟩ c)) (fun M1 hS => w_X12_tests_ (by decide) hS hI hN (fun M' h1 => ⟨fun _ => ⟨rfl, h1⟩, fun k' a b _ => absurd ⟨k', a, b⟩ c⟩) (fun M' k' g' a b => absurd ⟨k', a, b⟩ c))
theorem so_least (h : JI n m M) (hn : n ≤ 511) : SmI 30 mdX11_least mdX12_least m [] M (JI (n + 1) m) := by
  obtain ⟨X, A, st, sp, p, R, hJ⟩ := h
  have hI := hJ.2.2.1
  exact js_I (v := nI (uN A)) hJ (fun _ => hI.mono (by omega)) (w_X11_least (by decide) hJ.cx (fun M' h1 => ⟨rfl, h1⟩)) (fun M1 hS => w_X12_least (by decide) hS (fun M' h1 => ⟨rfl, h1⟩))
theorem so_groups (x : Int32) (h : JI n m M) (hn : n ≤ 511) : SmI 30 mdX11_groups mdX12_groups m [.int x] M (JI (n + 1) m) := by
  obtain ⟨X, A, st, sp, p, R, hJ⟩ := h
  have hI := hJ.2.2.1
  by_cases c : ∃ k, k ≤ 7 ∧ x = nI k
  · have c0 := c
    obtain ⟨k, k1, k2⟩ := c
    have un : ∀ {k'}, k' ≤ 7 → x = nI k' → k' = k := fun a b => by rw [k2] at b; exact (nInj b (by omega) (by omega)).symm
    exact js_I (v := nI (cG (lsG A k) (pn A))) (R' := lsR A k (pn A)) hJ (fun _ => hI.mono (by omega)) (w_X11_groups (by decide) hJ.cx (fun M' _ n => absurd c0 n) (fun M' k' a b h1 => by rw [un a b] at h1 ⊢; exact ⟨rfl, h1⟩)) (fun M1 hS => w_X12_groups (by decide) hS (fun M' _ n => absurd c0 n) (fun M' k' a b h1 => by rw [un a b] at h1 ⊢; exact ⟨rfl, h1⟩))
  · exact js_I (v := (-1 : Int32)) hJ (fun _ => hI.mono (by omega)) (w_X11_groups (by decide) hJ.cx (fun M' h1 _ => ⟨rfl, h1⟩) (fun M' k' a b => absurd ⟨k', a, b⟩ c)) (fun M1 hS => w_X12_groups (by decide) hS (fun M' h1 _ => ⟨rfl, h1⟩) (fun M' k' a b => absurd ⟨k', a, b⟩ c))
theorem so_costs (x : Int32) (h : JI n m M) (hn : n ≤ 511) : SmI 30 mdX11_costs mdX12_costs m [.int x] M (JI (n + 1) m) := by
  obtain ⟨X, A, st, sp, p, R, hJ⟩ := h
  have hI := hJ.2.2.1
  by_cases c : ∃ k, k ≤ 3 ∧ x = nI k
  · have c0 := c
    obtain ⟨k, k1, k2⟩ := c
    have un : ∀ {k'}, k' ≤ 3 → x = nI k' → k' = k := fun a b => by rw [k2] at b; exact (nInj b (by omega) (by omega)).symm
    exact js_I (v := csV A st sp k) (R' := csR A st sp k) hJ (fun _ => hI.mono (by omega)) (w_X11_costs (by decide) hJ.cx (fun M' _ n => absurd c0 n) (fun M' k' a b h1 => by rw [un a b] at h1 ⊢; exact ⟨rfl, h1⟩)) (fun M1 hS => w_X12_costs (by decide) hS hI (fun M' _ n => absurd c0 n) (fun M' k' a b h1 => by rw [un a b] at h1 ⊢; exact ⟨rfl, h1⟩))
  · exact js_I (v := (-1 : Int32)) hJ (fun _ => hI.mono (by omega)) (w_X11_costs (by decide) hJ.cx (fun M' h1 _ => ⟨rfl, h1⟩) (fun M' k' a b => absurd ⟨k', a, b⟩ c)) (fun M1 hS => w_X12_costs (by decide) hS hI (fun M' h1 _ => ⟨rfl, h1⟩) (fun M' k' a b => absurd ⟨k', a, b⟩ c))
theorem so_cheapest (h : JI n m M) (hn : n ≤ 511) : SmI 30 mdX11_cheapest mdX12_cheapest m [] M (JI (n + 1) m) := by
  obtain ⟨X, A, st, sp, p, R, hJ⟩ := h
  have hI := hJ.2.2.1
  exact js_I (v := nI (chF (csV A st sp) 4).1) hJ (fun _ => hI.mono (by omega)) (w_X11_cheapest (by decide) hJ.cx (fun M' h1 => ⟨rfl, h1⟩)) (fun M1 hS => w_X12_cheapest (by decide) hS hI (fun M' h1 => ⟨rfl, h1⟩))
end Ops3
