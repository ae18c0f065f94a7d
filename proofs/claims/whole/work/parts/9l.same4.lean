/-! the calls that change something: the same answers, the same changes -/
theorem prKE {X : List Nat} {n q : Nat} (h : prK X n) (g : prE X q) : False := by
  obtain ⟨⟨n1, n8⟩, hl, hu⟩ := h
  obtain ⟨g1, g2, g3⟩ := g
  have hq := gUp_le g1
  by_cases c : q < X.length
  · exact g2 (hu q c)
  · have e : q = X.length := by omega
    refine g3 ⟨e, ?_⟩
    have e2 : q = (2 * l0 X + 1) + (2 * l0 X + 2) * (n - 1) := by
      obtain ⟨k, rfl⟩ : ∃ k, n = k + 1 := ⟨n - 1, by omega⟩
      rw [Nat.add_mul, Nat.one_mul] at hl
      rw [show k + 1 - 1 = k by omega, Nat.mul_comm (2 * l0 X + 2) k]
      omega
    rw [e2, Nat.add_mul_mod_self_left, Nat.mod_eq_of_lt (by omega)]
theorem sw_len8 {A : PM} {T : List (List Nat)} {K : Nat → Nat} {w : List Nat} : ∀ f k, (sw A T K w f k).length ≤ f
  | 0, _ => Nat.le_refl _
  | f + 1, k => by
    show ((w ++ T.getD k []) :: (if K (k * 4 + an A (rn (pt A) 0 w) (T.getD k [])) < 100 then [] else sw A T K w f (K (k * 4 + an A (rn (pt A) 0 w) (T.getD k [])) - 100))).length ≤ f + 1
    rw [List.length_cons]
    split
    · simp
    · have := sw_len8 (A := A) (T := T) (K := K) (w := w) f (K (k * 4 + an A (rn (pt A) 0 w) (T.getD k [])) - 100)
      omega
section Ops2
variable {n m : Nat} {M : Mem}
theorem so_sign (v : Int32) (h : JI n m M) (hn : n ≤ 511) : SmI 30 mdX11_sign mdX12_sign m [.int v] M (JI (n + 1) m) := by
  obtain ⟨X, A, st, sp, p, R, hJ⟩ := h
  have hI := hJ.2.2.1
  by_cases c : X.length + 4 ≤ 64
  · exact js_I (v := nI (X.length + 4)) hJ (fun _ => hI.mono (by omega)) (w_X11_sign (by decide) hJ.cx (fun _ M' h1 => ⟨rfl, h1⟩) (fun z => absurd c z)) (fun M1 hS => w_X12_sign (by decide) hS (fun _ M' h1 => ⟨rfl, h1⟩) (fun z => absurd c z))
  · exact js_I (v := (-1 : Int32)) hJ (fun _ => hI.mono (by omega)) (w_X11_sign (by decide) hJ.cx (fun z => absurd z c) (fun _ M' h1 => ⟨rfl, h1⟩)) (fun M1 hS => w_X12_sign (by decide) hS (fun z => absurd z c) (fun _ M' h1 => ⟨rfl, h1⟩))
theorem so_end (x : Int32) (h : JI n m M) (hn : n ≤ 511) : SmI 30 mdX11_end mdX12_end m [.int x] M (JI (n + 1) m) := by
  obtain ⟨X, A, st, sp, p, R, hJ⟩ := h
  have hI := hJ.2.2.1
  have hX : X.length ≤ 64 := hJ.1.2.1.2.1
  by_cases c : ∃ k, k ≤ X.length ∧ x = nI k
  · obtain ⟨k, k1, k2⟩ := c
    have un : ∀ {k'}, k' ≤ X.length → x = nI k' → k' = k := fun a b => by rw [k2] at b; exact (nInj b (by omega) (by omega)).symm
    have no : ¬ (x < 0 ∨ nI X.length < x) := by
      rintro (z | z)
      · rw [k2] at z; exact nI_pos (by omega) z
      · rw [k2, nI_ltI (by omega) (by omega)] at z; omega
    exact js_I (v := nI 1) hJ (fun _ => hI.mono (by omega)) (w_X11_end (by decide) hJ.cx (fun k' a b M' h1 => ⟨rfl, by rw [un a b] at h1; exact h1⟩) (fun z => absurd z no)) (fun M1 hS => w_X12_end (by decide) hS (fun k' a b M' h1 => ⟨rfl, by rw [un a b] at h1; exact h1⟩) (fun z => absurd z no))
  · exact js_I (v := nI 0) hJ (fun _ => hI.mono (by omega)) (w_X11_end (by decide) hJ.cx (fun k' a b => absurd ⟨k', a, b⟩ c) (fun _ M' h1 => ⟨rfl, h1⟩)) (fun M1 hS => w_X12_end (by decide) hS (fun k' a b => absurd ⟨k', a, b⟩ c) (fun _ M' h1 => ⟨rfl, h1⟩))
theorem so_machine (h : JI n m M) (hn : n ≤ 511) : SmI 30 mdX11_machine mdX12_machine m [] M (JI (n + 1) m) := by
  obtain ⟨X, A, st, sp, p, R, hJ⟩ := h
  have hI := hJ.2.2.1
  have hm3 : qm p ≤ 3 := hI.2.2.1
  by_cases cK : ∃ k, prK X k
  · obtain ⟨k, hk⟩ := cK
    by_cases cl : clM (tA X k)
    · exact js_I (v := nI k) hJ (fun ok => (PI.new ok hm3).mono (by omega)) (w_X11_machine (by decide) hJ.cx hm3 (fun M' k' a b h1 => by rw [prK_un a hk] at h1 ⊢; exact ⟨rfl, h1⟩) (fun M' k' a b => absurd cl (by rw [prK_un a hk] at b; exact b)) (fun M' q a => (prKE hk a).elim)) (fun M1 hS => w_X12_machine (by decide) hS hm3 (fun M' k' a b h1 => by rw [prK_un a hk] at h1 ⊢; exact ⟨rfl, h1⟩) (fun M' k' a b => absurd cl (by rw [prK_un a hk] at b; exact b)) (fun M' q a => (prKE hk a).elim))
    · exact js_I (v := (-100 : Int32)) hJ (fun _ => hI.mono (by omega)) (w_X11_machine (by decide) hJ.cx hm3 (fun M' k' a b => absurd (by rw [prK_un a hk] at b; exact b) cl) (fun M' k' a b h1 => ⟨rfl, h1⟩) (fun M' q a => (prKE hk a).elim)) (fun M1 hS => w_X12_machine (by decide) hS hm3 (fun M' k' a b => absurd (by rw [prK_un a hk] at b; exact b) cl) (fun M' k' a b h1 => ⟨rfl, h1⟩) (fun M' q a => (prKE hk a).elim))
  · by_cases cE : ∃ q, prE X q
    · obtain ⟨q, hq⟩ := cE
      exact js_I (v := (-21 : Int32) - nI q) hJ (fun _ => hI.mono (by omega)) (w_X11_machine (by decide) hJ.cx hm3 (fun M' k' a b => absurd ⟨k', a⟩ cK) (fun M' k' a b => absurd ⟨k', a⟩ cK) (fun M' q' a h1 => by rw [prE_un a hq]; exact ⟨rfl, h1⟩)) (fun M1 hS => w_X12_machine (by decide) hS hm3 (fun M' k' a b => absurd ⟨k', a⟩ cK) (fun M' k' a b => absurd ⟨k', a⟩ cK) (fun M' q' a h1 => by rw [prE_un a hq]; exact ⟨rfl, h1⟩))
    · exact js_I (v := 0) (X' := X) (A' := A) (st' := st) (sp' := sp) (p' := p) (R' := R) hJ (fun _ => hI.mono (by omega)) (w_X11_machine (by decide) hJ.cx hm3 (fun M' k' a b => absurd ⟨k', a⟩ cK) (fun M' k' a b => absurd ⟨k', a⟩ cK) (fun M' q' a => absurd ⟨q', a⟩ cE)) (fun M1 hS => w_X12_machine (by decide) hS hm3 (fun M' k' a b => absurd ⟨k', a⟩ cK) (fun M' k' a b => absurd ⟨k', a⟩ cK) (fun M' q' a => absurd ⟨q', a⟩ cE))
theorem so_draws (seed x y z : Int32) (h : JI n m M) (hn : n ≤ 511) : SmI 30 mdX11_draws mdX12_draws m [.int seed, .int x, .int y, .int z] M (JI (n + 1) m) := by
  obtain ⟨X, A, st, sp, p, R, hJ⟩ := h
  have hI := hJ.2.2.1
  have hm3 : qm p ≤ 3 := hI.2.2.1
  by_cases c : ∃ n l k, (1 ≤ n ∧ n ≤ 8) ∧ (1 ≤ l ∧ l ≤ 3) ∧ (1 ≤ k ∧ k ≤ 4) ∧ x = nI n ∧ y = nI l ∧ z = nI k
  · have c0 := c
    obtain ⟨a, b, e, a1, b1, e1, a2, b2, e2⟩ := c
    have un : ∀ {a' b' e'}, (1 ≤ a' ∧ a' ≤ 8) → (1 ≤ b' ∧ b' ≤ 3) → (1 ≤ e' ∧ e' ≤ 4) → x = nI a' → y = nI b' → z = nI e' → a' = a ∧ b' = b ∧ e' = e := fun h1 h2 h3 h4 h5 h6 => by
      rw [a2] at h4; rw [b2] at h5; rw [e2] at h6
      exact ⟨(nInj h4 (by omega) (by omega)).symm, (nInj h5 (by omega) (by omega)).symm, (nInj h6 (by omega) (by omega)).symm⟩
    exact js_I (v := nI (uN (drM seed a b e))) hJ (fun ok => (PI.new ok hm3).mono (by omega)) (w_X11_draws (by decide) hJ.cx hm3 (fun M' a' b' e' h1 h2 h3 h4 h5 h6 h7 => by
      obtain ⟨r1, r2, r3⟩ := un h1 h2 h3 h4 h5 h6
      rw [r1, r2, r3] at h7 ⊢; exact ⟨rfl, h7⟩) (fun M' _ n => absurd c0 n)) (fun M1 hS => w_X12_draws (by decide) hS hm3 (fun M' a' b' e' h1 h2 h3 h4 h5 h6 h7 => by
      obtain ⟨r1, r2, r3⟩ := un h1 h2 h3 h4 h5 h6
      rw [r1, r2, r3] at h7 ⊢; exact ⟨rfl, h7⟩) (fun M' _ n => absurd c0 n))
  · exact js_I (v := (-1 : Int32)) hJ (fun _ => hI.mono (by omega)) (w_X11_draws (by decide) hJ.cx hm3 (fun M' a' b' e' h1 h2 h3 h4 h5 h6 => absurd ⟨a', b', e', h1, h2, h3, h4, h5, h6⟩ c) (fun M' h1 _ => ⟨rfl, h1⟩)) (fun M1 hS => w_X12_draws (by decide) hS hm3 (fun M' a' b' e' h1 h2 h3 h4 h5 h6 => absurd ⟨a', b', e', h1, h2, h3, h4, h5, h6⟩ c) (fun M' h1 _ => ⟨rfl, h1⟩))
theorem so_prices (x y : Int32) (h : JI n m M) (hn : n ≤ 511) : SmI 30 mdX11_prices mdX12_prices m [.int x, .int y] M (JI (n + 1) m) := by
  obtain ⟨X, A, st, sp, p, R, hJ⟩ := h
  have hI := hJ.2.2.1
  by_cases c : ∃ a b, a ≤ 99 ∧ b ≤ 99 ∧ x = nI a ∧ y = nI b
  · have c0 := c
    obtain ⟨a, b, a1, b1, a2, b2⟩ := c
    have un : ∀ {a' b'}, a' ≤ 99 → b' ≤ 99 → x = nI a' → y = nI b' → a' = a ∧ b' = b := fun h1 h2 h3 h4 => by
      rw [a2] at h3; rw [b2] at h4
      exact ⟨(nInj h3 (by omega) (by omega)).symm, (nInj h4 (by omega) (by omega)).symm⟩
    exact js_I (v := nI 1) hJ (fun _ => hI.mono (by omega)) (w_X11_prices (by decide) hJ.cx (fun M' _ n => absurd c0 n) (fun a' b' h1 h2 h3 h4 M' h5 => by
      obtain ⟨r1, r2⟩ := un h1 h2 h3 h4
      rw [r1, r2] at h5; exact ⟨rfl, h5⟩)) (fun M1 hS => w_X12_prices (by decide) hS (fun M' _ n => absurd c0 n) (fun a' b' h1 h2 h3 h4 M' h5 => by
      obtain ⟨r1, r2⟩ := un h1 h2 h3 h4
      rw [r1, r2] at h5; exact ⟨rfl, h5⟩))
  · exact js_I (v := nI 0) hJ (fun _ => hI.mono (by omega)) (w_X11_prices (by decide) hJ.cx (fun M' h1 _ => ⟨rfl, h1⟩) (fun a' b' h1 h2 h3 h4 => absurd ⟨a', b', h1, h2, h3, h4⟩ c)) (fun M1 hS => w_X12_prices (by decide) hS (fun M' h1 _ => ⟨rfl, h1⟩) (fun a' b' h1 h2 h3 h4 => absurd ⟨a', b', h1, h2, h3, h4⟩ c))
theorem so_method (x : Int32) (h : JI n m M) (hn : n ≤ 511) : SmI 30 mdX11_method mdX12_method m [.int x] M (JI (n + 1) m) := by
  obtain ⟨X, A, st, sp, p, R, hJ⟩ := h
  have hI := hJ.2.2.1
  have hm3 : qm p ≤ 3 := hI.2.2.1
  by_cases c : ∃ k, k ≤ 3 ∧ x = nI k
  · have c0 := c
    obtain ⟨k, k1, k2⟩ := c
    have un : ∀ {k'}, k' ≤ 3 → x = nI k' → k' = k := fun a b => by rw [k2] at b; exact (nInj b (by omega) (by omega)).symm
    exact js_I (v := nI (qm p)) hJ (fun ok => (PI.new ok k1).mono (by omega)) (w_X11_method (by decide) hJ.cx (fun M' k' a b h1 => by rw [un a b] at h1; exact ⟨rfl, h1⟩) (fun M' _ n => absurd c0 n)) (fun M1 hS => w_X12_method (by decide) hS hm3 (fun M' k' a b h1 => by rw [un a b] at h1; exact ⟨rfl, h1⟩) (fun M' _ n => absurd c0 n))
  · exact js_I (v := (-1 : Int32)) hJ (fun _ => hI.mono (by omega)) (w_X11_method (by decide) hJ.cx (fun M' k' a b => absurd ⟨k', a, b⟩ c) (fun M' h1 _ => ⟨rfl, h1⟩)) (fun M1 hS => w_X12_method (by decide) hS hm3 (fun M' k' a b => absurd ⟨k', a, b⟩ c) (fun M' h1 _ => ⟨rfl, h1⟩))
theorem so_asks (x : Int64) (h : JI n m M) (hn : n ≤ 511) : SmI 30 mdX11_asks mdX12_asks m [.long x] M (JI (n + 1) m) := by
  obtain ⟨X, A, st, sp, p, R, hJ⟩ := h
  have hI := hJ.2.2.1
  have hA := hJ.1.ok
  have l3 := hA.2.1.2
  have hN : 8 * n ≤ 4600 := by omega
  by_cases c : ∃ w, isW (pl A) x w
  · have c0 := c
    obtain ⟨w, hw⟩ := c
    have un : ∀ {w'}, isW (pl A) x w' → w' = w := fun h' => isW_inj (by omega) h' hw
    exact js_I (v := nI (an A 0 w)) hJ (fun _ => (PI.more (n := 1) hI (aS_nodup hI.1.2.2) (fun u hu => (aS_mem _ _ _ _ _).mpr (Or.inl hu)) ⟨[w], Nat.le_refl 1, fun u hu => ((aS_mem _ _ _ _ _).mp hu).imp id (fun e => by rw [e]; exact List.mem_singleton.mpr rfl)⟩).mono (by omega)) (w_X11_asks (by decide) hJ.cx hI hN (fun M' w' a h1 => by rw [un a] at h1 ⊢; exact ⟨rfl, h1⟩) (fun M' _ n => absurd c0 n)) (fun M1 hS => w_X12_asks (by decide) hS hI hN (fun M' w' a h1 => by rw [un a] at h1 ⊢; exact ⟨rfl, h1⟩) (fun M' _ n => absurd c0 n))
  · exact js_I (v := (-1 : Int32)) hJ (fun _ => hI.mono (by omega)) (w_X11_asks (by decide) hJ.cx hI hN (fun M' w' a => absurd ⟨w', a⟩ c) (fun M' h1 _ => ⟨rfl, h1⟩)) (fun M1 hS => w_X12_asks (by decide) hS hI hN (fun M' w' a => absurd ⟨w', a⟩ c) (fun M' h1 _ => ⟨rfl, h1⟩))
end Ops2
