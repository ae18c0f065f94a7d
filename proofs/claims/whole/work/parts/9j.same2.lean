/-! the calls that change nothing, on -/
section Det2
variable {A : PM} {p : PS}
theorem det_cell {l : Nat} (hl : l ≤ 3) {H T S : List (List Nat)} (hH : H.length < 2 ^ 31) (hT : T.length < 2 ^ 31) (c : Prop) (f : List Nat → Int32) (x y z : Int32) : ∃ v : Int32, ∀ q : Int32 → Prop, q v → ((¬ ∃ k o e, k < H.length ∧ (∀ i, o = some i → i < l) ∧ e < T.length ∧ x = nI k ∧ y = eo o ∧ z = nI e) → q (-1 : Int32)) ∧ ∀ k o e, k < H.length → (∀ i, o = some i → i < l) → e < T.length → x = nI k → y = eo o → z = nI e → (c → q (-2 : Int32)) ∧ (¬ c → (H.getD k [] ++ o.toList ++ T.getD e [] ∉ S → q (-3 : Int32)) ∧ (H.getD k [] ++ o.toList ++ T.getD e [] ∈ S → q (f (H.getD k [] ++ o.toList ++ T.getD e [])))) := by
  by_cases h : ∃ k o e, k < H.length ∧ (∀ i, o = some i → i < l) ∧ e < T.length ∧ x = nI k ∧ y = eo o ∧ z = nI e
  · have h0 := h
    obtain ⟨k, o, e, h1, h2, h3, h4, h5, h6⟩ := h
    have un : ∀ {k' : Nat} {o' : Option Nat} {e' : Nat}, k' < H.length → (∀ i, o' = some i → i < l) → e' < T.length → x = nI k' → y = eo o' → z = nI e' → k' = k ∧ o' = o ∧ e' = e := fun a b c d e f => by
      rw [h4] at d; rw [h5] at e; rw [h6] at f
      exact ⟨(nInj d (by omega) (by omega)).symm, ((eo_inj (fun j hj => by have := h2 j hj; omega) (fun j hj => by have := b j hj; omega)).mp e).symm, (nInj f (by omega) (by omega)).symm⟩
    obtain ⟨W, hW⟩ : ∃ W, W = H.getD k [] ++ o.toList ++ T.getD e [] := ⟨_, rfl⟩
    by_cases cc : c
    · refine ⟨-2, fun q hq => ⟨fun n => absurd h0 n, fun k' o' e' a b d e2 f g => ⟨fun _ => hq, fun n => absurd cc n⟩⟩⟩
    · by_cases cs : W ∈ S
      · refine ⟨f W, fun q hq => ⟨fun n => absurd h0 n, fun k' o' e' a b d e2 f2 g => ⟨fun n => absurd n cc, fun _ => ?_⟩⟩⟩
        obtain ⟨r1, r2, r3⟩ := un a b d e2 f2 g
        rw [r1, r2, r3, ← hW]
        exact ⟨fun n => absurd cs n, fun _ => hq⟩
      · refine ⟨-3, fun q hq => ⟨fun n => absurd h0 n, fun k' o' e' a b d e2 f2 g => ⟨fun n => absurd n cc, fun _ => ?_⟩⟩⟩
        obtain ⟨r1, r2, r3⟩ := un a b d e2 f2 g
        rw [r1, r2, r3, ← hW]
        exact ⟨fun _ => hq, fun n => absurd n cs⟩
  · exact ⟨-1, fun q hq => ⟨fun _ => hq, fun k' o' e' a b d e2 f g => absurd ⟨k', o', e', a, b, d, e2, f, g⟩ h⟩⟩
theorem det_knot {T : List (List Nat)} (hT : T.length < 2 ^ 31) (c : Prop) (K : Nat → Nat) (x y : Int32) : ∃ v : Int32, ∀ q : Int32 → Prop, q v → ((¬ ∃ o, o < 4 ∧ y = nI o) → q (-1 : Int32)) ∧ ∀ o, o < 4 → y = nI o → (¬ c → q (-2 : Int32)) ∧ (c → ((¬ ∃ k, k < T.length ∧ x = nI k) → q (-1 : Int32)) ∧ ∀ k, k < T.length → x = nI k → (K (4 * k + o) = 0 → q (-3 : Int32)) ∧ (K (4 * k + o) ≠ 0 → q (kcI (K (4 * k + o))))) := by
  by_cases h : ∃ o, o < 4 ∧ y = nI o
  · have h0 := h
    obtain ⟨o, o1, o2⟩ := h
    have un : ∀ {o'}, o' < 4 → y = nI o' → o' = o := fun a b => by rw [o2] at b; exact (nInj b (by omega) (by omega)).symm
    by_cases cc : c
    · by_cases hk : ∃ k, k < T.length ∧ x = nI k
      · have hk0 := hk
        obtain ⟨k, k1, k2⟩ := hk
        have uk : ∀ {k'}, k' < T.length → x = nI k' → k' = k := fun a b => by rw [k2] at b; exact (nInj b (by omega) (by omega)).symm
        by_cases z : K (4 * k + o) = 0
        · refine ⟨-3, fun q hq => ⟨fun n => absurd h0 n, fun o' a b => ⟨fun n => absurd cc n, fun _ => ⟨fun n => absurd hk0 n, fun k' d e => ?_⟩⟩⟩⟩
          rw [un a b, uk d e]; exact ⟨fun _ => hq, fun n => absurd z n⟩
        · refine ⟨kcI (K (4 * k + o)), fun q hq => ⟨fun n => absurd h0 n, fun o' a b => ⟨fun n => absurd cc n, fun _ => ⟨fun n => absurd hk0 n, fun k' d e => ?_⟩⟩⟩⟩
          rw [un a b, uk d e]; exact ⟨fun n => absurd n z, fun _ => hq⟩
      · exact ⟨-1, fun q hq => ⟨fun _ => hq, fun o' a b => ⟨fun n => absurd cc n, fun _ => ⟨fun _ => hq, fun k' d e => absurd ⟨k', d, e⟩ hk⟩⟩⟩⟩
    · exact ⟨-2, fun q hq => ⟨fun n => absurd h0 n, fun o' a b => ⟨fun _ => hq, fun n => absurd n cc⟩⟩⟩
  · exact ⟨-1, fun q hq => ⟨fun _ => hq, fun o' a b => absurd ⟨o', a, b⟩ h⟩⟩
theorem det_guessed {l : Nat} (hl : l ≤ 3) (gg : Option GU) (x y : Int32) : ∃ v : Int32, ∀ q : Int32 → Prop, q v → ((¬ ∃ k, k ≤ l ∧ y = nI k) ∨ (¬ ∃ s, s < 8 ∧ x = nI s) → q (-1 : Int32)) ∧ ∀ s k, s < 8 → x = nI s → k ≤ l → y = nI k → (gg = none → q (-2 : Int32)) ∧ ∀ g, gg = some g → (¬ s < pn g.2 → q (-1 : Int32)) ∧ (s < pn g.2 → (k = 0 → q (nI (po g.2 s))) ∧ ∀ z, z < l → k = z + 1 → q (nI (pt g.2 s z))) := by
  by_cases h1 : ∃ k, k ≤ l ∧ y = nI k
  · by_cases h2 : ∃ s, s < 8 ∧ x = nI s
    · have h10 := h1
      have h20 := h2
      obtain ⟨k, k1, k2⟩ := h1
      obtain ⟨s, s1, s2⟩ := h2
      have uk : ∀ {k'}, k' ≤ l → y = nI k' → k' = k := fun a b => by rw [k2] at b; exact (nInj b (by omega) (by omega)).symm
      have us : ∀ {s'}, s' < 8 → x = nI s' → s' = s := fun a b => by rw [s2] at b; exact (nInj b (by omega) (by omega)).symm
      have no : ¬ ((¬ ∃ k, k ≤ l ∧ y = nI k) ∨ (¬ ∃ s, s < 8 ∧ x = nI s)) := fun z => z.elim (fun n => n h10) (fun n => n h20)
      cases e : gg with
      | none => exact ⟨-2, fun q hq => ⟨fun n => absurd n no, fun s' k' a b c d => ⟨fun _ => hq, fun g hg => by cases hg⟩⟩⟩
      | some g =>
        by_cases c : s < pn g.2
        · cases k with
          | zero =>
            refine ⟨nI (po g.2 s), fun q hq => ⟨fun n => absurd n no, fun s' k' a b c2 d => ⟨fun n => (by cases n), fun g' hg => ?_⟩⟩⟩
            cases hg
            rw [us a b, uk c2 d]
            exact ⟨fun n => absurd c n, fun _ => ⟨fun _ => hq, fun z _ n => by omega⟩⟩
          | succ k =>
            refine ⟨nI (pt g.2 s k), fun q hq => ⟨fun n => absurd n no, fun s' k' a b c2 d => ⟨fun n => (by cases n), fun g' hg => ?_⟩⟩⟩
            cases hg
            rw [us a b, uk c2 d]
            exact ⟨fun n => absurd c n, fun _ => ⟨fun n => by omega, fun z _ n => by rw [show z = k by omega]; exact hq⟩⟩
        · refine ⟨-1, fun q hq => ⟨fun n => absurd n no, fun s' k' a b c2 d => ⟨fun n => (by cases n), fun g' hg => ?_⟩⟩⟩
          cases hg
          rw [us a b]
          exact ⟨fun _ => hq, fun n => absurd n c⟩
    · exact ⟨-1, fun q hq => ⟨fun _ => hq, fun s' k' a b _ _ => absurd ⟨s', a, b⟩ h2⟩⟩
  · exact ⟨-1, fun q hq => ⟨fun _ => hq, fun s' k' _ _ a b => absurd ⟨k', a, b⟩ h1⟩⟩
theorem det_access (gg : Option GU) (x : Int32) : ∃ v : Int64, ∀ q : Int64 → Prop, q v → ((¬ ∃ s, s < 8 ∧ x = nI s) → q (-1 : Int64)) ∧ ∀ s, s < 8 → x = nI s → (gg = none → q (-2 : Int64)) ∧ ∀ g, gg = some g → (¬ s < pn g.2 → q (-1 : Int64)) ∧ (s < pn g.2 → q (lN (cd (g.1.getD s [])))) := by
  by_cases h2 : ∃ s, s < 8 ∧ x = nI s
  · have h20 := h2
    obtain ⟨s, s1, s2⟩ := h2
    have us : ∀ {s'}, s' < 8 → x = nI s' → s' = s := fun a b => by rw [s2] at b; exact (nInj b (by omega) (by omega)).symm
    cases e : gg with
    | none => exact ⟨-2, fun q hq => ⟨fun n => absurd h20 n, fun s' a b => ⟨fun _ => hq, fun g hg => by cases hg⟩⟩⟩
    | some g =>
      by_cases c : s < pn g.2
      · refine ⟨lN (cd (g.1.getD s [])), fun q hq => ⟨fun n => absurd h20 n, fun s' a b => ⟨fun n => (by cases n), fun g' hg => ?_⟩⟩⟩
        cases hg
        rw [us a b]
        exact ⟨fun n => absurd c n, fun _ => hq⟩
      · refine ⟨-1, fun q hq => ⟨fun n => absurd h20 n, fun s' a b => ⟨fun n => (by cases n), fun g' hg => ?_⟩⟩⟩
        cases hg
        rw [us a b]
        exact ⟨fun _ => hq, fun n => absurd n c⟩
  · exact ⟨-1, fun q hq => ⟨fun _ => hq, fun s' a b => absurd ⟨s', a, b⟩ h2⟩⟩
theorem det_errs (gg : Option GU) (f : GU → Int64) : ∃ v : Int64, ∀ q : Int64 → Prop, q v → (gg = none → q (-2 : Int64)) ∧ ∀ g, gg = some g → q (f g) := by
  cases e : gg with
  | none => exact ⟨-2, fun q hq => ⟨fun _ => hq, fun g hg => by cases hg⟩⟩
  | some g => exact ⟨f g, fun q hq => ⟨fun n => (by cases n), fun g' hg => (by cases hg; exact hq)⟩⟩
theorem det_passes (gg : Option GU) (f : GU → Nat → Int64) (x : Int32) : ∃ v : Int64, ∀ q : Int64 → Prop, q v → ((¬ ∃ k, k ≤ 2 ∧ x = nI k) → q (-1 : Int64)) ∧ ∀ k, k ≤ 2 → x = nI k → (gg = none → q (-2 : Int64)) ∧ ∀ g, gg = some g → q (f g k) := by
  by_cases h : ∃ k, k ≤ 2 ∧ x = nI k
  · have h0 := h
    obtain ⟨k, k1, k2⟩ := h
    have uk : ∀ {k'}, k' ≤ 2 → x = nI k' → k' = k := fun a b => by rw [k2] at b; exact (nInj b (by omega) (by omega)).symm
    obtain ⟨v, hv⟩ := det_errs gg (fun g => f g k)
    refine ⟨v, fun q hq => ⟨fun n => absurd h0 n, fun k' a b => ?_⟩⟩
    rw [uk a b]; exact hv q hq
  · exact ⟨-1, fun q hq => ⟨fun _ => hq, fun k' a b => absurd ⟨k', a, b⟩ h⟩⟩
theorem det_parted (gg : Option GU) (f : GU → Nat → Nat → Int64) (x y : Int32) : ∃ v : Int64, ∀ q : Int64 → Prop, q v → ((¬ ∃ s t, s < 8 ∧ t < 8 ∧ x = nI s ∧ y = nI t) → q (-1 : Int64)) ∧ ∀ s t, s < 8 → t < 8 → x = nI s → y = nI t → (gg = none → q (-2 : Int64)) ∧ ∀ g, gg = some g → (¬ (s < pn g.2 ∧ t < pn g.2) → q (-1 : Int64)) ∧ (s < pn g.2 → t < pn g.2 → q (f g s t)) := by
  by_cases h : ∃ s t, s < 8 ∧ t < 8 ∧ x = nI s ∧ y = nI t
  · have h0 := h
    obtain ⟨s, t, s1, t1, s2, t2⟩ := h
    have us : ∀ {s'}, s' < 8 → x = nI s' → s' = s := fun a b => by rw [s2] at b; exact (nInj b (by omega) (by omega)).symm
    have ut : ∀ {t'}, t' < 8 → y = nI t' → t' = t := fun a b => by rw [t2] at b; exact (nInj b (by omega) (by omega)).symm
    cases e : gg with
    | none => exact ⟨-2, fun q hq => ⟨fun n => absurd h0 n, fun s' t' a b c d => ⟨fun _ => hq, fun g hg => by cases hg⟩⟩⟩
    | some g =>
      by_cases c : s < pn g.2 ∧ t < pn g.2
      · refine ⟨f g s t, fun q hq => ⟨fun n => absurd h0 n, fun s' t' a b c2 d => ⟨fun n => (by cases n), fun g' hg => ?_⟩⟩⟩
        cases hg
        rw [us a c2, ut b d]
        exact ⟨fun n => absurd c n, fun _ _ => hq⟩
      · refine ⟨-1, fun q hq => ⟨fun n => absurd h0 n, fun s' t' a b c2 d => ⟨fun n => (by cases n), fun g' hg => ?_⟩⟩⟩
        cases hg
        rw [us a c2, ut b d]
        exact ⟨fun _ => hq, fun n1 n2 => absurd ⟨n1, n2⟩ c⟩
  · exact ⟨-1, fun q hq => ⟨fun _ => hq, fun s' t' a b c d => absurd ⟨s', t', a, b, c, d⟩ h⟩⟩
theorem det_like {n : Nat} (hn : n ≤ 8) (f : Nat → Nat → Int64) (x y : Int32) : ∃ v : Int64, ∀ q : Int64 → Prop, q v → ((¬ ∃ s t, s < n ∧ t < n ∧ x = nI s ∧ y = nI t) → q (-1 : Int64)) ∧ ∀ s t, s < n → t < n → x = nI s → y = nI t → q (f s t) := by
  by_cases h : ∃ s t, s < n ∧ t < n ∧ x = nI s ∧ y = nI t
  · have h0 := h
    obtain ⟨s, t, s1, t1, s2, t2⟩ := h
    refine ⟨f s t, fun q hq => ⟨fun n => absurd h0 n, fun s' t' a b c d => ?_⟩⟩
    rw [s2] at c; rw [t2] at d
    rw [← nInj c (by omega) (by omega), ← nInj d (by omega) (by omega)]; exact hq
  · exact ⟨-1, fun q hq => ⟨fun _ => hq, fun s' t' a b c d => absurd ⟨s', t', a, b, c, d⟩ h⟩⟩
theorem det_reach {n : Nat} (hn : n ≤ 8) (f : Nat → Int64) (x : Int32) : ∃ v : Int64, ∀ q : Int64 → Prop, q v → (∀ s, s < n → x = nI s → q (f s)) ∧ ((¬ ∃ s, s < n ∧ x = nI s) → q (-1 : Int64)) := by
  by_cases h : ∃ s, s < n ∧ x = nI s
  · have h0 := h
    obtain ⟨s, s1, s2⟩ := h
    refine ⟨f s, fun q hq => ⟨fun s' a b => ?_, fun n => absurd h0 n⟩⟩
    rw [s2] at b; rw [← nInj b (by omega) (by omega)]; exact hq
  · exact ⟨-1, fun q hq => ⟨fun s' a b => absurd ⟨s', a, b⟩ h, fun _ => hq⟩⟩
end Det2
