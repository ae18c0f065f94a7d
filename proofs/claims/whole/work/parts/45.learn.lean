/-! what is learnt: how many heads and tails come -/
theorem rnO_cons (A : PM) (s : Option Nat) (x : Nat) (w : List Nat) : rnO A s (x :: w) = rnO A (nx A s x) w := rfl
theorem ao_cons {A : PM} {p x : Nat} {e : List Nat} (hp : p < pn A) (hx : x < pl A) : ao A p (x :: e) = ao A (pt A p x) e := by
  unfold ao
  rw [rnO_cons, show nx A (some p) x = some (pt A p x) from if_pos ⟨hp, hx⟩]
theorem en_old {A : PM} {H D : List (List Nat)} {k : Nat} (hk : k < H.length) : en A (H ++ D) k = en A H k := by unfold en; rw [getD_pre ⟨D, rfl⟩ hk]
def clo (A : PM) (H T : List (List Nat)) : Prop := ∀ i, i < H.length * pl A → ¬ opn A H T i
def con2 (A : PM) (H T : List (List Nat)) : Prop := ∀ i, i < H.length * H.length → ¬ ptP A H T i
noncomputable def qc (A : PM) (H T : List (List Nat)) : Nat := cR (lkH A T H) H.length
def vH (A : PM) (H : List (List Nat)) : Prop := ∀ h, h ∈ H → vw (pl A) h
theorem enl {A : PM} {H : List (List Nat)} (hA : okM A) (h : vH A H) {j : Nat} (hj : j < H.length) : en A H j < pn A := rn_lt hA hA.1.1 (h _ (getD_mem hj))
theorem lkH_eqv (A : PM) (T H : List (List Nat)) : eqv (lkH A T H) := ⟨fun _ => (lk_eqv A T).1 _, fun _ _ h => (lk_eqv A T).2.1 _ _ h, fun _ _ _ h g => (lk_eqv A T).2.2 _ _ _ h g⟩
theorem qc_le {A : PM} {H T : List (List Nat)} (hA : okM A) (hH : vH A H) : qc A H T ≤ pn A :=
  cR_pig_le (f := fun k => en A H k) (fun a b _ _ e => by
    have e : en A H a = en A H b := e
    unfold lkH; rw [e]; exact (lk_eqv A T).1 _) (fun a ha => enl hA hH ha)
theorem qc_app {A : PM} {H D T : List (List Nat)} : qc A H T ≤ qc A (H ++ D) T := by
  have h1 : cR (lkH A T H) H.length = cR (lkH A T (H ++ D)) H.length := cR_eq fun a b h1 h2 => by
    unfold lkH; rw [en_old (by omega), en_old (by omega)]
  unfold qc
  rw [h1]
  exact cR_mono (by simp)
/-- a head that closes the table -/
theorem qc_open {A : PM} {H T : List (List Nat)} {i : Nat} (hi : i < H.length * pl A) (ho : opn A H T i) : qc A (H ++ [hx A H i]) T = qc A H T + 1 := by
  have h1 : cR (lkH A T H) H.length = cR (lkH A T (H ++ [hx A H i])) H.length := cR_eq fun a b h1 h2 => by
    unfold lkH; rw [en_old (by omega), en_old (by omega)]
  unfold qc
  rw [List.length_append, List.length_singleton, h1]
  refine cR_no ?_
  rintro ⟨t, t1, t2⟩
  unfold lkH at t2
  rw [en_old t1] at t2
  have e : en A (H ++ [hx A H i]) H.length = pt A (en A H (i / pl A)) (i % pl A) := by
    unfold en
    rw [show (H ++ [hx A H i]).getD H.length [] = hx A H i from qk_new _ _]
    unfold hx; rw [rn_snoc]
  rw [e] at t2
  exact ho t t1 t2
theorem hx_v {A : PM} {H : List (List Nat)} (hH : vH A H) {i : Nat} (hi : i < H.length * pl A) : vw (pl A) (hx A H i) := by
  obtain ⟨a, b, -⟩ := ix_sp hi
  unfold hx
  exact vw_app.mpr ⟨hH _ (getD_mem a), fun v hv => by rw [List.mem_singleton] at hv; rw [hv]; exact b⟩
theorem vH_snoc {A : PM} {H : List (List Nat)} {w : List Nat} (hH : vH A H) (hw : vw (pl A) w) : vH A (H ++ [w]) := fun h hh => by
  rcases List.mem_append.mp hh with g | g
  · exact hH h g
  · rw [List.mem_singleton] at g; rw [g]; exact hw
theorem open_le {A : PM} {H T : List (List Nat)} (hA : okM A) (hH : vH A H) {i : Nat} (hi : i < H.length * pl A) (ho : opn A H T i) : qc A H T + 1 ≤ pn A := by
  rw [← qc_open hi ho]; exact qc_le hA (vH_snoc hH (hx_v hH hi))
/-- what a finer table has -/
theorem qc_finer {A : PM} {H T D : List (List Nat)} : qc A H T ≤ qc A H (T ++ D) := by
  unfold qc
  exact cR_fine fun a b _ _ h => fun e he => h e (by simp [he])
theorem qc_part {A : PM} {H T D : List (List Nat)} {a b : Nat} (ha : a < H.length) (hb : b < H.length) (h1 : lkH A T H a b) (h2 : ¬ lkH A (T ++ D) H a b) : qc A H T + 1 ≤ qc A H (T ++ D) :=
  cR_lt (lkH_eqv A T H) (lkH_eqv A (T ++ D) H) (fun a b _ _ h => fun e he => h e (by simp [he])) ha hb h1 h2
/-- the tail of two that are parted -/
theorem nTl_of {A : PM} {H T : List (List Nat)} {i : Nat} (hi : i < H.length * H.length) (hp : ptP A H T i) : ∃ a b x e, (a < H.length ∧ b < H.length ∧ x < pl A ∧ e ∈ T) ∧ lkH A T H a b ∧ nTl A H T i = x :: e ∧ ao A (pt A (en A H a) x) e ≠ ao A (pt A (en A H b) x) e := by
  obtain ⟨g1, g2, -⟩ := ix_sp hi
  obtain ⟨h1, h2, y, y1, y2⟩ := hp
  have hF := ff_is (pl A) (ptX A H T (i / H.length) (i % H.length))
  obtain ⟨x, hx⟩ : ∃ x, ff (pl A) (ptX A H T (i / H.length) (i % H.length)) = some x := by
    cases hc : ff (pl A) (ptX A H T (i / H.length) (i % H.length)) with
    | none => rw [hc] at hF; exact absurd y2 (hF y y1)
    | some x => exact ⟨x, rfl⟩
  rw [hx] at hF
  have ex : fPx A H T (i / H.length) (i % H.length) = x := by unfold fPx; rw [hx]; rfl
  have hG := ff_is T.length (fun j => ao A (pt A (en A H (i / H.length)) x) (T.getD j []) ≠ ao A (pt A (en A H (i % H.length)) x) (T.getD j []))
  obtain ⟨j, hj⟩ : ∃ j, ff T.length (fun j => ao A (pt A (en A H (i / H.length)) x) (T.getD j []) ≠ ao A (pt A (en A H (i % H.length)) x) (T.getD j [])) = some j := by
    cases hc : ff T.length (fun j => ao A (pt A (en A H (i / H.length)) x) (T.getD j []) ≠ ao A (pt A (en A H (i % H.length)) x) (T.getD j [])) with
    | none =>
      rw [hc] at hG
      refine absurd (fun e he => ?_) hF.2.1
      obtain ⟨j, j1, rfl⟩ := mem_getD he
      exact Classical.byContradiction (hG j j1)
    | some j => exact ⟨j, rfl⟩
  rw [hj] at hG
  have ej : fPe A T (pt A (en A H (i / H.length)) x) (pt A (en A H (i % H.length)) x) = j := by unfold fPe; rw [hj]; rfl
  refine ⟨i / H.length, i % H.length, x, T.getD j [], ⟨g1, g2, hF.1, getD_mem hG.1⟩, h2, ?_, hG.2.1⟩
  unfold nTl; rw [ex, ej]
theorem qc_tail {A : PM} {H T : List (List Nat)} (hA : okM A) (hH : vH A H) {i : Nat} (hi : i < H.length * H.length) (hp : ptP A H T i) : qc A H T + 1 ≤ qc A H (T ++ [nTl A H T i]) := by
  obtain ⟨a, b, x, e, ⟨a1, b1, x1, e1⟩, h1, h2, h3⟩ := nTl_of hi hp
  refine qc_part a1 b1 h1 (fun q => h3 ?_)
  have := q (nTl A H T i) (by simp)
  rw [h2, ao_cons (enl hA hH a1) x1, ao_cons (enl hA hH b1) x1] at this
  exact this
theorem part_le {A : PM} {H T : List (List Nat)} (hA : okM A) (hH : vH A H) {i : Nat} (hi : i < H.length * H.length) (hp : ptP A H T i) : qc A H T + 1 ≤ pn A :=
  Nat.le_trans (qc_tail hA hH hi hp) (qc_le hA hH)
-- the guess of a closed table answers by its access words
theorem vT {A : PM} {H T : List (List Nat)} (hH : vH A H) : vH A (aT A H T) := fun w hw => hH w (aT_mem (Nat.le_refl _) hw)
theorem gT_run {A : PM} {H T : List (List Nat)} (hA : okM A) (hH : okV A H) (hne : 0 < H.length) (hc : clo A H T) {u : List Nat} (hu : vw (pl A) u) : rn (pt (gT A H T)) 0 u < (aT A H T).length := by
  have h1 := gT_ok hA hH hne (show isF (H.length * pl A) (opn A H T) none from hc)
  exact rn_lt (A := gT A H T) h1.1 h1.1.1.1 hu
theorem aT_0 {A : PM} {H T D : List (List Nat)} (h : H = [] :: D) : (aT A H T).getD 0 [] = [] := by
  have hk : 0 < H.length := by rw [h]; simp
  obtain ⟨g1, g2⟩ := aC_of (A := A) (T := T) (H := H) hk (fun ⟨t, t1, _⟩ => by omega)
  have : (aT A H T).getD (cR (lkH A T H) 0) [] = H.getD 0 [] := g2
  rw [show cR (lkH A T H) 0 = 0 from rfl] at this
  rw [this, h]; rfl
/-- METHOD 0: behind a lesson the table is not consistent -/
theorem les0 {A : PM} {H T H' D : List (List Nat)} {w : List Nat} (hA : okM A) (hH : okV A H) (h0 : H = [] :: D) (hT0 : [] ∈ T) (hc : clo A H T) (hw : vw (pl A) w) (hsub : ∀ h, h ∈ H → h ∈ H') (hpre : ∀ n, n ≤ w.length → w.take n ∈ H') (hv : vH A H') (hwr : an (gT A H T) 0 w ≠ an A 0 w) : ¬ con2 A H' T := by
  intro hcs
  have hne : 0 < H.length := by rw [h0]; simp
  have hok := gT_ok hA hH hne (show isF (H.length * pl A) (opn A H T) none from hc)
  -- like heads go on alike
  have con : ∀ u v x, u ∈ H' → v ∈ H' → x < pl A → lk A T (rn (pt A) 0 u) (rn (pt A) 0 v) → lk A T (pt A (rn (pt A) 0 u) x) (pt A (rn (pt A) 0 v) x) := by
    intro u v x hu hv hx hl
    obtain ⟨i, i1, rfl⟩ := mem_getD hu
    obtain ⟨j, j1, rfl⟩ := mem_getD hv
    refine Classical.byContradiction fun hno => ?_
    rcases Nat.lt_trichotomy i j with g | g | g
    · refine hcs (i * H'.length + j) (ix_lt i1 j1) ?_
      unfold ptP
      rw [ix_div j1, ix_mod j1]
      exact ⟨g, hl, x, hx, hno⟩
    · subst g; exact hno ((lk_eqv A T).1 _)
    · refine hcs (j * H'.length + i) (ix_lt j1 i1) ?_
      unfold ptP
      rw [ix_div i1, ix_mod i1]
      exact ⟨g, (lk_eqv A T).2.1 _ _ hl, x, hx, fun q => hno ((lk_eqv A T).2.1 _ _ q)⟩
  have key : ∀ n, n ≤ w.length → lk A T (en A (aT A H T) (rn (pt (gT A H T)) 0 (w.take n))) (rn (pt A) 0 (w.take n)) := by
    intro n
    induction n with
    | zero =>
      intro _
      have e : en A (aT A H T) (rn (pt (gT A H T)) 0 (w.take 0)) = rn (pt A) 0 (w.take 0) := by
        show rn (pt A) 0 ((aT A H T).getD 0 []) = rn (pt A) 0 (w.take 0)
        rw [aT_0 h0]; rfl
      rw [e]; exact (lk_eqv A T).1 _
    | succ n ih =>
      intro hn
      have hlt : n < w.length := by omega
      have hx : w.getD n 0 < pl A := by
        rw [List.getD, List.getElem?_eq_getElem hlt]; exact hw _ (List.getElem_mem hlt)
      have et : w.take (n + 1) = w.take n ++ [w.getD n 0] := by
        rw [List.take_add_one]; simp [List.getD, List.getElem?_eq_getElem hlt]
      have hs := gT_run (T := T) hA hH hne hc (vw_take hw n)
      have ht := hok.2 _ _ hs hx
      rw [et, rn_snoc, rn_snoc]
      refine (lk_eqv A T).2.2 _ _ _ ht.2 ?_
      exact con _ _ _ (hsub _ (aT_mem (Nat.le_refl _) (getD_mem hs))) (hpre n (by omega)) hx (ih (by omega))
  have h9 := key w.length (Nat.le_refl _)
  rw [List.take_length] at h9
  have h10 := h9 [] hT0
  have hs := gT_run (T := T) hA hH hne hc hw
  have e1 : ao A (en A (aT A H T) (rn (pt (gT A H T)) 0 w)) [] = some (po A (en A (aT A H T) (rn (pt (gT A H T)) 0 w))) := if_pos (enl hA (vT fun h hh => (hH h hh).1) hs)
  have e2 : ao A (rn (pt A) 0 w) [] = some (po A (rn (pt A) 0 w)) := if_pos (rn_lt hA hA.1.1 hw)
  rw [e1, e2] at h10
  exact hwr (Option.some.inj h10)
/-- all heads are unlike -/
def unl (A : PM) (H T : List (List Nat)) : Prop := ∀ a b, a < b → b < H.length → ¬ lkH A T H a b
theorem unl_all {A : PM} {H T : List (List Nat)} (h : unl A H T) : ∀ n, n ≤ H.length → aC A H T n = H.take n ∧ cR (lkH A T H) n = n := by
  intro n
  induction n with
  | zero => intro _; exact ⟨rfl, rfl⟩
  | succ n ih =>
    intro hn
    obtain ⟨i1, i2⟩ := ih (by omega)
    have hno : ¬ ∃ t, t < n ∧ lkH A T H t n := fun ⟨t, t1, t2⟩ => h t n t1 (by omega) t2
    rw [aC_no hno, cR_no hno, i1, i2]
    exact ⟨take_snoc (by omega), rfl⟩
theorem unl_aT {A : PM} {H T : List (List Nat)} (h : unl A H T) : aT A H T = H := by
  have := (unl_all h H.length (Nat.le_refl _)).1
  rw [List.take_length] at this; exact this
theorem unl_qc {A : PM} {H T : List (List Nat)} (h : unl A H T) : qc A H T = H.length := (unl_all h H.length (Nat.le_refl _)).2
theorem unl_i {A : PM} {H T : List (List Nat)} (h : unl A H T) {i j : Nat} (hi : i < H.length) (hj : j < H.length) (hl : lk A T (en A H i) (en A H j)) : i = j := by
  rcases Nat.lt_trichotomy i j with g | g | g
  · exact absurd hl (h i j g hj)
  · exact g
  · exact absurd ((lk_eqv A T).2.1 _ _ hl) (h j i g hi)
theorem unl_fin {A : PM} {H T D : List (List Nat)} (h : unl A H T) : unl A H (T ++ D) := fun a b h1 h2 q => h a b h1 h2 (fun e he => q e (by simp [he]))
theorem unl_open {A : PM} {H T : List (List Nat)} {i : Nat} (h : unl A H T) (ho : opn A H T i) : unl A (H ++ [hx A H i]) T := by
  intro a b h1 h2 q
  rw [List.length_append, List.length_singleton] at h2
  unfold lkH at q
  rw [en_old (by omega)] at q
  by_cases e : b = H.length
  · subst e
    have e : en A (H ++ [hx A H i]) H.length = pt A (en A H (i / pl A)) (i % pl A) := by
      unfold en
      rw [show (H ++ [hx A H i]).getD H.length [] = hx A H i from qk_new _ _]
      unfold hx; rw [rn_snoc]
    rw [e] at q
    exact ho a h1 q
  · rw [en_old (by omega)] at q
    exact h a b h1 (by omega) q
/-- a step of the guess, where the finer table is closed too -/
theorem step_fin {A : PM} {H T D : List (List Nat)} (hA : okM A) (hH : okV A H) (hne : 0 < H.length) (hun : unl A H T) (hc : clo A H T) (hc2 : clo A H (T ++ D)) {s x : Nat} (hs : s < H.length) (hx : x < pl A) : pt (gT A H T) s x < H.length ∧ lk A (T ++ D) (en A H (pt (gT A H T) s x)) (pt A (en A H s) x) := by
  have hok := gT_ok hA hH hne (show isF (H.length * pl A) (opn A H T) none from hc)
  have ha := unl_aT hun
  have ht := hok.2 s x (by rw [ha]; exact hs) hx
  rw [ha] at ht
  refine ⟨ht.1, ?_⟩
  have hcc := hc2 _ (ix_lt hs hx)
  unfold opn at hcc
  rw [ix_div hx, ix_mod hx] at hcc
  obtain ⟨j, j1, j2⟩ : ∃ j, j < H.length ∧ lk A (T ++ D) (en A H j) (pt A (en A H s) x) := Classical.byContradiction fun q => hcc (fun j hj g => q ⟨j, hj, g⟩)
  have e := unl_i hun j1 ht.1 ((lk_eqv A T).2.2 _ _ _ (fun e he => j2 e (by simp [he])) ((lk_eqv A T).2.1 _ _ ht.2))
  rw [← e]; exact j2
/-- METHOD 1: behind a lesson the table is not closed -/
theorem les1 {A : PM} {H T D E : List (List Nat)} {w : List Nat} (hA : okM A) (hH : okV A H) (h0 : H = [] :: E) (hun : unl A H T) (hc : clo A H T) (hw : vw (pl A) w) (hsuf : ∀ n, n ≤ w.length → w.drop n ∈ T ++ D) (hwr : an (gT A H T) 0 w ≠ an A 0 w) : ¬ clo A H (T ++ D) := by
  intro hc2
  have hne : 0 < H.length := by rw [h0]; simp
  have ha := unl_aT hun
  have hvH : vH A H := fun h hh => (hH h hh).1
  have hrun : ∀ n, rn (pt (gT A H T)) 0 (w.take n) < H.length := fun n => by
    have := gT_run (T := T) hA hH hne hc (vw_take hw n)
    rw [ha] at this; exact this
  have key : ∀ n, n ≤ w.length → ao A (en A H (rn (pt (gT A H T)) 0 (w.take n))) (w.drop n) = ao A 0 w := by
    intro n
    induction n with
    | zero =>
      intro _
      have e : en A H (rn (pt (gT A H T)) 0 (w.take 0)) = 0 := by
        show rn (pt A) 0 (H.getD 0 []) = 0
        rw [h0]; rfl
      rw [e]; rfl
    | succ n ih =>
      intro hn
      have hlt : n < w.length := by omega
      have hx : w.getD n 0 < pl A := by
        rw [List.getD, List.getElem?_eq_getElem hlt]; exact hw _ (List.getElem_mem hlt)
      have et : w.take (n + 1) = w.take n ++ [w.getD n 0] := by
        rw [List.take_add_one]; simp [List.getD, List.getElem?_eq_getElem hlt]
      have ed : w.drop n = w.getD n 0 :: w.drop (n + 1) := by
        rw [List.drop_eq_getElem_cons hlt]; simp [List.getD, List.getElem?_eq_getElem hlt]
      have h1 := ih (by omega)
      rw [ed, ao_cons (enl hA hvH (hrun n)) hx] at h1
      rw [← h1, et, rn_snoc]
      exact (step_fin hA hH hne hun hc hc2 (hrun n) hx).2 _ (hsuf (n + 1) hn)
  have h9 := key w.length (Nat.le_refl _)
  rw [List.take_length, List.drop_length] at h9
  have hs := hrun w.length
  rw [List.take_length] at hs
  have e1 : ao A (en A H (rn (pt (gT A H T)) 0 w)) [] = some (po A (en A H (rn (pt (gT A H T)) 0 w))) := if_pos (enl hA hvH hs)
  rw [e1, ao_ok hA hA.1.1 hw] at h9
  have e2 : an (gT A H T) 0 w = po A (en A (aT A H T) (rn (pt (gT A H T)) 0 w)) := rfl
  rw [ha] at e2
  exact hwr (e2.trans (Option.some.inj h9))
/-- where the search of METHODS 2 and 3 ends -/
theorem pA_fin {st sp : Nat} {A : PM} {g : GU} {w : List Nat} {its : Nat} : ∀ {f lo hi : Nat} {s : List (List Nat) × Nat}, lo < hi → hi ≤ lo + 1 + f → an A 0 (acc g (w.take lo) ++ w.drop lo) = its → an A 0 (acc g (w.take hi) ++ w.drop hi) ≠ its → ∃ k, (pA st sp A g w its f lo hi s).1 = k ∧ (pA st sp A g w its f lo hi s).2.1 = k + 1 ∧ k + 1 ≤ hi ∧ an A 0 (acc g (w.take k) ++ w.drop k) = its ∧ an A 0 (acc g (w.take (k + 1)) ++ w.drop (k + 1)) ≠ its
  | 0, lo, hi, s, h1, h2, h3, h4 => by
    have : hi = lo + 1 := by omega
    subst this
    exact ⟨lo, rfl, rfl, Nat.le_refl _, h3, h4⟩
  | f + 1, lo, hi, s, h1, h2, h3, h4 => by
    by_cases c : hi ≤ lo + 1
    · have : hi = lo + 1 := by omega
      subst this
      rw [show pA st sp A g w its (f + 1) lo (lo + 1) s = (lo, lo + 1, s) from if_pos c]
      exact ⟨lo, rfl, rfl, Nat.le_refl _, h3, h4⟩
    · by_cases c2 : an A 0 (acc g (w.take ((lo + hi) / 2)) ++ w.drop ((lo + hi) / 2)) = its
      · rw [show pA st sp A g w its (f + 1) lo hi s = pA st sp A g w its f ((lo + hi) / 2) hi (aS st sp s (acc g (w.take ((lo + hi) / 2)) ++ w.drop ((lo + hi) / 2))) from (if_neg c).trans (if_pos c2)]
        exact pA_fin (by omega) (by omega) c2 h4
      · rw [show pA st sp A g w its (f + 1) lo hi s = pA st sp A g w its f lo ((lo + hi) / 2) (aS st sp s (acc g (w.take ((lo + hi) / 2)) ++ w.drop ((lo + hi) / 2))) from (if_neg c).trans (if_neg c2)]
        obtain ⟨k, k1, k2, k3, k4⟩ := pA_fin (st := st) (sp := sp) (A := A) (g := g) (w := w) (its := its) (f := f) (lo := lo) (hi := (lo + hi) / 2) (s := aS st sp s (acc g (w.take ((lo + hi) / 2)) ++ w.drop ((lo + hi) / 2))) (by omega) (by omega) h3 c2
        exact ⟨k, k1, k2, by omega, k4⟩
/-- METHOD 2: behind a lesson the table is not closed -/
theorem les2 {A : PM} {H T E : List (List Nat)} {w : List Nat} {k : Nat} (hA : okM A) (hH : okV A H) (h0 : H = [] :: E) (hun : unl A H T) (hc : clo A H T) (hw : vw (pl A) w) (hk : k + 1 ≤ w.length) (h1 : an A 0 (acc (H, gT A H T) (w.take k) ++ w.drop k) ≠ an A 0 (acc (H, gT A H T) (w.take (k + 1)) ++ w.drop (k + 1))) : ¬ clo A H (T ++ [w.drop (k + 1)]) := by
  intro hc2
  have hne : 0 < H.length := by rw [h0]; simp
  have ha := unl_aT hun
  have hvH : vH A H := fun h hh => (hH h hh).1
  have hlt : k < w.length := by omega
  have hx : w.getD k 0 < pl A := by
    rw [List.getD, List.getElem?_eq_getElem hlt]; exact hw _ (List.getElem_mem hlt)
  have et : w.take (k + 1) = w.take k ++ [w.getD k 0] := by
    rw [List.take_add_one]; simp [List.getD, List.getElem?_eq_getElem hlt]
  have ed : w.drop k = w.getD k 0 :: w.drop (k + 1) := by
    rw [List.drop_eq_getElem_cons hlt]; simp [List.getD, List.getElem?_eq_getElem hlt]
  have hs : rn (pt (gT A H T)) 0 (w.take k) < H.length := by
    have := gT_run (T := T) hA hH hne hc (vw_take hw k)
    rw [ha] at this; exact this
  have hst := step_fin hA hH hne hun hc hc2 hs hx
  have h2 := hst.2 (w.drop (k + 1)) (by simp)
  have e1 := enl hA hvH hst.1
  have e2 := hA.2.2.2 _ (enl hA hvH hs) _ hx
  rw [ao_ok hA e1 (vw_drop hw _), ao_ok hA e2 (vw_drop hw _)] at h2
  have h2 := Option.some.inj h2
  apply h1
  rw [an_app, an_app, ed, et]
  show an A (en A H (rn (pt (gT A H T)) 0 (w.take k))) (w.getD k 0 :: w.drop (k + 1)) = an A (en A H (rn (pt (gT A H T)) 0 (w.take k ++ [w.getD k 0]))) (w.drop (k + 1))
  rw [rn_snoc, h2]
  rfl
