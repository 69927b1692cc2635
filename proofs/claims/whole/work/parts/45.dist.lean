/-! ===== names: the least ways, as numbers ===== -/
theorem q_least {P : Int → Prop} (h0 : ∀ v, P v → 0 ≤ v) (h : ∃ v, P v) : ∃ m, P m ∧ ∀ v, P v → m ≤ v := by
  have key : ∀ N : Nat, ∀ v, P v → v ≤ N → ∃ m, P m ∧ ∀ v, P v → m ≤ v := by
    intro N
    induction N with
    | zero =>
      intro v hv hv2
      exact ⟨v, hv, fun u hu => by have := h0 u hu; omega⟩
    | succ N ih =>
      intro v hv hv2
      by_cases hs : ∃ u, P u ∧ u < v
      · obtain ⟨u, hu, hu2⟩ := hs
        exact ih u hu (by omega)
      · exact ⟨v, hv, fun u hu => by
          rcases Int.lt_or_le u v with h1 | h1
          · exact absurd ⟨u, hu, h1⟩ hs
          · exact h1⟩
  obtain ⟨v, hv⟩ := h
  exact key v.toNat v hv (by omega)
/-- f is the least weight of a way to b, if a step from a to o weighs st a o -/
def qds (n b : Nat) (st : Nat → Nat → Int) (f : Nat → Int) : Prop := (∀ a, a < n → 0 ≤ f a) ∧ f b = 0 ∧ (∀ a, a < n → a ≠ b → ∃ o, o < n ∧ f a = st a o + f o) ∧ ∀ a o, a < n → o < n → f a ≤ st a o + f o
def qwk (n b : Nat) (st : Nat → Nat → Int) : Nat → Nat → Int → Prop
  | 0 => fun a v => a = b ∧ v = 0
  | r + 1 => fun a v => ∃ o, o < n ∧ qwk n b st r o (v - st a o)
theorem qwk_nonneg {n b : Nat} {st : Nat → Nat → Int} (hst : ∀ a o, 1 ≤ st a o) : ∀ (r a : Nat) (v : Int), qwk n b st r a v → 0 ≤ v := by
  intro r
  induction r with
  | zero => intro a v h; exact Int.le_of_eq h.2.symm
  | succ r ih =>
    intro a v ⟨o, _, h⟩
    have := ih o _ h
    have := hst a o
    omega
theorem qds_ex {n b : Nat} (hb : b < n) {st : Nat → Nat → Int} (hst : ∀ a o, 1 ≤ st a o) : ∃ f, qds n b st f := by
  obtain ⟨f, hf⟩ := Classical.axiomOfChoice (r := fun (a : Nat) (m : Int) => (∃ r, qwk n b st r a m) ∧ ∀ v, (∃ r, qwk n b st r a v) → m ≤ v) (fun a => q_least (P := fun v => ∃ r, qwk n b st r a v) (fun v ⟨r, h⟩ => qwk_nonneg hst r a v h) ⟨st a b, 1, b, hb, rfl, by omega⟩)
  refine ⟨f, fun a _ => ?_, ?_, fun a ha hab => ?_, fun a o ha ho => ?_⟩
  · obtain ⟨⟨r, h⟩, -⟩ := hf a
    exact qwk_nonneg hst r a _ h
  · obtain ⟨⟨r, h⟩, h2⟩ := hf b
    have h3 := qwk_nonneg hst r b _ h
    have h4 := h2 0 ⟨0, rfl, rfl⟩
    omega
  · obtain ⟨⟨r, h⟩, h2⟩ := hf a
    cases r with
    | zero => exact absurd h.1 hab
    | succ r =>
      obtain ⟨o, ho, h⟩ := h
      refine ⟨o, ho, ?_⟩
      obtain ⟨⟨r3, h3⟩, h4⟩ := hf o
      have h5 := h4 _ ⟨r, h⟩
      have h6 := h2 (st a o + f o) ⟨r3 + 1, o, ho, by
        have e : st a o + f o - st a o = f o := by omega
        rw [e]; exact h3⟩
      omega
  · obtain ⟨⟨r3, h3⟩, h4⟩ := hf o
    exact (hf a).2 _ ⟨r3 + 1, o, ho, by
      have e : st a o + f o - st a o = f o := by omega
      rw [e]; exact h3⟩
theorem qds_le {n b : Nat} {st : Nat → Nat → Int} (hst : ∀ a o, 1 ≤ st a o) {f g : Nat → Int} (hf : qds n b st f) (hg : qds n b st g) : ∀ (N : Nat) (a : Nat), a < n → g a ≤ N → f a ≤ g a := by
  intro N
  induction N with
  | zero =>
    intro a ha h
    by_cases hab : a = b
    · subst hab; rw [hf.2.1, hg.2.1]; omega
    · obtain ⟨o, ho, e⟩ := hg.2.2.1 a ha hab
      have := hst a o
      have := hg.1 o ho
      omega
  | succ N ih =>
    intro a ha h
    by_cases hab : a = b
    · subst hab; rw [hf.2.1, hg.2.1]; omega
    · obtain ⟨o, ho, e⟩ := hg.2.2.1 a ha hab
      have h1 := hst a o
      have h2 := ih o ho (by omega)
      have h3 := hf.2.2.2 a o ha ho
      omega
theorem qds_uniq {n b : Nat} {st : Nat → Nat → Int} (hst : ∀ a o, 1 ≤ st a o) {f g : Nat → Int} (hf : qds n b st f) (hg : qds n b st g) {a : Nat} (ha : a < n) : f a = g a := by
  have h1 := qds_le hst hf hg (g a).toNat a ha (by omega)
  have h2 := qds_le hst hg hf (f a).toNat a ha (by omega)
  omega
/-- how many lie nearer -/
def qrk (n : Nat) (f : Nat → Int) (a : Nat) : Nat := qct (fun k => decide (f k < f a)) n
theorem qrk_lt {n : Nat} {f : Nat → Int} {a o : Nat} (ho : o < n) (h : f o < f a) : qrk n f o < qrk n f a :=
  qct_lt (i := o) (decide_eq_false (by omega)) (decide_eq_true h) n ho (fun j _ hj => decide_eq_true (by have := of_decide_eq_true hj; omega))
theorem qrk_n {n : Nat} (f : Nat → Int) {a : Nat} (ha : a < n) : qrk n f a < n :=
  Nat.lt_of_lt_of_le (qct_lt (Q := fun _ => true) (i := a) (decide_eq_false (by omega)) rfl n ha (fun _ _ _ => rfl)) (qct_le _ n)
theorem q_allct {n : Nat} {P : Nat → Bool} (h : n ≤ qct P n) {k : Nat} (hk : k < n) : P k = true := by
  cases hp : P k
  · have h1 := qct_lt (Q := fun _ => true) (i := k) hp rfl n hk (fun _ _ _ => rfl)
    have h2 := qct_le (fun _ => true) n
    omega
  · rfl
/-- a round in which every step is tried -/
def qrd (n : Nat) (st : Nat → Nat → Int) (d d2 : Nat → Int) : Prop := ∀ a, a < n → d2 a ≤ d a ∧ ∀ o, o < n → d2 a ≤ st a o + d o
def qfn (n : Nat) (f d : Nat → Int) (t : Nat) : Prop := (∀ a, a < n → f a ≤ d a) ∧ (n ≤ qct (fun k => decide (d k = f k)) n ∨ t + 1 ≤ qct (fun k => decide (d k = f k)) n)
theorem q_round2 {n b : Nat} {st : Nat → Nat → Int} (hst : ∀ a o, 1 ≤ st a o) {f d d2 : Nat → Int} (hf : qds n b st f) (hdb : d b = 0) {t : Nat} (h : qfn n f d t) (hr : qrd n st d d2) (hd2 : ∀ a, a < n → f a ≤ d2 a) : qfn n f d2 (t + 1) := by
  refine ⟨hd2, ?_⟩
  have hmono : ∀ j, j < n → decide (d j = f j) = true → decide (d2 j = f j) = true := fun j hj h1 => by
    have h2 := of_decide_eq_true h1
    have h3 := (hr j hj).1
    have h4 := hd2 j hj
    exact decide_eq_true (by omega)
  by_cases hall : ∀ a, a < n → d a = f a
  · left
    have h5 : ∀ k, k ≤ n → k ≤ qct (fun k => decide (d2 k = f k)) k := by
      intro k
      induction k with
      | zero => intro _; exact Nat.zero_le _
      | succ k ih =>
        intro hk
        have := ih (by omega)
        rw [qct, if_pos (hmono k (by omega) (decide_eq_true (hall k (by omega))))]
        omega
    exact h5 n (Nat.le_refl _)
  · -- the nearest that isn't right yet
    have hex : ∃ v : Int, ∃ a, a < n ∧ d a ≠ f a ∧ f a = v := by
      refine Classical.byContradiction fun hno => hall (fun a ha => Classical.byContradiction fun hne => hno ⟨f a, a, ha, hne, rfl⟩)
    obtain ⟨v, ⟨a, ha, hne, hv⟩, hmin⟩ := q_least (P := fun v => ∃ a, a < n ∧ d a ≠ f a ∧ f a = v) (fun v ⟨a, ha, _, h⟩ => by have := hf.1 a ha; omega) hex
    have hab : a ≠ b := fun e => by
      subst e
      exact hne (by rw [hdb, hf.2.1])
    obtain ⟨o, ho, e⟩ := hf.2.2.1 a ha hab
    have h1 := hst a o
    have hdo : d o = f o := Classical.byContradiction fun hne2 => by
      have := hmin (f o) ⟨o, ho, hne2, rfl⟩
      omega
    have h2 := (hr a ha).2 o ho
    have h3 := hd2 a ha
    have hlt := qct_lt (P := fun k => decide (d k = f k)) (Q := fun k => decide (d2 k = f k)) (i := a) (decide_eq_false hne) (decide_eq_true (by omega)) n ha hmono
    rcases h.2 with h4 | h4
    · left; omega
    · right; omega
theorem qfn_end {n : Nat} {f d : Nat → Int} (h : qfn n f d n) {a : Nat} (ha : a < n) : d a = f a := by
  have h1 : n ≤ qct (fun k => decide (d k = f k)) n := by rcases h.2 with h | h <;> omega
  exact of_decide_eq_true (q_allct h1 ha)
/-! the cost and the number of steps: of the weights by hundreds those by sixteens -/
theorem q_hund {n b : Nat} (hn : n ≤ 10) {sq : Nat → Nat → Int} (hsq : ∀ a o, 0 ≤ sq a o) {f : Nat → Int} (hf : qds n b (fun a o => 100 * sq a o + 1) f) : ∀ (N a : Nat), a < n → f a ≤ N → ∃ x y : Int, f a = 100 * x + y ∧ 0 ≤ x ∧ 0 ≤ y ∧ y ≤ qrk n f a := by
  intro N
  induction N with
  | zero =>
    intro a ha h
    have := hf.1 a ha
    exact ⟨0, 0, by omega, by omega, by omega, by omega⟩
  | succ N ih =>
    intro a ha h
    by_cases hab : a = b
    · subst hab
      exact ⟨0, 0, by rw [hf.2.1]; omega, by omega, by omega, by omega⟩
    · obtain ⟨o, ho, e⟩ := hf.2.2.1 a ha hab
      have h1 := hsq a o
      have h2 := hf.1 o ho
      dsimp only at e
      obtain ⟨x, y, e2, x0, y0, y1⟩ := ih o ho (by omega)
      have h3 := qrk_lt (f := f) (a := a) ho (by omega)
      exact ⟨sq a o + x, y + 1, by omega, by omega, by omega, by omega⟩
theorem q_hund2 {n b : Nat} (hn : n ≤ 10) {sq : Nat → Nat → Int} (hsq : ∀ a o, 0 ≤ sq a o) {f : Nat → Int} (hf : qds n b (fun a o => 100 * sq a o + 1) f) {a : Nat} (ha : a < n) : 0 ≤ f a / 100 ∧ 0 ≤ f a % 100 ∧ f a % 100 ≤ 9 ∧ f a = 100 * (f a / 100) + f a % 100 := by
  obtain ⟨x, y, e, x0, y0, y1⟩ := q_hund hn hsq hf (f a).toNat a ha (by have := hf.1 a ha; omega)
  have := qrk_n f ha
  omega
theorem q_six {n b : Nat} (hb : b < n) (hn : n ≤ 10) {sq : Nat → Nat → Int} (hsq : ∀ a o, 0 ≤ sq a o) {f : Nat → Int} (hf : qds n b (fun a o => 100 * sq a o + 1) f) : qds n b (fun a o => 16 * sq a o + 1) (fun a => 16 * (f a / 100) + f a % 100) := by
  refine ⟨fun a ha => ?_, ?_, fun a ha hab => ?_, fun a o ha ho => ?_⟩
  · have := q_hund2 hn hsq hf ha
    dsimp only
    omega
  · dsimp only
    rw [hf.2.1]
    rfl
  · obtain ⟨o, ho, e⟩ := hf.2.2.1 a ha hab
    have h1 := q_hund2 hn hsq hf ha
    have h2 := q_hund2 hn hsq hf ho
    refine ⟨o, ho, ?_⟩
    dsimp only at e ⊢
    omega
  · have h1 := q_hund2 hn hsq hf ha
    have h2 := q_hund2 hn hsq hf ho
    have h3 := hf.2.2.2 a o ha ho
    dsimp only at h3 ⊢
    omega
theorem q_tight {n b : Nat} (hn : n ≤ 10) {sq : Nat → Nat → Int} (hsq : ∀ a o, 0 ≤ sq a o) {f : Nat → Int} (hf : qds n b (fun a o => 100 * sq a o + 1) f) {a o : Nat} (ha : a < n) (ho : o < n) :
    16 * sq a o + 1 + (16 * (f o / 100) + f o % 100) = 16 * (f a / 100) + f a % 100 ↔ f o + (100 * sq a o + 1) = f a := by
  have h1 := q_hund2 hn hsq hf ha
  have h2 := q_hund2 hn hsq hf ho
  omega
