/-! ===== trees: least values, sets, rows of letters ===== -/
def qmw (P : Int → Prop) (B b : Int) : Prop := (P b ∧ b < B ∧ ∀ v, P v → b ≤ v) ∨ ((∀ v, ¬ P v) ∧ B ≤ b)
theorem mw_congr {P Q : Int → Prop} {B b : Int} (h : ∀ v, P v ↔ Q v) (hp : qmw P B b) : qmw Q B b := by
  rcases hp with ⟨h1, h2, h3⟩ | ⟨h1, h2⟩
  · exact Or.inl ⟨(h b).1 h1, h2, fun v hv => h3 v ((h v).2 hv)⟩
  · exact Or.inr ⟨fun v hv => h1 v ((h v).2 hv), h2⟩
theorem mw_min {P Q : Int → Prop} {B a b : Int} (hp : qmw P B a) (hq : qmw Q B b) : qmw (fun v => P v ∨ Q v) B (min a b) := by
  rcases hp with ⟨h1, h2, h3⟩ | ⟨h1, h2⟩ <;> rcases hq with ⟨g1, g2, g3⟩ | ⟨g1, g2⟩
  · by_cases h : a ≤ b
    · rw [Int.min_eq_left h]
      exact Or.inl ⟨Or.inl h1, h2, fun v hv => hv.elim (h3 v) (fun hv => by have := g3 v hv; omega)⟩
    · rw [Int.min_eq_right (by omega)]
      exact Or.inl ⟨Or.inr g1, g2, fun v hv => hv.elim (fun hv => by have := h3 v hv; omega) (g3 v)⟩
  · rw [Int.min_eq_left (by omega)]
    exact Or.inl ⟨Or.inl h1, h2, fun v hv => hv.elim (h3 v) (fun hv => absurd hv (g1 v))⟩
  · rw [Int.min_eq_right (by omega)]
    exact Or.inl ⟨Or.inr g1, g2, fun v hv => hv.elim (fun hv => absurd hv (h1 v)) (g3 v)⟩
  · exact Or.inr ⟨fun v hv => hv.elim (h1 v) (g1 v), by omega⟩
theorem mw_add {P Q : Int → Prop} {B a b : Int} (hB : 0 ≤ B) (hp : qmw P B a) (hq : qmw Q B b) (h0 : ∀ v, P v → 0 ≤ v) (g0 : ∀ v, Q v → 0 ≤ v) (hb : ∀ x y, P x → Q y → x + y < B) : qmw (fun v => ∃ x y, P x ∧ Q y ∧ v = x + y) B (a + b) := by
  rcases hp with ⟨h1, h2, h3⟩ | ⟨h1, h2⟩ <;> rcases hq with ⟨g1, g2, g3⟩ | ⟨g1, g2⟩
  · refine Or.inl ⟨⟨a, b, h1, g1, rfl⟩, hb a b h1 g1, fun v hv => ?_⟩
    obtain ⟨x, y, hx, hy, e⟩ := hv
    have := h3 x hx
    have := g3 y hy
    omega
  · refine Or.inr ⟨fun v hv => ?_, ?_⟩
    · obtain ⟨x, y, hx, hy, e⟩ := hv
      exact g1 y hy
    · have := h0 a h1
      omega
  · refine Or.inr ⟨fun v hv => ?_, ?_⟩
    · obtain ⟨x, y, hx, hy, e⟩ := hv
      exact h1 x hx
    · have := g0 b g1
      omega
  · refine Or.inr ⟨fun v hv => ?_, by omega⟩
    obtain ⟨x, y, hx, hy, e⟩ := hv
    exact h1 x hx
theorem mw_none {P : Int → Prop} {B : Int} (h : ∀ v, ¬ P v) : qmw P B B := Or.inr ⟨h, Int.le_refl _⟩
theorem mw_one {x B : Int} (h : x < B) : qmw (fun v => v = x) B x := Or.inl ⟨rfl, h, fun v hv => by omega⟩
theorem mw_get {P : Int → Prop} {B b : Int} (h : qmw P B b) {v : Int} (hv : P v) : P b ∧ b < B ∧ ∀ v, P v → b ≤ v := by
  rcases h with h | ⟨h1, h2⟩
  · exact h
  · exact absurd hv (h1 v)
theorem mw_nonneg {P : Int → Prop} {B b : Int} (hB : 0 ≤ B) (h : qmw P B b) (h0 : ∀ v, P v → 0 ≤ v) : 0 ≤ b := by
  rcases h with ⟨h1, h2, h3⟩ | ⟨h1, h2⟩
  · exact h0 b h1
  · omega
theorem mw_same {P : Int → Prop} {B D a b m : Int} (h : qmw P B a) (g : qmw P D b) (hB : m < B) (hD : m < D) : a = m ↔ b = m := by
  rcases h with ⟨h1, h2, h3⟩ | ⟨h1, h2⟩ <;> rcases g with ⟨g1, g2, g3⟩ | ⟨g1, g2⟩
  · have := h3 b g1
    have := g3 a h1
    omega
  · exact absurd h1 (g1 a)
  · exact absurd g1 (h1 b)
  · omega
/-! sets -/
theorem tb_x (S i j : Nat) : (S ^^^ 2 ^ i).testBit j = (S.testBit j ^^ decide (i = j)) := by
  rw [Nat.testBit_xor, Nat.testBit_two_pow]
theorem tb_xi (S i : Nat) : (S ^^^ 2 ^ i).testBit i = !S.testBit i := by
  rw [tb_x]
  cases S.testBit i <;> simp
theorem tb_xo (S : Nat) {i j : Nat} (h : j ≠ i) : (S ^^^ 2 ^ i).testBit j = S.testBit j := by
  rw [tb_x, decide_eq_false (fun e => h e.symm)]
  cases S.testBit j <;> rfl
theorem x_x (S i : Nat) : S ^^^ 2 ^ i ^^^ 2 ^ i = S := by
  rw [Nat.xor_assoc, Nat.xor_self, Nat.xor_zero]
theorem x_b {S c i : Nat} (hS : S < 2 ^ c) (hi : i < c) : S ^^^ 2 ^ i < 2 ^ c := Nat.xor_lt_two_pow hS (Nat.pow_lt_pow_right (by omega) hi)
theorem or_x {S i : Nat} (h : S.testBit i = false) : S ||| 2 ^ i = S ^^^ 2 ^ i := by
  refine Nat.eq_of_testBit_eq (fun j => ?_)
  rw [Nat.testBit_or, Nat.testBit_xor, Nat.testBit_two_pow]
  by_cases hj : i = j
  · subst hj
    rw [h]
    cases decide (i = i) <;> rfl
  · rw [decide_eq_false hj]
    cases S.testBit j <;> rfl
theorem x_gt {S i : Nat} (h : S.testBit i = false) : S < S ^^^ 2 ^ i := by
  have h1 : S ≤ S ||| 2 ^ i := Nat.left_le_or
  have h2 : S ≠ S ^^^ 2 ^ i := fun e => by
    have h3 := tb_xi S i
    rw [← e, h] at h3
    simp at h3
  rw [or_x h] at h1
  omega
theorem x_lt {T i : Nat} (h : T.testBit i = true) : T ^^^ 2 ^ i < T := by
  have h1 := x_gt (S := T ^^^ 2 ^ i) (i := i) (by rw [tb_xi, h]; rfl)
  rw [x_x] at h1
  exact h1
theorem or_y {S i : Nat} (h : S.testBit i = true) : S ||| 2 ^ i = S := by
  refine Nat.eq_of_testBit_eq (fun j => ?_)
  rw [Nat.testBit_or, Nat.testBit_two_pow]
  by_cases hj : i = j
  · subst hj
    rw [h]
    rfl
  · rw [decide_eq_false hj]
    cases S.testBit j <;> rfl
theorem no_x {T i : Nat} (h : T.testBit i = true) : qno T (2 ^ i) = T ^^^ 2 ^ i := by
  refine Nat.eq_of_testBit_eq (fun j => ?_)
  rw [qno_bit, Nat.testBit_xor, Nat.testBit_two_pow]
  by_cases hj : i = j
  · subst hj
    rw [h]
    simp
  · rw [decide_eq_false hj]
    cases T.testBit j <;> rfl
def qin (a b : Nat) : Prop := ∀ k, a.testBit k = true → b.testBit k = true
theorem qin_and (a b : Nat) : a &&& b = a ↔ qin a b := by
  constructor
  · intro h k hk
    rw [← h, Nat.testBit_and] at hk
    cases hb : b.testBit k
    · rw [hb] at hk; simp at hk
    · rfl
  · intro h
    refine Nat.eq_of_testBit_eq (fun j => ?_)
    rw [Nat.testBit_and]
    cases ha : a.testBit j
    · rfl
    · rw [h j ha]; rfl
theorem qin_no (a b : Nat) : qno a b = 0 ↔ qin a b := by
  constructor
  · intro h k hk
    have e := qno_bit a b k
    rw [h, Nat.zero_testBit, hk] at e
    cases hb : b.testBit k
    · rw [hb] at e; simp at e
    · rfl
  · intro h
    refine Nat.eq_of_testBit_eq (fun j => ?_)
    rw [qno_bit, Nat.zero_testBit]
    cases ha : a.testBit j
    · rfl
    · rw [h j ha]; rfl
theorem qin_zero (b : Nat) : qin 0 b := fun k hk => by rw [Nat.zero_testBit] at hk; simp at hk
theorem qin_self (b : Nat) : qin b b := fun _ hk => hk
/-- those in a without one -/
theorem qin_x {a b : Nat} {i : Nat} (h : qin a b) (hi : a.testBit i = false) : qin a (b ^^^ 2 ^ i) := fun k hk => by
  have : k ≠ i := fun e => by rw [e, hi] at hk; simp at hk
  rw [tb_xo b this]
  exact h k hk
theorem qin_x2 {a b : Nat} {i : Nat} (h : qin a (b ^^^ 2 ^ i)) (hb : b.testBit i = true) : qin a b := fun k hk => by
  by_cases hki : k = i
  · rw [hki]; exact hb
  · have := h k hk
    rw [tb_xo b hki] at this
    exact this
theorem qin_all {a c : Nat} (h : a < 2 ^ c) : qin a (2 ^ c - 1) := fun k hk => by
  rw [Nat.testBit_two_pow_sub_one]
  exact decide_eq_true (q_tb h hk)
theorem tb_all (c i : Nat) : (2 ^ c - 1).testBit i = decide (i < c) := Nat.testBit_two_pow_sub_one c i
/-! rows of letters, one behind the other -/
def qpa (st : Nat → Nat → Int → Prop) (c : Nat) : Nat → Nat → Nat → Int → Prop
  | 0, S, T, v => S = T ∧ v = 0
  | n + 1, S, T, v => ∃ (i : Nat) (x u : Int), i < c ∧ T.testBit i = true ∧ st i (T ^^^ 2 ^ i) x ∧ qpa st c n S (T ^^^ 2 ^ i) u ∧ v = u + x
def qsb (st : Nat → Nat → Int → Prop) : Prop := ∀ i S x, st i S x → 0 ≤ x ∧ x ≤ 100
section ZPATH
variable {st st2 : Nat → Nat → Int → Prop} {c : Nat}
theorem qpa_b (hs : qsb st) : ∀ (n S T : Nat) (v : Int), qpa st c n S T v → 0 ≤ v ∧ v + 100 * S ≤ 100 * T := by
  intro n
  induction n with
  | zero =>
    intro S T v h
    obtain ⟨rfl, rfl⟩ := h
    omega
  | succ n ih =>
    intro S T v h
    obtain ⟨i, x, u, h1, h2, h3, h4, h5⟩ := h
    have := ih _ _ _ h4
    have := hs _ _ _ h3
    have := x_lt h2
    omega
theorem qpa_le (n : Nat) : ∀ (S T : Nat) (v : Int), qpa st c n S T v → S ≤ T ∧ qin S T := by
  induction n with
  | zero =>
    intro S T v h
    obtain ⟨rfl, rfl⟩ := h
    exact ⟨Nat.le_refl _, qin_self _⟩
  | succ n ih =>
    intro S T v h
    obtain ⟨i, x, u, h1, h2, h3, h4, h5⟩ := h
    have h6 := ih _ _ _ h4
    have := x_lt h2
    exact ⟨by omega, qin_x2 h6.2 h2⟩
theorem qpa_add {n S T : Nat} {u : Int} (h : qpa st c n S T u) : ∀ (m R : Nat) (v : Int), qpa st c m T R v → qpa st c (n + m) S R (u + v) := by
  intro m
  induction m with
  | zero =>
    intro R v g
    obtain ⟨rfl, rfl⟩ := g
    rw [Int.add_zero]
    exact h
  | succ m ih =>
    intro R v g
    obtain ⟨i, x, w, h1, h2, h3, h4, h5⟩ := g
    exact ⟨i, x, u + w, h1, h2, h3, ih _ _ h4, by omega⟩
theorem qpa_one {S i : Nat} {x : Int} (h : S.testBit i = false) (hi : i < c) (hx : st i S x) : qpa st c 1 S (S ^^^ 2 ^ i) x := by
  refine ⟨i, x, 0, hi, ?_, ?_, ⟨(x_x S i).symm, rfl⟩, by omega⟩
  · rw [tb_xi, h]; rfl
  · rw [x_x]; exact hx
theorem qpa_front : ∀ (n S T : Nat) (v : Int), qpa st c (n + 1) S T v → ∃ (i : Nat) (x u : Int), i < c ∧ S.testBit i = false ∧ st i S x ∧ qpa st c n (S ^^^ 2 ^ i) T u ∧ v = x + u := by
  intro n
  induction n with
  | zero =>
    intro S T v h
    obtain ⟨i, x, u, h1, h2, h3, h4, h5⟩ := h
    obtain ⟨rfl, rfl⟩ := h4
    refine ⟨i, x, 0, h1, ?_, h3, ⟨x_x T i, rfl⟩, by omega⟩
    rw [tb_xi, h2]; rfl
  | succ n ih =>
    intro S T v h
    obtain ⟨i, x, u, h1, h2, h3, h4, h5⟩ := h
    obtain ⟨j, y, w, g1, g2, g3, g4, g5⟩ := ih _ _ _ h4
    exact ⟨j, y, w + x, g1, g2, g3, ⟨i, x, w, h1, h2, h3, g4, rfl⟩, by omega⟩
theorem qpa_split {l : Nat} : ∀ (n S T : Nat) (v : Int), qpa st c n S T v → S.testBit l = false → T.testBit l = true → ∃ (M n1 n2 : Nat) (a x b : Int), M.testBit l = false ∧ qpa st c n1 S M a ∧ l < c ∧ st l M x ∧ qpa st c n2 (M ^^^ 2 ^ l) T b ∧ v = a + x + b := by
  intro n
  induction n with
  | zero =>
    intro S T v h hS hT
    obtain ⟨rfl, rfl⟩ := h
    rw [hS] at hT
    simp at hT
  | succ n ih =>
    intro S T v h hS hT
    obtain ⟨i, x, u, h1, h2, h3, h4, h5⟩ := h
    by_cases hil : i = l
    · subst hil
      refine ⟨T ^^^ 2 ^ i, n, 0, u, x, 0, ?_, h4, h1, h3, ⟨x_x T i, rfl⟩, by omega⟩
      rw [tb_xi, h2]; rfl
    · obtain ⟨M, n1, n2, a, y, b, g1, g2, g3, g4, g5, g6⟩ := ih _ _ _ h4 hS (by rw [tb_xo T (fun e => hil e.symm)]; exact hT)
      exact ⟨M, n1, n2 + 1, a, y, b + x, g1, g2, g3, g4, ⟨i, x, b, h1, h2, h3, g5, rfl⟩, by omega⟩
theorem qpa_c1 {l : Nat} (h : ∀ i S x, i ≠ l → st i S x → st2 i S x) : ∀ (n S T : Nat) (v : Int), T.testBit l = false → qpa st c n S T v → qpa st2 c n S T v := by
  intro n
  induction n with
  | zero => intro S T v _ h; exact h
  | succ n ih =>
    intro S T v hT g
    obtain ⟨i, x, u, h1, h2, h3, h4, h5⟩ := g
    have hil : i ≠ l := fun e => by rw [e, hT] at h2; simp at h2
    exact ⟨i, x, u, h1, h2, h i _ x hil h3, ih _ _ _ (by rw [tb_xo T (fun e => hil e.symm)]; exact hT) h4, h5⟩
theorem qpa_c2 {l : Nat} (h : ∀ i S x, i ≠ l → st i S x → st2 i S x) : ∀ (n S T : Nat) (v : Int), S.testBit l = true → qpa st c n S T v → qpa st2 c n S T v := by
  intro n
  induction n with
  | zero => intro S T v _ h; exact h
  | succ n ih =>
    intro S T v hS g
    obtain ⟨i, x, u, h1, h2, h3, h4, h5⟩ := g
    have h6 := (qpa_le _ _ _ _ h4).2 l hS
    have hil : i ≠ l := fun e => by rw [e] at h2; rw [e, tb_xi, h2] at h6; simp at h6
    exact ⟨i, x, u, h1, h2, h i _ x hil h3, ih _ _ _ hS h4, h5⟩
def qpt (st : Nat → Nat → Int → Prop) (c S T : Nat) (v : Int) : Prop := ∃ n, qpa st c n S T v
theorem qpt_b (hs : qsb st) {S T : Nat} {v : Int} (h : qpt st c S T v) : 0 ≤ v ∧ v + 100 * S ≤ 100 * T := by
  obtain ⟨n, h⟩ := h
  exact qpa_b hs _ _ _ _ h
theorem qpt_zero (v : Int) : qpt st c 0 0 v ↔ v = 0 := by
  constructor
  · rintro ⟨n, h⟩
    cases n with
    | zero => exact h.2
    | succ n =>
      obtain ⟨i, x, u, h1, h2, h3, h4, h5⟩ := h
      rw [Nat.zero_testBit] at h2
      simp at h2
  · intro h
    exact ⟨0, rfl, h⟩
theorem qpt_all (v : Int) : qpt st c (2 ^ c - 1) (2 ^ c - 1) v ↔ v = 0 := by
  constructor
  · rintro ⟨n, h⟩
    cases n with
    | zero => exact h.2
    | succ n =>
      obtain ⟨i, x, u, h1, h2, h3, h4, h5⟩ := qpa_front _ _ _ _ h
      rw [tb_all, decide_eq_true h1] at h2
      simp at h2
  · intro h
    exact ⟨0, rfl, h⟩
theorem qpt_back {S T : Nat} (hST : S ≠ T) (v : Int) : qpt st c S T v ↔ ∃ (i : Nat), i < c ∧ T.testBit i = true ∧ ∃ u x, qpt st c S (T ^^^ 2 ^ i) u ∧ st i (T ^^^ 2 ^ i) x ∧ v = u + x := by
  constructor
  · rintro ⟨n, h⟩
    cases n with
    | zero => exact absurd h.1 hST
    | succ n =>
      obtain ⟨i, x, u, h1, h2, h3, h4, h5⟩ := h
      exact ⟨i, h1, h2, u, x, ⟨n, h4⟩, h3, h5⟩
  · rintro ⟨i, h1, h2, u, x, ⟨n, h4⟩, h3, h5⟩
    exact ⟨n + 1, i, x, u, h1, h2, h3, h4, h5⟩
theorem qpt_front {S T : Nat} (hST : S ≠ T) (v : Int) : qpt st c S T v ↔ ∃ (i : Nat), i < c ∧ S.testBit i = false ∧ ∃ x u, st i S x ∧ qpt st c (S ^^^ 2 ^ i) T u ∧ v = x + u := by
  constructor
  · rintro ⟨n, h⟩
    cases n with
    | zero => exact absurd h.1 hST
    | succ n =>
      obtain ⟨i, x, u, h1, h2, h3, h4, h5⟩ := qpa_front _ _ _ _ h
      exact ⟨i, h1, h2, x, u, h3, ⟨n, h4⟩, h5⟩
  · rintro ⟨i, h1, h2, x, u, h3, ⟨n, h4⟩, h5⟩
    exact ⟨1 + n, by rw [h5]; exact qpa_add (qpa_one h2 h1 h3) n _ _ h4⟩
end ZPATH
/-! trees -/
def qst (c : Nat) (F C : Nat → Int) (fx : Nat → Int) (l S : Nat) (x : Int) : Prop := ∃ w, qvw c l w ∧ (fx l = -1 ∨ fx l = (w : Int)) ∧ qin (qsr w) S ∧ x = qpr F C l w
def qtr (c : Nat) (F C : Nat → Int) (fx : Nat → Int) (v : Int) : Prop := qpt (qst c F C fx) c 0 (2 ^ c - 1) v
section ZTREE
variable {c : Nat} {F C : Nat → Int}
theorem qst_b (hC : ∀ j, 0 ≤ C j ∧ C j ≤ 9) (fx : Nat → Int) : qsb (qst c F C fx) := by
  intro i S x h
  obtain ⟨w, h1, h2, h3, h4⟩ := h
  rw [h4]
  exact qpr_b hC F i w
theorem qst_o (fx : Nat → Int) {l : Nat} (y : Int) (i S : Nat) (x : Int) (hi : i ≠ l) : qst c F C (zu fx l y) i S x ↔ qst c F C fx i S x := by
  unfold qst
  rw [q_zu, if_neg hi]
theorem tr_fix (fx : Nat → Int) {l w : Nat} (hl : l < c) (hw : qvw c l w) (v : Int) : qtr c F C (zu fx l w) v ↔ ∃ (M : Nat) (a b : Int), M < 2 ^ c ∧ M.testBit l = false ∧ qin (qsr w) M ∧ qpt (qst c F C fx) c 0 M a ∧ qpt (qst c F C fx) c (M ^^^ 2 ^ l) (2 ^ c - 1) b ∧ v = a + qpr F C l w + b := by
  have e1 := fun i S x (hi : i ≠ l) => (qst_o (c := c) (F := F) (C := C) fx (w : Int) i S x hi).1
  have e2 := fun i S x (hi : i ≠ l) => (qst_o (c := c) (F := F) (C := C) fx (w : Int) i S x hi).2
  constructor
  · rintro ⟨n, h⟩
    obtain ⟨M, n1, n2, a, x, b, h1, h2, h3, h4, h5, h6⟩ := qpa_split (l := l) _ _ _ _ h (Nat.zero_testBit l) (by rw [tb_all]; exact decide_eq_true hl)
    have h7 := (qpa_le _ _ _ _ h5).1
    have h8 := x_gt h1
    have h9 : 0 < 2 ^ c := Nat.two_pow_pos c
    obtain ⟨u, u1, u2, u3, u4⟩ := h4
    rw [q_zu, if_pos rfl] at u2
    have hu : u = w := by omega
    subst hu
    refine ⟨M, a, b, by omega, h1, u3, ⟨n1, qpa_c1 e1 _ _ _ _ h1 h2⟩, ⟨n2, qpa_c2 e1 _ _ _ _ ?_ h5⟩, by rw [← u4]; exact h6⟩
    rw [tb_xi, h1]; rfl
  · rintro ⟨M, a, b, h0, h1, h2, ⟨n1, h3⟩, ⟨n2, h4⟩, h5⟩
    have k1 := qpa_c1 e2 _ _ _ _ h1 h3
    have k2 := qpa_c2 e2 _ _ _ _ (by rw [tb_xi, h1]; rfl) h4
    have k3 : qst c F C (zu fx l w) l M (qpr F C l w) := ⟨w, hw, Or.inr (by rw [q_zu, if_pos rfl]), h2, rfl⟩
    have k4 := qpa_add k1 _ _ _ (qpa_one h1 hl k3)
    exact ⟨n1 + 1 + n2, by rw [h5]; exact qpa_add k4 _ _ _ k2⟩
theorem tr_some (fx : Nat → Int) {l : Nat} (hl : l < c) {v : Int} (h : qtr c F C fx v) : ∃ w, qvw c l w ∧ (fx l = -1 ∨ fx l = (w : Int)) ∧ qtr c F C (zu fx l w) v := by
  obtain ⟨n, h⟩ := h
  obtain ⟨M, n1, n2, a, x, b, h1, h2, h3, h4, h5, h6⟩ := qpa_split (l := l) _ _ _ _ h (Nat.zero_testBit l) (by rw [tb_all]; exact decide_eq_true hl)
  have h7 := (qpa_le _ _ _ _ h5).1
  have h8 := x_gt h1
  have h9 : 0 < 2 ^ c := Nat.two_pow_pos c
  obtain ⟨w, u1, u2, u3, u4⟩ := h4
  exact ⟨w, u1, u2, (tr_fix fx hl u1 v).2 ⟨M, a, b, by omega, h1, u3, ⟨n1, h2⟩, ⟨n2, h5⟩, by rw [← u4]; exact h6⟩⟩
theorem tr_sub (fx : Nat → Int) {l w : Nat} (hl : l < c) (hw : qvw c l w) (hfx : fx l = -1) {v : Int} (h : qtr c F C (zu fx l w) v) : qtr c F C fx v := by
  obtain ⟨M, a, b, h0, h1, h2, ⟨n1, h3⟩, ⟨n2, h4⟩, h5⟩ := (tr_fix fx hl hw v).1 h
  have k3 : qst c F C fx l M (qpr F C l w) := ⟨w, hw, Or.inl hfx, h2, rfl⟩
  have k4 := qpa_add h3 _ _ _ (qpa_one h1 hl k3)
  exact ⟨n1 + 1 + n2, by rw [h5]; exact qpa_add k4 _ _ _ h4⟩
/-- with every letter free there is a tree -/
theorem tr_free (fx : Nat → Int) (hfx : ∀ l, l < c → fx l = -1) : ∃ v, qtr c F C fx v := by
  have h : ∀ k, k ≤ c → ∃ v, qpt (qst c F C fx) c 0 (2 ^ k - 1) v := by
    intro k
    induction k with
    | zero => intro _; exact ⟨0, 0, rfl, rfl⟩
    | succ k ih =>
      intro hk
      obtain ⟨v, n, h⟩ := ih (by omega)
      have h1 : (2 ^ k - 1).testBit k = false := by
        rw [tb_all]; exact decide_eq_false (by omega)
      have k3 : qst c F C fx k (2 ^ k - 1) (qpr F C k 0) := ⟨0, Or.inl rfl, Or.inl (hfx k (by omega)), qin_zero _, rfl⟩
      have k4 := qpa_add h _ _ _ (qpa_one h1 (by omega) k3)
      have e : (2 ^ k - 1) ^^^ 2 ^ k = 2 ^ (k + 1) - 1 := by
        refine Nat.eq_of_testBit_eq (fun j => ?_)
        rw [tb_x, tb_all, tb_all]
        by_cases h1 : j < k
        · rw [decide_eq_true h1, decide_eq_false (by omega), decide_eq_true (by omega)]; rfl
        · by_cases h2 : k = j
          · rw [decide_eq_false h1, decide_eq_true h2, decide_eq_true (by omega)]; rfl
          · rw [decide_eq_false h1, decide_eq_false h2, decide_eq_false (by omega)]; rfl
      rw [e] at k4
      exact ⟨_, _, k4⟩
  exact h c (Nat.le_refl c)
end ZTREE
