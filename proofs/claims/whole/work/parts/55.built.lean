/-! ===== trees: the class's sums ===== -/
def qhl (c : Nat) (F C : Nat → Int) (fx h hp : Nat → Int) : Prop := ∀ l, l < c → (fx l = -1 ∧ h l = -1) ∨ ∃ w : Nat, qvw c l w ∧ fx l = (w : Int) ∧ h l = (qsr w : Int) ∧ hp l = qpr F C l w
def qbg (c : Nat) (F C fx : Nat → Int) (B : Nat → Int) : Prop := ∀ S, S < 2 ^ c → qmw (qpt (qst c F C fx) c 0 S) 1048576 (B S) ∧ B S ≤ 1048576
def qrg (c : Nat) (F C fx : Nat → Int) (R : Nat → Int) : Prop := ∀ S, S < 2 ^ c → qmw (qpt (qst c F C fx) c S (2 ^ c - 1)) 1048576 (R S) ∧ R S ≤ 1048576
section ZBUILT
variable {c : Nat} {F C fx h hp T : Nat → Int}
theorem q_behind (hC : ∀ j, 0 ≤ C j ∧ C j ≤ 9) (hc : c ≤ 8) (hT : qsg c F C T) (hh : qhl c F C fx h hp) {l S : Nat} (hl : l < c) (hS : S < 2 ^ c) (hlS : S.testBit l = false) : ∃ x, f_X8_stepBehind l S T h hp = some x ∧ qmw (qst c F C fx l S) 1048576 x ∧ x ≤ 1048576 := by
  have h8 := q_p8 hc
  have g1 : zin (l : Int) 8 := by omega
  unfold f_X8_stepBehind
  rw [if_pos g1, Int.toNat_natCast]
  rcases hh l hl with ⟨h1, h2⟩ | ⟨w, w1, w2, w3, w4⟩
  · have h3 := hT l S hl hS hlS
    have h4 := (mw_get h3 (v := qpr F C l 0) ⟨0, Or.inl rfl, qin_zero _, rfl⟩).2.1
    rw [if_pos h2, if_pos (by omega), q_tn (show (l : Int) * 256 + (S : Int) = ((256 * l + S : Nat) : Int) by omega)]
    exact ⟨_, rfl, mw_congr (qst_ff h1 S) h3, by omega⟩
  · have hs := qsr_b hc w1
    have hz := (qpr_b hC F l w).2
    rw [if_neg (by omega), if_pos ⟨g1, g1⟩, w3, w4, zand_nat _ _ (by omega) (by omega)]
    by_cases hin : qin (qsr w) S
    · rw [if_pos (by rw [(qin_and _ _).2 hin]), if_pos g1]
      refine ⟨_, rfl, mw_congr (fun v => ?_) (mw_one (x := qpr F C l w) (by omega)), by omega⟩
      constructor
      · intro hv
        exact ⟨w, w1, Or.inr w2, hin, hv⟩
      · rintro ⟨u, u1, u2, u3, u4⟩
        have : u = w := by omega
        rw [this] at u4
        exact u4
    · rw [if_neg (fun e => hin ((qin_and _ _).1 (by omega)))]
      refine ⟨_, rfl, mw_none (fun v => ?_), by omega⟩
      rintro ⟨u, u1, u2, u3, u4⟩
      have : u = w := by omega
      rw [this] at u3
      exact hin u3
theorem l_built25 (hC : ∀ j, 0 ≤ C j ∧ C j ≤ 9) (hc : c ≤ 8) (hT : qsg c F C T) (hh : qhl c F C fx h hp) {S : Nat} (hS : S < 2 ^ c) {B : Nat → Int} (hB : ∀ R, R < S → qmw (qpt (qst c F C fx) c 0 R) 1048576 (B R) ∧ B R ≤ 1048576) (v1 : Int) : ∀ (n k : Nat) (b : Int), 8 - k < n → k ≤ c → b ≤ 1048576 → qmw (fun v => ∃ i : Nat, i < k ∧ S.testBit i = true ∧ ∃ u x, qpt (qst c F C fx) c 0 (S ^^^ 2 ^ i) u ∧ qst c F C fx i (S ^^^ 2 ^ i) x ∧ v = u + x) 1048576 b →
    ∃ b2, l_X8_fillBuilt_25 n v1 S b k c T B h hp = some b2 ∧ b2 ≤ 1048576 ∧ qmw (fun v => ∃ i : Nat, i < c ∧ S.testBit i = true ∧ ∃ u x, qpt (qst c F C fx) c 0 (S ^^^ 2 ^ i) u ∧ qst c F C fx i (S ^^^ 2 ^ i) x ∧ v = u + x) 1048576 b2 := by
  have h8 := q_p8 hc
  intro n
  induction n with
  | zero => intro k b h; omega
  | succ n ih =>
    intro k b hn hk hbb hb
    rw [l_X8_fillBuilt_25]
    by_cases he : k = c
    · subst he
      rw [if_neg (by omega)]
      exact ⟨b, rfl, hbb, hb⟩
    · have gz : zI ((k : Int) + 1) := by omega
      rw [if_pos (show (k : Int) < (c : Int) by omega)]
      cases hbit : S.testBit k
      · rw [q_bit0 (by omega) (by omega) hbit, if_pos rfl, if_pos gz]
        refine ih (k + 1) b (by omega) (by omega) hbb (mw_congr (fun v => ?_) hb)
        constructor
        · rintro ⟨i, i1, i2⟩
          exact ⟨i, by omega, i2⟩
        · rintro ⟨i, i1, i2, i3⟩
          have : i ≠ k := fun e => by rw [e, hbit] at i2; simp at i2
          exact ⟨i, by omega, i2, i3⟩
      · have xl := x_lt hbit
        have hb0 : (S ^^^ 2 ^ k).testBit k = false := by rw [tb_xi, hbit]; rfl
        have p31 : 2 ^ k < 2 ^ 8 := Nat.pow_lt_pow_right (by omega) (by omega)
        obtain ⟨x, x1, x2, x3⟩ := q_behind hC hc hT hh (l := k) (S := S ^^^ 2 ^ k) (by omega) (by omega) hb0
        obtain ⟨b1, b2⟩ := hB _ xl
        have n1 := mw_nonneg (by omega) b1 (fun v hv => (qpt_b (qst_b hC fx) hv).1)
        have n2 := mw_nonneg (by omega) x2 (fun v hv => (qst_b hC fx _ _ _ hv).1)
        have g1 : zin ((S ^^^ 2 ^ k : Nat) : Int) 256 := by omega
        have g2 : zI (B (S ^^^ 2 ^ k) + x) := by omega
        have h3 := mw_add (by omega) b1 x2 (fun v hv => (qpt_b (qst_b hC fx) hv).1) (fun v hv => (qst_b hC fx _ _ _ hv).1) (fun u y hu hy => by
          have := qpt_b (qst_b hC fx) hu
          have := qst_b hC fx _ _ _ hy
          omega)
        rw [q_bit1 (by omega) (by omega) hbit, if_neg q_10, q_one (by omega), zxor_nat _ _ (by omega) (by omega), if_pos g1, x1, q_bs, Int.toNat_natCast, if_pos g2, if_pos gz]
        refine ih (k + 1) _ (by omega) (by omega) (by omega) (mw_congr (fun v => ?_) (mw_min hb h3))
        constructor
        · rintro (⟨i, i1, i2⟩ | h2)
          · exact ⟨i, by omega, i2⟩
          · exact ⟨k, by omega, hbit, h2⟩
        · rintro ⟨i, i1, i2⟩
          by_cases hik : i = k
          · subst hik; exact Or.inr i2.2
          · exact Or.inl ⟨i, by omega, i2⟩
theorem l_built14 (hC : ∀ j, 0 ≤ C j ∧ C j ≤ 9) (hc : c ≤ 8) (hT : qsg c F C T) (hh : qhl c F C fx h hp) : ∀ (n k : Nat) (B : Nat → Int), 256 - k < n → 1 ≤ k → k ≤ 2 ^ c → (∀ R, R < k → qmw (qpt (qst c F C fx) c 0 R) 1048576 (B R) ∧ B R ≤ 1048576) → ∃ B2, l_X8_fillBuilt_14 n ((2 ^ c - 1 : Nat) : Int) k c T B h hp = some B2 ∧ qbg c F C fx B2 := by
  have h8 := q_p8 hc
  have hp0 := Nat.two_pow_pos c
  intro n
  induction n with
  | zero => intro k B h; omega
  | succ n ih =>
    intro k B hn hk1 hk hB
    rw [l_X8_fillBuilt_14]
    by_cases he : k = 2 ^ c
    · rw [if_pos (by omega)]
      exact ⟨B, rfl, fun S hS => hB S (by omega)⟩
    · obtain ⟨b, e1, e2, e3⟩ := l_built25 hC hc hT hh (S := k) (by omega) hB ((2 ^ c - 1 : Nat) : Int) zN 0 1048576 (by have := zN_big; omega) (by omega) (by omega) (mw_none (fun v ⟨i, hi, _⟩ => by omega))
      have e1 : l_X8_fillBuilt_25 zN ((2 ^ c - 1 : Nat) : Int) k 1048576 0 c T B h hp = some b := e1
      rw [if_neg (by omega), e1, q_bs, if_pos (by omega), Int.toNat_natCast]
      refine ih (k + 1) _ (by omega) (by omega) (by omega) (fun R hR => ?_)
      rw [q_zu]
      by_cases hRk : R = k
      · subst hRk
        rw [if_pos rfl]
        exact ⟨mw_congr (fun v => (qpt_back (by omega) v).symm) e3, e2⟩
      · rw [if_neg hRk]
        exact hB R (by omega)
theorem q_built (hC : ∀ j, 0 ≤ C j ∧ C j ≤ 9) (hc : c ≤ 8) (hT : qsg c F C T) (hh : qhl c F C fx h hp) (B : Nat → Int) : ∃ B2, f_X8_fillBuilt c T B h hp = some B2 ∧ qbg c F C fx B2 := by
  have hp0 := Nat.two_pow_pos c
  obtain ⟨B2, e1, e2⟩ := l_built14 hC hc hT hh zN 1 (zu B 0 0) (by have := zN_big; omega) (by omega) (by omega) (fun R hR => by
    have e : R = 0 := by omega
    subst e
    rw [q_zu, if_pos rfl]
    exact ⟨mw_congr (fun v => (qpt_zero v).symm) (mw_one (by omega)), by omega⟩)
  have e1 : l_X8_fillBuilt_14 zN ((2 ^ c - 1 : Nat) : Int) 1 c T (zu B (Int.toNat 0) 0) h hp = some B2 := e1
  unfold f_X8_fillBuilt
  rw [(q_every hc).1, q_bs, e1, q_bs]
  exact ⟨B2, rfl, e2⟩
theorem l_rest26 (hC : ∀ j, 0 ≤ C j ∧ C j ≤ 9) (hc : c ≤ 8) (hT : qsg c F C T) (hh : qhl c F C fx h hp) {S : Nat} (hS : S < 2 ^ c) {B : Nat → Int} (hB : ∀ R, S < R → R < 2 ^ c → qmw (qpt (qst c F C fx) c R (2 ^ c - 1)) 1048576 (B R) ∧ B R ≤ 1048576) : ∀ (n k : Nat) (b : Int), 8 - k < n → k ≤ c → b ≤ 1048576 → qmw (fun v => ∃ i : Nat, i < k ∧ S.testBit i = false ∧ ∃ x u, qst c F C fx i S x ∧ qpt (qst c F C fx) c (S ^^^ 2 ^ i) (2 ^ c - 1) u ∧ v = x + u) 1048576 b →
    ∃ b2, l_X8_fillRest_26 n S b k c T B h hp = some b2 ∧ b2 ≤ 1048576 ∧ qmw (fun v => ∃ i : Nat, i < c ∧ S.testBit i = false ∧ ∃ x u, qst c F C fx i S x ∧ qpt (qst c F C fx) c (S ^^^ 2 ^ i) (2 ^ c - 1) u ∧ v = x + u) 1048576 b2 := by
  have h8 := q_p8 hc
  intro n
  induction n with
  | zero => intro k b h; omega
  | succ n ih =>
    intro k b hn hk hbb hb
    rw [l_X8_fillRest_26]
    by_cases he : k = c
    · subst he
      rw [if_neg (by omega)]
      exact ⟨b, rfl, hbb, hb⟩
    · have gz : zI ((k : Int) + 1) := by omega
      rw [if_pos (show (k : Int) < (c : Int) by omega)]
      cases hbit : S.testBit k
      · have xl := x_gt hbit
        have p31 : 2 ^ k < 2 ^ 8 := Nat.pow_lt_pow_right (by omega) (by omega)
        have xb := x_b (i := k) hS (by omega)
        obtain ⟨x, x1, x2, x3⟩ := q_behind hC hc hT hh (l := k) (S := S) (by omega) hS hbit
        obtain ⟨b1, b2⟩ := hB _ xl xb
        have n1 := mw_nonneg (by omega) b1 (fun v hv => (qpt_b (qst_b hC fx) hv).1)
        have n2 := mw_nonneg (by omega) x2 (fun v hv => (qst_b hC fx _ _ _ hv).1)
        have g1 : zin ((S ^^^ 2 ^ k : Nat) : Int) 256 ∧ zI (x + B (S ^^^ 2 ^ k)) := by omega
        have h3 := mw_add (by omega) x2 b1 (fun v hv => (qst_b hC fx _ _ _ hv).1) (fun v hv => (qpt_b (qst_b hC fx) hv).1) (fun y u hy hu => by
          have := qpt_b (qst_b hC fx) hu
          have := qst_b hC fx _ _ _ hy
          omega)
        have ho := (q_or (n := 8) (a := S) (b := 2 ^ k) (by omega) (by omega) p31).1
        rw [or_x hbit] at ho
        rw [q_bit0 (by omega) (by omega) hbit, if_pos rfl, x1, q_bs, q_one (by omega), ho, Int.toNat_natCast, if_pos g1, if_pos gz]
        refine ih (k + 1) _ (by omega) (by omega) (by omega) (mw_congr (fun v => ?_) (mw_min hb h3))
        constructor
        · rintro (⟨i, i1, i2⟩ | h2)
          · exact ⟨i, by omega, i2⟩
          · exact ⟨k, by omega, hbit, h2⟩
        · rintro ⟨i, i1, i2⟩
          by_cases hik : i = k
          · subst hik; exact Or.inr i2.2
          · exact Or.inl ⟨i, by omega, i2⟩
      · rw [q_bit1 (by omega) (by omega) hbit, if_neg q_10, if_pos gz]
        refine ih (k + 1) b (by omega) (by omega) hbb (mw_congr (fun v => ?_) hb)
        constructor
        · rintro ⟨i, i1, i2⟩
          exact ⟨i, by omega, i2⟩
        · rintro ⟨i, i1, i2, i3⟩
          have : i ≠ k := fun e => by rw [e, hbit] at i2; simp at i2
          exact ⟨i, by omega, i2, i3⟩
theorem l_rest16 (hC : ∀ j, 0 ≤ C j ∧ C j ≤ 9) (hc : c ≤ 8) (hT : qsg c F C T) (hh : qhl c F C fx h hp) : ∀ (n k : Nat) (B : Nat → Int), k < n → k < 2 ^ c → (∀ R, k ≤ R → R < 2 ^ c → qmw (qpt (qst c F C fx) c R (2 ^ c - 1)) 1048576 (B R) ∧ B R ≤ 1048576) → ∃ B2, l_X8_fillRest_16 n ((k : Int) - 1) c T B h hp = some B2 ∧ qrg c F C fx B2 := by
  have h8 := q_p8 hc
  have hp0 := Nat.two_pow_pos c
  intro n
  induction n with
  | zero => intro k B h; omega
  | succ n ih =>
    intro k B hn hk hB
    rw [l_X8_fillRest_16]
    by_cases he : k = 0
    · rw [if_pos (by omega)]
      exact ⟨B, rfl, fun S hS => hB S (by omega) hS⟩
    · have e0 : (k : Int) - 1 = ((k - 1 : Nat) : Int) := by omega
      obtain ⟨b, e1, e2, e3⟩ := l_rest26 hC hc hT hh (S := k - 1) (by omega) (fun R hR => hB R (by omega)) zN 0 1048576 (by have := zN_big; omega) (by omega) (by omega) (mw_none (fun v ⟨i, hi, _⟩ => by omega))
      have e1 : l_X8_fillRest_26 zN ((k - 1 : Nat) : Int) 1048576 0 c T B h hp = some b := e1
      rw [if_neg (by omega), e0, e1, q_bs, if_pos (by omega), Int.toNat_natCast]
      refine ih (k - 1) _ (by omega) (by omega) (fun R hR hR2 => ?_)
      rw [q_zu]
      by_cases hRk : R = k - 1
      · subst hRk
        rw [if_pos rfl]
        exact ⟨mw_congr (fun v => (qpt_front (by omega) v).symm) e3, e2⟩
      · rw [if_neg hRk]
        exact hB R (by omega) hR2
theorem q_rest (hC : ∀ j, 0 ≤ C j ∧ C j ≤ 9) (hc : c ≤ 8) (hT : qsg c F C T) (hh : qhl c F C fx h hp) (B : Nat → Int) : ∃ B2, f_X8_fillRest c T B h hp = some B2 ∧ qrg c F C fx B2 := by
  have hp0 := Nat.two_pow_pos c
  have h8 := q_p8 hc
  obtain ⟨B2, e1, e2⟩ := l_rest16 hC hc hT hh zN (2 ^ c - 1) (zu B (2 ^ c - 1) 0) (by have := zN_big; omega) (by omega) (fun R hR hR2 => by
    have e : R = 2 ^ c - 1 := by omega
    subst e
    rw [q_zu, if_pos rfl]
    exact ⟨mw_congr (fun v => (qpt_all v).symm) (mw_one (by omega)), by omega⟩)
  unfold f_X8_fillRest
  rw [(q_every hc).1, q_bs, if_pos (by omega), Int.toNat_natCast, e1, q_bs]
  exact ⟨B2, rfl, e2⟩
end ZBUILT
