/-! ===== hidden ===== -/
theorem l_occ {f : Nat → Int} {m : Nat} (hm : m ≤ 40) (v1 v2 v3 v : Int) : ∀ (n k : Nat), m - k < n → k ≤ m → l_X10_hidden_22 n v1 v2 v3 v (qocc f v k) k m f = some (qocc f v m) := by
  intro n
  induction n with
  | zero => intro k h; omega
  | succ n ih =>
    intro k hn hk
    rw [l_X10_hidden_22]
    have hc := qocc_le f v k
    by_cases h : k = m
    · subst h
      rw [if_neg (by omega)]
    · rw [if_pos (by omega), if_pos (by omega), Int.toNat_natCast]
      have e : qocc f v (k + 1) = qocc f v k + if f k = v then 1 else 0 := rfl
      have h2 := ih (k + 1) (by omega) (by omega)
      rw [e] at h2
      by_cases hv : f k = v
      · rw [if_pos hv] at h2
        rw [if_pos hv, if_pos (by omega)]
        exact h2
      · rw [if_neg hv] at h2
        rw [if_neg hv, if_pos (by omega)]
        exact h2
theorem l_hidden {f t : Nat → Int} {m : Nat} (hm : m ≤ 40) (ht : ∀ v : Nat, v < 100 → t v = qocc f v m) : ∀ (n k : Nat) (a b c : Int), 100 - k < n → k ≤ 100 → 0 ≤ a → a ≤ k → 0 ≤ b → b ≤ k → 0 ≤ c → c ≤ k →
    ∃ a2 b2 c2, l_X1_tally_17 n k a b c t = some (a2, b2, c2) ∧ l_X10_hidden_9 n a b c k m f = some (a2, b2, c2) ∧ 0 ≤ a2 ∧ a2 ≤ 100 ∧ 0 ≤ b2 ∧ b2 ≤ 100 ∧ 0 ≤ c2 ∧ c2 ≤ 100 := by
  intro n
  induction n with
  | zero => intro k a b c h; omega
  | succ n ih =>
    intro k a b c hn hk h1 h2 h3 h4 h5 h6
    rw [l_X1_tally_17, l_X10_hidden_9]
    by_cases h : k = 100
    · subst h
      rw [if_neg (by omega), if_neg (by omega)]
      exact ⟨a, b, c, rfl, rfl, by omega, by omega, by omega, by omega, by omega, by omega⟩
    · have ho := l_occ (f := f) hm a b c (k : Int) zN 0 (by have := zN_big; omega) (by omega)
      have ho : l_X10_hidden_22 zN a b c k 0 0 m f = some (qocc f k m) := ho
      rw [if_pos (show (k : Int) < 100 by omega), if_pos (show (k : Int) < 100 by omega), ho, q_bs, Int.toNat_natCast, ht k (by omega)]
      have hk1 : zin (k : Int) 100 := by omega
      have hkz : zI ((k : Int) + 1) := by omega
      have a0 : zI (a + 0) := by omega
      have a1 : zI (a + 1) := by omega
      have b0 : zI (b + 0) := by omega
      have b1 : zI (b + 1) := by omega
      have c0 : zI (c + 0) := by omega
      have c1 : zI (c + 1) := by omega
      generalize qocc f k m = q
      rw [if_pos hk1]
      by_cases q1 : 0 < q
      · rw [if_pos q1, if_pos q1, if_pos ⟨a1, hk1⟩, if_pos a1]
        by_cases q2 : q = 1
        · rw [if_pos q2, if_pos q2, if_pos ⟨b1, hk1⟩, if_pos b1]
          by_cases q3 : q = 2
          · rw [if_pos q3, if_pos q3, if_pos ⟨c1, hkz⟩, if_pos ⟨c1, hkz⟩]
            exact ih (k + 1) _ _ _ (by omega) (by omega) (by omega) (by omega) (by omega) (by omega) (by omega) (by omega)
          · rw [if_neg q3, if_neg q3, if_pos ⟨c0, hkz⟩, if_pos ⟨c0, hkz⟩]
            exact ih (k + 1) _ _ _ (by omega) (by omega) (by omega) (by omega) (by omega) (by omega) (by omega) (by omega)
        · rw [if_neg q2, if_neg q2, if_pos ⟨b0, hk1⟩, if_pos b0]
          by_cases q3 : q = 2
          · rw [if_pos q3, if_pos q3, if_pos ⟨c1, hkz⟩, if_pos ⟨c1, hkz⟩]
            exact ih (k + 1) _ _ _ (by omega) (by omega) (by omega) (by omega) (by omega) (by omega) (by omega) (by omega)
          · rw [if_neg q3, if_neg q3, if_pos ⟨c0, hkz⟩, if_pos ⟨c0, hkz⟩]
            exact ih (k + 1) _ _ _ (by omega) (by omega) (by omega) (by omega) (by omega) (by omega) (by omega) (by omega)
      · rw [if_neg q1, if_neg q1, if_pos ⟨a0, hk1⟩, if_pos a0]
        by_cases q2 : q = 1
        · rw [if_pos q2, if_pos q2, if_pos ⟨b1, hk1⟩, if_pos b1]
          by_cases q3 : q = 2
          · rw [if_pos q3, if_pos q3, if_pos ⟨c1, hkz⟩, if_pos ⟨c1, hkz⟩]
            exact ih (k + 1) _ _ _ (by omega) (by omega) (by omega) (by omega) (by omega) (by omega) (by omega) (by omega)
          · rw [if_neg q3, if_neg q3, if_pos ⟨c0, hkz⟩, if_pos ⟨c0, hkz⟩]
            exact ih (k + 1) _ _ _ (by omega) (by omega) (by omega) (by omega) (by omega) (by omega) (by omega) (by omega)
        · rw [if_neg q2, if_neg q2, if_pos ⟨b0, hk1⟩, if_pos b0]
          by_cases q3 : q = 2
          · rw [if_pos q3, if_pos q3, if_pos ⟨c1, hkz⟩, if_pos ⟨c1, hkz⟩]
            exact ih (k + 1) _ _ _ (by omega) (by omega) (by omega) (by omega) (by omega) (by omega) (by omega) (by omega)
          · rw [if_neg q3, if_neg q3, if_pos ⟨c0, hkz⟩, if_pos ⟨c0, hkz⟩]
            exact ih (k + 1) _ _ _ (by omega) (by omega) (by omega) (by omega) (by omega) (by omega) (by omega) (by omega)
theorem q_phidden {m : Int} {k t : Nat → Int} (hB : qbox m k t) (ka ko kt : Int) {s u : Int} {f g L W : Nat → Int} (h : qFr s f u g L W) :
    ∃ r a b c s2 f2 u2 g2 L2 W2, f_X9_hidden ka ko kt t s f u g = some (r, a, b, c, s2, f2, u2, g2) ∧ f_X10_hidden m L W k = some (r, L2, W2) ∧ qFr s2 f2 u2 g2 L2 W2 := by
  obtain ⟨h0, h40, hk, ht⟩ := hB
  obtain ⟨m, rfl⟩ : ∃ x : Nat, m = x := ⟨m.toNat, by omega⟩
  rw [Int.toNat_natCast] at ht
  obtain ⟨a, b, c, e1, e2, a1, a2, b1, b2, c1, c2⟩ := l_hidden (f := k) (t := t) (m := m) (by omega) ht zN 0 0 0 0 (by have := zN_big; omega) (by omega) (by omega) (by omega) (by omega) (by omega) (by omega) (by omega)
  have e1 : l_X1_tally_17 zN 0 0 0 0 t = some (a, b, c) := e1
  have e2 : l_X10_hidden_9 zN 0 0 0 0 m k = some (a, b, c) := e2
  obtain ⟨V, hV, _, _⟩ := h
  unfold f_X9_hidden f_X10_hidden f_X1_tally
  rw [e1, e2, q_bs, q_bs, q_bs]
  dsimp only
  by_cases hc : c = 0
  · subst hc
    have g0 : 0 ≤ b * (b - 1) ∧ b * (b - 1) ≤ 100 * 100 := by
      rcases Int.lt_or_le 0 b with hb | hb
      · exact ⟨Int.mul_nonneg b1 (by omega), Int.mul_le_mul b2 (by omega) (by omega) (by omega)⟩
      · have : b = 0 := by omega
        subst this
        omega
    generalize b * (b - 1) = z at *
    obtain ⟨s2, f2, t2, g2, P, Q, x1, x2, x3, x4, x5, x6⟩ := q_fraction (a := 2 * a + z) (b := 2) (by omega) (by omega) (by omega) (by omega) s u f g
    obtain ⟨L2, W2, V2, y1, y2, y3⟩ := q_tells (p1 := 2 * a + z) (p3 := 2) (by omega) (by omega) (by omega) (by omega) hV
    rw [if_pos ((q_eq 0 0).2 rfl), if_pos rfl, if_pos (by omega), if_pos (by omega), x1, y1, q_bs, q_bs]
    exact ⟨_, _, _, _, _, _, _, _, _, _, rfl, rfl, qFr_of (by omega) x2 x3 x4 y2 y3⟩
  · have g0 : 0 ≤ b * b ∧ b * b ≤ 100 * 100 := ⟨Int.mul_nonneg b1 b1, Int.mul_le_mul b2 b2 b1 (by omega)⟩
    have g1 : 0 ≤ 2 * c * a ∧ 2 * c * a ≤ 200 * 100 := ⟨Int.mul_nonneg (by omega) a1, Int.mul_le_mul (by omega) a2 a1 (by omega)⟩
    generalize b * b = z at *
    generalize 2 * c * a = y at *
    obtain ⟨s2, f2, t2, g2, P, Q, x1, x2, x3, x4, x5, x6⟩ := q_fraction (a := y + z) (b := 2 * c) (by omega) (by omega) (by omega) (by omega) s u f g
    obtain ⟨L2, W2, V2, y1, y2, y3⟩ := q_tells (p1 := y + z) (p3 := 2 * c) (by omega) (by omega) (by omega) (by omega) hV
    have n1 : ¬ zlc c 0 = 0 := fun h => hc ((q_eq c 0).1 h)
    rw [if_neg n1, if_neg hc, if_pos (by omega), if_pos (by omega), x1, y1, q_bs, q_bs]
    exact ⟨_, _, _, _, _, _, _, _, _, _, rfl, rfl, qFr_of (by omega) x2 x3 x4 y2 y3⟩
