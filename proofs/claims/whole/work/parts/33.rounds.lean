/-! ===== the reference: the rounds of a vanishing name ===== -/
theorem qQ_sets {p : Nat} (hp : p < 9) {v : Int} (hv : 0 ≤ v) (hv2 : v < 9223372036854775808) {L W V : Nat → Int} (h : qQ L W V) : ∃ L2 W2, f_X10_sets p v L W = some (L2, W2) ∧ qQ L2 W2 (zu V p v) := by
  obtain ⟨L2, W2, h1, h2, h3⟩ := q_sets hp hv hv2 L W
  exact ⟨L2, W2, h1, qQ_upd h h3 h2⟩
theorem qQ_takes {p q : Nat} (hp : p < 9) (hq : q < 9) (hpq : p ≠ q) (hq4 : q ≠ 4) {L W V : Nat → Int} (h : qQ L W V) : ∃ L2 W2, f_X10_takes p q L W = some (L2, W2) ∧ qQ L2 W2 (zu V p (V q)) := by
  obtain ⟨L2, W2, h1, h2, h3⟩ := q_takes hp hq hpq (h q hq hq4)
  exact ⟨L2, W2, h1, qQ_upd h h3 h2⟩
theorem qQ_adds {p q : Nat} (hp : p < 9) (hq : q < 9) (hpq : p ≠ q) (hp4 : p ≠ 4) (hq4 : q ≠ 4) {L W V : Nat → Int} (h : qQ L W V) (h1 : V p < qP 60) (h2 : V q < qP 60) : ∃ L2 W2, f_X10_adds p q L W = some (L2, W2) ∧ qQ L2 W2 (zu V p (V p + V q)) := by
  obtain ⟨L2, W2, g1, g2, g3⟩ := q_adds hp hq hpq (h p hp hp4) (h q hq hq4) h1 h2
  exact ⟨L2, W2, g1, qQ_upd h g3 g2⟩
def qt (c A B : Int) (k : Nat) : Nat → Int
  | 0 => c
  | i + 1 => qt c A B k i * (if i < k then A else B)
theorem qt_le {c A B : Int} (hc : 0 ≤ c) (hA : 0 ≤ A) (hAB : A ≤ B) (k i : Nat) : 0 ≤ qt c A B k i ∧ qt c A B k i ≤ c * B ^ i := by
  induction i with
  | zero => simp only [qt, Int.pow_zero, Int.mul_one]; omega
  | succ i ih =>
    have h0 : 0 ≤ (if i < k then A else B) ∧ (if i < k then A else B) ≤ B := by split <;> omega
    simp only [qt, Int.pow_succ]
    refine ⟨Int.mul_nonneg ih.1 h0.1, ?_⟩
    rw [← Int.mul_assoc]
    exact Int.mul_le_mul ih.2 h0.2 h0.1 (Int.le_trans ih.1 ih.2)
theorem qt_val (c A B : Int) (k i : Nat) : qt c A B k i = c * (A ^ (min i k) * B ^ (i - min i k)) := by
  induction i with
  | zero => simp [qt]
  | succ i ih =>
    simp only [qt]
    rw [ih]
    by_cases h : i < k
    · rw [if_pos h, show min i k = i by omega, show min (i + 1) k = i + 1 by omega, Nat.sub_self, Nat.sub_self, Int.pow_succ, Int.pow_zero, Int.mul_one, Int.mul_one, Int.mul_assoc]
    · rw [if_neg h, show min i k = k by omega, show min (i + 1) k = k by omega, show i + 1 - k = (i - k) + 1 by omega, Int.pow_succ, Int.mul_assoc, Int.mul_assoc]
/-- the first k terms -/
def qT (w : Nat → Int) (A B : Int) : Nat → Int
  | 0 => 0
  | k + 1 => qT w A B k + w k * (A ^ k * B ^ (9 - k))
theorem qT_h (w : Nat → Int) (A B : Int) (i : Nat) : i ≤ 9 → qh w A B i * A ^ (9 - i) + qT w A B (9 - i) = qT w A B 10 := by
  induction i with
  | zero =>
    intro _
    show w 9 * A ^ 9 + qT w A B 9 = qT w A B 9 + w 9 * (A ^ 9 * B ^ 0)
    rw [Int.pow_zero, Int.mul_one]
    omega
  | succ i ih =>
    intro hi
    have h := ih (by omega)
    have e : 9 - i = (9 - (i + 1)) + 1 := by omega
    rw [e] at h
    have e2 : qT w A B (9 - (i + 1) + 1) = qT w A B (9 - (i + 1)) + w (9 - (i + 1)) * (A ^ (9 - (i + 1)) * B ^ (9 - (9 - (i + 1)))) := rfl
    rw [e2, show 9 - (9 - (i + 1)) = i + 1 by omega] at h
    rw [← h]
    show (qh w A B i * A + B ^ (i + 1) * w (8 - i)) * A ^ (9 - (i + 1)) + _ = _
    rw [show 8 - i = 9 - (i + 1) by omega, Int.add_mul, Int.pow_succ A (9 - (i + 1))]
    generalize A ^ (9 - (i + 1)) = X
    generalize B ^ (i + 1) = Y
    generalize w (9 - (i + 1)) = z
    rw [Int.mul_comm X A, Int.mul_assoc, Int.mul_comm X Y, Int.mul_comm Y z, Int.mul_assoc]
    omega
theorem qT_10 (w : Nat → Int) (A B : Int) : qT w A B 10 = qh w A B 9 := by
  have h := qT_h w A B 9 (by omega)
  rw [← h]
  show qh w A B 9 * A ^ 0 + 0 = _
  rw [Int.pow_zero, Int.mul_one, Int.add_zero]
theorem qT_mono {w : Nat → Int} {A B : Int} (hw : ∀ j, 0 ≤ w j ∧ w j ≤ 100) (hA : 0 ≤ A) (hB : 0 ≤ B) (k d : Nat) : qT w A B k ≤ qT w A B (k + d) := by
  induction d with
  | zero => exact Int.le_refl _
  | succ d ih =>
    have h1 := Int.mul_nonneg (hw (k + d)).1 (Int.mul_nonneg (Int.pow_nonneg hA : 0 ≤ A ^ (k + d)) (Int.pow_nonneg hB : 0 ≤ B ^ (9 - (k + d))))
    show _ ≤ qT w A B (k + d) + w (k + d) * (A ^ (k + d) * B ^ (9 - (k + d)))
    omega
theorem l_turns {A B c M : Int} (hA : 0 ≤ A) (hAB : A ≤ B) (hB : 1 ≤ B) (hc : 0 ≤ c) (hc2 : c ≤ 1000) (hM : M = 1000 * B ^ 9 + 1) (hM2 : M < qP 31) (k : Nat) : ∀ (n i : Nat) (L W V : Nat → Int), 9 - i < n → i ≤ 9 → qQ L W V → V 5 = A → V 6 = B → V 8 = qt c A B k i → k ≤ 9 →
    ∃ L2 W2 V2, l_X10_rounds_39 n k i L W = some (L2, W2) ∧ qQ L2 W2 V2 ∧ V2 8 = qt c A B k 9 ∧ ∀ r, r ≠ 8 → V2 r = V r := by
  have hB9 : B ≤ B ^ 9 := by
    have := q_pow_le hB (show 1 ≤ 9 by omega)
    rw [Int.pow_succ, Int.pow_zero, Int.one_mul] at this
    exact this
  intro n
  induction n with
  | zero => intro i L W V h; omega
  | succ n ih =>
    intro i L W V hn hi hV h5 h6 h8 hk
    rw [l_X10_rounds_39]
    by_cases h : i = 9
    · subst h
      rw [if_neg (by omega)]
      exact ⟨L, W, V, rfl, hV, h8, fun _ _ => rfl⟩
    · have hb := qt_le hc hA hAB k i
      have hp : B ^ i ≤ B ^ 9 := q_pow_le hB (by omega)
      have hp0 : 0 ≤ B ^ i := Int.pow_nonneg (by omega)
      have hq : c * B ^ i ≤ 1000 * B ^ 9 := Int.mul_le_mul hc2 hp hp0 (by omega)
      rw [if_pos (by omega)]
      by_cases h2 : i < k
      · obtain ⟨L1, W1, m1, m2⟩ := q_multiplies (p := 8) (q := 5) (by omega) (by omega) (by omega) (by omega) hV (by rw [h8]; omega) (by rw [h5]; omega)
        have m1 : f_X10_multiplies 8 5 L W = some (L1, W1) := m1
        rw [if_pos (by omega), m1, q_bs, if_pos (by omega)]
        obtain ⟨L2, W2, V2, g1, g2, g3, g4⟩ := ih (i + 1) L1 W1 _ (by omega) (by omega) m2 (by rw [q_zu, if_neg (by omega)]; exact h5) (by rw [q_zu, if_neg (by omega)]; exact h6) (by
          rw [q_zu, if_pos rfl, h8, h5]
          show _ = qt c A B k i * (if i < k then A else B)
          rw [if_pos h2]) hk
        exact ⟨L2, W2, V2, g1, g2, g3, fun r hr => by rw [g4 r hr, q_zu, if_neg hr]⟩
      · obtain ⟨L1, W1, m1, m2⟩ := q_multiplies (p := 8) (q := 6) (by omega) (by omega) (by omega) (by omega) hV (by rw [h8]; omega) (by rw [h6]; omega)
        have m1 : f_X10_multiplies 8 6 L W = some (L1, W1) := m1
        rw [if_neg (by omega), m1, q_bs, if_pos (by omega)]
        obtain ⟨L2, W2, V2, g1, g2, g3, g4⟩ := ih (i + 1) L1 W1 _ (by omega) (by omega) m2 (by rw [q_zu, if_neg (by omega)]; exact h5) (by rw [q_zu, if_neg (by omega)]; exact h6) (by
          rw [q_zu, if_pos rfl, h8, h6]
          show _ = qt c A B k i * (if i < k then A else B)
          rw [if_neg h2]) hk
        exact ⟨L2, W2, V2, g1, g2, g3, fun r hr => by rw [g4 r hr, q_zu, if_neg hr]⟩
theorem l_belows {A B c M : Int} (hA : 0 ≤ A) (hAB : A ≤ B) (hB : 1 ≤ B) (hc : 0 ≤ c) (hc2 : c ≤ 1000) (hM : M = 1000 * B ^ 9 + 1) (hM2 : M < qP 31) : ∀ (n i : Nat) (L W V : Nat → Int), 9 - i < n → i ≤ 9 → qQ L W V → V 6 = B → V 8 = qt c A B 0 i →
    ∃ L2 W2 V2, l_X10_rounds_95 n i L W = some (L2, W2) ∧ qQ L2 W2 V2 ∧ V2 8 = qt c A B 0 9 ∧ ∀ r, r ≠ 8 → V2 r = V r := by
  have hB9 : B ≤ B ^ 9 := by
    have := q_pow_le hB (show 1 ≤ 9 by omega)
    rw [Int.pow_succ, Int.pow_zero, Int.one_mul] at this
    exact this
  intro n
  induction n with
  | zero => intro i L W V h; omega
  | succ n ih =>
    intro i L W V hn hi hV h6 h8
    rw [l_X10_rounds_95]
    by_cases h : i = 9
    · subst h
      rw [if_neg (by omega)]
      exact ⟨L, W, V, rfl, hV, h8, fun _ _ => rfl⟩
    · have hb := qt_le hc hA hAB 0 i
      have hp : B ^ i ≤ B ^ 9 := q_pow_le hB (by omega)
      have hp0 : 0 ≤ B ^ i := Int.pow_nonneg (by omega)
      have hq : c * B ^ i ≤ 1000 * B ^ 9 := Int.mul_le_mul hc2 hp hp0 (by omega)
      obtain ⟨L1, W1, m1, m2⟩ := q_multiplies (p := 8) (q := 6) (by omega) (by omega) (by omega) (by omega) hV (by rw [h8]; omega) (by rw [h6]; omega)
      have m1 : f_X10_multiplies 8 6 L W = some (L1, W1) := m1
      rw [if_pos (by omega), m1, q_bs, if_pos (by omega)]
      obtain ⟨L2, W2, V2, g1, g2, g3, g4⟩ := ih (i + 1) L1 W1 _ (by omega) (by omega) m2 (by rw [q_zu, if_neg (by omega)]; exact h6) (by
        rw [q_zu, if_pos rfl, h8, h6]
        show _ = qt c A B 0 i * (if i < 0 then A else B)
        rw [if_neg (by omega)])
      exact ⟨L2, W2, V2, g1, g2, g3, fun r hr => by rw [g4 r hr, q_zu, if_neg hr]⟩
theorem l_terms {w : Nat → Int} (hw : ∀ j, 0 ≤ w j ∧ w j ≤ 100) {A B M : Int} (hA : 0 ≤ A) (hAB : A ≤ B) (hB : 1 ≤ B) (hM : M = 1000 * B ^ 9 + 1) (hM2 : M < qP 31) : ∀ (n k : Nat) (L W V : Nat → Int), 10 - k < n → k ≤ 10 → qQ L W V → V 5 = A → V 6 = B → V 7 = qT w A B k →
    ∃ L2 W2 V2, l_X10_rounds_9 n k L W w = some (L2, W2) ∧ qQ L2 W2 V2 ∧ V2 7 = qT w A B 10 ∧ ∀ r, r ≠ 7 → r ≠ 8 → V2 r = V r := by
  have hT : qT w A B 10 ≤ 1000 * B ^ 9 := by
    have h1 := qh_le hw hA hAB 9
    have h2 := qW_le hw 9
    have hp : 0 ≤ B ^ 9 := Int.pow_nonneg (by omega)
    have h3 : qW w 9 * B ^ 9 ≤ 1000 * B ^ 9 := Int.mul_le_mul_of_nonneg_right (by omega) hp
    rw [qT_10]
    omega
  intro n
  induction n with
  | zero => intro i L W V h; omega
  | succ n ih =>
    intro k L W V hn hk hV h5 h6 h7
    rw [l_X10_rounds_9]
    by_cases h : k = 10
    · subst h
      rw [if_neg (by omega)]
      exact ⟨L, W, V, rfl, hV, h7, fun _ _ _ => rfl⟩
    · have hwk := hw k
      have e : qT w A B (k + 1) = qT w A B k + w k * (A ^ k * B ^ (9 - k)) := rfl
      rw [if_pos (by omega), if_pos (by omega), Int.toNat_natCast]
      by_cases h0 : 0 < w k
      · obtain ⟨L1, W1, s1, s2⟩ := qQ_sets (p := 8) (by omega) (v := w k) (by omega) (by omega) hV
        have s1 : f_X10_sets 8 (w k) L W = some (L1, W1) := s1
        obtain ⟨L2, W2, V2, g1, g2, g3, g4⟩ := l_turns (c := w k) hA hAB hB (by omega) (by omega) hM hM2 k zN 0 L1 W1 _ (by have := zN_big; omega) (by omega) s2 (by rw [q_zu, if_neg (by omega)]; exact h5) (by rw [q_zu, if_neg (by omega)]; exact h6) (by rw [q_zu, if_pos rfl]; rfl) (by omega)
        have g1 : l_X10_rounds_39 zN k 0 L1 W1 = some (L2, W2) := g1
        have e8 : V2 8 = w k * (A ^ k * B ^ (9 - k)) := by rw [g3, qt_val, show min 9 k = k by omega]
        have e7 : V2 7 = qT w A B k := by rw [g4 7 (by omega), q_zu, if_neg (by omega), h7]
        have hm := qT_mono (A := A) (B := B) hw hA (by omega) (k + 1) (10 - (k + 1))
        rw [show k + 1 + (10 - (k + 1)) = 10 by omega] at hm
        have ht := qt_le (c := w k) (by omega) hA hAB k 9
        rw [← g3] at ht
        have h31 := qP_le (show 31 ≤ 60 by omega)
        have h80 : 0 ≤ qT w A B k := by
          have := qT_mono (A := A) (B := B) hw hA (by omega) 0 k
          rw [show 0 + k = k by omega] at this
          exact this
        obtain ⟨L3, W3, a1, a2⟩ := qQ_adds (p := 7) (q := 8) (by omega) (by omega) (by omega) (by omega) (by omega) g2 (by rw [e7]; omega) (by omega)
        have a1 : f_X10_adds 7 8 L2 W2 = some (L3, W3) := a1
        rw [if_pos h0, if_pos (by omega), s1, q_bs]
        dsimp only
        rw [g1, q_bs]
        dsimp only
        rw [a1, q_bs, if_pos (by omega)]
        dsimp only
        obtain ⟨L4, W4, V4, b1, b2, b3, b4⟩ := ih (k + 1) L3 W3 _ (by omega) (by omega) a2 (by rw [q_zu, if_neg (by omega), g4 5 (by omega), q_zu, if_neg (by omega)]; exact h5) (by rw [q_zu, if_neg (by omega), g4 6 (by omega), q_zu, if_neg (by omega)]; exact h6) (by rw [q_zu, if_pos rfl, e7, e8, e])
        exact ⟨L4, W4, V4, b1, b2, b3, fun r h1 h2 => by rw [b4 r h1 h2, q_zu, if_neg h1, g4 r h2, q_zu, if_neg h2]⟩
      · rw [if_neg h0, if_pos (by omega)]
        exact ih (k + 1) L W V (by omega) (by omega) hV h5 h6 (by rw [h7, e, show w k = 0 by omega, Int.zero_mul, Int.add_zero])
theorem q_rounds {w : Nat → Int} (hw : ∀ j, 0 ≤ w j ∧ w j ≤ 100) {A B M : Int} (hA : 0 ≤ A) (hAB : A ≤ B) (hB : 1 ≤ B) (hM : M = 1000 * B ^ 9 + 1) (hM2 : M < qP 31) {L W V : Nat → Int} (hV : qQ L W V) (h5 : V 5 = A) (h6 : V 6 = B) :
    ∃ L2 W2 V2, f_X10_rounds L W w = some (L2, W2) ∧ qQ L2 W2 V2 ∧ V2 5 = qh w A B 9 ∧ V2 6 = B ^ 9 * qsum w 10 := by
  have hs := qsum_le hw 10
  obtain ⟨L1, W1, s1, s2⟩ := qQ_sets (p := 7) (by omega) (v := 0) (by omega) (by omega) hV
  have s1 : f_X10_sets 7 0 L W = some (L1, W1) := s1
  obtain ⟨L2, W2, V2, t1, t2, t3, t4⟩ := l_terms hw hA hAB hB hM hM2 zN 0 L1 W1 _ (by have := zN_big; omega) (by omega) s2 (by rw [q_zu, if_neg (by omega)]; exact h5) (by rw [q_zu, if_neg (by omega)]; exact h6) (by rw [q_zu, if_pos rfl]; rfl)
  have t1 : l_X10_rounds_9 zN 0 L1 W1 w = some (L2, W2) := t1
  obtain ⟨L3, W3, u1, u2⟩ := qQ_sets (p := 8) (by omega) (v := qsum w 10) (by omega) (by omega) t2
  have u1 : f_X10_sets 8 (qsum w 10) L2 W2 = some (L3, W3) := u1
  obtain ⟨L4, W4, V4, v1, v2, v3, v4⟩ := l_belows (c := qsum w 10) hA hAB hB (by omega) (by omega) hM hM2 zN 0 L3 W3 _ (by have := zN_big; omega) (by omega) u2 (by rw [q_zu, if_neg (by omega), t4 6 (by omega) (by omega), q_zu, if_neg (by omega)]; exact h6) (by rw [q_zu, if_pos rfl]; rfl)
  have v1 : l_X10_rounds_95 zN 0 L3 W3 = some (L4, W4) := v1
  obtain ⟨L5, W5, x1, x2⟩ := qQ_takes (p := 5) (q := 7) (by omega) (by omega) (by omega) (by omega) v2
  have x1 : f_X10_takes 5 7 L4 W4 = some (L5, W5) := x1
  obtain ⟨L6, W6, y1, y2⟩ := qQ_takes (p := 6) (q := 8) (by omega) (by omega) (by omega) (by omega) x2
  have y1 : f_X10_takes 6 8 L5 W5 = some (L6, W6) := y1
  unfold f_X10_rounds
  rw [s1, q_bs]
  dsimp only
  rw [t1, q_bs, (q_weights w hw).2, q_bs]
  dsimp only
  rw [u1, q_bs]
  dsimp only
  rw [v1, q_bs]
  dsimp only
  rw [x1, q_bs]
  dsimp only
  rw [y1, q_bs]
  refine ⟨L6, W6, _, rfl, y2, ?_, ?_⟩
  · rw [q_zu, if_neg (by omega), q_zu, if_pos rfl, v4 7 (by omega), q_zu, if_neg (by omega), t3, qT_10]
  · rw [q_zu, if_pos rfl, q_zu, if_neg (by omega), v3, qt_val]
    show qsum w 10 * (A ^ 0 * B ^ 9) = _
    rw [Int.pow_zero, Int.one_mul, Int.mul_comm]
theorem l_goneR {w : Nat → Int} (hw : ∀ j, 0 ≤ w j ∧ w j ≤ 100) (h1 : 1 ≤ qsum w 10) {N : Nat} (hN : N ≤ 3) : ∀ (n g : Nat) (L W V : Nat → Int), N - g < n → g ≤ N → qQ L W V → V 5 = qab w g → V 6 = qbo w g →
    ∃ L2 W2 V2, l_X10_gone_40 n N g L W w = some (L2, W2) ∧ qQ L2 W2 V2 ∧ V2 5 = qab w N ∧ V2 6 = qbo w N := by
  intro n
  induction n with
  | zero => intro i L W V h; omega
  | succ n ih =>
    intro g L W V hn hg hV h5 h6
    rw [l_X10_gone_40]
    by_cases h : g = N
    · subst h
      rw [if_neg (by omega)]
      exact ⟨L, W, V, rfl, hV, h5, h6⟩
    · obtain ⟨b1, b2, b3, b4⟩ := qAB hw h1 g
      have hE : qE g ≤ 10 := by
        have : g = 0 ∨ g = 1 ∨ g = 2 := by omega
        rcases this with h | h | h <;> subst h <;> decide
      have hB : qbo w g ≤ 1000 ^ 10 := Int.le_trans b4 (q_pow_le (by omega) hE)
      obtain ⟨L2, W2, V2, r1, r2, r3, r4⟩ := q_rounds hw b1 b2 b3 rfl (q_big b3 hB) hV h5 h6
      rw [if_pos (by omega), r1, q_bs, if_pos (by omega)]
      exact ih (g + 1) L2 W2 V2 (by omega) (by omega) r2 r3 r4
