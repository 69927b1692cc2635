def qpow (a : Int) : Nat → Int
  | 0 => 1
  | k + 1 => qpow a k * a
theorem qpow_9 : ∀ k : Nat, k ≤ 19 → qpow 9 k ≤ 1350851717672992089 := by decide +kernel
theorem qpow_le {a : Int} (h1 : 1 ≤ a) (h9 : a ≤ 9) (k : Nat) : 1 ≤ qpow a k ∧ qpow a k ≤ qpow 9 k := by
  induction k with
  | zero => simp [qpow]
  | succ k ih =>
    simp only [qpow]
    constructor
    · have := Int.mul_le_mul ih.1 h1 (by omega) (by omega)
      omega
    · exact Int.mul_le_mul ih.2 h9 (by omega) (by omega)
theorem qpow_b {a : Int} (h1 : 1 ≤ a) (h9 : a ≤ 9) {k : Nat} (hk : k ≤ 19) : 1 ≤ qpow a k ∧ qpow a k ≤ 1350851717672992089 := by
  have h := qpow_le h1 h9 k
  have := qpow_9 k hk
  omega
theorem l_power {a : Int} (h1 : 1 ≤ a) (h9 : a ≤ 9) (r : Nat) (hr : r ≤ 18) : ∀ (n k : Nat), k ≤ r → r - k < n → l_X9_round_29 n a r (qpow a k) k = some (qpow a r) ∧ l_X10_power_5 n a r (qpow a k) k = some (qpow a r) := by
  intro n
  induction n with
  | zero => intro k h1 h2; omega
  | succ n ih =>
    intro k hk hn
    rw [l_X9_round_29, l_X10_power_5]
    by_cases h : k = r
    · subst h
      rw [if_neg (by omega), if_neg (by omega)]
      exact ⟨rfl, rfl⟩
    · have hb := qpow_b h1 h9 (show k + 1 ≤ 19 by omega)
      have e : qpow a (k + 1) = qpow a k * a := rfl
      rw [e] at hb
      simp (disch := omega) only [if_pos]
      exact ih (k + 1) (by omega) (by omega)
theorem q_power {a : Int} (h1 : 1 ≤ a) (h9 : a ≤ 9) (r : Nat) (hr : r ≤ 18) : f_X10_power a r = some (qpow a r) := by
  unfold f_X10_power
  have := (l_power h1 h9 r hr zN 0 (by omega) (by have := zN_big; omega)).2
  have e : l_X10_power_5 zN a r 1 0 = some (qpow a r) := this
  rw [e]
  rfl
theorem q_round (p1 p2 : Int) : ∃ r, f_X9_round p1 p2 = some r ∧ f_X10_round p1 p2 = some r := by
  simp only [f_X9_round, f_X10_round, q_within, q_in, q_ask]
  by_cases h1 : 1 ≤ p1 ∧ p1 ≤ 9
  · by_cases h2 : 0 ≤ p2 ∧ p2 ≤ 18
    · obtain ⟨r, rfl⟩ : ∃ r : Nat, p2 = r := ⟨p2.toNat, by omega⟩
      have := (l_power h1.1 h1.2 r (by omega) zN 0 (by omega) (by have := zN_big; omega)).1
      have e : l_X9_round_29 zN p1 r 1 0 = some (qpow p1 r) := this
      rw [if_pos h1, if_pos h2, if_pos h1, if_pos h2, e, q_power h1.1 h1.2 r (by omega)]
      exact ⟨_, rfl, rfl⟩
    · rw [if_pos h1, if_neg h2, if_pos h1, if_neg h2]
      exact ⟨_, rfl, rfl⟩
  · rw [if_neg h1, if_neg h1]
    exact ⟨_, rfl, rfl⟩
theorem l_outrun {a p : Int} (h1 : 1 ≤ a) (h9 : a ≤ 9) (hp : p ≤ 10000000000) : ∀ (n k : Nat) (s : Int), k ≤ 19 → 19 - k < n → 0 ≤ s → s ≤ 10000000000 → ∃ r, l_X9_outrun_36 n a p (qpow a k) s k = some r ∧ l_X10_outrun_32 n a p s k = some r := by
  intro n
  induction n with
  | zero => intro k s hk hn; omega
  | succ n ih =>
    intro k s hk hn hs0 hs
    rw [l_X9_outrun_36, l_X10_outrun_32]
    by_cases h : k = 19
    · subst h
      rw [if_pos (by omega), if_neg (by omega)]
      exact ⟨_, rfl, rfl⟩
    · have hb := qpow_b h1 h9 (show k ≤ 19 by omega)
      have hb2 := qpow_b h1 h9 (show k + 1 ≤ 19 by omega)
      have e : qpow a (k + 1) = qpow a k * a := rfl
      rw [e] at hb2
      have e3 := q_power h1 h9 k (by omega)
      by_cases h2 : p < s + qpow a k
      · simp (disch := omega) only [q_gt, if_pos, if_neg, e3, q_bs]
        exact ⟨_, rfl, rfl⟩
      · simp (disch := omega) only [q_gt, if_pos, if_neg, e3, q_bs]
        exact ih (k + 1) _ (by omega) (by omega) (by omega) (by omega)
theorem q_outrun (p1 p2 : Int) : ∃ r, f_X9_outrun p1 p2 = some r ∧ f_X10_outrun p1 p2 = some r := by
  simp only [f_X9_outrun, f_X10_outrun, q_within, q_in, q_ask]
  by_cases h1 : 1 ≤ p1 ∧ p1 ≤ 9
  · by_cases h2 : 1 ≤ p2 ∧ p2 ≤ 10000000000
    · simp (disch := omega) only [q_gt, q_lt, if_pos, if_neg]
      exact l_outrun h1.1 h1.2 h2.2 zN 0 0 (by omega) (by have := zN_big; omega) (by omega) (by omega)
    · by_cases h3 : p2 < 1
      · simp (disch := omega) only [q_gt, q_lt, if_pos, if_neg]
        exact ⟨_, rfl, rfl⟩
      · simp (disch := omega) only [q_gt, q_lt, if_pos, if_neg]
        exact ⟨_, rfl, rfl⟩
  · rw [if_neg h1, if_neg h1]
    exact ⟨_, rfl, rfl⟩
theorem q_person (a : Int) : f_X7_has a = some (if 0 ≤ a ∧ a ≤ 9 then 1 else 0) ∧ f_X10_isPerson a = some (if 0 ≤ a ∧ a ≤ 9 then 1 else 0) := by
  unfold f_X7_has f_X10_isPerson
  rw [q_in, q_bs, if_pos q_zbit]
  refine ⟨?_, rfl⟩
  by_cases h1 : a < 0
  · rw [if_pos h1, if_neg (by omega)]
  · by_cases h2 : a < 10
    · rw [if_neg h1, if_pos h2, if_pos (by omega)]
    · rw [if_neg h1, if_neg h2, if_neg (by omega)]
theorem q_sends (p1 p2 : Int) (o : Nat → Int) (ho : ∀ j, 0 ≤ o j ∧ o j ≤ 1023) : ∃ r o2, f_X9_sends p1 p2 o = some (r, o2) ∧ f_X10_sends p1 p2 o = some (r, o2) ∧ ∀ j, 0 ≤ o2 j ∧ o2 j ≤ 1023 := by
  simp only [f_X9_sends, f_X10_sends, q_within, q_in, (q_person p1).1, (q_person p1).2, q_ask, f_X7_tellSends]
  by_cases h1 : 0 ≤ p1 ∧ p1 ≤ 9
  · by_cases h2 : 0 ≤ p2 ∧ p2 ≤ 1023
    · simp (disch := omega) only [if_pos, q_bs]
      refine ⟨_, _, rfl, rfl, fun j => ?_⟩
      simp only [q_zu]
      have := ho j
      split <;> omega
    · rw [if_pos h1, if_neg h2, if_pos h1, if_neg h2]
      exact ⟨_, _, rfl, rfl, ho⟩
  · rw [if_neg h1, if_neg h1]
    exact ⟨_, _, rfl, rfl, ho⟩
theorem q_copies (p1 p2 p3 p4 : Int) (c o f : Nat → Int) (hc : ∀ j, 0 ≤ c j ∧ c j ≤ 9 ∧ 0 ≤ o j ∧ o j ≤ 100 ∧ 1 ≤ f j ∧ f j ≤ 9) : ∃ r c2 o2 f2, f_X9_copies p1 p2 p3 p4 c o f = some (r, c2, o2, f2) ∧ f_X10_copies p1 p2 p3 p4 c o f = some (r, c2, o2, f2) ∧ ∀ j, 0 ≤ c2 j ∧ c2 j ≤ 9 ∧ 0 ≤ o2 j ∧ o2 j ≤ 100 ∧ 1 ≤ f2 j ∧ f2 j ≤ 9 := by
  simp only [f_X9_copies, f_X10_copies, q_within, q_in, (q_person p1).1, (q_person p1).2, q_ask, f_X7_tellCopies]
  by_cases h1 : 0 ≤ p1 ∧ p1 ≤ 9
  · by_cases h2 : 0 ≤ p2 ∧ p2 ≤ 9
    · by_cases h3 : 0 ≤ p3 ∧ p3 ≤ 100
      · by_cases h4 : 1 ≤ p4 ∧ p4 ≤ 9
        · simp (disch := omega) only [if_pos, q_bs]
          refine ⟨_, _, _, _, rfl, rfl, fun j => ?_⟩
          simp only [q_zu]
          have := hc j
          split <;> omega
        · simp only [if_pos h1, if_pos h2, if_pos h3, if_neg h4]
          exact ⟨_, _, _, _, rfl, rfl, hc⟩
      · simp only [if_pos h1, if_pos h2, if_neg h3]
        exact ⟨_, _, _, _, rfl, rfl, hc⟩
    · simp only [if_pos h1, if_neg h2]
      exact ⟨_, _, _, _, rfl, rfl, hc⟩
  · simp only [if_neg h1]
    exact ⟨_, _, _, _, rfl, rfl, hc⟩
/-- how many of the first places of a row hold v -/
def qocc (f : Nat → Int) (v : Int) : Nat → Int
  | 0 => 0
  | k + 1 => qocc f v k + if f k = v then 1 else 0
theorem qocc_le (f : Nat → Int) (v : Int) (k : Nat) : 0 ≤ qocc f v k ∧ qocc f v k ≤ k := by
  induction k with
  | zero => simp [qocc]
  | succ k ih =>
    simp only [qocc]
    split <;> omega
theorem qocc_zu (f : Nat → Int) (v w : Int) (m : Nat) : ∀ k : Nat, k ≤ m → qocc (zu f m w) v k = qocc f v k := by
  intro k
  induction k with
  | zero => intro _; rfl
  | succ k ih =>
    intro hk
    simp only [qocc]
    rw [ih (by omega), q_zu, if_neg (by omega : ¬ k = m)]
/-- the box: what its cells say -/
def qbox (n : Int) (k t : Nat → Int) : Prop := 0 ≤ n ∧ n ≤ 40 ∧ (∀ j, 0 ≤ k j ∧ k j ≤ 99) ∧ ∀ v : Nat, v < 100 → t v = qocc k v n.toNat
theorem q_keep (p1 n : Int) (k t : Nat → Int) (hB : qbox n k t) : ∃ r n2 k2 t2, f_X9_keep p1 n k t = some (r, n2, k2, t2) ∧ f_X10_keep p1 n k = some (r, n2, k2) ∧ qbox n2 k2 t2 := by
  obtain ⟨h0, h40, hk, ht⟩ := hB
  simp only [f_X9_keep, f_X10_keep, q_within, q_in, q_ask]
  by_cases h1 : 0 ≤ p1 ∧ p1 ≤ 99
  · by_cases h2 : n < 40
    · simp only [f_X1_add]
      have hb := qocc_le k p1 n.toNat
      have e := ht p1.toNat (by omega)
      have e2 : ((p1.toNat : Nat) : Int) = p1 := by omega
      rw [e2] at e
      simp (disch := omega) only [if_pos, if_neg, q_bs]
      refine ⟨_, _, _, _, rfl, rfl, by omega, by omega, fun j => ?_, fun v hv => ?_⟩
      · simp only [q_zu]
        have := hk j
        split <;> omega
      · rw [show (n + 1).toNat = n.toNat + 1 by omega]
        simp only [qocc]
        rw [qocc_zu k v p1 n.toNat n.toNat (Nat.le_refl _)]
        simp only [q_zu, if_true]
        by_cases hv2 : v = p1.toNat
        · subst hv2
          rw [if_pos rfl, if_pos (by omega), e, e2]
        · rw [if_neg hv2, if_neg (by omega), ht v hv]
          omega
    · rw [if_pos h1, if_pos h1, if_neg h2, if_pos (by omega)]
      exact ⟨_, _, _, _, rfl, rfl, h0, h40, hk, ht⟩
  · rw [if_neg h1, if_neg h1]
    exact ⟨_, _, _, _, rfl, rfl, h0, h40, hk, ht⟩
theorem l_burn (a : Int) : ∀ (n : Nat) (v : Int) (t : Nat → Int), 0 ≤ v → v ≤ 100 → 100 - v < n → ∃ t2, l_X1_empty_12 n a v t = some t2 ∧ ∀ j : Nat, t2 j = if v ≤ j ∧ j < 100 then 0 else t j := by
  intro n
  induction n with
  | zero => intro v t h1 h2 h3; omega
  | succ n ih =>
    intro v t h1 h2 h3
    rw [l_X1_empty_12]
    by_cases h : v < 100
    · simp (disch := omega) only [if_pos]
      obtain ⟨t2, e, ht⟩ := ih (v + 1) (zu t v.toNat 0) (by omega) (by omega) (by omega)
      refine ⟨t2, e, fun j => ?_⟩
      rw [ht j]
      simp only [q_zu]
      by_cases g1 : v + 1 ≤ j ∧ j < 100
      · rw [if_pos g1, if_pos (by omega)]
      · rw [if_neg g1]
        by_cases g2 : j = v.toNat
        · rw [if_pos g2, if_pos (by omega)]
        · rw [if_neg g2, if_neg (by omega)]
    · rw [if_neg h]
      exact ⟨t, rfl, fun j => by rw [if_neg (by omega)]⟩
theorem q_burn (n : Int) (k t : Nat → Int) (hB : qbox n k t) : ∃ r n2 t2, f_X9_burn n t = some (r, n2, t2) ∧ f_X10_burn n = some (r, n2) ∧ qbox n2 k t2 := by
  obtain ⟨h0, h40, hk, ht⟩ := hB
  obtain ⟨t2, e, h2⟩ := l_burn n zN 0 t (by omega) (by omega) (by have := zN_big; omega)
  unfold f_X9_burn f_X1_empty f_X10_burn
  rw [e]
  refine ⟨n, 0, t2, rfl, rfl, by omega, by omega, hk, fun v hv => ?_⟩
  rw [h2 v, if_pos (by omega)]
  rfl
