/-! ===== sets as bits ===== -/
theorem q_bit {m k : Nat} (hm : m < 2147483648) (hk : k < 32) : zand (zshr (m : Int) (k : Int)) 1 = if m.testBit k then 1 else 0 := by
  have e : zshr (m : Int) (k : Int) = ((m / 2 ^ k : Nat) : Int) := by
    rw [zshr_int _ k hk (by omega)]
    rw [Int.natCast_ediv, Int.natCast_pow]
    rfl
  rw [e, zand_1, Nat.testBit_eq_decide_div_mod_eq]
  have h : m / 2 ^ k % 2 = 0 ∨ m / 2 ^ k % 2 = 1 := by omega
  rcases h with h | h
  · rw [h]
    show ((m / 2 ^ k : Nat) : Int) % 2 = 0
    omega
  · rw [h]
    show ((m / 2 ^ k : Nat) : Int) % 2 = 1
    omega
theorem q_one {k : Nat} (hk : k < 31) : zshl 1 (k : Int) = ((2 ^ k : Nat) : Int) := by
  have h : (2 : Nat) ^ k < 2 ^ 31 := Nat.pow_lt_pow_right (by omega) hk
  have h2 := zshl_nat 1 k (by omega) (by omega)
  rw [Nat.one_mul] at h2
  exact h2
theorem q_or {a b n : Nat} (hn : n ≤ 31) (ha : a < 2 ^ n) (hb : b < 2 ^ n) : zor (a : Int) (b : Int) = ((a ||| b : Nat) : Int) ∧ a ||| b < 2 ^ n := by
  have h : (2 : Nat) ^ n ≤ 2 ^ 31 := Nat.pow_le_pow_right (by omega) hn
  exact ⟨zor_nat a b (by omega) (by omega), Nat.or_lt_two_pow ha hb⟩
/-- a without b -/
def qno (a b : Nat) : Nat := a ^^^ (a &&& b)
theorem qno_bit (a b k : Nat) : (qno a b).testBit k = (a.testBit k && !b.testBit k) := by
  unfold qno
  rw [Nat.testBit_xor, Nat.testBit_and]
  cases a.testBit k <;> cases b.testBit k <;> rfl
theorem qno_le (a b : Nat) {n : Nat} (ha : a < 2 ^ n) : qno a b < 2 ^ n := Nat.xor_lt_two_pow ha (Nat.lt_of_le_of_lt Nat.and_le_left ha)
theorem q_not {a b : Nat} (ha : a < 2147483648) (hb : b < 2147483648) : zand (a : Int) (zxor (b : Int) (-1)) = ((qno a b : Nat) : Int) := by
  have e : Int32.ofInt (zxor (b : Int) (-1)) = Int32.ofInt b ^^^ Int32.ofInt (-1) := by
    unfold zxor
    exact Int32.ofInt_toInt _
  unfold zand
  rw [e]
  refine i32_nat ?_ (qno_le a b (n := 31) ha)
  show ((Int32.ofInt a).toBitVec &&& ((Int32.ofInt b).toBitVec ^^^ (Int32.ofInt (-1)).toBitVec)).toNat = _
  have h : (Int32.ofInt a).toBitVec &&& ((Int32.ofInt b).toBitVec ^^^ (Int32.ofInt (-1)).toBitVec) = (Int32.ofInt a).toBitVec ^^^ ((Int32.ofInt a).toBitVec &&& (Int32.ofInt b).toBitVec) := by
    have h1 : (Int32.ofInt (-1)).toBitVec = BitVec.allOnes 32 := by decide
    rw [h1]
    generalize (Int32.ofInt a).toBitVec = x
    generalize (Int32.ofInt b).toBitVec = y
    ext i hi
    simp only [BitVec.getElem_and, BitVec.getElem_xor, BitVec.getElem_allOnes]
    cases x[i] <;> cases y[i] <;> rfl
  rw [h, BitVec.toNat_xor, BitVec.toNat_and, b32, b32]
  unfold qno
  congr 1
  · omega
  · congr 1 <;> omega
theorem q_tm10 (x : Nat) : Int.tmod (x : Int) 10 = ((x % 10 : Nat) : Int) := by
  rw [q_tm _ _ (by omega)]
  omega
/-- those to whom a person sends: class and reference -/
theorem l_getters {o : Nat → Int} {p : Nat} (hp : p < 10) {m : Nat} (ho : o p = m) (hm : m < 1024) : ∀ (n k : Nat) (s : Nat) (c : Int), 10 - k < n → k ≤ 10 → s < 1024 → 0 ≤ c → c ≤ 9 → ∃ s2 : Nat, l_X7_getters_12 n p s c k o = some (s2 : Int) ∧ l_X10_goesTo_12 n p s c k o = some (s2 : Int) ∧ s2 < 1024 := by
  have stay : ∀ (n k : Nat) (s : Nat), 10 - k < n → k ≤ 10 → l_X10_goesTo_12 n p s 0 k o = some (s : Int) := by
    intro n
    induction n with
    | zero => intro k s h; omega
    | succ n ih =>
      intro k s hn hk
      rw [l_X10_goesTo_12]
      by_cases h : k = 10
      · subst h
        rw [if_neg (by omega)]
      · rw [if_pos (by omega), if_pos (by omega), if_neg (by omega), if_pos (by omega)]
        exact ih (k + 1) s (by omega) (by omega)
  intro n
  induction n with
  | zero => intro k s c h; omega
  | succ n ih =>
    intro k s c hn hk hs hc hc2
    by_cases h : k = 10
    · subst h
      rw [l_X7_getters_12, l_X10_goesTo_12, if_neg (by omega), if_neg (by omega)]
      exact ⟨s, rfl, rfl, hs⟩
    · have hk1 : (k : Int) < 10 := by omega
      by_cases h0 : 0 < c
      · have e1 : Int.toNat (p : Int) = p := Int.toNat_natCast p
        have et : Int.tmod ((p : Int) + (k : Int)) 10 = (((p + k) % 10 : Nat) : Int) := by
          have := q_tm10 (p + k)
          rw [Int.natCast_add] at this
          exact this
        have hb := q_bit (m := m) (k := (p + k) % 10) (by omega) (by omega)
        have z1 : zI ((p : Int) + (k : Int)) := by omega
        have z2 : zin (p : Int) 10 := by omega
        have z3 : zI ((k : Int) + 1) := by omega
        have z4 : zI (c + (-1)) := by omega
        rw [l_X7_getters_12, l_X10_goesTo_12, if_pos hk1, if_pos hk1, if_pos h0, if_pos z1, if_pos h0, if_pos ⟨z1, z2⟩, if_pos z2, e1, ho, et, hb]
        have h10 : ¬ (1 : Int) = 0 := by omega
        have h01 : ¬ (0 : Int) = 1 := by omega
        by_cases hbit : m.testBit ((p + k) % 10) = true
        · have hone := q_one (k := (p + k) % 10) (by omega)
          have h2 : 2 ^ ((p + k) % 10) < 2 ^ 10 := Nat.pow_lt_pow_right (by omega) (by omega)
          obtain ⟨o1, o2⟩ := q_or (a := s) (b := 2 ^ ((p + k) % 10)) (n := 10) (by omega) hs h2
          rw [if_pos hbit, if_neg h10, if_pos (rfl : (1 : Int) = 1), if_pos z4, if_pos z4, if_pos z3, if_pos z3, hone, o1]
          exact ih (k + 1) _ _ (by omega) (by omega) o2 (by omega) (by omega)
        · rw [if_neg hbit, if_pos (rfl : (0 : Int) = 0), if_neg h01, if_pos z3, if_pos z3]
          exact ih (k + 1) _ _ (by omega) (by omega) hs hc hc2
      · have : c = 0 := by omega
        subst this
        refine ⟨s, ?_, stay (n + 1) k s hn hk, hs⟩
        rw [l_X7_getters_12, if_pos hk1, if_neg h0]
theorem q_getters {o c : Nat → Int} (ho : ∀ j, 0 ≤ o j ∧ o j ≤ 1023) (hc : ∀ j, 0 ≤ c j ∧ c j ≤ 9) {p : Nat} (hp : p < 10) : ∃ s : Nat, f_X7_getters p o c = some (s : Int) ∧ f_X10_goesTo p o c = some (s : Int) ∧ s < 1024 := by
  have h1 := ho p
  have h2 := hc p
  obtain ⟨s, e1, e2, e3⟩ := l_getters (o := o) hp (m := (o p).toNat) (by omega) (by omega) zN 1 0 (c p) (by have := zN_big; omega) (by omega) (by omega) h2.1 h2.2
  have e1 : l_X7_getters_12 zN p 0 (c p) 1 o = some (s : Int) := e1
  have e2 : l_X10_goesTo_12 zN p 0 (c p) 1 o = some (s : Int) := e2
  unfold f_X7_getters f_X10_goesTo
  rw [Int.toNat_natCast, if_pos (by omega), if_pos (by omega), e1, e2]
  exact ⟨s, rfl, rfl, e3⟩
