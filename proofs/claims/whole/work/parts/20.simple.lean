/-! ===== pure: small facts, the simple methods ===== -/
theorem q_lt (a b : Int) : zlc a b < 0 ↔ a < b := by unfold zlc; split <;> (try split) <;> omega
theorem q_gt (a b : Int) : 0 < zlc a b ↔ b < a := by unfold zlc; split <;> (try split) <;> omega
theorem q_within (a lo hi : Int) : f_X9_within a lo hi = some (if lo ≤ a ∧ a ≤ hi then 1 else 0) := by
  unfold f_X9_within
  by_cases h1 : a < lo
  · rw [if_pos h1, if_neg (by omega)]
  · by_cases h2 : hi < a
    · rw [if_neg h1, if_pos h2, if_neg (by omega)]
    · rw [if_neg h1, if_neg h2, if_pos (by omega)]
theorem q_in (a lo hi : Int) : f_X10_in a lo hi = some (if lo ≤ a ∧ a ≤ hi then 1 else 0) := by
  unfold f_X10_in
  by_cases h1 : a < lo
  · rw [if_pos ((q_lt _ _).mpr h1), if_neg (by omega)]
  · rw [if_neg (fun h => h1 ((q_lt _ _).mp h))]
    by_cases h2 : hi < a
    · rw [if_pos ((q_gt _ _).mpr h2), if_neg (by omega)]
    · rw [if_neg (fun h => h2 ((q_gt _ _).mp h)), if_pos (by omega)]
/-- a test's answer, asked -/
theorem q_ask {c : Prop} {i : Decidable c} {α : Type} (A : Option α) (B : Int → Option α) : ((some (@ite Int c i 1 0)).bind fun x => if x = 0 then A else B x) = if c then B 1 else A := by
  by_cases h : c
  · simp [h]
  · simp [h]
theorem q_bs {α β : Type} (a : α) (f : α → Option β) : (some a).bind f = f a := rfl
theorem q_zu (f : Nat → Int) (k : Nat) (v : Int) (j : Nat) : zu f k v j = if j = k then v else f j := rfl
theorem q_habit (p1 p2 : Int) (w : Nat → Int) : (∀ j, 0 ≤ w j ∧ w j ≤ 100) → ∃ r w2, f_X9_habit p1 p2 w = some (r, w2) ∧ f_X10_habit p1 p2 w = some (r, w2) ∧ ∀ j, 0 ≤ w2 j ∧ w2 j ≤ 100 := by
  intro hw
  simp only [f_X9_habit, f_X10_habit, q_within, q_in, q_ask, f_X3_tell]
  by_cases h1 : 0 ≤ p1 ∧ p1 ≤ 9
  · by_cases h2 : 0 ≤ p2 ∧ p2 ≤ 100
    · rw [if_pos h1, if_pos h2, if_pos h1, if_pos h2, if_pos (by unfold zin; omega), q_bs]
      refine ⟨_, _, rfl, rfl, fun j => ?_⟩
      simp only [q_zu]
      split
      · exact h2
      · exact hw j
    · rw [if_pos h1, if_neg h2, if_pos h1, if_neg h2]
      exact ⟨_, _, rfl, rfl, hw⟩
  · rw [if_neg h1, if_neg h1]
    exact ⟨_, _, rfl, rfl, hw⟩
theorem q_asking (p1 p2 p3 : Int) (d a : Nat → Int) : (∀ j, 0 ≤ d j ∧ d j ≤ 100 ∧ 1 ≤ a j ∧ a j ≤ 100) → ∃ r d2 a2, f_X9_asking p1 p2 p3 d a = some (r, d2, a2) ∧ f_X10_asking p1 p2 p3 d a = some (r, d2, a2) ∧ ∀ j, 0 ≤ d2 j ∧ d2 j ≤ 100 ∧ 1 ≤ a2 j ∧ a2 j ≤ 100 := by
  intro hw
  simp only [f_X9_asking, f_X10_asking, q_within, q_in, q_ask, f_X0_tell]
  by_cases h1 : 1 ≤ p1 ∧ p1 ≤ 9
  · by_cases h2 : 1 ≤ p3 ∧ p3 ≤ 100
    · by_cases h3 : 0 ≤ p2 ∧ p2 ≤ p3
      · rw [if_pos h1, if_pos h2, if_pos h3, if_pos h1, if_pos h2, if_pos h3, if_pos (by unfold zin; omega), q_bs]
        refine ⟨_, _, _, rfl, rfl, fun j => ?_⟩
        simp only [q_zu]
        have := hw j
        split <;> omega
      · rw [if_pos h1, if_pos h2, if_neg h3, if_pos h1, if_pos h2, if_neg h3]
        exact ⟨_, _, _, rfl, rfl, hw⟩
    · rw [if_pos h1, if_neg h2, if_pos h1, if_neg h2]
      exact ⟨_, _, _, rfl, rfl, hw⟩
  · rw [if_neg h1, if_neg h1]
    exact ⟨_, _, _, rfl, rfl, hw⟩
theorem zN_big : 10000 < zN := Nat.le_of_ble_eq_true rfl
/-- sums of a row's first places -/
def qsum (f : Nat → Int) : Nat → Int
  | 0 => 0
  | k + 1 => qsum f k + f k
theorem qsum_le {f : Nat → Int} {B : Int} (h : ∀ j, 0 ≤ f j ∧ f j ≤ B) (k : Nat) : 0 ≤ qsum f k ∧ qsum f k ≤ B * k := by
  induction k with
  | zero => simp [qsum]
  | succ k ih =>
    have := h k
    simp only [qsum]
    rw [show B * ((k + 1 : Nat) : Int) = B * k + B by rw [Int.natCast_add, Int.mul_add]; simp]
    omega
theorem l_weights (w : Nat → Int) (hw : ∀ j, 0 ≤ w j ∧ w j ≤ 100) : ∀ (n k : Nat), k ≤ 10 → 10 - k < n → l_X3_sumOfWeights_4 n (qsum w k) k w = some (qsum w 10) ∧ l_X10_weights_4 n (qsum w k) k w = some (qsum w 10) := by
  intro n
  induction n with
  | zero => intro k h1 h2; omega
  | succ n ih =>
    intro k h1 h2
    rw [l_X3_sumOfWeights_4, l_X10_weights_4]
    have hb := qsum_le hw k
    have hk := hw k
    by_cases h : k = 10
    · subst h
      rw [if_pos (by omega), if_neg (by omega)]
      exact ⟨rfl, rfl⟩
    · have e : Int.toNat (k : Int) = k := Int.toNat_natCast k
      rw [if_neg (by omega), if_pos (by omega), e, if_pos (by unfold zin zI; omega), if_pos (by unfold zin zI; omega)]
      have := ih (k + 1) (by omega) (by omega)
      simp only [qsum] at this
      exact this
theorem q_weights (w : Nat → Int) (hw : ∀ j, 0 ≤ w j ∧ w j ≤ 100) : f_X3_sumOfWeights w = some (qsum w 10) ∧ f_X10_weights w = some (qsum w 10) := by
  unfold f_X3_sumOfWeights f_X10_weights
  have h := l_weights w hw zN 0 (by omega) (by have := zN_big; omega)
  simp only [qsum] at h
  have e : ((0 : Nat) : Int) = 0 := rfl
  rw [e] at h
  rw [h.1, h.2]
  exact ⟨rfl, rfl⟩
