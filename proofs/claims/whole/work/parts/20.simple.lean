/-! ===== pure: small facts, the simple methods ===== -/
theorem q_lt (a b : Int) : zlc a b < 0 ↔ a < b := by unfold zlc; split <;> (try split) <;> omega
theorem q_gt (a b : Int) : 0 < zlc a b ↔ b < a := by unfold zlc; split <;> (try split) <;> omega
theorem q_within (a lo hi : Int) : f_X9_within a lo hi = some (if lo ≤ a ∧ a ≤ hi then 1 else 0) := by
  unfold f_X9_within
  by_cases h1 : a < lo
  · rw [if_pos h1, if_neg (by omega)]
  · by_cases h2 : hi < a
    · rw [if_neg h1, if_pos h2, if_neg (by omega)]
    · rw [if_neg h1, if_neg h2, if_pos (by omega)]
theorem q_in (a lo hi : Int) : f_X10_in a lo hi = some (if lo ≤ a ∧ a ≤ hi then 1 else 0) := by
  unfold f_X10_in
  by_cases h1 : a < lo
  · rw [if_pos ((q_lt _ _).mpr h1), if_neg (by omega)]
  · rw [if_neg (fun h => h1 ((q_lt _ _).mp h))]
    by_cases h2 : hi < a
    · rw [if_pos ((q_gt _ _).mpr h2), if_neg (by omega)]
    · rw [if_neg (fun h => h2 ((q_gt _ _).mp h)), if_pos (by omega)]
/-- a test's answer, asked -/
theorem q_ask {c : Prop} {i : Decidable c} {α : Type} (A : Option α) (B : Int → Option α) : ((some (@ite Int c i 1 0)).bind fun x => if x = 0 then A else B x) = if c then B 1 else A := by
  by_cases h : c
  · simp [h]
  · simp [h]
theorem q_bs {α β : Type} (a : α) (f : α → Option β) : (some a).bind f = f a := rfl
theorem q_zu (f : Nat → Int) (k : Nat) (v : Int) (j : Nat) : zu f k v j = if j = k then v else f j := rfl
theorem q_habit (p1 p2 : Int) (w : Nat → Int) : (∀ j, 0 ≤ w j ∧ w j ≤ 100) → ∃ r w2, f_X9_habit p1 p2 w = some (r, w2) ∧ f_X10_habit p1 p2 w = some (r, w2) ∧ ∀ j, 0 ≤ w2 j ∧ w2 j ≤ 100 := by
  intro hw
  simp only [f_X9_habit, f_X10_habit, q_within, q_in, q_ask, f_X3_tell]
  by_cases h1 : 0 ≤ p1 ∧ p1 ≤ 9
  · by_cases h2 : 0 ≤ p2 ∧ p2 ≤ 100
    · rw [if_pos h1, if_pos h2, if_pos h1, if_pos h2, if_pos (by unfold zin; omega), q_bs]
      refine ⟨_, _, rfl, rfl, fun j => ?_⟩
      simp only [q_zu]
      split
      · exact h2
      · exact hw j
    · rw [if_pos h1, if_neg h2, if_pos h1, if_neg h2]
      exact ⟨_, _, rfl, rfl, hw⟩
  · rw [if_neg h1, if_neg h1]
    exact ⟨_, _, rfl, rfl, hw⟩
theorem q_asking (p1 p2 p3 : Int) (d a : Nat → Int) : (∀ j, 0 ≤ d j ∧ d j ≤ 100 ∧ 1 ≤ a j ∧ a j ≤ 100) → ∃ r d2 a2, f_X9_asking p1 p2 p3 d a = some (r, d2, a2) ∧ f_X10_asking p1 p2 p3 d a = some (r, d2, a2) ∧ ∀ j, 0 ≤ d2 j ∧ d2 j ≤ 100 ∧ 1 ≤ a2 j ∧ a2 j ≤ 100 := by
  intro hw
  simp only [f_X9_asking, f_X10_asking, q_within, q_in, q_ask, f_X0_tell]
  by_cases h1 : 1 ≤ p1 ∧ p1 ≤ 9
  · by_cases h2 : 1 ≤ p3 ∧ p3 ≤ 100
    · by_cases h3 : 0 ≤ p2 ∧ p2 ≤ p3
      · rw [if_pos h1, if_pos h2, if_pos h3, if_pos h1, if_pos h2, if_pos h3, if_pos (by unfold zin; omega), q_bs, if_pos (by unfold zin; omega)]
        refine ⟨_, _, _, rfl, rfl, fun j => ?_⟩
        simp only [q_zu]
        have := hw j
        split <;> omega
      · rw [if_pos h1, if_pos h2, if_neg h3, if_pos h1, if_pos h2, if_neg h3]
        exact ⟨_, _, _, rfl, rfl, hw⟩
    · rw [if_pos h1, if_neg h2, if_pos h1, if_neg h2]
      exact ⟨_, _, _, rfl, rfl, hw⟩
  · rw [if_neg h1, if_neg h1]
    exact ⟨_, _, _, rfl, rfl, hw⟩
theorem zN_big : 10000 < zN := Nat.le_of_ble_eq_true rfl
/-- sums of a row's first places -/
def qsum (f : Nat → Int) : Nat → Int
  | 0 => 0
  | k + 1 => qsum f k + f k
theorem qsum_le {f : Nat → Int} {B : Int} (h : ∀ j, 0 ≤ f j ∧ f j ≤ B) (k : Nat) : 0 ≤ qsum f k ∧ qsum f k ≤ B * k := by
  induction k with
  | zero => simp [qsum]
  | succ k ih =>
    have := h k
    simp only [qsum]
    rw [show B * ((k + 1 : Nat) : Int) = B * k + B by rw [Int.natCast_add, Int.mul_add]; simp]
    omega
theorem l_weights (w : Nat → Int) (hw : ∀ j, 0 ≤ w j ∧ w j ≤ 100) : ∀ (n k : Nat), k ≤ 10 → 10 - k < n → l_X3_sumOfWeights_4 n (qsum w k) k w = some (qsum w 10) ∧ l_X10_weights_4 n (qsum w k) k w = some (qsum w 10) := by
  intro n
  induction n with
  | zero => intro k h1 h2; omega
  | succ n ih =>
    intro k h1 h2
    rw [l_X3_sumOfWeights_4, l_X10_weights_4]
    have hb := qsum_le hw k
    have hk := hw k
    by_cases h : k = 10
    · subst h
      rw [if_pos (by omega), if_neg (by omega)]
      exact ⟨rfl, rfl⟩
    · have e : Int.toNat (k : Int) = k := Int.toNat_natCast k
      simp (disch := omega) only [e, if_pos, if_neg]
      have := ih (k + 1) (by omega) (by omega)
      simp only [qsum] at this
      exact this
theorem q_weights (w : Nat → Int) (hw : ∀ j, 0 ≤ w j ∧ w j ≤ 100) : f_X3_sumOfWeights w = some (qsum w 10) ∧ f_X10_weights w = some (qsum w 10) := by
  unfold f_X3_sumOfWeights f_X10_weights
  have h := l_weights w hw zN 0 (by omega) (by have := zN_big; omega)
  simp only [qsum] at h
  have e : ((0 : Nat) : Int) = 0 := rfl
  rw [e] at h
  rw [h.1, h.2]
  exact ⟨rfl, rfl⟩
theorem q_cost (p1 p2 cS tp ts : Int) (c : Nat → Int) (hc : ∀ j, 0 ≤ c j ∧ c j ≤ 9) : ∃ r c2, f_X10_cost p1 p2 c = some (r, c2) ∧ (∀ j, 0 ≤ c2 j ∧ c2 j ≤ 9) ∧ (f_X9_cost p1 p2 cS c tp ts = some (r, 0, c2, 0, 0) ∨ (f_X9_cost p1 p2 cS c tp ts = some (r, cS, c, tp, ts) ∧ c2 = c)) := by
  simp only [f_X9_cost, f_X10_cost, q_within, q_in, q_ask, f_X4_tellCost, f_X8_forget]
  by_cases h1 : 0 ≤ p1 ∧ p1 ≤ 4
  · by_cases h2 : 0 ≤ p2 ∧ p2 ≤ 9
    · rw [if_pos h1, if_pos h2, if_pos h1, if_pos h2, if_pos (by unfold zin; omega), q_bs, if_pos (by unfold zin; omega), q_bs]
      refine ⟨_, _, rfl, fun j => ?_, Or.inl rfl⟩
      simp only [q_zu]
      have := hc j
      split <;> omega
    · rw [if_pos h1, if_neg h2, if_pos h1, if_neg h2]
      exact ⟨_, _, rfl, hc, Or.inr ⟨rfl, rfl⟩⟩
  · rw [if_neg h1, if_neg h1]
    exact ⟨_, _, rfl, hc, Or.inr ⟨rfl, rfl⟩⟩
theorem q_has (a n : Int) : f_X4_has a n = some (if 0 ≤ a ∧ a < n then 1 else 0) := by
  unfold f_X4_has
  by_cases h1 : a < 0
  · rw [if_pos h1, if_neg (by omega)]
  · by_cases h2 : a < n
    · rw [if_neg h1, if_pos h2, if_pos (by omega)]
    · rw [if_neg h1, if_neg h2, if_neg (by omega)]
theorem q_zbit {c : Prop} {i : Decidable c} : zbit (@ite Int c i 1 0) := by
  by_cases h : c
  · rw [if_pos h]; exact Or.inr rfl
  · rw [if_neg h]; exact Or.inl rfl
theorem q_isLetter (a n : Int) (h0 : 0 ≤ n) (h8 : n ≤ 8) : f_X10_isLetter a n = some (if 0 ≤ a ∧ a < n then 1 else 0) := by
  unfold f_X10_isLetter
  rw [if_pos (by unfold zI; omega), q_in, q_bs, if_pos q_zbit]
  congr 1
  by_cases h : 0 ≤ a ∧ a < n
  · rw [if_pos h, if_pos (by omega)]
  · rw [if_neg h, if_neg (by omega)]
theorem q_form (p1 p2 p3 n cS tp ts : Int) (f : Nat → Int) (h0 : 0 ≤ n) (h8 : n ≤ 8) (hf : ∀ j, -1 ≤ f j ∧ f j ≤ 9) : ∃ r f2, f_X10_form p1 p2 p3 n f = some (r, f2) ∧ (∀ j, -1 ≤ f2 j ∧ f2 j ≤ 9) ∧ (f_X9_form p1 p2 p3 n cS f tp ts = some (r, 0, f2, 0, 0) ∨ (f_X9_form p1 p2 p3 n cS f tp ts = some (r, cS, f, tp, ts) ∧ f2 = f)) := by
  simp only [f_X9_form, f_X10_form, q_within, q_in, q_ask, q_has, q_isLetter p1 n h0 h8, f_X4_tellForm, f_X8_forget]
  by_cases h1 : 0 ≤ p1 ∧ p1 < n
  · by_cases h2 : 0 ≤ p2 ∧ p2 ≤ 7
    · by_cases h3 : -1 ≤ p3 ∧ p3 ≤ 9
      · rw [if_pos h1, if_pos h2, if_pos h3, if_pos h1, if_pos h2, if_pos h3, if_pos (by unfold zin; omega), if_pos (by unfold zin; omega), q_bs, if_pos (by unfold zin; omega), if_pos (by unfold zin; omega), q_bs, Int.mul_comm p1 8]
        refine ⟨_, _, rfl, fun j => ?_, Or.inl rfl⟩
        simp only [q_zu]
        have := hf j
        split <;> omega
      · rw [if_pos h1, if_pos h2, if_neg h3, if_pos h1, if_pos h2, if_neg h3]
        exact ⟨_, _, rfl, hf, Or.inr ⟨rfl, rfl⟩⟩
    · rw [if_pos h1, if_neg h2, if_pos h1, if_neg h2]
      exact ⟨_, _, rfl, hf, Or.inr ⟨rfl, rfl⟩⟩
  · rw [if_neg h1, if_neg h1]
    exact ⟨_, _, rfl, hf, Or.inr ⟨rfl, rfl⟩⟩
theorem l_letter (c : Int) (h0 : 0 ≤ c) (h7 : c ≤ 7) : ∀ (n : Nat) (v : Int) (f : Nat → Int), 0 ≤ v → v ≤ 8 → 8 - v < n → (∀ j, -1 ≤ f j ∧ f j ≤ 9) → ∃ f2, l_X4_add_34 n v c f = some f2 ∧ l_X10_letter_60 n v c f = some f2 ∧ ∀ j, -1 ≤ f2 j ∧ f2 j ≤ 9 := by
  intro n
  induction n with
  | zero => intro v f h1 h2 h3; omega
  | succ n ih =>
    intro v f h1 h2 h3 hf
    rw [l_X4_add_34, l_X10_letter_60]
    by_cases h : v < 8
    · simp (disch := omega) only [if_pos, Int.mul_comm c 8]
      refine ih (v + 1) _ (by omega) (by omega) (by omega) (fun j => ?_)
      simp only [q_zu]
      have := hf j
      split <;> omega
    · rw [if_neg h, if_neg h]
      exact ⟨f, rfl, rfl, hf⟩
theorem q_letter (p1 p2 n cS tp ts : Int) (a b f : Nat → Int) (h0 : 0 ≤ n) (h8 : n ≤ 8) (ha : ∀ j, 0 ≤ a j ∧ a j ≤ 99) (hb : ∀ j, 0 ≤ b j ∧ b j ≤ 99) (hf : ∀ j, -1 ≤ f j ∧ f j ≤ 9) :
    ∃ r n2 a2 b2 f2, f_X10_letter p1 p2 n a b f = some (r, n2, a2, b2, f2) ∧ 0 ≤ n2 ∧ n2 ≤ 8 ∧ (∀ j, 0 ≤ a2 j ∧ a2 j ≤ 99) ∧ (∀ j, 0 ≤ b2 j ∧ b2 j ≤ 99) ∧ (∀ j, -1 ≤ f2 j ∧ f2 j ≤ 9) ∧
      (f_X9_letter p1 p2 n cS a b f tp ts = some (r, n2, 0, a2, b2, f2, 0, 0) ∨ (f_X9_letter p1 p2 n cS a b f tp ts = some (r, n, cS, a, b, f, tp, ts) ∧ n2 = n ∧ a2 = a ∧ b2 = b ∧ f2 = f)) := by
  simp only [f_X9_letter, f_X10_letter, q_within, q_in, q_ask, f_X8_forget]
  by_cases hp : (0 ≤ p1 ∧ p1 ≤ 99) ∧ (p1 ≤ p2 ∧ p2 ≤ 99)
  · obtain ⟨h1, h2⟩ := hp
    rw [if_pos h1, if_pos h2, if_pos (by omega : 0 ≤ p1 ∧ p1 ≤ p2), if_pos (by omega : 0 ≤ p2 ∧ p2 ≤ 99)]
    by_cases h3 : n < 8
    · rw [if_pos h3, if_neg (by omega), if_pos (by unfold zin; omega), q_bs]
      simp only [f_X4_add]
      rw [if_pos h3, if_pos (by unfold zin; omega)]
      obtain ⟨f2, e1, e2, hf2⟩ := l_letter n h0 (by omega) zN 0 f (by omega) (by omega) (by have := zN_big; omega) hf
      rw [e1, e2, q_bs, q_bs]
      simp (disch := omega) only [if_pos, q_bs]
      refine ⟨_, _, _, _, _, rfl, by omega, by omega, fun j => ?_, fun j => ?_, hf2, Or.inl rfl⟩
      · simp only [q_zu]
        have := ha j
        split <;> omega
      · simp only [q_zu]
        have := hb j
        split <;> omega
    · rw [if_neg h3, if_pos (by omega)]
      exact ⟨_, _, _, _, _, rfl, h0, h8, ha, hb, hf, Or.inr ⟨rfl, rfl, rfl, rfl, rfl⟩⟩
  · by_cases h1 : 0 ≤ p1 ∧ p1 ≤ p2
    · rw [if_pos h1, if_neg (by omega : ¬ (0 ≤ p2 ∧ p2 ≤ 99))]
      refine ⟨_, _, _, _, _, rfl, h0, h8, ha, hb, hf, Or.inr ⟨?_, rfl, rfl, rfl, rfl⟩⟩
      by_cases h2 : 0 ≤ p1 ∧ p1 ≤ 99
      · rw [if_pos h2, if_neg (by omega)]
      · rw [if_neg h2]
    · rw [if_neg h1]
      refine ⟨_, _, _, _, _, rfl, h0, h8, ha, hb, hf, Or.inr ⟨?_, rfl, rfl, rfl, rfl⟩⟩
      by_cases h2 : 0 ≤ p1 ∧ p1 ≤ 99
      · rw [if_pos h2, if_neg (by omega)]
      · rw [if_neg h2]
/-- a row of weighted places -/
theorem qsum2_le {f : Nat → Int} (h : ∀ j, 0 ≤ f j ∧ f j ≤ 100) (k : Nat) : k ≤ 10 → 0 ≤ qsum (fun j => (j : Int) * f j) k ∧ qsum (fun j => (j : Int) * f j) k ≤ 900 * k := by
  induction k with
  | zero => simp [qsum]
  | succ k ih =>
    intro hk
    have h1 := h k
    have h2 := ih (by omega)
    have h3 : (k : Int) * f k ≤ 9 * 100 := Int.mul_le_mul (by omega) h1.2 h1.1 (by omega)
    have h4 : 0 ≤ (k : Int) * f k := Int.mul_nonneg (by omega) h1.1
    simp only [qsum]
    rw [show (900 : Int) * ((k + 1 : Nat) : Int) = 900 * k + 900 by omega]
    omega
theorem l_copies (w : Nat → Int) (hw : ∀ j, 0 ≤ w j ∧ w j ≤ 100) : ∀ (n k : Nat), k ≤ 10 → 10 - k < n → l_X3_sumOfCopies_4 n (qsum (fun j => (j : Int) * w j) k) k w = some (qsum (fun j => (j : Int) * w j) 10) ∧ l_X10_copiesOfAll_4 n (qsum (fun j => (j : Int) * w j) k) k w = some (qsum (fun j => (j : Int) * w j) 10) := by
  intro n
  induction n with
  | zero => intro k h1 h2; omega
  | succ n ih =>
    intro k h1 h2
    rw [l_X3_sumOfCopies_4, l_X10_copiesOfAll_4]
    have hb := qsum2_le hw k h1
    by_cases h : k = 10
    · subst h
      rw [if_pos (by omega), if_neg (by omega)]
      exact ⟨rfl, rfl⟩
    · have hb2 := qsum2_le hw (k + 1) (by omega)
      have hk : qsum (fun j => (j : Int) * w j) (k + 1) = qsum (fun j => (j : Int) * w j) k + (k : Int) * w k := rfl
      have e : Int.toNat (k : Int) = k := Int.toNat_natCast k
      rw [hk] at hb2
      simp (disch := omega) only [e, if_pos, if_neg]
      have := ih (k + 1) (by omega) (by omega)
      simp only [qsum] at this
      exact this
theorem q_copiesOfAll (w : Nat → Int) (hw : ∀ j, 0 ≤ w j ∧ w j ≤ 100) : f_X3_sumOfCopies w = some (qsum (fun j => (j : Int) * w j) 10) ∧ f_X10_copiesOfAll w = some (qsum (fun j => (j : Int) * w j) 10) := by
  unfold f_X3_sumOfCopies f_X10_copiesOfAll
  have h := l_copies w hw zN 0 (by omega) (by have := zN_big; omega)
  have e : ((0 : Nat) : Int) = 0 := rfl
  have e2 : qsum (fun j => (j : Int) * w j) 0 = 0 := rfl
  rw [e, e2] at h
  rw [h.1, h.2]
  exact ⟨rfl, rfl⟩
theorem q_lives (w : Nat → Int) (hw : ∀ j, 0 ≤ w j ∧ w j ≤ 100) : ∃ r, f_X9_lives w = some r ∧ f_X10_lives w = some r := by
  unfold f_X9_lives f_X10_lives
  rw [(q_weights w hw).1, (q_weights w hw).2, (q_copiesOfAll w hw).1, (q_copiesOfAll w hw).2]
  simp only [q_bs]
  generalize qsum w 10 = a
  generalize qsum (fun j => (j : Int) * w j) 10 = b
  by_cases h1 : a = 0
  · rw [if_pos h1, if_pos h1]
    exact ⟨_, rfl, rfl⟩
  · by_cases h2 : b < a
    · rw [if_neg h1, if_neg h1, if_pos h2, if_pos h2]
      exact ⟨_, rfl, rfl⟩
    · by_cases h3 : a < b
      · rw [if_neg h1, if_neg h1, if_neg h2, if_neg h2, if_pos h3, if_neg (by omega)]
        exact ⟨_, rfl, rfl⟩
      · rw [if_neg h1, if_neg h1, if_neg h2, if_neg h2, if_neg h3, if_pos (by omega)]
        exact ⟨_, rfl, rfl⟩
