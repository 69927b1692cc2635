/-! ===== the chance of a vanished name: bounds and ratios ===== -/
def qW (w : Nat → Int) : Nat → Int
  | 0 => w 9
  | i + 1 => qW w i + w (8 - i)
theorem qW_9 (w : Nat → Int) : qW w 9 = qsum w 10 := by
  show w 9 + w 8 + w 7 + w 6 + w 5 + w 4 + w 3 + w 2 + w 1 + w 0 = 0 + w 0 + w 1 + w 2 + w 3 + w 4 + w 5 + w 6 + w 7 + w 8 + w 9
  omega
theorem qW_le {w : Nat → Int} (hw : ∀ j, 0 ≤ w j ∧ w j ≤ 100) (i : Nat) : 0 ≤ qW w i ∧ qW w i ≤ 100 * ((i : Int) + 1) := by
  induction i with
  | zero => have := hw 9; simp only [qW]; omega
  | succ i ih => have := hw (8 - i); simp only [qW]; omega
theorem qh_le {w : Nat → Int} {A B : Int} (hw : ∀ j, 0 ≤ w j ∧ w j ≤ 100) (hA : 0 ≤ A) (hAB : A ≤ B) (i : Nat) : 0 ≤ qh w A B i ∧ qh w A B i ≤ qW w i * B ^ i := by
  induction i with
  | zero => have := hw 9; simp only [qh, qW, Int.pow_zero, Int.mul_one]; omega
  | succ i ih =>
    have h1 := hw (8 - i)
    have hp : 0 ≤ B ^ i := Int.pow_nonneg (by omega)
    have hp2 : 0 ≤ B ^ i * B := Int.mul_nonneg hp (by omega)
    have h2 : qh w A B i * A ≤ qW w i * B ^ i * B := Int.mul_le_mul ih.2 hAB hA (Int.le_trans ih.1 ih.2)
    have h3 := Int.mul_nonneg ih.1 hA
    have h4 := Int.mul_nonneg hp2 h1.1
    simp only [qh, qW, Int.pow_succ]
    rw [Int.mul_assoc] at h2
    rw [Int.add_mul, Int.mul_comm (w (8 - i))]
    omega
theorem q_pow_le {B : Int} (hB : 1 ≤ B) {k j : Nat} (h : k ≤ j) : B ^ k ≤ B ^ j := by
  obtain ⟨d, rfl⟩ := Nat.exists_eq_add_of_le h
  induction d with
  | zero => exact Int.le_refl _
  | succ d ih =>
    have h1 := ih (by omega)
    have h2 : 0 ≤ B ^ (k + d) := Int.pow_nonneg (by omega)
    have h3 : B ^ (k + d) * 1 ≤ B ^ (k + d) * B := Int.mul_le_mul_of_nonneg_left hB h2
    show B ^ k ≤ B ^ (k + d + 1)
    rw [Int.pow_succ]
    omega
theorem qh_bnd {w : Nat → Int} {A B : Int} (hw : ∀ j, 0 ≤ w j ∧ w j ≤ 100) (hA : 0 ≤ A) (hAB : A ≤ B) (hB : 1 ≤ B) (i : Nat) (hi : i < 9) :
    qh w A B i * A < 1000 * B ^ 9 + 1 ∧ B ^ i * B < 1000 * B ^ 9 + 1 ∧ qh w A B (i + 1) < 1000 * B ^ 9 + 1 := by
  have h1 := qh_le hw hA hAB i
  have h2 := qh_le hw hA hAB (i + 1)
  have h3 := qW_le hw i
  have h4 := qW_le hw (i + 1)
  have hp : B ^ (i + 1) ≤ B ^ 9 := q_pow_le hB (by omega)
  have hp0 : 0 ≤ B ^ (i + 1) := Int.pow_nonneg (by omega)
  have h5 : qW w (i + 1) * B ^ (i + 1) ≤ 1000 * B ^ 9 := Int.mul_le_mul (by omega) hp hp0 (by omega)
  have h6 : qW w i * B ^ (i + 1) ≤ 1000 * B ^ 9 := Int.mul_le_mul (by omega) hp hp0 (by omega)
  have h7 : qh w A B i * A ≤ qW w i * B ^ i * B := Int.mul_le_mul h1.2 hAB hA (Int.le_trans h1.1 h1.2)
  have e : B ^ i * B = B ^ (i + 1) := (Int.pow_succ B i).symm
  rw [Int.mul_assoc, e] at h7
  rw [e]
  omega
theorem qh_ratio {w : Nat → Int} {A B C D : Int} (h : A * D = C * B) (i : Nat) : qh w A B i * D ^ i = qh w C D i * B ^ i := by
  induction i with
  | zero => simp only [qh, Int.pow_zero]
  | succ i ih =>
    simp only [qh, Int.pow_succ]
    rw [Int.add_mul, Int.add_mul]
    have e1 : qh w A B i * A * (D ^ i * D) = qh w C D i * C * (B ^ i * B) := by
      have e2 : qh w A B i * A * (D ^ i * D) = (qh w A B i * D ^ i) * (A * D) := by
        rw [Int.mul_assoc, Int.mul_assoc, Int.mul_left_comm A]
      have e3 : qh w C D i * C * (B ^ i * B) = (qh w C D i * B ^ i) * (C * B) := by
        rw [Int.mul_assoc, Int.mul_assoc, Int.mul_left_comm C]
      rw [e2, e3, ih, h]
    rw [e1]
    congr 1
    rw [Int.mul_right_comm (B ^ i * B), Int.mul_comm (B ^ i * B), Int.mul_right_comm (D ^ i * D) (w (8 - i))]
def qE : Nat → Nat
  | 0 => 0
  | g + 1 => 9 * qE g + 1
def qbo (w : Nat → Int) : Nat → Int
  | 0 => 1
  | g + 1 => qbo w g ^ 9 * qsum w 10
def qab (w : Nat → Int) : Nat → Int
  | 0 => 0
  | g + 1 => qh w (qab w g) (qbo w g) 9
theorem qAB {w : Nat → Int} (hw : ∀ j, 0 ≤ w j ∧ w j ≤ 100) (h1 : 1 ≤ qsum w 10) (g : Nat) : 0 ≤ qab w g ∧ qab w g ≤ qbo w g ∧ 1 ≤ qbo w g ∧ qbo w g ≤ 1000 ^ qE g := by
  have hs := qsum_le hw 10
  induction g with
  | zero => simp only [qab, qbo, qE]; decide
  | succ g ih =>
    obtain ⟨i1, i2, i3, i4⟩ := ih
    have hp : 1 ≤ qbo w g ^ 9 := by
      have := q_pow_le i3 (show 0 ≤ 9 by omega)
      rw [Int.pow_zero] at this
      exact this
    have h2 := qh_le hw i1 i2 9
    rw [qW_9] at h2
    have h3 : qbo w g ^ 9 ≤ (1000 ^ qE g) ^ 9 := by
      obtain ⟨b, hb⟩ : ∃ b : Nat, qbo w g = b := ⟨(qbo w g).toNat, by omega⟩
      rw [hb] at i4 ⊢
      have h4 : b ≤ 1000 ^ qE g := by
        have : ((1000 ^ qE g : Nat) : Int) = 1000 ^ qE g := by rw [Int.natCast_pow]; rfl
        omega
      have h5 := Nat.pow_le_pow_left h4 9
      have h6 : ((b ^ 9 : Nat) : Int) ≤ (((1000 ^ qE g) ^ 9 : Nat) : Int) := by omega
      rw [Int.natCast_pow, Int.natCast_pow, Int.natCast_pow] at h6
      exact h6
    have h7 : qbo w g ^ 9 * qsum w 10 ≤ (1000 ^ qE g) ^ 9 * 1000 := Int.mul_le_mul h3 (by omega) (by omega) (Int.pow_nonneg (Int.pow_nonneg (by omega)))
    have h8 : 1 * 1 ≤ qbo w g ^ 9 * qsum w 10 := Int.mul_le_mul hp h1 (by omega) (by omega)
    simp only [qab, qbo, qE]
    refine ⟨h2.1, ?_, by omega, ?_⟩
    · rw [Int.mul_comm]; exact h2.2
    · have e5 : (1000 : Int) ^ (9 * qE g + 1) = (1000 ^ qE g) ^ 9 * 1000 := by rw [Int.pow_succ, Nat.mul_comm 9, Int.pow_mul]
      rw [e5]
      exact h7
theorem q_big {B : Int} (h1 : 1 ≤ B) (h : B ≤ 1000 ^ 10) : 1000 * B ^ 9 + 1 < qP 31 := by
  obtain ⟨b, rfl⟩ : ∃ b : Nat, B = b := ⟨B.toNat, by omega⟩
  have h2 : b ≤ 1000 ^ 10 := by
    have : ((1000 ^ 10 : Nat) : Int) = 1000 ^ 10 := by rw [Int.natCast_pow]; rfl
    omega
  have h3 := Nat.pow_le_pow_left h2 9
  have h4 : ((b ^ 9 : Nat) : Int) ≤ (((1000 ^ 10) ^ 9 : Nat) : Int) := by omega
  rw [Int.natCast_pow] at h4
  have h5 : 1000 * (((1000 ^ 10) ^ 9 : Nat) : Int) + 1 < qP 31 := by decide +kernel
  omega
theorem q_ratio {A B A2 B2 C D : Int} (hB : 0 < B) (h1 : A2 * B = A * B2) (h2 : A * D = C * B) : A2 * D = C * B2 := by
  refine Int.eq_of_mul_eq_mul_right (show B ≠ 0 by omega) ?_
  rw [Int.mul_right_comm, h1, Int.mul_right_comm, h2, Int.mul_right_comm]
