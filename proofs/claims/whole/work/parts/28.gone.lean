/-! ===== the class: the chance that a name vanished ===== -/
theorem q_below {A B m k : Nat} (hd : B ∣ m ^ k) (hg : Nat.gcd (Nat.gcd A B) m = 1) : Nat.gcd A B = 1 := by
  have h1 : Nat.gcd A B ∣ m ^ k := Nat.dvd_trans (Nat.gcd_dvd_right A B) hd
  have h2 : Nat.Coprime (Nat.gcd A B) (m ^ k) := Nat.Coprime.pow_right k hg
  exact h2.eq_one_of_dvd h1
theorem q_pow3 {e : Nat} (he : e ≤ 10) {b m : Nat} (hm : 1 ≤ m) (hm2 : m ≤ 1000) (h : b ≤ m ^ e) : b ≤ 1000 ^ 10 :=
  Nat.le_trans h (Nat.le_trans (Nat.pow_le_pow_left hm2 e) (Nat.pow_le_pow_right (by omega) he))
theorem l_chance {w : Nat → Int} (hw : ∀ j, 0 ≤ w j ∧ w j ≤ 100) {m : Nat} (hm : 1 ≤ m) (hsum : qsum w 10 = m) {N : Nat} (hN : N ≤ 3) : ∀ (c n g A B : Nat) (sa sb ss sp sq : Int) (fa fb fs fp fq : Nat → Int), c < n → g + c = N → qN 40 fa sa (A : Int) → qN 40 fb sb (B : Int) → (A : Int) * qbo w g = qab w g * (B : Int) → A ≤ B → 0 < B → B ∣ m ^ qE g → Nat.gcd A B = 1 →
    ∃ sa2 fa2 sb2 fb2 ss2 fs2 sp2 fp2 sq2 fq2, ∃ A2 B2 : Nat, l_X3_chanceGone_24 n N m g w sa fa sb fb ss fs sp fp sq fq = some (sa2, fa2, sb2, fb2, ss2, fs2, sp2, fp2, sq2, fq2) ∧ qN 40 fa2 sa2 (A2 : Int) ∧ qN 40 fb2 sb2 (B2 : Int) ∧ (A2 : Int) * qbo w N = qab w N * (B2 : Int) ∧ A2 ≤ B2 ∧ 0 < B2 ∧ B2 ∣ m ^ qE N ∧ Nat.gcd A2 B2 = 1 := by
  have hm2 : m ≤ 1000 := by have := qsum_le hw 10; omega
  intro c
  induction c with
  | zero =>
    intro n g A B sa sb ss sp sq fa fb fs fp fq hn hg h1 h2 h3 h4 h5 h6 h7
    obtain ⟨n, rfl⟩ : ∃ m, n = m + 1 := ⟨n - 1, by omega⟩
    obtain rfl : g = N := by omega
    rw [l_X3_chanceGone_24, if_neg (by omega)]
    exact ⟨_, _, _, _, _, _, _, _, _, _, A, B, rfl, h1, h2, h3, h4, h5, h6, h7⟩
  | succ c ih =>
    intro n g A B sa sb ss sp sq fa fb fs fp fq hn hg h1 h2 h3 h4 h5 h6 h7
    obtain ⟨n, rfl⟩ : ∃ m, n = m + 1 := ⟨n - 1, by omega⟩
    rw [l_X3_chanceGone_24, if_pos (by omega)]
    have hE : qE g ≤ 10 := by
      have : g = 0 ∨ g = 1 ∨ g = 2 := by omega
      rcases this with h | h | h <;> subst h <;> decide
    have hB : B ≤ 1000 ^ 10 := q_pow3 hE hm hm2 (Nat.le_of_dvd (Nat.pow_pos (by omega)) h6)
    have hBi : (B : Int) ≤ 1000 ^ 10 := by
      have : ((1000 ^ 10 : Nat) : Int) = 1000 ^ 10 := by rw [Int.natCast_pow]; rfl
      omega
    have hbig := q_big (B := (B : Int)) (by omega) hBi
    have h31 : qP 31 ≤ qP 40 := qP_le (by omega)
    have hq := fun (i : Nat) (hi : i < 9) => qh_bnd (A := (A : Int)) (B := (B : Int)) hw (by omega) (by omega) (by omega) i hi
    have hp0 : (0 : Int) ≤ (B : Int) ^ 9 := Int.pow_nonneg (by omega)
    have hq2 : (B : Int) ^ 9 * (m : Int) < 1000 * (B : Int) ^ 9 + 1 := by
      have : (B : Int) ^ 9 * (m : Int) ≤ (B : Int) ^ 9 * 1000 := Int.mul_le_mul_of_nonneg_left (by omega) hp0
      omega
    obtain ⟨sa2, fa2, sb2, fb2, ss2, fs2, sp2, fp2, sq2, fq2, x1, x2, x3⟩ := q_goRound (m := (m : Int)) hw (by omega) (by omega) h1 h2 (by omega) (by omega) hq hq2 ss sp sq fs fp fq
    have hh := qh_le (w := w) (A := (A : Int)) (B := (B : Int)) hw (by omega) (by omega) 9
    rw [qW_9, hsum] at hh
    obtain ⟨A1, hA1⟩ : ∃ a : Nat, qh w A B 9 = a := ⟨(qh w A B 9).toNat, by omega⟩
    have hB1 : (B : Int) ^ 9 * (m : Int) = ((B ^ 9 * m : Nat) : Int) := by rw [Int.natCast_mul, Int.natCast_pow]
    have hAB : A1 ≤ B ^ 9 * m := by
      have : (A1 : Int) ≤ ((B ^ 9 * m : Nat) : Int) := by rw [← hB1, ← hA1, Int.mul_comm]; exact hh.2
      omega
    have hbnd : B ^ 9 * m < 2 ^ 9999 := by
      have e1 : qP 31 < ((2 ^ 9999 : Nat) : Int) := by decide +kernel
      have e2 : ((B ^ 9 * m : Nat) : Int) < ((2 ^ 9999 : Nat) : Int) := by
        rw [← hB1]
        exact Int.lt_of_lt_of_le hq2 (Int.le_of_lt (Int.lt_trans hbig e1))
      exact Int.ofNat_lt.1 e2
    have hB0 : 0 < B ^ 9 * m := Nat.mul_pos (Nat.pow_pos h5) (by omega)
    have hrat := qh_ratio (w := w) h3 9
    rw [hA1] at x2 hrat
    rw [hB1] at x3
    obtain ⟨s5, f5, t5, g5, A2, B2, y1, y2, y3, y4, y5, y6, y7, y8⟩ := q_reduce (m := m) (by omega) hm2 hB0 hbnd x2 x3
    have hdvd : B2 ∣ m ^ qE (g + 1) := by
      refine Nat.dvd_trans y6 ?_
      obtain ⟨k, hk⟩ := h6
      refine ⟨k ^ 9, ?_⟩
      show m ^ (9 * qE g + 1) = _
      rw [Nat.pow_succ, Nat.mul_comm 9, Nat.pow_mul, hk, Nat.mul_pow]
      rw [Nat.mul_right_comm]
    have hr2 : (A2 : Int) * qbo w (g + 1) = qab w (g + 1) * (B2 : Int) := by
      refine q_ratio (A := (A1 : Int)) (B := ((B ^ 9 * m : Nat) : Int)) (by omega) ?_ ?_
      · rw [← Int.natCast_mul, ← Int.natCast_mul, y5]
      · show (A1 : Int) * (qbo w g ^ 9 * qsum w 10) = qh w (qab w g) (qbo w g) 9 * _
        rw [← hB1, hsum, ← Int.mul_assoc, ← Int.mul_assoc, hrat]
    have hAB2 : A2 ≤ B2 := by
      have h9 : A2 * (B ^ 9 * m) ≤ B2 * (B ^ 9 * m) := by
        rw [y5, Nat.mul_comm B2]
        exact Nat.mul_le_mul_right B2 hAB
      exact Nat.le_of_mul_le_mul_right h9 hB0
    rw [x1, q_bs]
    dsimp only
    rw [y1, q_bs, if_pos (by omega)]
    exact ih n (g + 1) A2 B2 s5 t5 _ _ _ f5 g5 _ _ _ (by omega) (by omega) y2 y3 hr2 hAB2 y4 hdvd (q_below hdvd y8)
theorem q_chance {w : Nat → Int} (hw : ∀ j, 0 ≤ w j ∧ w j ≤ 100) (h1 : 1 ≤ qsum w 10) {N : Nat} (hN : N ≤ 3) (sa sb ss sp sq sF tF : Int) (fa fb fs fp fq fF gF : Nat → Int) :
    ∃ sa2 fa2 sb2 fb2 ss2 fs2 sp2 fp2 sq2 fq2 sF2 fF2 tF2 gF2 P Q, f_X3_chanceGone N w sa fa sb fb ss fs sp fp sq fq sF fF tF gF = some (sa2, fa2, sb2, fb2, ss2, fs2, sp2, fp2, sq2, fq2, sF2, fF2, tF2, gF2) ∧ qN 40 fF2 sF2 P ∧ qN 40 gF2 tF2 Q ∧ qLow (qab w N) (qbo w N) P Q ∧ P ≤ Q ∧ Q < qP 31 := by
  have hs := qsum_le hw 10
  obtain ⟨m, hm⟩ : ∃ m : Nat, qsum w 10 = m := ⟨(qsum w 10).toNat, by omega⟩
  obtain ⟨s2, d2, x1, x2⟩ := q_become 0 sa fa (by omega) (by omega)
  obtain ⟨s3, d3, y1, y2⟩ := q_become 1 sb fb (by omega) (by omega)
  obtain ⟨sa2, fa2, sb2, fb2, ss2, fs2, sp2, fp2, sq2, fq2, A, B, z1, z2, z3, z4, z5, z6, z7, z8⟩ := l_chance hw (m := m) (by omega) hm hN N zN 0 0 1 s2 s3 ss sp sq d2 d3 fs fp fq (by have := zN_big; omega) (by omega) x2 y2 (show (0 : Int) * 1 = 0 * 1 from rfl) (by omega) (by omega) (Nat.one_dvd _) (by decide)
  have z1 : l_X3_chanceGone_24 zN N m 0 w s2 d2 s3 d3 ss fs sp fp sq fq = _ := z1
  obtain ⟨d4, u1, u2⟩ := q_take z2 sF fF
  obtain ⟨d5, v1, v2⟩ := q_take z3 tF gF
  refine ⟨sa2, fa2, sb2, fb2, ss2, fs2, sp2, fp2, sq2, fq2, sa2, d4, sb2, d5, (A : Int), (B : Int), ?_, u2, v2, ⟨z4, by omega, by omega, by rw [Int.toNat_natCast, Int.toNat_natCast]; exact z8⟩, by omega, ?_⟩
  · unfold f_X3_chanceGone f_X2_take
    rw [(q_weights w hw).1, q_bs, x1, q_bs, y1, q_bs, hm]
    dsimp only
    rw [z1, q_bs]
    dsimp only
    rw [u1, q_bs, v1, q_bs, q_bs]
  · have hE : qE N ≤ 91 := by
      have : N = 0 ∨ N = 1 ∨ N = 2 ∨ N = 3 := by omega
      rcases this with h | h | h | h <;> subst h <;> decide
    have hB : B ≤ 1000 ^ 91 := Nat.le_trans (Nat.le_of_dvd (Nat.pow_pos (by omega)) z7) (Nat.le_trans (Nat.pow_le_pow_left (by omega) _) (Nat.pow_le_pow_right (by omega) hE))
    have e1 : ((1000 ^ 91 : Nat) : Int) < qP 31 := by decide +kernel
    exact Int.lt_of_le_of_lt (Int.ofNat_le.2 hB) e1
