/-! ===== the class: reduce, goRound, chanceGone ===== -/
theorem q_gmod (A B m : Nat) : Nat.gcd (Nat.gcd (A % m) (B % m)) m = Nat.gcd (Nat.gcd A B) m := by
  refine Nat.dvd_antisymm ?_ ?_
  · have h1 := Nat.gcd_dvd_left (Nat.gcd (A % m) (B % m)) m
    have h2 := Nat.gcd_dvd_right (Nat.gcd (A % m) (B % m)) m
    refine Nat.dvd_gcd (Nat.dvd_gcd ?_ ?_) h2
    · exact (Nat.dvd_mod_iff h2).1 (Nat.dvd_trans h1 (Nat.gcd_dvd_left _ _))
    · exact (Nat.dvd_mod_iff h2).1 (Nat.dvd_trans h1 (Nat.gcd_dvd_right _ _))
  · have h1 := Nat.gcd_dvd_left (Nat.gcd A B) m
    have h2 := Nat.gcd_dvd_right (Nat.gcd A B) m
    refine Nat.dvd_gcd (Nat.dvd_gcd ?_ ?_) h2
    · exact (Nat.dvd_mod_iff h2).2 (Nat.dvd_trans h1 (Nat.gcd_dvd_left _ _))
    · exact (Nat.dvd_mod_iff h2).2 (Nat.dvd_trans h1 (Nat.gcd_dvd_right _ _))
theorem l_reduce {m : Nat} (hm : 0 < m) (hm2 : m ≤ 1000) : ∀ (j n k A B : Nat) (s t : Int) (f g : Nat → Int), j < n → k + j ≤ 9999 → 0 < A → 0 < B → B < 2 ^ j → qN 40 f s (A : Int) → qN 40 g t (B : Int) →
    ∃ s2 f2 t2 g2, ∃ A2 B2 : Nat, l_X3_reduce_21 n m k s f t g = some (s2, f2, t2, g2) ∧ qN 40 f2 s2 (A2 : Int) ∧ qN 40 g2 t2 (B2 : Int) ∧ 0 < B2 ∧ A2 * B = A * B2 ∧ B2 ∣ B ∧ A2 ≤ A ∧ Nat.gcd (Nat.gcd A2 B2) m = 1 := by
  intro j
  induction j with
  | zero =>
    intro n k A B s t f g h1 h2 h3 h4 h5
    have : (2 : Nat) ^ 0 = 1 := rfl
    omega
  | succ j ih =>
    intro n k A B s t f g hn hk hA hB hB2 hf hg
    obtain ⟨n, rfl⟩ : ∃ m, n = m + 1 := ⟨n - 1, by omega⟩
    rw [l_X3_reduce_21, if_pos (by omega), q_leftOver hf (by omega) (by omega), q_bs, q_leftOver hg (by omega) (by omega), q_bs, ← Int.natCast_emod, ← Int.natCast_emod]
    have l1 : B % m < m := Nat.mod_lt _ hm
    have e49 : (562949953421312 : Nat) = 2 ^ 49 := rfl
    rw [q_shared _ _ (by omega), q_bs, q_shared _ _ (by omega), q_bs, q_gmod]
    have hd0 : 0 < Nat.gcd (Nat.gcd A B) m := Nat.gcd_pos_of_pos_right _ hm
    have hdm : Nat.gcd (Nat.gcd A B) m ≤ m := Nat.le_of_dvd hm (Nat.gcd_dvd_right _ _)
    have hdA : Nat.gcd (Nat.gcd A B) m ∣ A := Nat.dvd_trans (Nat.gcd_dvd_left _ _) (Nat.gcd_dvd_left _ _)
    have hdB : Nat.gcd (Nat.gcd A B) m ∣ B := Nat.dvd_trans (Nat.gcd_dvd_left _ _) (Nat.gcd_dvd_right _ _)
    rw [if_pos (by omega)]
    by_cases h : 1 < Nat.gcd (Nat.gcd A B) m
    · rw [if_pos (by omega)]
      generalize Nat.gcd (Nat.gcd A B) m = d at *
      obtain ⟨a, rfl⟩ := hdA
      obtain ⟨b, rfl⟩ := hdB
      obtain ⟨s2, f2, p1, p2⟩ := q_divide hf (m := (d : Int)) (by omega) (by omega)
      obtain ⟨t2, g2, r1, r2⟩ := q_divide hg (m := (d : Int)) (by omega) (by omega)
      rw [p1, q_bs, r1, q_bs, if_pos (by omega)]
      rw [← Int.natCast_ediv, Nat.mul_div_cancel_left _ hd0] at p2 r2
      have ha : 0 < a := Nat.pos_of_ne_zero (fun h => by subst h; omega)
      have hb : 0 < b := Nat.pos_of_ne_zero (fun h => by subst h; omega)
      have hb2 : b < 2 ^ j := by
        have e : (2 : Nat) ^ (j + 1) = 2 ^ j * 2 := rfl
        have h2 : 2 * b ≤ d * b := Nat.mul_le_mul_right b (by omega)
        omega
      obtain ⟨s3, f3, t3, g3, A2, B2, c1, c2, c3, c4, c5, c6, c7, c8⟩ := ih n (k + 1) a b s2 t2 f2 g2 (by omega) (by omega) ha hb hb2 p2 r2
      refine ⟨s3, f3, t3, g3, A2, B2, c1, c2, c3, c4, ?_, Nat.dvd_trans c6 (Nat.dvd_mul_left b d), Nat.le_trans c7 (Nat.le_mul_of_pos_left a hd0), c8⟩
      rw [Nat.mul_left_comm, c5, Nat.mul_assoc]
    · rw [if_neg (by omega)]
      exact ⟨s, f, t, g, A, B, rfl, hf, hg, hB, rfl, Nat.dvd_refl _, Nat.le_refl _, by omega⟩
theorem q_reduce {m A B : Nat} (hm : 0 < m) (hm2 : m ≤ 1000) (hB : 0 < B) (hB2 : B < 2 ^ 9999) {s t : Int} {f g : Nat → Int} (hf : qN 40 f s (A : Int)) (hg : qN 40 g t (B : Int)) :
    ∃ s2 f2 t2 g2, ∃ A2 B2 : Nat, f_X3_reduce m s f t g = some (s2, f2, t2, g2) ∧ qN 40 f2 s2 (A2 : Int) ∧ qN 40 g2 t2 (B2 : Int) ∧ 0 < B2 ∧ A2 * B = A * B2 ∧ B2 ∣ B ∧ A2 ≤ A ∧ Nat.gcd (Nat.gcd A2 B2) m = 1 := by
  unfold f_X3_reduce
  by_cases h : s = 0
  · subst h
    rw [if_pos rfl]
    obtain ⟨t2, g2, r1, r2⟩ := q_become 1 t g (by omega) (by omega)
    rw [r1, q_bs]
    have hA : A = 0 := by
      obtain ⟨a1, a2, a3, a4, a5, a6⟩ := hf
      have e := qv_top (f := f) (s := 0) 40 (by omega) (fun j _ hj => a5 j (by omega) hj)
      have : qv f 0 = 0 := rfl
      omega
    subst hA
    exact ⟨0, f, t2, g2, 0, 1, rfl, hf, r2, by omega, by omega, Nat.one_dvd B, by omega, by rw [Nat.gcd_zero_left, Nat.gcd_one_left]⟩
  · rw [if_neg h]
    have hA : 0 < A := by
      refine Nat.pos_of_ne_zero fun h2 => ?_
      subst h2
      obtain ⟨a1, a2, a3⟩ := hf
      obtain ⟨s, rfl⟩ : ∃ k : Nat, s = k := ⟨s.toNat, by have := a3.1; omega⟩
      have h3 := qS_low a1 a3 (by omega)
      have h4 := qP_pos (s - 1)
      omega
    exact l_reduce hm hm2 9999 zN 0 A B s t f g (by have := zN_big; omega) (by omega) hA hB hB2 hf hg
/-- the sum of w j * A^j * B^(9-j), as Horner takes it -/
def qh (w : Nat → Int) (A B : Int) : Nat → Int
  | 0 => w 9
  | i + 1 => qh w A B i * A + B ^ (i + 1) * w (8 - i)
theorem l_goRound {w : Nat → Int} {A B M : Int} (hw : ∀ j, 0 ≤ w j ∧ w j ≤ 100) {m sa sb : Int} {fa fb : Nat → Int} (ha : qN 40 fa sa A) (hb : qN 40 fb sb B) (hM : M < qP 40) (hA : 0 ≤ A)
    (hq : ∀ i : Nat, i < 9 → qh w A B i * A < M ∧ B ^ i * B < M ∧ qh w A B (i + 1) < M) :
    ∀ (c n i : Nat) (ss sp sq : Int) (fs fp fq : Nat → Int), c < n → i + c = 9 → qN 40 fs ss (qh w A B i) → qN 40 fp sp (B ^ i) →
    ∃ ss2 fs2 sp2 fp2 sq2 fq2, l_X3_goRound_26 n m (8 - (i : Int)) w sa fa sb fb ss fs sp fp sq fq = some (ss2, fs2, sp2, fp2, sq2, fq2) ∧ qN 40 fs2 ss2 (qh w A B 9) ∧ qN 40 fp2 sp2 (B ^ 9) := by
  intro c
  induction c with
  | zero =>
    intro n i ss sp sq fs fp fq hn hi hs hp
    obtain ⟨n, rfl⟩ : ∃ m, n = m + 1 := ⟨n - 1, by omega⟩
    obtain rfl : i = 9 := by omega
    rw [l_X3_goRound_26, if_pos (by omega)]
    exact ⟨ss, fs, sp, fp, sq, fq, rfl, hs, hp⟩
  | succ c ih =>
    intro n i ss sp sq fs fp fq hn hi hs hp
    obtain ⟨n, rfl⟩ : ∃ m, n = m + 1 := ⟨n - 1, by omega⟩
    rw [l_X3_goRound_26, if_neg (by omega)]
    obtain ⟨q1, q2, q3⟩ := hq i (by omega)
    obtain ⟨s1, d1, x1, x2⟩ := q_multiply hs ha (by omega) sq fq
    obtain ⟨d2, y1, y2⟩ := q_take x2 ss fs
    obtain ⟨s3, d3, z1, z2⟩ := q_multiply hp hb (by omega) s1 d1
    obtain ⟨d4, u1, u2⟩ := q_take z2 sp fp
    have hwi := hw (8 - i)
    have e : qh w A B (i + 1) = qh w A B i * A + B ^ i * B * w (8 - i) := by
      show qh w A B i * A + B ^ (i + 1) * w (8 - i) = _
      rw [Int.pow_succ]
    obtain ⟨s5, d5, v1, v2⟩ := q_addTimes (w := w (8 - i)) y2 u2 hwi.1 (by omega) (by omega)
    rw [x1, q_bs, y1, q_bs, z1, q_bs, u1, q_bs, if_pos (by omega), show Int.toNat (8 - (i : Int)) = 8 - i by omega, v1, q_bs, if_pos (by omega), show 8 - (i : Int) + (-1) = 8 - ((i + 1 : Nat) : Int) by omega]
    rw [← e] at v2
    rw [← Int.pow_succ] at u2
    exact ih n (i + 1) s5 s3 s3 d5 d4 d3 (by omega) (by omega) v2 u2
theorem q_goRound {w : Nat → Int} {A B M m : Int} (hw : ∀ j, 0 ≤ w j ∧ w j ≤ 100) (hm : 0 ≤ m) (hm2 : m ≤ 1000) {sa sb : Int} {fa fb : Nat → Int} (ha : qN 40 fa sa A) (hb : qN 40 fb sb B) (hM : M < qP 40) (hA : 0 ≤ A)
    (hq : ∀ i : Nat, i < 9 → qh w A B i * A < M ∧ B ^ i * B < M ∧ qh w A B (i + 1) < M) (hq2 : B ^ 9 * m < M) (ss sp sq : Int) (fs fp fq : Nat → Int) :
    ∃ sa2 fa2 sb2 fb2 ss2 fs2 sp2 fp2 sq2 fq2, f_X3_goRound m w sa fa sb fb ss fs sp fp sq fq = some (sa2, fa2, sb2, fb2, ss2, fs2, sp2, fp2, sq2, fq2) ∧ qN 40 fa2 sa2 (qh w A B 9) ∧ qN 40 fb2 sb2 (B ^ 9 * m) := by
  have hw9 := hw 9
  obtain ⟨s1, d1, x1, x2⟩ := q_become (w 9) ss fs hw9.1 (by omega)
  obtain ⟨s2, d2, y1, y2⟩ := q_become 1 sp fp (by omega) (by omega)
  obtain ⟨ss2, fs2, sp2, fp2, sq2, fq2, z1, z2, z3⟩ := l_goRound (m := m) hw ha hb hM hA hq 9 zN 0 s1 s2 sq d1 d2 fq (by have := zN_big; omega) (by omega) x2 (by rw [Int.pow_zero]; exact y2)
  have z1 : l_X3_goRound_26 zN m 8 w sa fa sb fb s1 d1 s2 d2 sq fq = _ := z1
  obtain ⟨d4, u1, u2⟩ := q_take z2 sa fa
  obtain ⟨s5, d5, v1, v2⟩ := q_become m sq2 fq2 hm (by omega)
  obtain ⟨s6, d6, w1, w2⟩ := q_multiply z3 v2 (by omega) sb fb
  unfold f_X3_goRound
  rw [show Int.toNat 9 = 9 from rfl, x1, q_bs, y1, q_bs, z1, q_bs, u1, q_bs, v1, q_bs, w1, q_bs]
  exact ⟨_, _, _, _, _, _, _, _, _, _, rfl, u2, w2⟩
