/-! ===== Natural: multiply, addTimes, leftOver, divide ===== -/
theorem l_clear : ∀ (n k : Nat) (d : Nat → Int), k ≤ 40 → 40 - k < n → (∀ j : Nat, j < k → d j = 0) → ∃ d2, l_X6_multiply_2 n k d = some d2 ∧ ∀ j : Nat, j < 40 → d2 j = 0 := by
  intro n
  induction n with
  | zero => intro k d h1 h2; omega
  | succ n ih =>
    intro k d hk hn hd
    rw [l_X6_multiply_2]
    by_cases h : k = 40
    · subst h
      rw [if_neg (by omega)]
      exact ⟨d, rfl, hd⟩
    · simp (disch := omega) only [if_pos]
      have e2 : Int.toNat (k : Int) = k := Int.toNat_natCast k
      rw [e2]
      refine ih (k + 1) _ (by omega) (by omega) (fun j hj => ?_)
      rw [q_zu]
      by_cases hjk : j = k
      · rw [if_pos hjk]
      · rw [if_neg hjk]; exact hd j (by omega)
/-- a row with one digit anew, and what is carried on -/
theorem q_put {d : Nat → Int} {p K : Nat} (hp : p < K) (v : Int) (hd : qD K d) : qD K (zu d p (v % 1073741824)) ∧ qv (zu d p (v % 1073741824)) K + (v / 1073741824) * qP (p + 1) = qv d K + (v - d p) * qP p := by
  constructor
  · intro j hj
    rw [q_zu]
    by_cases h : j = p
    · rw [if_pos h]; omega
    · rw [if_neg h]; exact hd j hj
  · rw [qv_zu, if_pos hp]
    have h := q_split v (qP p)
    show _ + _ * (qP p * 1073741824) = _
    rw [Int.sub_mul, Int.sub_mul]
    omega
theorem q_sm {x y z : Int} (hx : 0 ≤ x) (hx2 : x < 1073741824) (hy : 0 ≤ y) (hy2 : y < 1073741824) (hz : z = x * y) : 0 ≤ z ∧ z ≤ 1152921502459363329 := by
  subst hz
  exact ⟨Int.mul_nonneg hx hy, by
    have h := Int.mul_le_mul (show x ≤ 1073741823 by omega) (show y ≤ 1073741823 by omega) hy (by omega)
    omega⟩
/-- one digit of a, times the row b, added -/
theorem l_mulrow {a b : Nat → Int} {i s : Nat} (ha : qD 40 a) (hb : qD 40 b) (hi : i < 40) (hs : s ≤ 40) : ∀ (n j : Nat) (c : Int) (d : Nat → Int), j ≤ s + 1 → i + j ≤ 40 → s + 1 - j < n → 0 ≤ c → c < 1073741824 → qD 40 d →
    ∃ d2 c2 e, l_X6_multiply_43 n i c j d a s b = some d2 ∧ qD 40 d2 ∧ 0 ≤ c2 ∧ (e = s + 1 ∨ i + e = 40) ∧ i + e ≤ 40 ∧ e ≤ s + 1 ∧ qv d2 40 + c2 * qP (i + e) = qv d 40 + c * qP (i + j) + a i * qP i * (qv b (min e s) - qv b (min j s)) := by
  intro n
  induction n with
  | zero => intro j c d h1 h2 h3; omega
  | succ n ih =>
    intro j c d hj hij hn hc hc2 hd
    rw [l_X6_multiply_43]
    by_cases h1 : s < j
    · have : j = s + 1 := by omega
      subst this
      rw [if_pos (by omega)]
      exact ⟨d, c, s + 1, rfl, hd, hc, Or.inl rfl, hij, by omega, by rw [Int.sub_self, Int.mul_zero, Int.add_zero]⟩
    · by_cases h2 : i + j < 40
      · have e1 : Int.toNat ((i : Int) + (j : Int)) = i + j := by omega
        have e2 : Int.toNat (i : Int) = i := Int.toNat_natCast i
        have e3 : Int.toNat (j : Int) = j := Int.toNat_natCast j
        have hdij := hd (i + j) h2
        have hai := ha i hi
        by_cases h3 : j < s
        · have hbj := hb j (by omega)
          obtain ⟨z, hz⟩ : ∃ z, z = a i * b j := ⟨_, rfl⟩
          have hz2 := q_sm hai.1 hai.2 hbj.1 hbj.2 hz
          simp only [q_lo]
          rw [e1, e2, e3, ← hz, q_hi (z + d (i + j) + c) (by omega) (by omega)]
          simp (disch := omega) only [if_pos, if_neg]
          obtain ⟨p1, p2⟩ := q_put (d := d) (p := i + j) (K := 40) h2 (z + d (i + j) + c) hd
          obtain ⟨d2, c2, e, q1, q2, q3, q4, q5, q6, q7⟩ := ih (j + 1) ((z + d (i + j) + c) / 1073741824) _ (by omega) (by omega) (by omega) (by omega) (by omega) p1
          refine ⟨d2, c2, e, q1, q2, q3, q4, q5, q6, ?_⟩
          rw [q7, show min (j + 1) s = j + 1 by omega, show min j s = j by omega]
          have p3 : (z + d (i + j) + c - d (i + j)) * qP (i + j) = a i * qP i * (b j * qP j) + c * qP (i + j) := by
            rw [show z + d (i + j) + c - d (i + j) = z + c by omega, Int.add_mul, hz, qP_add]
            congr 1
            rw [Int.mul_assoc, Int.mul_assoc, ← Int.mul_assoc (b j), Int.mul_comm (b j) (qP i), Int.mul_assoc]
          rw [show i + (j + 1) = i + j + 1 by omega]
          rw [show qv b (j + 1) = qv b j + b j * qP j from rfl, show qv b (min e s) - (qv b j + b j * qP j) = (qv b (min e s) - qv b j) - b j * qP j by omega, Int.mul_sub]
          omega
        · have : j = s := by omega
          subst this
          simp only [q_lo]
          rw [e1, q_hi (0 + d (i + j) + c) (by omega) (by omega)]
          simp (disch := omega) only [if_pos, if_neg]
          obtain ⟨p1, p2⟩ := q_put (d := d) (p := i + j) (K := 40) h2 (0 + d (i + j) + c) hd
          obtain ⟨d2, c2, e, q1, q2, q3, q4, q5, q6, q7⟩ := ih (j + 1) ((0 + d (i + j) + c) / 1073741824) _ (by omega) (by omega) (by omega) (by omega) (by omega) p1
          refine ⟨d2, c2, e, q1, q2, q3, q4, q5, q6, ?_⟩
          rw [q7, show min (j + 1) j = j by omega, show min j j = j by omega]
          have p3 : (0 + d (i + j) + c - d (i + j)) * qP (i + j) = c * qP (i + j) := by
            rw [show 0 + d (i + j) + c - d (i + j) = c by omega]
          rw [show i + (j + 1) = i + j + 1 by omega]
          omega
      · rw [if_neg (by omega), if_pos (by unfold zI; omega), if_neg (by omega)]
        exact ⟨d, c, j, rfl, hd, hc, Or.inr (by omega), by omega, hj, by rw [Int.sub_self, Int.mul_zero, Int.add_zero]⟩
theorem q_c0 {c P X V : Int} (hc : 0 ≤ c) (hP : 0 < P) (hX : 0 ≤ X) (h : X + c * P = V) (hV : V < P) : c = 0 := by
  rcases Int.lt_or_le 0 c with h1 | h1
  · have h2 : 1 * P ≤ c * P := Int.mul_le_mul_of_nonneg_right (by omega) (by omega)
    omega
  · omega
theorem l_mul {a b : Nat → Int} {s t : Nat} (ha : qD 40 a) (hb : qD 40 b) (hs : s ≤ 40) (ht : t ≤ 40) (hst : t = 0 ∨ s + t ≤ 41) (hbt : ∀ j : Nat, t ≤ j → j < 40 → b j = 0) (hbig : qv a s * qv b 40 < qP 40) : ∀ (n i : Nat) (d : Nat → Int), i ≤ s → s - i < n → qD 40 d → qv d 40 = qv a i * qv b 40 →
    ∃ d2, l_X6_multiply_23 n i d s a t b = some d2 ∧ qD 40 d2 ∧ qv d2 40 = qv a s * qv b 40 := by
  have hb0 : 0 ≤ qv b 40 := qv_nonneg 40 (fun j hj => (hb j hj).1)
  have hbv : qv b 40 = qv b t := qv_top 40 ht hbt
  have hbl : qv b t < qP t := qv_lt t (fun j hj => hb j (by omega))
  intro n
  induction n with
  | zero => intro i d h1 h2; omega
  | succ n ih =>
    intro i d hi hn hd hv
    rw [l_X6_multiply_23]
    by_cases h : i = s
    · subst h
      rw [if_neg (by omega)]
      exact ⟨d, rfl, hd, hv⟩
    · rw [if_pos (by omega), if_pos (by omega)]
      obtain ⟨d2, c2, e, q1, q2, q3, q4, q5, q6, q7⟩ := l_mulrow ha hb (by omega : i < 40) ht zN 0 0 d (by omega) (by omega) (by have := zN_big; omega) (by omega) (by omega) hd
      have q1 : l_X6_multiply_43 zN i 0 0 d a t b = some d2 := q1
      rw [q1, q_bs, if_pos (by unfold zI; omega)]
      rw [show min e t = t by omega, show min 0 t = 0 by omega, show qv b 0 = 0 from rfl, Int.sub_zero, ← hbv, hv] at q7
      have e1 : qv a (i + 1) = qv a i + a i * qP i := rfl
      have e2 : qv d2 40 + c2 * qP (i + e) = qv a (i + 1) * qv b 40 := by
        rw [e1, Int.add_mul]
        omega
      have ha1 : 0 ≤ qv a (i + 1) := qv_nonneg _ (fun j hj => (ha j (by omega)).1)
      have ha2 : qv a (i + 1) < qP (i + 1) := qv_lt _ (fun j hj => ha j (by omega))
      have hd2 : 0 ≤ qv d2 40 := qv_nonneg 40 (fun j hj => (q2 j hj).1)
      have hc0 : c2 = 0 := by
        refine q_c0 q3 (qP_pos (i + e)) hd2 e2 ?_
        rcases q4 with q4 | q4
        · subst q4
          have h1 : qv a (i + 1) * qv b 40 ≤ qP (i + 1) * qv b 40 := Int.mul_le_mul_of_nonneg_right (by omega) hb0
          have h2 : qP (i + 1) * qv b 40 < qP (i + 1) * qP t := Int.mul_lt_mul_of_pos_left (by omega) (qP_pos _)
          rw [← qP_add, show i + 1 + t = i + (t + 1) by omega] at h2
          omega
        · rw [q4]
          have h1 : qv a (i + 1) ≤ qv a s := by
            have : ∀ k : Nat, i + 1 + k ≤ 40 → qv a (i + 1) ≤ qv a (i + 1 + k) := by
              intro k
              induction k with
              | zero => intro _; exact Int.le_refl _
              | succ k ihk =>
                intro hk
                have h3 := ihk (by omega)
                have h4 := Int.mul_nonneg (ha (i + 1 + k) (by omega)).1 (Int.le_of_lt (qP_pos (i + 1 + k)))
                show qv a (i + 1) ≤ qv a (i + 1 + k) + a (i + 1 + k) * qP (i + 1 + k)
                omega
            have h2 := this (s - (i + 1)) (by omega)
            rw [show i + 1 + (s - (i + 1)) = s by omega] at h2
            exact h2
          have h2 := Int.mul_le_mul_of_nonneg_right h1 hb0
          omega
      rw [hc0, Int.zero_mul, Int.add_zero] at e2
      exact ih (i + 1) d2 (by omega) (by omega) q2 e2
theorem qS_low {f : Nat → Int} {s : Nat} (hd : qD 40 f) (hs : qS 40 f s) (h1 : 1 ≤ s) : qP (s - 1) ≤ qv f 40 := by
  obtain ⟨a1, a2, a3, a4⟩ := hs
  have e : qv f 40 = qv f s := qv_top 40 (by omega) (fun j g1 g2 => a3 j (by omega) g2)
  obtain ⟨k, rfl⟩ : ∃ k, s = k + 1 := ⟨s - 1, by omega⟩
  have h2 := a4 k rfl
  have h3 := hd k (by omega)
  have h4 : 0 ≤ qv f k := qv_nonneg k (fun j hj => (hd j (by omega)).1)
  have h5 : 1 * qP k ≤ f k * qP k := Int.mul_le_mul_of_nonneg_right (by omega) (Int.le_of_lt (qP_pos k))
  rw [e]
  show qP k ≤ qv f k + f k * qP k
  omega
theorem q_multiply {a b : Nat → Int} {s t P Q : Int} (ha : qN 40 a s P) (hb : qN 40 b t Q) (hbig : P * Q < qP 40) (s0 : Int) (d0 : Nat → Int) : ∃ s2 d2, f_X6_multiply s0 d0 s a t b = some (s2, d2) ∧ qN 40 d2 s2 (P * Q) := by
  obtain ⟨a1, rfl, a3⟩ := ha
  obtain ⟨b1, rfl, b3⟩ := hb
  obtain ⟨s, rfl⟩ : ∃ k : Nat, s = k := ⟨s.toNat, by have := a3.1; omega⟩
  obtain ⟨t, rfl⟩ : ∃ k : Nat, t = k := ⟨t.toNat, by have := b3.1; omega⟩
  have hs : s ≤ 40 := by have := a3.2.1; omega
  have ht : t ≤ 40 := by have := b3.2.1; omega
  have e : qv a 40 = qv a s := qv_top 40 hs (fun j g1 g2 => a3.2.2.1 j (by omega) g2)
  obtain ⟨d1, c1, c2⟩ := l_clear zN 0 d0 (by omega) (by have := zN_big; omega) (fun j hj => by omega)
  have c1 : l_X6_multiply_2 zN 0 d0 = some d1 := c1
  have hst : t = 0 ∨ s + t ≤ 41 := by
    rcases Nat.eq_zero_or_pos t with h | h
    · exact Or.inl h
    · rcases Nat.eq_zero_or_pos s with h2 | h2
      · exact Or.inr (by omega)
      · refine Or.inr (Nat.le_of_not_lt fun hlt => ?_)
        have g1 := qS_low a1 a3 h2
        have g2 := qS_low b1 b3 h
        have g3 := Int.mul_le_mul g1 g2 (Int.le_of_lt (qP_pos _)) (qv_nonneg 40 (fun j hj => (a1 j hj).1))
        rw [← qP_add] at g3
        have g4 := qP_le (show 40 ≤ s - 1 + (t - 1) by omega)
        omega
  obtain ⟨d2, m1, m2, m3⟩ := l_mul a1 b1 hs ht hst (fun j g1 g2 => b3.2.2.1 j (by omega) g2) (by rw [← e]; exact hbig) zN 0 d1 (by omega) (by have := zN_big; omega) (fun j hj => by rw [c2 j hj]; omega) (by
    rw [qv_top (s := 0) 40 (by omega) (fun j _ hj => c2 j hj)]
    show 0 = 0 * _
    omega)
  have m1 : l_X6_multiply_23 zN 0 d1 s a t b = some d2 := m1
  obtain ⟨s2, t1, t2⟩ := q_trim s0 d2
  unfold f_X6_multiply
  rw [c1, q_bs, m1, q_bs, t1, q_bs]
  exact ⟨s2, d2, rfl, m2, by rw [m3, e], t2⟩
theorem l_addt {a : Nat → Int} {w : Int} (ha : qD 40 a) (hw : 0 ≤ w) (hw2 : w ≤ 1000) : ∀ (n j : Nat) (c : Int) (d : Nat → Int), j ≤ 40 → 40 - j < n → 0 ≤ c → c < 1001 → qD 40 d →
    ∃ d2 c2, l_X6_addTimes_5 n w c j d a = some d2 ∧ qD 40 d2 ∧ 0 ≤ c2 ∧ qv d2 40 + c2 * qP 40 = qv d 40 + c * qP j + w * (qv a 40 - qv a j) := by
  intro n
  induction n with
  | zero => intro j c d h1 h2; omega
  | succ n ih =>
    intro j c d hj hn hc hc2 hd
    rw [l_X6_addTimes_5]
    by_cases h : j = 40
    · subst h
      rw [if_neg (by omega)]
      exact ⟨d, c, rfl, hd, hc, by rw [Int.sub_self, Int.mul_zero, Int.add_zero]⟩
    · have e3 : Int.toNat (j : Int) = j := Int.toNat_natCast j
      have h1 := ha j (by omega)
      have h2 := hd j (by omega)
      obtain ⟨z, hz⟩ : ∃ z, z = a j * w := ⟨_, rfl⟩
      have hz0 : 0 ≤ z := by rw [hz]; exact Int.mul_nonneg h1.1 hw
      have hz1 : z ≤ 1073741823 * 1000 := by rw [hz]; exact Int.mul_le_mul (by omega) hw2 hw (by omega)
      simp only [q_lo]
      rw [e3, ← hz, q_hi (z + d j + c) (by omega) (by omega)]
      simp (disch := omega) only [if_pos, if_neg]
      obtain ⟨p1, p2⟩ := q_put (d := d) (p := j) (K := 40) (by omega) (z + d j + c) hd
      obtain ⟨d2, c2, q1, q2, q3, q4⟩ := ih (j + 1) ((z + d j + c) / 1073741824) _ (by omega) (by omega) (by omega) (by omega) p1
      refine ⟨d2, c2, q1, q2, q3, ?_⟩
      rw [q4]
      have p3 : (z + d j + c - d j) * qP j = w * (a j * qP j) + c * qP j := by
        rw [show z + d j + c - d j = z + c by omega, Int.add_mul, hz, Int.mul_comm (a j) w, Int.mul_assoc]
      rw [show qv a (j + 1) = qv a j + a j * qP j from rfl, show qv a 40 - (qv a j + a j * qP j) = (qv a 40 - qv a j) - a j * qP j by omega, Int.mul_sub]
      omega
theorem q_addTimes {d a : Nat → Int} {s t P Q w : Int} (hd : qN 40 d s P) (ha : qN 40 a t Q) (hw : 0 ≤ w) (hw2 : w ≤ 1000) (hbig : P + Q * w < qP 40) : ∃ s2 d2, f_X6_addTimes w s d a = some (s2, d2) ∧ qN 40 d2 s2 (P + Q * w) := by
  obtain ⟨a1, rfl, a3⟩ := hd
  obtain ⟨b1, rfl, b3⟩ := ha
  obtain ⟨d2, c2, q1, q2, q3, q4⟩ := l_addt b1 hw hw2 zN 0 0 d (by omega) (by have := zN_big; omega) (by omega) (by omega) a1
  have q1 : l_X6_addTimes_5 zN w 0 0 d a = some d2 := q1
  rw [show qv a 0 = 0 from rfl, Int.zero_mul, Int.sub_zero, Int.add_zero, Int.mul_comm w] at q4
  have hc0 := q_c0 q3 (qP_pos 40) (qv_nonneg 40 (fun j hj => (q2 j hj).1)) q4 hbig
  obtain ⟨s2, t1, t2⟩ := q_trim s d2
  unfold f_X6_addTimes
  rw [q1, q_bs, t1, q_bs]
  refine ⟨s2, d2, rfl, q2, ?_, t2⟩
  rw [← q4, hc0]
  omega
