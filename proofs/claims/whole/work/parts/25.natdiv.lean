/-! ===== Natural: leftOver, divide; shared measures ===== -/
theorem q_eq (a b : Int) : zlc a b = 0 ↔ a = b := by unfold zlc; split <;> (try split) <;> omega
theorem q_step (m X P Y : Int) : ((X % m) * P + Y) % m = (X * P + Y) % m := by
  have e : X * P + Y = ((X % m) * P + Y) + m * (X / m * P) := by
    have h := Int.emod_add_mul_ediv X m
    have h2 : X * P = (X % m + m * (X / m)) * P := by rw [h]
    rw [h2, Int.add_mul, Int.mul_assoc]
    omega
  rw [e, Int.add_mul_emod_self_left]
theorem q_stepd (m X P Y : Int) (hm : 0 < m) : ((X % m) * P + Y) / m + X / m * P = (X * P + Y) / m := by
  have e : X * P + Y = ((X % m) * P + Y) + m * (X / m * P) := by
    have h := Int.emod_add_mul_ediv X m
    have h2 : X * P = (X % m + m * (X / m)) * P := by rw [h]
    rw [h2, Int.add_mul, Int.mul_assoc]
    omega
  rw [e, Int.add_mul_ediv_left _ _ (by omega)]
theorem q_tm (X m : Int) (hX : 0 ≤ X) : Int.tmod X m = X % m := Int.tmod_eq_emod_of_nonneg hX
theorem q_td (X m : Int) (hX : 0 ≤ X) : Int.tdiv X m = X / m := Int.tdiv_eq_ediv_of_nonneg hX
theorem q_qdig {m r d : Int} (hr : 0 ≤ r) (hr2 : r < m) (hd : 0 ≤ d) (hd2 : d < 1073741824) : 0 ≤ (r * 1073741824 + d) / m ∧ (r * 1073741824 + d) / m < 1073741824 := by
  refine ⟨Int.ediv_nonneg (by omega) (by omega), ?_⟩
  refine Int.ediv_lt_of_lt_mul (by omega) ?_
  rw [Int.mul_comm]
  omega
theorem l_leftOver {m : Int} {f : Nat → Int} (hm : 0 < m) (hm2 : m ≤ 2147483647) (hf : qD 40 f) : ∀ (n k : Nat) (r : Int), k ≤ 40 → k < n → 0 ≤ r → r < m → l_X6_leftOver_21 n m r ((k : Int) - 1) f = some ((r * qP k + qv f k) % m) := by
  intro n
  induction n with
  | zero => intro k r h1 h2; omega
  | succ n ih =>
    intro k r hk hn hr hr2
    rw [l_X6_leftOver_21]
    cases k with
    | zero =>
      rw [if_pos (by omega)]
      show some r = some ((r * 1 + 0) % m)
      rw [Int.mul_one, Int.add_zero, Int.emod_eq_of_lt hr hr2]
    | succ k =>
      have h1 := hf k (by omega)
      have e2 : Int.toNat (((k + 1 : Nat) : Int) - 1) = k := by omega
      rw [e2, q_next r (f k) hr (by omega) h1.1 h1.2, q_tm _ _ (by omega), show ((k + 1 : Nat) : Int) - 1 + (-1) = (k : Int) - 1 by omega]
      simp (disch := omega) only [if_pos, if_neg]
      rw [ih k _ (by omega) (by omega) (Int.emod_nonneg _ (by omega)) (Int.emod_lt_of_pos _ hm), q_step]
      show _ = some ((r * (qP k * 1073741824) + (qv f k + f k * qP k)) % m)
      congr 2
      rw [Int.add_mul, Int.mul_assoc, Int.mul_comm 1073741824]
      omega
theorem l_divide {m : Int} (hm : 0 < m) (hm2 : m ≤ 2147483647) : ∀ (n k : Nat) (r : Int) (f : Nat → Int), k ≤ 40 → k < n → 0 ≤ r → r < m → qD 40 f → ∃ g, l_X6_divide_20 n m r ((k : Int) - 1) f = some g ∧ qD 40 g ∧ (∀ j : Nat, k ≤ j → g j = f j) ∧ qv g k = (r * qP k + qv f k) / m := by
  intro n
  induction n with
  | zero => intro k r f h1 h2; omega
  | succ n ih =>
    intro k r f hk hn hr hr2 hf
    rw [l_X6_divide_20]
    cases k with
    | zero =>
      rw [if_pos (by omega)]
      refine ⟨f, rfl, hf, fun _ _ => rfl, ?_⟩
      show 0 = (r * 1 + 0) / m
      rw [Int.mul_one, Int.add_zero, Int.ediv_eq_zero_of_lt hr hr2]
    | succ k =>
      have h1 := hf k (by omega)
      have h2 := q_qdig hr hr2 h1.1 h1.2
      have e2 : Int.toNat (((k + 1 : Nat) : Int) - 1) = k := by omega
      rw [e2, q_next r (f k) hr (by omega) h1.1 h1.2, q_tm _ _ (by omega), q_td _ _ (by omega), show ((k + 1 : Nat) : Int) - 1 + (-1) = (k : Int) - 1 by omega]
      simp (disch := omega) only [if_pos, if_neg]
      obtain ⟨g, g1, g2, g3, g4⟩ := ih k ((r * 1073741824 + f k) % m) (zu f k ((r * 1073741824 + f k) / m)) (by omega) (by omega) (Int.emod_nonneg _ (by omega)) (Int.emod_lt_of_pos _ hm) (fun j hj => by
        rw [q_zu]
        by_cases h : j = k
        · rw [if_pos h]; exact h2
        · rw [if_neg h]; exact hf j hj)
      refine ⟨g, g1, g2, fun j hj => ?_, ?_⟩
      · rw [g3 j (by omega), q_zu, if_neg (by omega)]
      · show qv g k + g k * qP k = (r * (qP k * 1073741824) + (qv f k + f k * qP k)) / m
        rw [g4, g3 k (Nat.le_refl k), q_zu, if_pos rfl, qv_zu, if_neg (by omega), q_stepd _ _ _ _ hm]
        congr 1
        rw [Int.add_mul, Int.mul_assoc, Int.mul_comm 1073741824]
        omega
theorem q_leftOver {f : Nat → Int} {s P m : Int} (h : qN 40 f s P) (hm : 0 < m) (hm2 : m ≤ 2147483647) : f_X6_leftOver m s f = some (P % m) := by
  obtain ⟨a1, rfl, a3⟩ := h
  obtain ⟨s, rfl⟩ : ∃ k : Nat, s = k := ⟨s.toNat, by have := a3.1; omega⟩
  have hs : s ≤ 40 := by have := a3.2.1; omega
  have e : qv f 40 = qv f s := qv_top 40 hs (fun j g1 g2 => a3.2.2.1 j (by omega) g2)
  unfold f_X6_leftOver
  rw [if_pos hm, show min (s : Int) 40 = s by omega, if_pos (by omega), l_leftOver hm hm2 a1 zN s 0 hs (by have := zN_big; omega) (by omega) hm, q_bs, Int.zero_mul, Int.zero_add, ← e]
  have h1 := Int.emod_nonneg (qv f 40) (show m ≠ 0 by omega)
  have h2 := Int.emod_lt_of_pos (qv f 40) hm
  rw [if_pos (by omega)]
theorem q_divide {f : Nat → Int} {s P m : Int} (h : qN 40 f s P) (hm : 0 < m) (hm2 : m ≤ 2147483647) : ∃ s2 g, f_X6_divide m s f = some (s2, g) ∧ qN 40 g s2 (P / m) := by
  obtain ⟨a1, rfl, a3⟩ := h
  obtain ⟨s, rfl⟩ : ∃ k : Nat, s = k := ⟨s.toNat, by have := a3.1; omega⟩
  have hs : s ≤ 40 := by have := a3.2.1; omega
  have e : qv f 40 = qv f s := qv_top 40 hs (fun j g1 g2 => a3.2.2.1 j (by omega) g2)
  obtain ⟨g, g1, g2, g3, g4⟩ := l_divide hm hm2 zN s 0 f hs (by have := zN_big; omega) (by omega) hm a1
  obtain ⟨s2, t1, t2⟩ := q_trim s g
  have e2 : qv g 40 = qv g s := qv_top 40 hs (fun j h1 h2 => by rw [g3 j h1]; exact a3.2.2.1 j (by omega) h2)
  unfold f_X6_divide
  rw [if_pos hm, show min (s : Int) 40 = s by omega, if_pos (by omega), g1, q_bs, t1, q_bs]
  refine ⟨s2, g, rfl, g2, ?_, t2⟩
  rw [e2, g4, e, Int.zero_mul, Int.zero_add]
theorem l_shared : ∀ (j n k a b : Nat), 2 * j + 1 < n → k + 2 * j + 1 ≤ 100 → b < 2 ^ j → l_X2_shared_9 n a b k = some ((Nat.gcd a b : Nat) : Int) := by
  intro j
  induction j with
  | zero =>
    intro n k a b hn hk hb
    obtain ⟨n, rfl⟩ : ∃ m, n = m + 1 := ⟨n - 1, by omega⟩
    have hb0 : b = 0 := by
      have : (2 : Nat) ^ 0 = 1 := rfl
      omega
    subst hb0
    rw [l_X2_shared_9, if_pos (by omega), if_pos (show zlc ((0 : Nat) : Int) 0 = 0 from (q_eq _ _).2 rfl), Nat.gcd_zero_right]
  | succ j ih =>
    intro n k a b hn hk hb
    obtain ⟨n, rfl⟩ : ∃ m, n = m + 1 + 1 := ⟨n - 2, by omega⟩
    rw [l_X2_shared_9, if_pos (by omega)]
    by_cases h : b = 0
    · subst h
      rw [if_pos (show zlc ((0 : Nat) : Int) 0 = 0 from (q_eq _ _).2 rfl), Nat.gcd_zero_right]
    · rw [if_neg (fun h2 => h (by have := (q_eq _ _).1 h2; omega)), if_pos (by omega), q_tm _ _ (by omega), ← Int.natCast_emod]
      have hc : a % b < b := Nat.mod_lt _ (by omega)
      have e1 : Nat.gcd a b = Nat.gcd b (a % b) := by rw [Nat.gcd_comm a b, Nat.gcd_rec b a, Nat.gcd_comm]
      rw [e1]
      generalize a % b = c at hc
      rw [l_X2_shared_9, if_pos (by omega)]
      by_cases h2 : c = 0
      · subst h2
        rw [if_pos (show zlc ((0 : Nat) : Int) 0 = 0 from (q_eq _ _).2 rfl), Nat.gcd_zero_right]
      · rw [if_neg (fun h3 => h2 (by have := (q_eq _ _).1 h3; omega)), if_pos (by omega), q_tm _ _ (by omega), ← Int.natCast_emod]
        have e2 : Nat.gcd b c = Nat.gcd c (b % c) := by rw [Nat.gcd_comm b c, Nat.gcd_rec c b, Nat.gcd_comm]
        have hd : b % c < 2 ^ j := by
          have h4 : b % c < c := Nat.mod_lt _ (by omega)
          have h5 : b % c + c ≤ b := by
            have h6 := Nat.mod_add_div b c
            have h7 : c * 1 ≤ c * (b / c) := Nat.mul_le_mul_left c (Nat.div_pos (by omega) (by omega))
            omega
          have h8 : (2 : Nat) ^ (j + 1) = 2 ^ j * 2 := rfl
          omega
        rw [e2]
        exact ih n (k + 2) c (b % c) (by omega) (by omega) hd
theorem q_shared (a b : Nat) (hb : b < 2 ^ 49) : f_X2_shared a b = some ((Nat.gcd a b : Nat) : Int) := by
  unfold f_X2_shared
  have h := l_shared 49 zN 0 a b (by have := zN_big; omega) (by omega) hb
  have h : l_X2_shared_9 zN a b 0 = _ := h
  rw [h]
  rfl
/-- `P/Q` is `a/b` in its lowest terms -/
def qLow (a b P Q : Int) : Prop := P * b = a * Q ∧ 0 ≤ P ∧ 0 < Q ∧ Nat.gcd P.toNat Q.toNat = 1
theorem qLow_uniq {a b P Q R S : Int} (hb : 0 < b) (h1 : qLow a b P Q) (h2 : qLow a b R S) : P = R ∧ Q = S := by
  obtain ⟨a1, a2, a3, a4⟩ := h1
  obtain ⟨b1, b2, b3, b4⟩ := h2
  have e : P * S = R * Q := by
    refine Int.eq_of_mul_eq_mul_right (show b ≠ 0 by omega) ?_
    rw [Int.mul_right_comm, a1, Int.mul_right_comm, Int.mul_right_comm R, b1]
  obtain ⟨p, rfl⟩ : ∃ p : Nat, P = p := ⟨P.toNat, by omega⟩
  obtain ⟨q, rfl⟩ : ∃ p : Nat, Q = p := ⟨Q.toNat, by omega⟩
  obtain ⟨r, rfl⟩ : ∃ p : Nat, R = p := ⟨R.toNat, by omega⟩
  obtain ⟨s, rfl⟩ : ∃ p : Nat, S = p := ⟨S.toNat, by omega⟩
  rw [← Int.natCast_mul, ← Int.natCast_mul] at e
  have e : p * s = r * q := Int.ofNat.inj e
  rw [Int.toNat_natCast, Int.toNat_natCast] at a4 b4
  have d1 : q ∣ s := by
    have h : Nat.Coprime q p := by rw [Nat.Coprime, Nat.gcd_comm]; exact a4
    exact h.dvd_of_dvd_mul_left ⟨r, by rw [e, Nat.mul_comm]⟩
  have d2 : s ∣ q := by
    have h : Nat.Coprime s r := by rw [Nat.Coprime, Nat.gcd_comm]; exact b4
    exact h.dvd_of_dvd_mul_left ⟨p, by rw [← e, Nat.mul_comm]⟩
  have e2 : q = s := Nat.dvd_antisymm d1 d2
  subst e2
  have e3 : p = r := Nat.eq_of_mul_eq_mul_right (by omega) e
  rw [e3]
  exact ⟨rfl, rfl⟩
theorem qLow_gcd {a b : Nat} (hb : 0 < b) : qLow a b ((a : Int) / (Nat.gcd a b : Nat)) ((b : Int) / (Nat.gcd a b : Nat)) := by
  have hg : 0 < Nat.gcd a b := Nat.gcd_pos_of_pos_right a hb
  rw [← Int.natCast_ediv, ← Int.natCast_ediv]
  refine ⟨?_, Int.natCast_nonneg _, ?_, ?_⟩
  · rw [← Int.natCast_mul, ← Int.natCast_mul]
    congr 1
    obtain ⟨x, hx⟩ := Nat.gcd_dvd_left a b
    obtain ⟨y, hy⟩ := Nat.gcd_dvd_right a b
    generalize Nat.gcd a b = g at hg hx hy
    rw [hx, hy, Nat.mul_div_cancel_left _ hg, Nat.mul_div_cancel_left _ hg, Nat.mul_left_comm, Nat.mul_assoc]
  · have := Nat.div_pos (Nat.le_of_dvd hb (Nat.gcd_dvd_right a b)) hg
    omega
  · rw [Int.toNat_natCast, Int.toNat_natCast]
    rw [Nat.gcd_div (Nat.gcd_dvd_left a b) (Nat.gcd_dvd_right a b), Nat.div_self hg]
theorem q_fraction {a b : Int} (ha : 0 ≤ a) (ha2 : a < 4611686018427387904) (hb : 0 < b) (hb2 : b < 562949953421312) (s t : Int) (f g : Nat → Int) : ∃ s2 f2 t2 g2 P Q, f_X2_become a b s f t g = some (s2, f2, t2, g2) ∧ qN 40 f2 s2 P ∧ qN 40 g2 t2 Q ∧ qLow a b P Q ∧ P ≤ a ∧ Q ≤ b := by
  obtain ⟨a, rfl⟩ : ∃ k : Nat, a = k := ⟨a.toNat, by omega⟩
  obtain ⟨b, rfl⟩ : ∃ k : Nat, b = k := ⟨b.toNat, by omega⟩
  have hl := qLow_gcd (a := a) (b := b) (by omega)
  have hg : 0 < Nat.gcd a b := Nat.gcd_pos_of_pos_right a (by omega)
  have u1 : (a : Int) / (Nat.gcd a b : Nat) ≤ a := Int.ediv_le_self _ (by omega)
  have u2 : (b : Int) / (Nat.gcd a b : Nat) ≤ b := Int.ediv_le_self _ (by omega)
  obtain ⟨s2, f2, p1, p2⟩ := q_become ((a : Int) / (Nat.gcd a b : Nat)) s f hl.2.1 (by omega)
  obtain ⟨t2, g2, r1, r2⟩ := q_become ((b : Int) / (Nat.gcd a b : Nat)) t g (Int.le_of_lt hl.2.2.1) (by omega)
  have v1 := hl.2.1
  have v2 := hl.2.2.1
  refine ⟨s2, f2, t2, g2, _, _, ?_, p2, r2, hl, u1, u2⟩
  unfold f_X2_become
  rw [q_shared a b (by omega), q_bs, if_neg (fun h => by have := (q_eq _ _).1 h; omega), if_neg (fun h => by have := (q_eq _ _).1 h; omega), q_td _ _ (by omega), q_td _ _ (by omega), if_pos (by omega), p1, q_bs, if_pos (by omega), r1, q_bs]
