/-! ===== registers: multiplies ===== -/
theorem qv_ge {f : Nat → Int} {K : Nat} (hf : ∀ j : Nat, j < K → 0 ≤ f j) {j : Nat} (hj : j < K) : f j * qP j ≤ qv f K := by
  induction K with
  | zero => omega
  | succ K ih =>
    show _ ≤ qv f K + f K * qP K
    have h1 := qv_nonneg (f := f) K (fun j hj => hf j (by omega))
    have h2 := Int.mul_nonneg (hf K (by omega)) (Int.le_of_lt (qP_pos K))
    by_cases h : j = K
    · rw [h]; omega
    · have := ih (fun j hj => hf j (by omega)) (by omega)
      omega
theorem qv_low {f : Nat → Int} {K k : Nat} (hf : qD K f) (h : qv f K < qP k) (j : Nat) (h1 : k ≤ j) (h2 : j < K) : f j = 0 := by
  have a1 := qv_ge (fun j hj => (hf j hj).1) h2
  have a2 := qP_le h1
  have a3 := hf j h2
  rcases Int.lt_or_le 0 (f j) with h3 | h3
  · have : 1 * qP j ≤ f j * qP j := Int.mul_le_mul_of_nonneg_right (by omega) (Int.le_of_lt (qP_pos j))
    omega
  · omega
theorem q_pos (v : Int) : 0 < zlc v 0 ↔ 0 < v := q_gt v 0
theorem l_mrow {p q : Nat} (hp : p < 9) (hq : q < 9) (hp4 : p ≠ 4) (hq4 : q ≠ 4) {W : Nat → Int} {w : Nat} (hW : W q = w) (hw : w ≤ 31) {a b : Nat → Int} (ha : qD 70 a) (hb : qD 70 b) (hbz : ∀ j : Nat, w ≤ j → j < 70 → b j = 0) {i : Nat} (hi : i < 31) :
    ∀ (n j : Nat) (c : Int) (L : Nat → Int), 70 - i - j < n → i + j ≤ 70 → 0 ≤ c → c < 1073741824 → qD 70 (qr L 4) → (∀ j : Nat, j < 70 → qr L p j = a j) → (∀ j : Nat, j < 70 → qr L q j = b j) → qv (qr L 4) 70 + c * qP (i + j) + a i * qP i * (qv b 70 - qv b j) < qP 62 →
    ∃ L2, l_X10_multiplies_24 n p q i c j L W = some L2 ∧ qD 70 (qr L2 4) ∧ qv (qr L2 4) 70 = qv (qr L 4) 70 + c * qP (i + j) + a i * qP i * (qv b 70 - qv b j) ∧ qO 4 L L2 := by
  intro n
  induction n with
  | zero => intro j c L h; omega
  | succ n ih =>
    intro j c L hn hj hc hc2 hd hpa hqb hv
    rw [l_X10_multiplies_24, Int.toNat_natCast, hW, if_pos (by omega)]
    have hai := ha i (by omega)
    have hnn := qv_nonneg (f := qr L 4) 70 (fun j hj => (hd j hj).1)
    have e1 : L (70 * p + i) = a i := hpa i (by omega)
    -- one step on
    have step : ∀ y : Int, 0 ≤ y → y ≤ 1152921502459363329 → i + j < 70 → y * qP (i + j) = a i * qP i * (qv b (j + 1) - qv b j) → ∃ L2, l_X10_multiplies_24 n p q i (zshrl (L (70 * 4 + (i + j)) + y + c) 30) (j + 1 : Nat) (zu L (70 * 4 + (i + j)) (zandl (L (70 * 4 + (i + j)) + y + c) 1073741823)) W = some L2 ∧ qD 70 (qr L2 4) ∧ qv (qr L2 4) 70 = qv (qr L 4) 70 + c * qP (i + j) + a i * qP i * (qv b 70 - qv b j) ∧ qO 4 L L2 := by
      intro y hy hy2 hij hyv
      have hdij := hd (i + j) hij
      rw [show L (70 * 4 + (i + j)) = qr L 4 (i + j) from rfl, zandl_mask, q_his _ (by omega)]
      obtain ⟨p1, p2⟩ := q_put (d := qr L 4) (p := i + j) (K := 70) hij (qr L 4 (i + j) + y + c) hd
      have hO := qO_zu (p := 4) (j := i + j) hij L ((qr L 4 (i + j) + y + c) % 1073741824)
      have e3 : (qr L 4 (i + j) + y + c - qr L 4 (i + j)) * qP (i + j) = a i * qP i * (qv b (j + 1) - qv b j) + c * qP (i + j) := by
        rw [show qr L 4 (i + j) + y + c - qr L 4 (i + j) = y + c by omega, Int.add_mul, hyv]
      have e4 : a i * qP i * (qv b 70 - qv b j) = a i * qP i * (qv b 70 - qv b (j + 1)) + a i * qP i * (qv b (j + 1) - qv b j) := by
        rw [← Int.mul_add, show qv b 70 - qv b j = qv b 70 - qv b (j + 1) + (qv b (j + 1) - qv b j) by omega]
      rw [e3] at p2
      obtain ⟨L2, l1, l2, l3, l4⟩ := ih (j + 1) ((qr L 4 (i + j) + y + c) / 1073741824) (zu L (70 * 4 + (i + j)) ((qr L 4 (i + j) + y + c) % 1073741824)) (by omega) (by omega) (by omega) (by omega) (by rw [qr_zuf]; exact p1) (fun j hj => by rw [← hpa j hj]; exact qO_r hO hp4 j hj) (fun j hj => by rw [← hqb j hj]; exact qO_r hO hq4 j hj) (by
        rw [qr_zuf, show i + (j + 1) = i + j + 1 by omega]
        omega)
      refine ⟨L2, l1, l2, ?_, qO_trans hO l4⟩
      rw [l3, qr_zuf, show i + (j + 1) = i + j + 1 by omega]
      omega
    have ei : Int.toNat (280 + (i : Int) + (j : Int)) = 70 * 4 + (i + j) := by omega
    by_cases h : j < w
    · have e2 : L (70 * q + j) = b j := hqb j (by omega)
      have hbj := hb j (by omega)
      obtain ⟨z, hz⟩ : ∃ z, z = a i * b j := ⟨_, rfl⟩
      have hz2 := q_sm hai.1 hai.2 hbj.1 hbj.2 hz
      have hdij := hd (i + j) (by omega)
      have hdij2 : 0 ≤ L (70 * 4 + (i + j)) ∧ L (70 * 4 + (i + j)) < 1073741824 := hdij
      rw [if_pos (by omega), if_pos (by omega), if_pos (by omega), if_pos (by omega), ei, show Int.toNat (70 * (p : Int) + (i : Int)) = 70 * p + i by omega, show Int.toNat (70 * (q : Int) + (j : Int)) = 70 * q + j by omega, e1, e2, ← hz, if_pos (by omega), if_pos (by rw [zandl_mask]; omega), if_pos (by omega)]
      refine step z hz2.1 hz2.2 (by omega) ?_
      rw [hz, show qv b (j + 1) = qv b j + b j * qP j from rfl, show qv b j + b j * qP j - qv b j = b j * qP j by omega, qP_add]
      rw [Int.mul_assoc, Int.mul_assoc, ← Int.mul_assoc (b j), Int.mul_comm (b j) (qP i), Int.mul_assoc]
    · have hbv : qv b 70 = qv b j := qv_top 70 (by omega) (fun k g1 g2 => hbz k (by omega) g2)
      rw [if_neg (by omega)]
      by_cases hc0 : 0 < c
      · have hij : i + j < 70 := by
          rcases Nat.lt_or_ge (i + j) 70 with h1 | h1
          · exact h1
          · have h2 : i + j = 70 := by omega
            rw [h2, hbv, Int.sub_self, Int.mul_zero, Int.add_zero] at hv
            have h3 : 1 * qP 70 ≤ c * qP 70 := Int.mul_le_mul_of_nonneg_right (by omega) (Int.le_of_lt (qP_pos 70))
            have h4 := qP_le (show 62 ≤ 70 by omega)
            omega
        have hdij := hd (i + j) hij
        have hdij2 : 0 ≤ L (70 * 4 + (i + j)) ∧ L (70 * 4 + (i + j)) < 1073741824 := hdij
        rw [if_pos ((q_pos c).2 hc0), if_pos (by omega), if_neg (by omega), ei, if_pos (by omega), if_pos (by rw [zandl_mask]; omega), if_pos (by omega)]
        refine step 0 (by omega) (by omega) hij ?_
        have hbj : b j = 0 := hbz j (by omega) (by omega)
        rw [show qv b (j + 1) = qv b j + b j * qP j from rfl, hbj, Int.zero_mul, Int.zero_mul, Int.add_zero, Int.sub_self, Int.mul_zero]
      · rw [if_neg (fun h => hc0 ((q_pos c).1 h))]
        refine ⟨L, rfl, hd, ?_, qO_refl 4 L⟩
        rw [show c = 0 by omega, hbv, Int.sub_self, Int.mul_zero, Int.zero_mul]
        omega
theorem l_mult {p q : Nat} (hp : p < 9) (hq : q < 9) (hp4 : p ≠ 4) (hq4 : q ≠ 4) {W : Nat → Int} {w u : Nat} (hWp : W p = u) (hu : u ≤ 31) (hW : W q = w) (hw : w ≤ 31) {a b : Nat → Int} (ha : qD 70 a) (hb : qD 70 b) (haz : ∀ j : Nat, u ≤ j → j < 70 → a j = 0) (hbz : ∀ j : Nat, w ≤ j → j < 70 → b j = 0) :
    ∀ (n i : Nat) (L : Nat → Int), u - i < n → i ≤ u → qD 70 (qr L 4) → (∀ j : Nat, j < 70 → qr L p j = a j) → (∀ j : Nat, j < 70 → qr L q j = b j) → qv (qr L 4) 70 = qv a i * qv b 70 →
    ∃ L2, l_X10_multiplies_8 n p q i L W = some L2 ∧ qD 70 (qr L2 4) ∧ qv (qr L2 4) 70 = qv a 70 * qv b 70 ∧ qO 4 L L2 := by
  have hB : qv b 70 < qP 31 := by
    rw [qv_top 70 (by omega) hbz]
    exact Int.lt_of_lt_of_le (qv_lt w (fun j hj => hb j (by omega))) (qP_le hw)
  have hB0 : 0 ≤ qv b 70 := qv_nonneg 70 (fun j hj => (hb j hj).1)
  intro n
  induction n with
  | zero => intro i L h; omega
  | succ n ih =>
    intro i L hn hi hd hpa hqb hv
    rw [l_X10_multiplies_8, Int.toNat_natCast, hWp, if_pos (by omega)]
    by_cases h : i = u
    · subst h
      rw [if_neg (by omega)]
      exact ⟨L, rfl, hd, by rw [hv, qv_top (f := a) 70 (by omega) haz], qO_refl 4 L⟩
    · have e : qv a (i + 1) * qv b 70 = qv a i * qv b 70 + a i * qP i * qv b 70 := by
        rw [show qv a (i + 1) = qv a i + a i * qP i from rfl, Int.add_mul]
      have hlt : qv a (i + 1) * qv b 70 < qP 62 := by
        have h1 : qv a (i + 1) < qP 31 := Int.lt_of_lt_of_le (qv_lt (i + 1) (fun j hj => ha j (by omega))) (qP_le (by omega))
        have h0 : 0 ≤ qv a (i + 1) := qv_nonneg _ (fun j hj => (ha j (by omega)).1)
        have h2 : qv a (i + 1) * qv b 70 ≤ qv a (i + 1) * qP 31 := Int.mul_le_mul_of_nonneg_left (Int.le_of_lt hB) h0
        have h3 : qv a (i + 1) * qP 31 < qP 31 * qP 31 := Int.mul_lt_mul_of_pos_right h1 (qP_pos 31)
        rw [← qP_add] at h3
        exact Int.lt_of_le_of_lt h2 h3
      obtain ⟨L2, l1, l2, l3, l4⟩ := l_mrow hp hq hp4 hq4 hW hw ha hb hbz (i := i) (by omega) zN 0 0 L (by have := zN_big; omega) (by omega) (by omega) (by omega) hd hpa hqb (by
        rw [show qv b 0 = 0 from rfl, Int.sub_zero, Int.zero_mul, hv, Int.add_zero, ← e]
        exact hlt)
      have l1 : l_X10_multiplies_24 zN p q i 0 0 L W = some L2 := l1
      rw [show qv b 0 = 0 from rfl, Int.sub_zero, Int.zero_mul, hv, Int.add_zero, ← e] at l3
      obtain ⟨L3, m1, m2, m3, m4⟩ := ih (i + 1) L2 (by omega) (by omega) l2 (fun j hj => by rw [← hpa j hj]; exact qO_r l4 hp4 j hj) (fun j hj => by rw [← hqb j hj]; exact qO_r l4 hq4 j hj) l3
      rw [if_pos (by omega), l1, q_bs, if_pos (by omega)]
      exact ⟨L3, m1, m2, m3, qO_trans l4 m4⟩
def qQ (L W V : Nat → Int) : Prop := ∀ r : Nat, r < 9 → r ≠ 4 → qR L W r (V r)
theorem qQ_upd {L W V L2 W2 : Nat → Int} {p : Nat} {P : Int} (h : qQ L W V) (hk : qK p L W L2 W2) (hr : qR L2 W2 p P) : qQ L2 W2 (zu V p P) := fun r h1 h2 => by
  rw [q_zu]
  by_cases h3 : r = p
  · rw [if_pos h3, h3]; exact hr
  · rw [if_neg h3]; exact qK_R hk h1 h3 (h r h1 h2)
theorem q_multiplies {p q : Nat} (hp : p < 9) (hq : q < 9) (hp4 : p ≠ 4) (hq4 : q ≠ 4) {L W V : Nat → Int} (h : qQ L W V) (h1 : V p < qP 31) (h2 : V q < qP 31) : ∃ L2 W2, f_X10_multiplies p q L W = some (L2, W2) ∧ qQ L2 W2 (zu V p (V p * V q)) := by
  obtain ⟨L1, W1, s1, s2, s3⟩ := q_sets (p := 4) (by omega) (v := 0) (by omega) (by omega) L W
  have s1 : f_X10_sets 4 0 L W = some (L1, W1) := s1
  have hP := qK_R s3 hp hp4 (h p hp hp4)
  have hQ := qK_R s3 hq hq4 (h q hq hq4)
  obtain ⟨u, hu, hu2⟩ := qR_w hP
  obtain ⟨w, hw, hw2⟩ := qR_w hQ
  obtain ⟨a1, a2, a3⟩ := hP
  obtain ⟨b1, b2, b3⟩ := hQ
  rw [hu] at a3
  rw [hw] at b3
  have hu3 : u ≤ 31 := qS_wide a1 a3 (by rw [a2]; exact h1)
  have hw3 : w ≤ 31 := qS_wide b1 b3 (by rw [b2]; exact h2)
  obtain ⟨L2, l1, l2, l3, l4⟩ := l_mult hp hq hp4 hq4 hu hu3 hw hw3 a1 b1 (fun j g1 g2 => a3.2.2.1 j (by omega) g2) (fun j g1 g2 => b3.2.2.1 j (by omega) g2) zN 0 L1 (by have := zN_big; omega) (by omega) s2.1 (fun _ _ => rfl) (fun _ _ => rfl) (by rw [s2.2.1]; show 0 = 0 * _; rw [Int.zero_mul])
  have l1 : l_X10_multiplies_8 zN p q 0 L1 W1 = some L2 := l1
  have hlt : qv (qr L2 4) 70 < qP (u + w) := by
    have g1 := qS_high a1 a3
    have g2 := qS_high b1 b3
    have g3 : 0 ≤ qv (qr L1 q) 70 := qv_nonneg 70 (fun j hj => (b1 j hj).1)
    have g4 : qv (qr L1 p) 70 * qv (qr L1 q) 70 ≤ qP u * qv (qr L1 q) 70 := Int.mul_le_mul_of_nonneg_right (Int.le_of_lt g1) g3
    have g5 : qP u * qv (qr L1 q) 70 < qP u * qP w := Int.mul_lt_mul_of_pos_left g2 (qP_pos u)
    rw [l3, qP_add]
    exact Int.lt_of_le_of_lt g4 g5
  obtain ⟨W2, w1, w2, w3⟩ := q_trims (p := 4) (by omega) (L := L2) (W := zu W1 4 ((u : Int) + (w : Int))) (k := u + w) (by omega) (by rw [q_zu, if_pos rfl]; omega) l2 (qv_low l2 hlt)
  have w1 : f_X10_trims 4 L2 (zu W1 4 ((u : Int) + (w : Int))) = some W2 := w1
  obtain ⟨L3, W3, t1, t2, t3⟩ := q_takes (p := p) (q := 4) hp (by omega) hp4 w2
  have t1 : f_X10_takes p 4 L2 W2 = some (L3, W3) := t1
  unfold f_X10_multiplies
  rw [s1, q_bs]
  dsimp only
  rw [l1, q_bs, Int.toNat_natCast, Int.toNat_natCast, if_pos (by omega), hu, hw, show Int.toNat 4 = 4 from rfl, w1, q_bs, t1, q_bs]
  refine ⟨L3, W3, rfl, ?_⟩
  have k4 : ∀ r : Nat, r < 9 → r ≠ 4 → qR L2 W2 r (V r) := fun r g1 g2 => by
    refine qK_R (qO_K l4 (W := W1) (W2 := W2) (fun r hr => by rw [w3 r hr, q_zu, if_neg hr])) g1 g2 ?_
    exact qK_R s3 g1 g2 (h r g1 g2)
  refine qQ_upd k4 t3 ?_
  rw [← a2, ← b2, ← l3]
  exact t2
