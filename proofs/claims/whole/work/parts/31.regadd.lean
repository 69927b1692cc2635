/-! ===== registers: lessens, adds ===== -/
theorem l_lessens {p q : Nat} (hp : p < 9) (hq : q < 9) (hpq : p ≠ q) {W : Nat → Int} {w : Nat} (hW : W p = w) (hw : w ≤ 70) {b : Nat → Int} (hb : qD 70 b) : ∀ (n k : Nat) (c : Int) (L : Nat → Int), w - k < n → k ≤ w → 0 ≤ c → c ≤ 1 → qD 70 (qr L p) → (∀ j : Nat, j < 70 → qr L q j = b j) →
    ∃ L2 c2, l_X10_lessens_5 n p q c k L W = some L2 ∧ qD 70 (qr L2 p) ∧ 0 ≤ c2 ∧ c2 ≤ 1 ∧ (∀ j : Nat, w ≤ j → qr L2 p j = qr L p j) ∧ qv (qr L2 p) 70 - c2 * qP w = qv (qr L p) 70 - c * qP k - (qv b w - qv b k) ∧ qO p L L2 := by
  intro n
  induction n with
  | zero => intro k c L h; omega
  | succ n ih =>
    intro k c L hn hk hc hc2 hd hqb
    rw [l_X10_lessens_5, Int.toNat_natCast, hW, if_pos (by omega)]
    by_cases h : k = w
    · subst h
      rw [if_neg (by omega)]
      exact ⟨L, c, rfl, hd, hc, hc2, fun _ _ => rfl, by omega, qO_refl p L⟩
    · have e1 : L (70 * q + k) = b k := hqb k (by omega)
      have ha := hd k (by omega)
      have hbk := hb k (by omega)
      rw [if_pos (by omega), show Int.toNat (70 * (p : Int) + (k : Int)) = 70 * p + k by omega, show Int.toNat (70 * (q : Int) + (k : Int)) = 70 * q + k by omega, e1, show L (70 * p + k) = qr L p k from rfl, if_pos (by omega), if_pos (by omega), zand_mask]
      obtain ⟨p1, p2⟩ := q_put (d := qr L p) (p := k) (K := 70) (by omega) (qr L p k - b k - c) hd
      have step : ∀ c' : Int, c' = - ((qr L p k - b k - c) / 1073741824) → ∃ L2 c2, l_X10_lessens_5 n p q c' (k + 1 : Nat) (zu L (70 * p + k) ((qr L p k - b k - c) % 1073741824)) W = some L2 ∧ qD 70 (qr L2 p) ∧ 0 ≤ c2 ∧ c2 ≤ 1 ∧ (∀ j : Nat, w ≤ j → qr L2 p j = qr L p j) ∧ qv (qr L2 p) 70 - c2 * qP w = qv (qr L p) 70 - c * qP k - (qv b w - qv b k) ∧ qO p L L2 := by
        intro c' hc'
        have hO := qO_zu (p := p) (j := k) (by omega) L ((qr L p k - b k - c) % 1073741824)
        obtain ⟨L2, c2, l1, l2, l3, l4, l5, l6, l7⟩ := ih (k + 1) c' (zu L (70 * p + k) ((qr L p k - b k - c) % 1073741824)) (by omega) (by omega) (by omega) (by omega) (by rw [qr_zuf]; exact p1) (fun j hj => by
          rw [← hqb j hj]
          exact qO_r hO (fun h => hpq h.symm) j hj)
        refine ⟨L2, c2, l1, l2, l3, l4, fun j hj => by rw [l5 j hj, qr_zu, q_zu, if_neg (by omega)], ?_, qO_trans hO l7⟩
        rw [l6, qr_zuf, show qv b (k + 1) = qv b k + b k * qP k from rfl]
        have e3 : (qr L p k - b k - c - qr L p k) * qP k = - (b k * qP k) - c * qP k := by
          rw [show qr L p k - b k - c - qr L p k = - b k - c by omega, Int.sub_mul, Int.neg_mul]
        have e4 : c' * qP (k + 1) = - ((qr L p k - b k - c) / 1073741824 * qP (k + 1)) := by rw [hc', Int.neg_mul]
        rw [e3] at p2
        rw [e4]
        omega
      by_cases h2 : qr L p k - b k - c < 0
      · rw [if_pos h2, if_pos (by omega)]
        exact step 1 (by omega)
      · rw [if_neg h2, if_pos (by omega)]
        exact step 0 (by omega)
theorem q_lessens {p q : Nat} (hp : p < 9) (hq : q < 9) (hpq : p ≠ q) {L W : Nat → Int} {P Q : Int} (h1 : qR L W p P) (h2 : qR L W q Q) (hPQ : Q ≤ P) : ∃ L2 W2, f_X10_lessens p q L W = some (L2, W2) ∧ qR L2 W2 p (P - Q) ∧ qK p L W L2 W2 := by
  obtain ⟨w, hw, hw2⟩ := qR_w h1
  obtain ⟨u, hu, hu2⟩ := qR_w h2
  obtain ⟨a1, rfl, a3⟩ := h1
  obtain ⟨b1, rfl, b3⟩ := h2
  rw [hw] at a3
  rw [hu] at b3
  have c1 := qS_high a1 a3
  have hz : ∀ j : Nat, w ≤ j → j < 70 → qr L p j = 0 := fun j g1 g2 => a3.2.2.1 j (by omega) g2
  have huw : u ≤ w := qS_wide b1 b3 (by omega)
  have hbw : qv (qr L q) w = qv (qr L q) 70 := (qv_top 70 hw2 (fun j g1 g2 => b3.2.2.1 j (by omega) g2)).symm
  obtain ⟨L2, c2, l1, l2, l3, l4, l5, l6, l7⟩ := l_lessens hp hq hpq hw hw2 b1 zN 0 0 L (by have := zN_big; omega) (by omega) (by omega) (by omega) a1 (fun _ _ => rfl)
  have l1 : l_X10_lessens_5 zN p q 0 0 L W = some L2 := l1
  rw [hbw, show qv (qr L q) 0 = 0 from rfl, Int.zero_mul] at l6
  have hz2 : ∀ j : Nat, w ≤ j → j < 70 → qr L2 p j = 0 := fun j g1 g2 => by rw [l5 j g1]; exact hz j g1 g2
  have hlt : qv (qr L2 p) 70 < qP w := by
    rw [qv_top 70 hw2 hz2]
    exact qv_lt w (fun j hj => l2 j (by omega))
  have hc0 : c2 = 0 := by
    rcases Int.lt_or_le 0 c2 with h | h
    · have : c2 = 1 := by omega
      subst this
      omega
    · omega
  obtain ⟨W2, w1, w2, w3⟩ := q_trims hp (L := L2) (W := W) hw2 hw l2 hz2
  unfold f_X10_lessens
  rw [l1, q_bs, w1, q_bs]
  refine ⟨L2, W2, rfl, ?_, qO_K l7 w3⟩
  rw [hc0] at l6
  rw [show qv (qr L p) 70 - qv (qr L q) 70 = qv (qr L2 p) 70 by omega]
  exact w2
theorem q_hi32 (x : Int) (h0 : 0 ≤ x) (h1 : x < 2147483648) : zushr x 30 = x / 1073741824 := by
  obtain ⟨a, rfl⟩ : ∃ a : Nat, x = a := ⟨x.toNat, by omega⟩
  have e : zushr (a : Int) 30 = ((a / 2 ^ 30 : Nat) : Int) := zushr_nat a 30 (by omega) (by omega)
  rw [e]
  omega
theorem l_adds {p q : Nat} (hp : p < 9) (hq : q < 9) (hpq : p ≠ q) {w : Nat} (hw : w ≤ 70) {b : Nat → Int} (hb : qD 70 b) : ∀ (n k : Nat) (c : Int) (L : Nat → Int), w - k < n → k ≤ w → 0 ≤ c → c ≤ 1 → qD 70 (qr L p) → (∀ j : Nat, j < 70 → qr L q j = b j) →
    ∃ L2 c2, l_X10_adds_37 n p q w c k L = some (c2, L2) ∧ qD 70 (qr L2 p) ∧ 0 ≤ c2 ∧ c2 ≤ 1 ∧ (∀ j : Nat, w ≤ j → qr L2 p j = qr L p j) ∧ qv (qr L2 p) 70 + c2 * qP w = qv (qr L p) 70 + c * qP k + (qv b w - qv b k) ∧ qO p L L2 := by
  intro n
  induction n with
  | zero => intro k c L h; omega
  | succ n ih =>
    intro k c L hn hk hc hc2 hd hqb
    rw [l_X10_adds_37]
    by_cases h : k = w
    · subst h
      rw [if_neg (by omega)]
      exact ⟨L, c, rfl, hd, hc, hc2, fun _ _ => rfl, by omega, qO_refl p L⟩
    · have e1 : L (70 * q + k) = b k := hqb k (by omega)
      have ha := hd k (by omega)
      have hbk := hb k (by omega)
      rw [if_pos (by omega), show Int.toNat (70 * (p : Int) + (k : Int)) = 70 * p + k by omega, show Int.toNat (70 * (q : Int) + (k : Int)) = 70 * q + k by omega, e1, show L (70 * p + k) = qr L p k from rfl, if_pos (by omega), if_pos (by omega), if_pos (by omega), zand_mask, q_hi32 _ (by omega) (by omega)]
      obtain ⟨p1, p2⟩ := q_put (d := qr L p) (p := k) (K := 70) (by omega) (qr L p k + b k + c) hd
      have hO := qO_zu (p := p) (j := k) (by omega) L ((qr L p k + b k + c) % 1073741824)
      obtain ⟨L2, c2, l1, l2, l3, l4, l5, l6, l7⟩ := ih (k + 1) ((qr L p k + b k + c) / 1073741824) (zu L (70 * p + k) ((qr L p k + b k + c) % 1073741824)) (by omega) (by omega) (by omega) (by omega) (by rw [qr_zuf]; exact p1) (fun j hj => by
        rw [← hqb j hj]
        exact qO_r hO (fun h => hpq h.symm) j hj)
      refine ⟨L2, c2, l1, l2, l3, l4, fun j hj => by rw [l5 j hj, qr_zu, q_zu, if_neg (by omega)], ?_, qO_trans hO l7⟩
      rw [l6, qr_zuf, show qv b (k + 1) = qv b k + b k * qP k from rfl]
      have e3 : (qr L p k + b k + c - qr L p k) * qP k = b k * qP k + c * qP k := by
        rw [show qr L p k + b k + c - qr L p k = b k + c by omega, Int.add_mul]
      rw [e3] at p2
      omega
theorem q_adds {p q : Nat} (hp : p < 9) (hq : q < 9) (hpq : p ≠ q) {L W : Nat → Int} {P Q : Int} (h1 : qR L W p P) (h2 : qR L W q Q) (hP : P < qP 60) (hQ : Q < qP 60) : ∃ L2 W2, f_X10_adds p q L W = some (L2, W2) ∧ qR L2 W2 p (P + Q) ∧ qK p L W L2 W2 := by
  obtain ⟨w, hw, hw2⟩ := qR_w h1
  obtain ⟨u, hu, hu2⟩ := qR_w h2
  obtain ⟨a1, rfl, a3⟩ := h1
  obtain ⟨b1, rfl, b3⟩ := h2
  rw [hw] at a3
  rw [hu] at b3
  have hw3 := qS_wide a1 a3 hP
  have hu3 := qS_wide b1 b3 hQ
  have main : ∀ x : Nat, w ≤ x → u ≤ x → x ≤ 60 → ∃ L2 c2 W2, l_X10_adds_37 zN p q x 0 0 L = some (c2, L2) ∧ 0 ≤ c2 ∧ c2 ≤ 1 ∧ f_X10_trims p (zu L2 (70 * p + x) c2) (zu W p ((x : Int) + c2)) = some W2 ∧ qR (zu L2 (70 * p + x) c2) W2 p (qv (qr L p) 70 + qv (qr L q) 70) ∧ qK p L W (zu L2 (70 * p + x) c2) W2 := by
    intro x h1 h2 h3
    have hbw : qv (qr L q) x = qv (qr L q) 70 := (qv_top 70 (by omega) (fun j g1 g2 => b3.2.2.1 j (by omega) g2)).symm
    obtain ⟨L2, c2, l1, l2, l3, l4, l5, l6, l7⟩ := l_adds hp hq hpq (w := x) (by omega) b1 zN 0 0 L (by have := zN_big; omega) (by omega) (by omega) (by omega) a1 (fun _ _ => rfl)
    have l1 : l_X10_adds_37 zN p q x 0 0 L = some (c2, L2) := l1
    rw [hbw, show qv (qr L q) 0 = 0 from rfl, Int.zero_mul] at l6
    have hzx : ∀ j : Nat, x ≤ j → j < 70 → qr L2 p j = 0 := fun j g1 g2 => by rw [l5 j g1]; exact a3.2.2.1 j (by omega) g2
    obtain ⟨k, hk⟩ : ∃ k : Nat, (x : Int) + c2 = k := ⟨x + c2.toNat, by omega⟩
    obtain ⟨W2, w1, w2, w3⟩ := q_trims hp (L := zu L2 (70 * p + x) c2) (W := zu W p ((x : Int) + c2)) (k := k) (by omega) (by rw [q_zu, if_pos rfl, hk]) (fun j hj => by
      rw [qr_zu, q_zu]
      by_cases h : j = x
      · rw [if_pos h]; omega
      · rw [if_neg h]; exact l2 j hj) (fun j g1 g2 => by
      rw [qr_zu, q_zu]
      by_cases h : j = x
      · rw [if_pos h]; omega
      · rw [if_neg h]; exact hzx j (by omega) g2)
    refine ⟨L2, c2, W2, l1, l3, l4, w1, ?_, qO_K (qO_trans l7 (qO_zu (by omega) L2 c2)) (fun r hr => by rw [w3 r hr, q_zu, if_neg hr])⟩
    rw [qr_zuf, qv_zu, if_pos (by omega), hzx x (by omega) (by omega), Int.sub_zero, l6] at w2
    rw [show qv (qr L p) 70 + qv (qr L q) 70 = qv (qr L p) 70 + 0 + (qv (qr L q) 70 - 0) by omega]
    exact w2
  unfold f_X10_adds
  rw [Int.toNat_natCast, Int.toNat_natCast, hw, hu, if_pos (by omega)]
  by_cases h : u < w
  · obtain ⟨L2, c2, W2, m1, m2, m3, m4, m5, m6⟩ := main w (by omega) (by omega) (by omega)
    rw [if_pos (by omega), if_pos (by omega), m1, q_bs, if_pos (by omega)]
    dsimp only
    rw [if_pos (by omega), show Int.toNat (70 * (p : Int) + (w : Int)) = 70 * p + w by omega, m4, q_bs]
    exact ⟨_, W2, rfl, m5, m6⟩
  · obtain ⟨L2, c2, W2, m1, m2, m3, m4, m5, m6⟩ := main u (by omega) (by omega) (by omega)
    rw [if_neg (by omega), if_pos (by omega), m1, q_bs, if_pos (by omega)]
    dsimp only
    rw [if_pos (by omega), show Int.toNat (70 * (p : Int) + (u : Int)) = 70 * p + u by omega, m4, q_bs]
    exact ⟨_, W2, rfl, m5, m6⟩
