/-! ===== registers: halves, against, lessens, adds ===== -/
theorem qr_zuf (L : Nat → Int) (p k : Nat) (v : Int) : qr (zu L (70 * p + k) v) p = zu (qr L p) k v := funext (fun j => qr_zu L p k v j)
theorem q_half (x c : Int) (hx : 0 ≤ x) (hx2 : x < 1073741824) (hc : 0 ≤ c) (hc2 : c ≤ 1) : zor (zshr x 1) (zshl c 29) = x / 2 + c * 536870912 := by
  have e1 : zshr x 1 = x / 2 := by
    have h : zshr x 1 = x / 2 ^ 1 := zshr_int x 1 (by omega) (by omega)
    rw [h]
    rfl
  obtain ⟨a, ha⟩ : ∃ a : Nat, x / 2 = a := ⟨(x / 2).toNat, by omega⟩
  obtain ⟨b, rfl⟩ : ∃ b : Nat, c = b := ⟨c.toNat, by omega⟩
  have e2 : zshl (b : Int) 29 = ((b * 2 ^ 29 : Nat) : Int) := zshl_nat b 29 (by omega) (by omega)
  rw [e1, ha, e2, zor_nat _ _ (by omega) (by omega)]
  have h := Nat.shiftLeft_add_eq_or_of_lt (i := 29) (b := a) (by omega) b
  rw [Nat.shiftLeft_eq] at h
  rw [Nat.or_comm, ← h]
  omega
theorem l_halves {p : Nat} (hp : p < 9) {W : Nat → Int} {w : Nat} (hW : W p = w) (hw : w ≤ 70) {f : Nat → Int} (hf : ∀ j : Nat, 0 ≤ f j ∧ f j < 1073741824) (hz : ∀ j : Nat, w ≤ j → f j = 0) : ∀ (n k : Nat) (L : Nat → Int), w - k < n → k ≤ w → (∀ j : Nat, k ≤ j → j < 70 → qr L p j = f j) → (∀ j : Nat, j < k → 0 ≤ qr L p j ∧ qr L p j < 1073741824) → 2 * qv (qr L p) k + f 0 % 2 = qv f k + f k % 2 * qP k →
    ∃ L2, l_X10_halves_2 n p k L W = some L2 ∧ qD 70 (qr L2 p) ∧ (∀ j : Nat, w ≤ j → j < 70 → qr L2 p j = 0) ∧ 2 * qv (qr L2 p) 70 + f 0 % 2 = qv f 70 ∧ qO p L L2 := by
  intro n
  induction n with
  | zero => intro k L h; omega
  | succ n ih =>
    intro k L hn hk hold hnew hv
    rw [l_X10_halves_2, Int.toNat_natCast, hW, if_pos (by omega)]
    by_cases h : k = w
    · subst h
      rw [if_neg (by omega)]
      have hzz : ∀ j : Nat, k ≤ j → j < 70 → qr L p j = 0 := fun j h1 h2 => by rw [hold j h1 h2]; exact hz j h1
      refine ⟨L, rfl, fun j hj => ?_, hzz, ?_, qO_refl p L⟩
      · by_cases h1 : j < k
        · exact hnew j h1
        · rw [hzz j (by omega) hj]; omega
      · rw [qv_top 70 hw hzz, qv_top 70 hw (fun j h1 _ => hz j h1)]
        rw [hz k (by omega), show (0 : Int) % 2 = 0 from rfl, Int.zero_mul, Int.add_zero] at hv
        exact hv
    · have hfk := hf k
      have hfk1 := hf (k + 1)
      have e1 : L (70 * p + k) = f k := hold k (by omega) (by omega)
      have step : ∀ x, x = f k / 2 + f (k + 1) % 2 * 536870912 → ∃ L2, l_X10_halves_2 n p (k + 1 : Nat) (zu L (70 * p + k) x) W = some L2 ∧ qD 70 (qr L2 p) ∧ (∀ j : Nat, w ≤ j → j < 70 → qr L2 p j = 0) ∧ 2 * qv (qr L2 p) 70 + f 0 % 2 = qv f 70 ∧ qO p L L2 := by
        intro x hx
        obtain ⟨L2, l1, l2, l3, l4, l5⟩ := ih (k + 1) (zu L (70 * p + k) x) (by omega) (by omega) (fun j h1 h2 => by
            rw [qr_zu, q_zu, if_neg (by omega)]
            exact hold j (by omega) h2) (fun j hj => by
            rw [qr_zu, q_zu]
            by_cases hjk : j = k
            · rw [if_pos hjk, hx]; omega
            · rw [if_neg hjk]; exact hnew j (by omega)) (by
            rw [qr_zuf]
            show 2 * (qv (zu (qr L p) k x) k + zu (qr L p) k x k * qP k) + _ = qv f k + f k * qP k + _ * (qP k * 1073741824)
            rw [qv_zu, if_neg (by omega), q_zu, if_pos rfl]
            have a1 : x * qP k = f k / 2 * qP k + f (k + 1) % 2 * qP k * 536870912 := by
              rw [hx, Int.add_mul, Int.mul_right_comm]
            have a2 : f k * qP k = 2 * (f k / 2 * qP k) + f k % 2 * qP k := by
              have : f k = 2 * (f k / 2) + f k % 2 := by omega
              have a3 : f k * qP k = (2 * (f k / 2) + f k % 2) * qP k := by rw [← this]
              rw [a3, Int.add_mul, Int.mul_assoc]
            rw [a1, a2, ← Int.mul_assoc (f (k + 1) % 2)]
            omega)
        exact ⟨L2, l1, l2, l3, l4, qO_trans (qO_zu (by omega) L x) l5⟩
      rw [if_pos (by omega), if_pos (by omega), show Int.toNat (70 * (p : Int) + (k : Int)) = 70 * p + k by omega, show Int.toNat (70 * (p : Int) + (k : Int) + 1) = 70 * p + (k + 1) by omega, e1]
      by_cases h2 : k + 1 < w
      · have e2 : L (70 * p + (k + 1)) = f (k + 1) := hold (k + 1) (by omega) (by omega)
        rw [if_pos (by omega), if_pos (by omega), if_pos (by omega), if_pos (by omega), e2, zand_1, q_half _ _ hfk.1 hfk.2 (by omega) (by omega)]
        exact step _ rfl
      · rw [if_neg (by omega), if_pos (by omega), if_pos (by omega), q_half _ _ hfk.1 hfk.2 (by omega) (by omega)]
        exact step _ (by rw [hz (k + 1) (by omega)]; rfl)
theorem qR_w {L W : Nat → Int} {p : Nat} {P : Int} (h : qR L W p P) : ∃ w : Nat, W p = w ∧ w ≤ 70 := ⟨(W p).toNat, by have := h.2.2.1; omega, by have := h.2.2.2.1; omega⟩
theorem q_halves {p : Nat} (hp : p < 9) {L W : Nat → Int} {P : Int} (h : qR L W p P) (he : P % 2 = 0) : ∃ L2 W2, f_X10_halves p L W = some (L2, W2) ∧ qR L2 W2 p (P / 2) ∧ qK p L W L2 W2 := by
  obtain ⟨w, hw, hw2⟩ := qR_w h
  obtain ⟨h1, h2, h3⟩ := h
  have hf : ∀ j : Nat, 0 ≤ (fun j => if j < 70 then qr L p j else 0) j ∧ (fun j => if j < 70 then qr L p j else 0) j < 1073741824 := fun j => by
    by_cases hj : j < 70
    · simp only [hj, if_true]; exact h1 j hj
    · simp only [hj, if_false]; omega
  have hz : ∀ j : Nat, w ≤ j → (fun j => if j < 70 then qr L p j else 0) j = 0 := fun j hj => by
    by_cases hj2 : j < 70
    · simp only [hj2, if_true]; exact h3.2.2.1 j (by omega) hj2
    · simp only [hj2, if_false]
  have hfv : qv (fun j => if j < 70 then qr L p j else 0) 70 = P := by
    rw [← h2]
    exact qv_congr 70 (fun j hj => if_pos hj)
  obtain ⟨L2, l1, l2, l3, l4, l5⟩ := l_halves hp hw hw2 hf hz zN 0 L (by have := zN_big; omega) (by omega) (fun j _ hj => (if_pos hj).symm) (fun j hj => by omega) (by
    show 2 * 0 + _ = 0 + _ * 1
    omega)
  have l1 : l_X10_halves_2 zN p 0 L W = some L2 := l1
  obtain ⟨W2, w1, w2, w3⟩ := q_trims hp (L := L2) (W := W) hw2 hw l2 l3
  have he0 := qv_even (fun j => if j < 70 then qr L p j else 0) 69
  rw [hfv] at he0 l4
  unfold f_X10_halves
  rw [l1, q_bs, w1, q_bs]
  refine ⟨L2, W2, rfl, ?_, qO_K l5 w3⟩
  rw [show P / 2 = qv (qr L2 p) 70 by omega]
  exact w2
theorem qS_lowK {K : Nat} {f : Nat → Int} {s : Nat} (hd : qD K f) (hs : qS K f s) (h1 : 1 ≤ s) : qP (s - 1) ≤ qv f K := by
  obtain ⟨a1, a2, a3, a4⟩ := hs
  have e : qv f K = qv f s := qv_top K (by omega) (fun j g1 g2 => a3 j (by omega) g2)
  obtain ⟨k, rfl⟩ : ∃ k, s = k + 1 := ⟨s - 1, by omega⟩
  have h2 := a4 k rfl
  have h3 := hd k (by omega)
  have h4 : 0 ≤ qv f k := qv_nonneg k (fun j hj => (hd j (by omega)).1)
  have h5 : 1 * qP k ≤ f k * qP k := Int.mul_le_mul_of_nonneg_right (by omega) (Int.le_of_lt (qP_pos k))
  rw [e]
  show qP k ≤ qv f k + f k * qP k
  omega
theorem qS_high {K : Nat} {f : Nat → Int} {s : Nat} (hd : qD K f) (hs : qS K f s) : qv f K < qP s := by
  obtain ⟨a1, a2, a3, a4⟩ := hs
  have e : qv f K = qv f s := qv_top K (by omega) (fun j g1 g2 => a3 j (by omega) g2)
  rw [e]
  exact qv_lt s (fun j hj => hd j (by omega))
theorem qS_wide {K : Nat} {f : Nat → Int} {s k : Nat} (hd : qD K f) (hs : qS K f s) (h : qv f K < qP k) : s ≤ k := by
  rcases Nat.lt_or_ge k s with h1 | h1
  · have h2 := qS_lowK hd hs (by omega)
    have h3 := qP_le (show k ≤ s - 1 by omega)
    omega
  · exact h1
def qcmp (P Q : Int) : Int := if P < Q then -1 else if P = Q then 0 else 1
theorem l_against {p q : Nat} (hp : p < 9) (hq : q < 9) {L : Nat → Int} (h1 : qD 70 (qr L p)) (h2 : qD 70 (qr L q)) : ∀ (n k : Nat), k < n → k ≤ 70 → l_X10_against_45 n p q ((k : Int) - 1) L = some (qcmp (qv (qr L p) k) (qv (qr L q) k)) := by
  intro n
  induction n with
  | zero => intro k h; omega
  | succ n ih =>
    intro k hn hk
    rw [l_X10_against_45]
    cases k with
    | zero =>
      rw [if_pos (by omega)]
      rfl
    | succ k =>
      rw [if_neg (by omega), if_pos (by omega), show Int.toNat (70 * (p : Int) + (((k + 1 : Nat) : Int) - 1)) = 70 * p + k by omega, show Int.toNat (70 * (q : Int) + (((k + 1 : Nat) : Int) - 1)) = 70 * q + k by omega]
      rw [show L (70 * p + k) = qr L p k from rfl, show L (70 * q + k) = qr L q k from rfl, show qv (qr L p) (k + 1) = qv (qr L p) k + qr L p k * qP k from rfl, show qv (qr L q) (k + 1) = qv (qr L q) k + qr L q k * qP k from rfl]
      have a1 := qv_lt (f := qr L p) k (fun j hj => h1 j (by omega))
      have a2 := qv_lt (f := qr L q) k (fun j hj => h2 j (by omega))
      have a3 := qv_nonneg (f := qr L p) k (fun j hj => (h1 j (by omega)).1)
      have a4 := qv_nonneg (f := qr L q) k (fun j hj => (h2 j (by omega)).1)
      generalize qr L p k = x at *
      generalize qr L q k = y at *
      have key : ∀ x y : Int, x < y → (x + 1) * qP k ≤ y * qP k := fun x y h => Int.mul_le_mul_of_nonneg_right (by omega) (Int.le_of_lt (qP_pos k))
      have e1 := Int.add_mul x 1 (qP k)
      have e2 := Int.add_mul y 1 (qP k)
      by_cases h : x = y
      · subst h
        rw [if_pos rfl, if_pos (by omega), show ((k + 1 : Nat) : Int) - 1 + (-1) = (k : Int) - 1 by omega, ih k (by omega) (by omega)]
        congr 1
        unfold qcmp
        split <;> split <;> (try split) <;> (try split) <;> omega
      · rw [if_neg h, if_pos (by omega)]
        by_cases h2 : x < y
        · have := key x y h2
          rw [if_pos h2]
          unfold qcmp
          rw [if_pos (by omega)]
        · have := key y x (by omega)
          rw [if_neg h2]
          unfold qcmp
          rw [if_neg (by omega), if_neg (by omega)]
theorem q_against {p q : Nat} (hp : p < 9) (hq : q < 9) {L W : Nat → Int} {P Q : Int} (h1 : qR L W p P) (h2 : qR L W q Q) : f_X10_against p q L W = some (qcmp P Q) := by
  obtain ⟨w, hw, hw2⟩ := qR_w h1
  obtain ⟨u, hu, hu2⟩ := qR_w h2
  obtain ⟨a1, rfl, a3⟩ := h1
  obtain ⟨b1, rfl, b3⟩ := h2
  unfold f_X10_against
  rw [hw] at a3
  rw [hu] at b3
  rw [Int.toNat_natCast, Int.toNat_natCast, hw, hu, if_pos (by omega)]
  have c1 := qS_high a1 a3
  have c2 := qS_high b1 b3
  by_cases h : w = u
  · subst h
    rw [if_pos rfl, if_pos (by omega), l_against hp hq a1 b1 zN w (by have := zN_big; omega) hw2, qv_top (f := qr L p) 70 hw2 (fun j h1 h2 => a3.2.2.1 j (by omega) h2), qv_top (f := qr L q) 70 hw2 (fun j h1 h2 => b3.2.2.1 j (by omega) h2)]
  · rw [if_neg (by omega), if_pos (by omega)]
    by_cases h2 : w < u
    · have c3 := qS_lowK b1 b3 (by omega)
      have c4 := qP_le (show w ≤ u - 1 by omega)
      rw [if_pos (by omega)]
      unfold qcmp
      rw [if_pos (by omega)]
    · have c3 := qS_lowK a1 a3 (by omega)
      have c4 := qP_le (show u ≤ w - 1 by omega)
      rw [if_neg (by omega)]
      unfold qcmp
      rw [if_neg (by omega), if_neg (by omega)]
