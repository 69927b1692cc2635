/-! ===== registers: parts (an exact division) ===== -/
theorem q_zw (x : Int) : ∃ k, zw x = x + k * 4294967296 := by
  unfold zw
  rw [Int32.toInt_ofInt]
  have h := Int.bmod_emod (x := x) (m := 4294967296)
  refine ⟨(x.bmod 4294967296 - x) / 4294967296, ?_⟩
  show x.bmod 4294967296 = _
  omega
theorem q_newton {m g v : Int} (h : m ∣ g * v - 1) (hm : m * m ∣ 4294967296) : m * m ∣ g * zw (v * (2 - g * v)) - 1 := by
  obtain ⟨k, hk⟩ := q_zw (v * (2 - g * v))
  obtain ⟨e, he⟩ := h
  obtain ⟨t, ht⟩ := hm
  rw [hk, Int.mul_add, ← Int.mul_assoc g v]
  have h1 : g * v = 1 + m * e := by omega
  rw [h1]
  refine ⟨- (e * e) + g * k * t, ?_⟩
  rw [Int.mul_add, show (4294967296 : Int) = m * m * t from ht]
  have a1 : (1 + m * e) * (2 - (1 + m * e)) = 1 - m * m * (e * e) := by
    rw [show 2 - (1 + m * e) = 1 - m * e by omega, Int.add_mul, Int.one_mul, Int.mul_sub, Int.mul_one]
    have : m * e * (m * e) = m * m * (e * e) := by
      rw [Int.mul_assoc, Int.mul_left_comm e, ← Int.mul_assoc]
    rw [this]
    omega
  have a2 : g * (k * (m * m * t)) = m * m * (g * k * t) := by
    rw [← Int.mul_assoc g k, Int.mul_left_comm]
  rw [a1, a2, Int.mul_neg]
  omega
theorem q_inverse {g : Int} (hg : g % 2 = 1) {p : Nat} {L : Nat → Int} (hL : L 210 = g) : ∃ v, l_X10_parts_4 zN p 1 0 L = some v ∧ 1073741824 ∣ g * v - 1 := by
  obtain ⟨n, hn⟩ : ∃ n, zN = n + 1 + 1 + 1 + 1 + 1 + 1 := ⟨zN - 6, by have := zN_big; omega⟩
  have h0 : (2 : Int) ∣ g * 1 - 1 := ⟨g / 2, by omega⟩
  have h1 := q_newton h0 (by decide)
  have h2 := q_newton h1 (by decide)
  have h3 := q_newton h2 (by decide)
  have h4 := q_newton h3 (by decide)
  have h5 := q_newton h4 (by decide)
  rw [hn]
  rw [l_X10_parts_4, if_pos (by omega), if_pos (by omega), l_X10_parts_4, if_pos (by omega), if_pos (by omega), l_X10_parts_4, if_pos (by omega), if_pos (by omega), l_X10_parts_4, if_pos (by omega), if_pos (by omega), l_X10_parts_4, if_pos (by omega), if_pos (by omega), l_X10_parts_4, if_neg (by omega)]
  rw [show Int.toNat 210 = 210 from rfl, hL]
  refine ⟨_, rfl, Int.dvd_trans ?_ h5⟩
  decide
theorem q_odd2 {g : Int} (hg : g % 2 = 1) : ∀ (m : Nat) (y : Int), (2 : Int) ^ m ∣ g * y → (2 : Int) ^ m ∣ y := by
  intro m
  induction m with
  | zero => intro y _; exact ⟨y, by rw [Int.pow_zero, Int.one_mul]⟩
  | succ m ih =>
    intro y hy
    obtain ⟨t, ht⟩ := hy
    have h2 : y % 2 = 0 := by
      have e1 : (g * y) % 2 = 0 := by rw [ht, Int.pow_succ, Int.mul_assoc, Int.mul_comm _ (2 * t), Int.mul_assoc]; exact Int.mul_emod_right 2 _
      rw [Int.mul_emod, hg] at e1
      omega
    obtain ⟨z, rfl⟩ : ∃ z, y = 2 * z := ⟨y / 2, by omega⟩
    have h3 : (2 : Int) ^ m ∣ g * z := ⟨t, by
      have b1 : g * (2 * z) = 2 * (g * z) := Int.mul_left_comm g 2 z
      have b2 : 2 ^ m * 2 * t = 2 * (2 ^ m * t) := by rw [Int.mul_comm (2 ^ m) 2, Int.mul_assoc]
      rw [Int.pow_succ, b1, b2] at ht
      omega⟩
    obtain ⟨u, hu⟩ := ih z h3
    exact ⟨u, by rw [Int.pow_succ, hu, Int.mul_comm (2 ^ m) 2, Int.mul_assoc]⟩
theorem qP_two (k : Nat) : qP k = (2 : Int) ^ (30 * k) := by
  induction k with
  | zero => rfl
  | succ k ih =>
    show qP k * 1073741824 = _
    rw [ih, show 30 * (k + 1) = 30 * k + 30 by omega, Int.pow_add]
    rfl
theorem qv_cut (f : Nat → Int) (m d : Nat) : ∃ t, qv f (m + d) = qv f m + t * qP m := by
  induction d with
  | zero => exact ⟨0, by rw [Int.zero_mul, Int.add_zero]; rfl⟩
  | succ d ih =>
    obtain ⟨t, ht⟩ := ih
    refine ⟨t + f (m + d) * qP d, ?_⟩
    show qv f (m + d) + f (m + d) * qP (m + d) = _
    rw [ht, qP_add, Int.add_mul, Int.mul_assoc, Int.mul_comm (qP m), Int.add_assoc]
theorem l_prow {p : Nat} (hp : p < 9) (hp3 : p ≠ 3) {W : Nat → Int} {u w k : Nat} (hW : W 3 = u) (hu : u ≤ 70) (hw : w ≤ 70) {g : Nat → Int} (hg : qD 70 g) (hgz : ∀ j : Nat, u ≤ j → j < 70 → g j = 0) {q : Int} (hq : 0 ≤ q) (hq2 : q < 1073741824) (v2 : Int) :
    ∀ (n j : Nat) (br : Int) (L : Nat → Int), w - k - j < n → k + j ≤ w → 0 ≤ br → br < 1073741824 → qD 70 (qr L p) → (∀ j : Nat, j < 70 → qr L 3 j = g j) →
    ∃ L2 br2, l_X10_parts_71 n p v2 w k q br j L W = some L2 ∧ qD 70 (qr L2 p) ∧ (∀ i : Nat, w ≤ i → qr L2 p i = qr L p i) ∧ (∀ i : Nat, i < k + j → qr L2 p i = qr L p i) ∧ (k + j < w → qr L2 p (k + j) = (qr L p (k + j) - q * g j - br) % 1073741824) ∧ qv (qr L2 p) 70 - br2 * qP w = qv (qr L p) 70 - br * qP (k + j) - q * qP k * (qv g (w - k) - qv g j) ∧ qO p L L2 := by
  intro n
  induction n with
  | zero => intro j br L h; omega
  | succ n ih =>
    intro j br L hn hj hbr hbr2 hd hgr
    rw [l_X10_parts_71, if_pos (by omega)]
    by_cases h : k + j = w
    · rw [if_neg (by omega)]
      refine ⟨L, br, rfl, hd, fun _ _ => rfl, fun _ _ => rfl, fun h2 => by omega, ?_, qO_refl p L⟩
      rw [h, show w - k = j by omega, Int.sub_self, Int.mul_zero, Int.sub_zero]
    · have ha := hd (k + j) (by omega)
      have hgj := hg j (by omega)
      obtain ⟨z, hz⟩ : ∃ z, z = q * g j := ⟨_, rfl⟩
      have hz2 := q_sm hq hq2 hgj.1 hgj.2 hz
      have e1 : L (70 * 3 + j) = g j := hgr j (by omega)
      have ei : Int.toNat (70 * (p : Int) + (k : Int) + (j : Int)) = 70 * p + (k + j) := by omega
      have e3 : Int.toNat (210 + (j : Int)) = 70 * 3 + j := by omega
      have ha2 : 0 ≤ L (70 * p + (k + j)) ∧ L (70 * p + (k + j)) < 1073741824 := ha
      have step : ∃ L2 br2, l_X10_parts_71 n p v2 w k q (-(zshrl (L (70 * p + (k + j)) - z - br) 30)) (j + 1 : Nat) (zu L (70 * p + (k + j)) (zandl (L (70 * p + (k + j)) - z - br) 1073741823)) W = some L2 ∧ qD 70 (qr L2 p) ∧ (∀ i : Nat, w ≤ i → qr L2 p i = qr L p i) ∧ (∀ i : Nat, i < k + j → qr L2 p i = qr L p i) ∧ (k + j < w → qr L2 p (k + j) = (qr L p (k + j) - q * g j - br) % 1073741824) ∧ qv (qr L2 p) 70 - br2 * qP w = qv (qr L p) 70 - br * qP (k + j) - q * qP k * (qv g (w - k) - qv g j) ∧ qO p L L2 := by
        rw [show L (70 * p + (k + j)) = qr L p (k + j) from rfl, zandl_mask, q_his _ (by omega), ← hz]
        obtain ⟨p1, p2⟩ := q_put (d := qr L p) (p := k + j) (K := 70) (by omega) (qr L p (k + j) - z - br) hd
        have hO := qO_zu (p := p) (j := k + j) (by omega) L ((qr L p (k + j) - z - br) % 1073741824)
        obtain ⟨L2, br2, l1, l2, l3, l4, l5, l6, l7⟩ := ih (j + 1) (-((qr L p (k + j) - z - br) / 1073741824)) (zu L (70 * p + (k + j)) ((qr L p (k + j) - z - br) % 1073741824)) (by omega) (by omega) (by omega) (by omega) (by rw [qr_zuf]; exact p1) (fun i hi => by rw [← hgr i hi]; exact qO_r hO (fun h => hp3 h.symm) i hi)
        refine ⟨L2, br2, l1, l2, fun i hi => by rw [l3 i hi, qr_zu, q_zu, if_neg (by omega)], fun i hi => by rw [l4 i (by omega), qr_zu, q_zu, if_neg (by omega)], fun _ => by rw [l4 (k + j) (by omega), qr_zu, q_zu, if_pos rfl], ?_, qO_trans hO l7⟩
        rw [l6, qr_zuf, show qv g (j + 1) = qv g j + g j * qP j from rfl, show k + (j + 1) = k + j + 1 by omega]
        have a1 : (qr L p (k + j) - z - br - qr L p (k + j)) * qP (k + j) = - (q * qP k * (g j * qP j)) - br * qP (k + j) := by
          rw [show qr L p (k + j) - z - br - qr L p (k + j) = - z - br by omega, Int.sub_mul, Int.neg_mul, hz, qP_add]
          congr 2
          rw [Int.mul_assoc, Int.mul_assoc, ← Int.mul_assoc (g j), Int.mul_comm (g j) (qP k), Int.mul_assoc]
        have a2 : q * qP k * (qv g (w - k) - (qv g j + g j * qP j)) = q * qP k * (qv g (w - k) - qv g j) - q * qP k * (g j * qP j) := by
          rw [← Int.mul_sub, show qv g (w - k) - (qv g j + g j * qP j) = qv g (w - k) - qv g j - g j * qP j by omega]
        rw [a1] at p2
        rw [a2, Int.neg_mul]
        omega
      rw [if_pos (by omega), show Int.toNat 3 = 3 from rfl]
      by_cases h2 : j < u
      · rw [if_pos (by omega), if_pos (by omega), ei, e3, e1, ← hz, if_pos (by omega), if_pos (by rw [zandl_mask]; omega), if_pos (by rw [q_his _ (by omega)]; omega)]
        rw [← hz] at step
        exact step
      · have hz0 : z = 0 := by rw [hz, hgz j (by omega) (by omega), Int.mul_zero]
        rw [hz0] at step
        rw [if_neg (by omega), ei, if_pos (by omega), if_pos (by rw [zandl_mask]; omega), if_pos (by rw [q_his _ (by omega)]; omega)]
        exact step
theorem l_parts {p : Nat} (hp : p < 9) (hp3 : p ≠ 3) (hp4 : p ≠ 4) {W : Nat → Int} {u w : Nat} (hW : W 3 = u) (hu : u ≤ 70) (hw : w ≤ 70) {g : Nat → Int} (hg : qD 70 g) (hgz : ∀ j : Nat, u ≤ j → j < 70 → g j = 0) {v : Int} (hv : 1073741824 ∣ g 0 * v - 1) {P : Int} :
    ∀ (n k : Nat) (L : Nat → Int), w - k < n → k ≤ w → qD 70 (qr L p) → (∀ j : Nat, j < 70 → qr L 3 j = g j) → (∀ j : Nat, w ≤ j → j < 70 → qr L p j = 0) → (∀ j : Nat, j < k → qr L p j = 0) → (∀ j : Nat, j < k → 0 ≤ qr L 4 j ∧ qr L 4 j < 1073741824) → (∃ z, qv (qr L p) 70 = P - qv g 70 * qv (qr L 4) k + z * qP w) →
    ∃ L2, l_X10_parts_40 n p v w k L W = some L2 ∧ (∀ j : Nat, j < w → 0 ≤ qr L2 4 j ∧ qr L2 4 j < 1073741824) ∧ (∃ z, 0 = P - qv g 70 * qv (qr L2 4) w + z * qP w) ∧ (∀ j : Nat, j < 70 → qr L2 p j = 0) ∧ ∀ r : Nat, r ≠ p → r ≠ 4 → ∀ j : Nat, j < 70 → qr L2 r j = qr L r j := by
  intro n
  induction n with
  | zero => intro k L h; omega
  | succ n ih =>
    intro k L hn hk hd hgr hz1 hz2 hq hv2
    rw [l_X10_parts_40]
    by_cases h : k = w
    · subst h
      rw [if_neg (by omega)]
      have hz : ∀ j : Nat, j < 70 → qr L p j = 0 := fun j hj => by
        by_cases h1 : j < k
        · exact hz2 j h1
        · exact hz1 j (by omega) hj
      obtain ⟨z, hz3⟩ := hv2
      rw [qv_top (f := qr L p) (s := 0) 70 (by omega) (fun j _ h2 => hz j h2)] at hz3
      exact ⟨L, rfl, hq, ⟨z, hz3⟩, hz, fun _ _ _ _ _ => rfl⟩
    · have hdk := hd k (by omega)
      obtain ⟨q, hqe⟩ : ∃ q, q = (L (70 * p + k) * v) % 1073741824 := ⟨_, rfl⟩
      have hq0 : 0 ≤ q ∧ q < 1073741824 := by omega
      obtain ⟨L1, br, l1, l2, l3, l4, l5, l6, l7⟩ := l_prow hp hp3 (k := k) hW hu hw hg hgz hq0.1 hq0.2 v zN 0 0 L (by have := zN_big; omega) (by omega) (by omega) (by omega) hd hgr
      have l1 : l_X10_parts_71 zN p v w k q 0 0 L W = some L1 := l1
      have hk0 : qr L1 p k = 0 := by
        have e1 : qr L1 p k = (qr L p k - q * g 0 - 0) % 1073741824 := l5 (by omega)
        rw [e1]
        obtain ⟨t, ht⟩ := hv
        have e2 : (L (70 * p + k) * v) * g 0 = qr L p k + 1073741824 * (qr L p k * t) := by
          rw [show L (70 * p + k) = qr L p k from rfl, Int.mul_assoc, Int.mul_comm v, show g 0 * v = 1 + 1073741824 * t by omega, Int.mul_add, Int.mul_one, Int.mul_left_comm]
        have e3 := q_step 1073741824 (L (70 * p + k) * v) (g 0) 0
        rw [← hqe] at e3
        rw [e2] at e3
        omega
      have hO4 := qO_zu (p := 4) (j := k) (by omega) L1 q
      have hrow : ∀ r : Nat, r ≠ 4 → ∀ j : Nat, j < 70 → qr (zu L1 (70 * 4 + k) q) r j = qr L1 r j := fun r hr j hj => qO_r hO4 hr j hj
      have hpf : qv (qr (zu L1 (70 * 4 + k) q) p) 70 = qv (qr L1 p) 70 := qv_congr 70 (hrow p hp4)
      have h4 : ∀ j : Nat, j < 70 → qr L1 4 j = qr L 4 j := fun j hj => qO_r l7 (fun h => hp4 h.symm) j hj
      obtain ⟨z, hz⟩ := hv2
      obtain ⟨t, ht⟩ := qv_cut g (w - k) (70 - (w - k))
      rw [show w - k + (70 - (w - k)) = 70 by omega] at ht
      obtain ⟨L2, m1, m2, m3, m5, m4⟩ := ih (k + 1) (zu L1 (70 * 4 + k) q) (by omega) (by omega) (fun j hj => by rw [hrow p hp4 j hj]; exact l2 j hj) (fun j hj => by rw [hrow 3 (by omega) j hj, ← hgr j hj]; exact qO_r l7 (fun h => hp3 h.symm) j hj) (fun j g1 g2 => by rw [hrow p hp4 j g2, l3 j g1]; exact hz1 j g1 g2) (fun j hj => by
        rw [hrow p hp4 j (by omega)]
        by_cases hjk : j = k
        · rw [hjk]; exact hk0
        · rw [l4 j (by omega)]; exact hz2 j (by omega)) (fun j hj => by
        rw [qr_zu, q_zu]
        by_cases hjk : j = k
        · rw [if_pos hjk]; exact hq0
        · rw [if_neg hjk, h4 j (by omega)]; exact hq j (by omega)) (by
        refine ⟨z + br + q * t, ?_⟩
        rw [hpf, qr_zuf]
        show _ = P - qv g 70 * (qv (zu (qr L1 4) k q) k + zu (qr L1 4) k q k * qP k) + _
        rw [qv_zu, if_neg (by omega), q_zu, if_pos rfl, qv_congr k (fun j hj => h4 j (by omega)), Int.mul_add, Int.add_mul, Int.add_mul]
        rw [show qv g 0 = 0 from rfl, Int.sub_zero, Int.zero_mul] at l6
        have e4 : q * qP k * qv g (w - k) = qv g 70 * (q * qP k) - q * t * qP w := by
          rw [ht, Int.add_mul, Int.mul_comm (q * qP k)]
          have e5 : t * qP (w - k) * (q * qP k) = q * t * qP w := by
            rw [show qP w = qP (w - k) * qP k by rw [← qP_add]; congr 1; omega]
            rw [Int.mul_assoc, Int.mul_assoc, Int.mul_left_comm (qP (w - k)), Int.mul_left_comm t]
          omega
        omega)
      rw [if_pos (by omega), if_pos (by omega), show Int.toNat (70 * (p : Int) + (k : Int)) = 70 * p + k by omega, show Int.toNat (280 + (k : Int)) = 70 * 4 + k by omega, zand_mask, ← hqe, l1, q_bs, if_pos (by omega)]
      exact ⟨L2, m1, m2, m3, m5, fun r h1 h2 j hj => by rw [m4 r h1 h2 j hj, hrow r h2 j hj]; exact qO_r l7 h1 j hj⟩
theorem l_copyback {p : Nat} (hp : p < 9) (hp4 : p ≠ 4) {w : Nat} (hw : w ≤ 70) (v2 : Int) : ∀ (n k : Nat) (L : Nat → Int), w - k < n → k ≤ w → (∀ j : Nat, j < k → qr L p j = qr L 4 j) → ∃ L2, l_X10_parts_195 n p w k L = some L2 ∧ (∀ j : Nat, j < w → qr L2 p j = qr L 4 j) ∧ (∀ j : Nat, w ≤ j → qr L2 p j = qr L p j) ∧ qO p L L2 := by
  intro n
  induction n with
  | zero => intro k L h; omega
  | succ n ih =>
    intro k L hn hk hd
    rw [l_X10_parts_195]
    by_cases h : k = w
    · subst h
      rw [if_neg (by omega)]
      exact ⟨L, rfl, hd, fun _ _ => rfl, qO_refl p L⟩
    · rw [if_pos (by omega), if_pos (by omega), if_pos (by omega), show Int.toNat (70 * (p : Int) + (k : Int)) = 70 * p + k by omega, show Int.toNat (280 + (k : Int)) = 70 * 4 + k by omega]
      have hO := qO_zu (p := p) (j := k) (by omega) L (L (70 * 4 + k))
      have hq2 : ∀ j : Nat, j < 70 → qr (zu L (70 * p + k) (L (70 * 4 + k))) 4 j = qr L 4 j := fun j hj => qO_r hO (fun h => hp4 h.symm) j hj
      obtain ⟨L2, l1, l2, l3, l4⟩ := ih (k + 1) (zu L (70 * p + k) (L (70 * 4 + k))) (by omega) (by omega) (fun j hj => by
        rw [hq2 j (by omega), qr_zu, q_zu]
        by_cases hjk : j = k
        · rw [if_pos hjk, hjk]; rfl
        · rw [if_neg hjk]; exact hd j (by omega))
      exact ⟨L2, l1, fun j hj => by rw [l2 j hj, hq2 j (by omega)], fun j hj => by rw [l3 j hj, qr_zu, q_zu, if_neg (by omega)], qO_trans hO l4⟩
theorem q_parts {p : Nat} (hp : p < 9) (hp3 : p ≠ 3) (hp4 : p ≠ 4) {L W V : Nat → Int} (h : qQ L W V) (hodd : V 3 % 2 = 1) (h3 : 0 < V 3) {X : Int} (hX : V p = V 3 * X) (hX0 : 0 ≤ X) : ∃ L2 W2, f_X10_parts p L W = some (L2, W2) ∧ qQ L2 W2 (zu V p X) := by
  have hP := h p hp hp4
  have hG := h 3 (by omega) (by omega)
  obtain ⟨w, hw, hw2⟩ := qR_w hP
  obtain ⟨u, hu, hu2⟩ := qR_w hG
  obtain ⟨a1, a2, a3⟩ := hP
  obtain ⟨b1, b2, b3⟩ := hG
  rw [hw] at a3
  rw [hu] at b3
  have hg0 : L 210 % 2 = 1 := by
    have := qv_even (qr L 3) 69
    rw [show qv (qr L 3) (69 + 1) = V 3 from b2, hodd] at this
    exact this.symm
  obtain ⟨v, v1, v2⟩ := q_inverse hg0 (p := p) rfl
  have hlt := qS_high a1 a3
  obtain ⟨L1, l1, l2, l3, l5, l4⟩ := l_parts hp hp3 hp4 hu hu2 hw2 b1 (fun j g1 g2 => b3.2.2.1 j (by omega) g2) (v := v) v2 (P := V p) zN 0 L (by have := zN_big; omega) (by omega) a1 (fun _ _ => rfl) (fun j g1 g2 => a3.2.2.1 j (by omega) g2) (fun j hj => by omega) (fun j hj => by omega) ⟨0, by rw [a2, show qv (qr L 4) 0 = 0 from rfl]; omega⟩
  have l1 : l_X10_parts_40 zN p v w 0 L W = some L1 := l1
  obtain ⟨L2, m1, m2, m3, m4⟩ := l_copyback hp hp4 hw2 v zN 0 L1 (by have := zN_big; omega) (by omega) (fun j hj => by omega)
  have m1 : l_X10_parts_195 zN p w 0 L1 = some L2 := m1
  have hd2 : qD 70 (qr L2 p) := fun j hj => by
    by_cases hjw : j < w
    · rw [m2 j hjw]; exact l2 j hjw
    · rw [m3 j (by omega), l5 j hj]; omega
  have hz2 : ∀ j : Nat, w ≤ j → j < 70 → qr L2 p j = 0 := fun j g1 g2 => by rw [m3 j g1]; exact l5 j g2
  have hval : qv (qr L2 p) 70 = X := by
    rw [qv_top 70 hw2 hz2, qv_congr w m2]
    obtain ⟨z, hz⟩ := l3
    rw [b2] at hz
    have e1 : V 3 * (X - qv (qr L1 4) w) = qP w * (- z) := by
      rw [Int.mul_sub, ← hX, Int.mul_neg, Int.mul_comm (qP w)]
      omega
    have e2 : (2 : Int) ^ (30 * w) ∣ V 3 * (X - qv (qr L1 4) w) := ⟨- z, by rw [e1, qP_two]⟩
    obtain ⟨t, ht⟩ := q_odd2 hodd _ _ e2
    rw [← qP_two] at ht
    have hQ0 : 0 ≤ qv (qr L1 4) w := qv_nonneg w (fun j hj => (l2 j hj).1)
    have hQ1 : qv (qr L1 4) w < qP w := qv_lt w l2
    have hX1 : X < qP w := by
      have : 1 * X ≤ V 3 * X := Int.mul_le_mul_of_nonneg_right (by omega) hX0
      omega
    have ht0 : t = 0 := by
      have hp := qP_pos w
      rcases Int.lt_trichotomy t 0 with h1 | h1 | h1
      · have : qP w * t ≤ qP w * (-1) := Int.mul_le_mul_of_nonneg_left (by omega) (Int.le_of_lt hp)
        omega
      · exact h1
      · have : qP w * 1 ≤ qP w * t := Int.mul_le_mul_of_nonneg_left (by omega) (Int.le_of_lt hp)
        omega
    rw [ht0, Int.mul_zero] at ht
    omega
  obtain ⟨W2, w1, w2, w3⟩ := q_trims hp (L := L2) (W := W) hw2 hw hd2 hz2
  rw [hval] at w2
  unfold f_X10_parts
  rw [v1, q_bs, if_pos (by omega), Int.toNat_natCast, hw, l1, q_bs, m1, q_bs, w1, q_bs]
  refine ⟨L2, W2, rfl, fun r g1 g2 => ?_⟩
  rw [q_zu]
  by_cases hr : r = p
  · rw [if_pos hr, hr]; exact w2
  · rw [if_neg hr]
    have hh := h r g1 g2
    unfold qR at hh ⊢
    rw [w3 r hr]
    exact qN_congr hh (fun j hj => by rw [show qr L2 r j = qr L1 r j from qO_r m4 hr j hj, l4 r hr g2 j hj])
