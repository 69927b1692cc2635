/-! ===== names: slips ===== -/
def qln (r : Nat → Int) (c v : Int) (y : Nat → Int) : Nat → Int
  | 0 => c
  | k + 1 => min (r k + if v = y k then 0 else 1) (1 + min (r (k + 1)) (qln r c v y k))
/-- the fewest slips between the first places of two rows -/
def qlv (x y : Nat → Int) : Nat → Nat → Int
  | 0 => fun k => (k : Int)
  | i + 1 => qln (qlv x y i) ((i + 1 : Nat) : Int) (x i) y
theorem qlv_00 (x y : Nat → Int) (k : Nat) : qlv x y 0 k = k := rfl
theorem qlv_10 (x y : Nat → Int) (i : Nat) : qlv x y i 0 = i := by cases i <;> rfl
theorem qlv_11 (x y : Nat → Int) (i k : Nat) : qlv x y (i + 1) (k + 1) = min (qlv x y i k + if x i = y k then 0 else 1) (1 + min (qlv x y i (k + 1)) (qlv x y (i + 1) k)) := rfl
theorem qlv_b (x y : Nat → Int) : ∀ i k : Nat, 0 ≤ qlv x y i k ∧ qlv x y i k ≤ i + k := by
  intro i
  induction i with
  | zero => intro k; rw [qlv_00]; omega
  | succ i ih =>
    intro k
    induction k with
    | zero => rw [qlv_10]; omega
    | succ k ihk =>
      rw [qlv_11]
      have h1 := ih k
      have h2 := ih (k + 1)
      split <;> omega
theorem qlv_sym (x y : Nat → Int) : ∀ i k : Nat, qlv x y i k = qlv y x k i := by
  intro i
  induction i with
  | zero => intro k; rw [qlv_00, qlv_10]
  | succ i ih =>
    intro k
    induction k with
    | zero => rw [qlv_10, qlv_00]
    | succ k ihk =>
      rw [qlv_11, qlv_11, ih k, ih (k + 1), ihk]
      have e : (if x i = y k then (0 : Int) else 1) = if y k = x i then 0 else 1 := by
        by_cases h : x i = y k
        · rw [if_pos h, if_pos h.symm]
        · rw [if_neg h, if_neg (Ne.symm h)]
      rw [e]
      omega
theorem qlv_self (x : Nat → Int) : ∀ i : Nat, qlv x x i i = 0 := by
  intro i
  induction i with
  | zero => rfl
  | succ i ih =>
    have h := qlv_b x x (i + 1) (i + 1)
    rw [qlv_11, if_pos rfl] at h ⊢
    omega
theorem qln_congr {r r2 : Nat → Int} {c v : Int} {y y2 : Nat → Int} : ∀ k : Nat, (∀ j, j ≤ k → r j = r2 j) → (∀ j, j < k → y j = y2 j) → qln r c v y k = qln r2 c v y2 k := by
  intro k
  induction k with
  | zero => intro _ _; rfl
  | succ k ih =>
    intro h1 h2
    rw [qln, qln, ih (fun j hj => h1 j (by omega)) (fun j hj => h2 j (by omega)), h1 k (by omega), h1 (k + 1) (by omega), h2 k (by omega)]
theorem qlv_congr {x x2 y y2 : Nat → Int} : ∀ i k : Nat, (∀ j, j < i → x j = x2 j) → (∀ j, j < k → y j = y2 j) → qlv x y i k = qlv x2 y2 i k := by
  intro i
  induction i with
  | zero => intro k _ _; rfl
  | succ i ih =>
    intro k h1 h2
    rw [qlv, qlv, h1 i (by omega)]
    exact qln_congr k (fun j hj => ih j (fun q hq => h1 q (by omega)) (fun q hq => h2 q (by omega))) h2
/-- the slips between two names that are told -/
def qsl (len dig : Nat → Int) (a b : Nat) : Int := qlv (fun j => dig (6 * a + j)) (fun j => dig (6 * b + j)) (len a).toNat (len b).toNat
theorem qsl_sym (len dig : Nat → Int) (a b : Nat) : qsl len dig a b = qsl len dig b a := qlv_sym _ _ _ _
theorem qsl_self (len dig : Nat → Int) (a : Nat) : qsl len dig a a = 0 := qlv_self _ _
theorem qsl_b {len dig : Nat → Int} (hl : ∀ j, 0 ≤ len j ∧ len j ≤ 6) (a b : Nat) : 0 ≤ qsl len dig a b ∧ qsl len dig a b ≤ 12 := by
  have h := qlv_b (fun j => dig (6 * a + j)) (fun j => dig (6 * b + j)) (len a).toNat (len b).toNat
  have h1 := hl a
  have h2 := hl b
  unfold qsl
  omega
/-! the class -/
theorem l_cmp14 {len : Nat → Int} {b w : Nat} (hb : b < 10) (hw : len b = w) (hw6 : w ≤ 6) (v1 v3 v4 : Int) : ∀ (n k : Nat) (r : Nat → Int), 7 - k < n → k ≤ w + 1 → (∀ j : Nat, j < k → r j = j) → ∃ r2, l_X5_compare_14 n v1 b v3 v4 k len r = some r2 ∧ ∀ j : Nat, j ≤ w → r2 j = j := by
  intro n
  induction n with
  | zero => intro k r h; omega
  | succ n ih =>
    intro k r hn hk hr
    rw [l_X5_compare_14, Int.toNat_natCast, Int.toNat_natCast, hw, if_pos (by omega)]
    by_cases h : k = w + 1
    · rw [if_pos (by omega)]
      exact ⟨r, rfl, fun j hj => hr j (by omega)⟩
    · rw [if_neg (by omega), if_pos (by omega)]
      refine ih (k + 1) _ (by omega) (by omega) (fun j hj => ?_)
      rw [q_zu]
      by_cases hjk : j = k
      · rw [if_pos hjk, hjk]
      · rw [if_neg hjk]; exact hr j (by omega)
theorem l_cmp57 {len : Nat → Int} {b w : Nat} (hb : b < 10) (hw : len b = w) (hw6 : w ≤ 6) (v1 v3 v4 v5 : Int) (row : Nat → Int) : ∀ (n k : Nat) (r : Nat → Int), 7 - k < n → k ≤ w + 1 → (∀ j : Nat, j < k → r j = row j) → ∃ r2, l_X5_compare_57 n v1 b v3 v4 v5 k len r row = some r2 ∧ ∀ j : Nat, j ≤ w → r2 j = row j := by
  intro n
  induction n with
  | zero => intro k r h; omega
  | succ n ih =>
    intro k r hn hk hr
    rw [l_X5_compare_57, Int.toNat_natCast, Int.toNat_natCast, hw, if_pos (by omega)]
    by_cases h : k = w + 1
    · rw [if_pos (by omega)]
      exact ⟨r, rfl, fun j hj => hr j (by omega)⟩
    · rw [if_neg (by omega), if_pos (by omega)]
      refine ih (k + 1) _ (by omega) (by omega) (fun j hj => ?_)
      rw [q_zu]
      by_cases hjk : j = k
      · rw [if_pos hjk, hjk]
      · rw [if_neg hjk]; exact hr j (by omega)
theorem l_cmp99 {len dig : Nat → Int} {a b w i : Nat} (ha : a < 10) (hb : b < 10) (hw : len b = w) (hw6 : w ≤ 6) (hi : i < 6) (v1 : Int) (x : Nat → Int) (hx : x i = dig (6 * a + i)) (ah : Nat → Int) (hah : ∀ j : Nat, j ≤ w → ah j = qlv x (fun j => dig (6 * b + j)) i j) :
    ∀ (n k : Nat) (r : Nat → Int), 7 - k < n → k ≤ w → (∀ j : Nat, j ≤ k → r j = qlv x (fun j => dig (6 * b + j)) (i + 1) j) → ∃ r2, l_X5_compare_99 n v1 b ((a : Int) * 6) ((b : Int) * 6) ((i + 1 : Nat) : Int) ((k + 1 : Nat) : Int) len dig ah r = some r2 ∧ ∀ j : Nat, j ≤ w → r2 j = qlv x (fun j => dig (6 * b + j)) (i + 1) j := by
  intro n
  induction n with
  | zero => intro k r h; omega
  | succ n ih =>
    intro k r hn hk hr
    rw [l_X5_compare_99, Int.toNat_natCast b, hw, if_pos (by omega)]
    by_cases h : k = w
    · rw [if_pos (by omega)]
      exact ⟨r, rfl, fun j hj => hr j (by omega)⟩
    · have e1 : ((a : Int) * 6 + ((i + 1 : Nat) : Int) - 1).toNat = 6 * a + i := by omega
      have e2 : ((b : Int) * 6 + ((k + 1 : Nat) : Int) - 1).toNat = 6 * b + k := by omega
      have e3 : (((k + 1 : Nat) : Int) - 1).toNat = k := by omega
      have b1 := qlv_b x (fun j => dig (6 * b + j)) i (k + 1)
      have b2 := qlv_b x (fun j => dig (6 * b + j)) i k
      have b3 := qlv_b x (fun j => dig (6 * b + j)) (i + 1) k
      have hq := qlv_11 x (fun j => dig (6 * b + j)) i k
      have hnew : ∀ v : Int, v = qlv x (fun j => dig (6 * b + j)) (i + 1) (k + 1) → ∀ j : Nat, j ≤ k + 1 → zu r (k + 1) v j = qlv x (fun j => dig (6 * b + j)) (i + 1) j := fun v hv j hj => by
        rw [q_zu]
        by_cases hjk : j = k + 1
        · rw [if_pos hjk, hjk]; exact hv
        · rw [if_neg hjk]; exact hr j (by omega)
      rw [if_neg (by omega), if_pos (by omega), e1, e2, e3, Int.toNat_natCast, hah (k + 1) (by omega), hah k (by omega), hr k (by omega), ← hx]
      by_cases hd : x i = dig (6 * b + k)
      · rw [if_pos hd] at hq ⊢
        rw [if_pos (by omega), if_pos (by omega), if_pos (by omega)]
        exact ih (k + 1) _ (by omega) (by omega) (hnew _ (by omega))
      · rw [if_neg hd] at hq ⊢
        rw [if_pos (by omega), if_pos (by omega), if_pos (by omega)]
        exact ih (k + 1) _ (by omega) (by omega) (hnew _ (by omega))
theorem l_cmp43 {len dig : Nat → Int} {a b u w : Nat} (ha : a < 10) (hb : b < 10) (hu : len a = u) (hu6 : u ≤ 6) (hw : len b = w) (hw6 : w ≤ 6) : ∀ (n i : Nat) (ah r : Nat → Int), 7 - i < n → i ≤ u → (∀ j : Nat, j ≤ w → r j = qlv (fun j => dig (6 * a + j)) (fun j => dig (6 * b + j)) i j) →
    ∃ ah2 r2, l_X5_compare_43 n a b ((a : Int) * 6) ((b : Int) * 6) ((i + 1 : Nat) : Int) len dig ah r = some (ah2, r2) ∧ ∀ j : Nat, j ≤ w → r2 j = qlv (fun j => dig (6 * a + j)) (fun j => dig (6 * b + j)) u j := by
  intro n
  induction n with
  | zero => intro i ah r h; omega
  | succ n ih =>
    intro i ah r hn hi hr
    rw [l_X5_compare_43, Int.toNat_natCast a, hu, if_pos (by omega)]
    by_cases h : i = u
    · rw [if_pos (by omega)]
      subst h
      exact ⟨ah, r, rfl, hr⟩
    · obtain ⟨ah2, r1, r2⟩ := l_cmp57 (len := len) hb hw hw6 a ((a : Int) * 6) ((b : Int) * 6) ((i + 1 : Nat) : Int) r zN 0 ah (by have := zN_big; omega) (by omega) (fun j hj => by omega)
      have r1 : l_X5_compare_57 zN a b ((a : Int) * 6) ((b : Int) * 6) ((i + 1 : Nat) : Int) 0 len ah r = some ah2 := r1
      obtain ⟨row2, s1, s2⟩ := l_cmp99 (len := len) (dig := dig) (i := i) ha hb hw hw6 (by omega) a (fun j => dig (6 * a + j)) rfl ah2 (fun j hj => by rw [r2 j hj]; exact hr j hj) zN 0 (zu r 0 ((i + 1 : Nat) : Int)) (by have := zN_big; omega) (by omega) (fun j hj => by
        have : j = 0 := by omega
        subst this
        rw [qlv_10]
        rfl)
      have s1 : l_X5_compare_99 zN a b ((a : Int) * 6) ((b : Int) * 6) ((i + 1 : Nat) : Int) 1 len dig ah2 (zu r (Int.toNat 0) ((i + 1 : Nat) : Int)) = some row2 := s1
      rw [if_neg (by omega), r1, q_bs, s1, q_bs, if_pos (by omega)]
      exact ih (i + 1) ah2 row2 (by omega) (by omega) s2
theorem q_compare {len dig : Nat → Int} (hl : ∀ j, 0 ≤ len j ∧ len j ≤ 6) {a b : Nat} (ha : a < 10) (hb : b < 10) (ah r : Nat → Int) : ∃ ah2 r2, f_X5_compare a b len dig ah r = some (qsl len dig a b, ah2, r2) := by
  obtain ⟨u, hu⟩ : ∃ u : Nat, len a = u := ⟨(len a).toNat, by have := hl a; omega⟩
  obtain ⟨w, hw⟩ : ∃ w : Nat, len b = w := ⟨(len b).toNat, by have := hl b; omega⟩
  have h1 := hl a
  have h2 := hl b
  obtain ⟨r1, c1, c2⟩ := l_cmp14 (len := len) hb hw (by omega) a ((a : Int) * 6) ((b : Int) * 6) zN 0 r (by have := zN_big; omega) (by omega) (fun j hj => by omega)
  have c1 : l_X5_compare_14 zN a b ((a : Int) * 6) ((b : Int) * 6) 0 len r = some r1 := c1
  obtain ⟨ah2, r2, d1, d2⟩ := l_cmp43 (dig := dig) ha hb hu (by omega) hw (by omega) zN 0 ah r1 (by have := zN_big; omega) (by omega) (fun j hj => by rw [c2 j hj, qlv_00])
  have d1 : l_X5_compare_43 zN a b ((a : Int) * 6) ((b : Int) * 6) 1 len dig ah r1 = some (ah2, r2) := d1
  unfold f_X5_compare
  rw [if_pos (by omega), c1, q_bs, d1, q_bs, Int.toNat_natCast b, hw, Int.toNat_natCast, if_pos (by omega)]
  refine ⟨ah2, r2, ?_⟩
  dsimp only
  rw [d2 w (Nat.le_refl _)]
  unfold qsl
  rw [hu, hw, Int.toNat_natCast, Int.toNat_natCast]
/-! the reference -/
theorem q_lesser (a b : Int) : f_X10_lesser a b = some (min a b) := by
  unfold f_X10_lesser
  by_cases h : a < b
  · rw [if_pos h, show min a b = a by omega]
  · rw [if_neg h, show min a b = b by omega]
theorem l_so15 {len dig : Nat → Int} {a b w i : Nat} (ha : a < 10) (hb : b < 10) (hw : len b = w) (hw6 : w ≤ 6) (hi : i ≤ 6) (x : Nat → Int) (hx : ∀ j, x j = dig (6 * a + j)) : ∀ (n k : Nat) (t : Nat → Int), 7 - k < n → k ≤ w + 1 →
    (∀ p q : Nat, q ≤ w → p < i ∨ (p = i ∧ q < k) → t (7 * p + q) = qlv x (fun j => dig (6 * b + j)) p q) → ∃ t2, l_X10_slipsOf_15 n a b i k len dig t = some t2 ∧ ∀ p q : Nat, q ≤ w → p ≤ i → t2 (7 * p + q) = qlv x (fun j => dig (6 * b + j)) p q := by
  intro n
  induction n with
  | zero => intro k t h; omega
  | succ n ih =>
    intro k t hn hk ht
    rw [l_X10_slipsOf_15, Int.toNat_natCast b, hw, if_pos (by omega)]
    by_cases h : k = w + 1
    · rw [if_pos (by omega)]
      exact ⟨t, rfl, fun p q hq hp => ht p q hq (by omega)⟩
    · have hnew : ∀ v : Int, v = qlv x (fun j => dig (6 * b + j)) i k → ∀ p q : Nat, q ≤ w → p < i ∨ (p = i ∧ q < k + 1) → zu t (7 * i + k) v (7 * p + q) = qlv x (fun j => dig (6 * b + j)) p q := fun v hv p q hq hp => by
        rw [q_zu]
        by_cases hjk : 7 * p + q = 7 * i + k
        · have h1 : p = i := by omega
          have h2 : q = k := by omega
          rw [if_pos hjk, h1, h2]; exact hv
        · rw [if_neg hjk]; exact ht p q hq (by omega)
      rw [if_neg (by omega), show ((7 : Int) * (i : Int) + (k : Int)).toNat = 7 * i + k by omega]
      by_cases hi0 : i = 0
      · subst hi0
        rw [if_pos (by omega), if_pos (by omega), if_pos (by omega)]
        exact ih (k + 1) _ (by omega) (by omega) (hnew _ (by rw [qlv_00]; omega))
      · rw [if_neg (by omega)]
        by_cases hk0 : k = 0
        · subst hk0
          rw [if_pos (by omega), if_pos (by omega), if_pos (by omega)]
          exact ih (0 + 1) _ (by omega) (by omega) (hnew _ (by rw [qlv_10]; omega))
        · obtain ⟨i, rfl⟩ : ∃ j, i = j + 1 := ⟨i - 1, by omega⟩
          obtain ⟨k, rfl⟩ : ∃ j, k = j + 1 := ⟨k - 1, by omega⟩
          have g0 : ¬ ((k + 1 : Nat) : Int) = 0 := by omega
          have g1 : zin (6 * (a : Int) + ((i + 1 : Nat) : Int) - 1) 60 ∧ zin (6 * (b : Int) + ((k + 1 : Nat) : Int) - 1) 60 := by omega
          have g2 : zin (7 * ((i + 1 : Nat) : Int) + ((k + 1 : Nat) : Int) - 8) 49 ∧ zin (7 * ((i + 1 : Nat) : Int) + ((k + 1 : Nat) : Int) - 7) 49 ∧ zin (7 * ((i + 1 : Nat) : Int) + ((k + 1 : Nat) : Int) - 1) 49 := by omega
          have g3 : zin (7 * ((i + 1 : Nat) : Int) + ((k + 1 : Nat) : Int)) 49 := by omega
          have g4 : zI (((k + 1 : Nat) : Int) + 1) := by omega
          have b1 := qlv_b x (fun j => dig (6 * b + j)) i (k + 1)
          have b2 := qlv_b x (fun j => dig (6 * b + j)) i k
          have b3 := qlv_b x (fun j => dig (6 * b + j)) (i + 1) k
          have hq := qlv_11 x (fun j => dig (6 * b + j)) i k
          have hxi := hx i
          have t1 := ht i (k + 1) (by omega) (by omega)
          have t2 := ht i k (by omega) (by omega)
          have t3 := ht (i + 1) k (by omega) (by omega)
          obtain ⟨A, hA⟩ : ∃ A, A = qlv x (fun j => dig (6 * b + j)) i (k + 1) := ⟨_, rfl⟩
          obtain ⟨B, hB⟩ : ∃ B, B = qlv x (fun j => dig (6 * b + j)) i k := ⟨_, rfl⟩
          obtain ⟨C, hC⟩ : ∃ C, C = qlv x (fun j => dig (6 * b + j)) (i + 1) k := ⟨_, rfl⟩
          rw [← hA] at b1 t1
          rw [← hB] at b2 t2
          rw [← hC] at b3 t3
          rw [← hA, ← hB, ← hC] at hq
          have h7 : 7 - (k + 1 + 1) < n := by clear hq ih; omega
          have h8 : k + 1 + 1 ≤ w + 1 := by clear hq ih; omega
          have g5 : zI (1 + min A C) ∧ zI (B + 0) := by clear hq ih; omega
          have g6 : zI (1 + min A C) ∧ zI (B + 1) := by clear hq ih; omega
          have e1 : ((6 : Int) * (a : Int) + ((i + 1 : Nat) : Int) - 1).toNat = 6 * a + i := by omega
          have e2 : ((6 : Int) * (b : Int) + ((k + 1 : Nat) : Int) - 1).toNat = 6 * b + k := by omega
          have e3 : ((7 : Int) * ((i + 1 : Nat) : Int) + ((k + 1 : Nat) : Int) - 8).toNat = 7 * i + k := by omega
          have e4 : ((7 : Int) * ((i + 1 : Nat) : Int) + ((k + 1 : Nat) : Int) - 7).toNat = 7 * i + (k + 1) := by omega
          have e5 : ((7 : Int) * ((i + 1 : Nat) : Int) + ((k + 1 : Nat) : Int) - 1).toNat = 7 * (i + 1) + k := by omega
          rw [if_neg g0, if_pos g1, if_pos g2, if_pos g2, e1, e2, e3, e4, e5, t1, t2, t3, ← hxi, q_lesser]
          by_cases hd : x i = dig (6 * b + k)
          · rw [if_pos hd] at hq
            rw [if_pos hd, q_bs, if_pos g5, q_lesser, q_bs, if_pos g3, if_pos g4]
            exact ih (k + 1 + 1) _ h7 h8 (hnew _ hq.symm)
          · rw [if_neg hd] at hq
            rw [if_neg hd, q_bs, if_pos g6, q_lesser, q_bs, if_pos g3, if_pos g4]
            exact ih (k + 1 + 1) _ h7 h8 (hnew _ hq.symm)
theorem l_so2 {len dig : Nat → Int} {a b u w : Nat} (ha : a < 10) (hb : b < 10) (hu : len a = u) (hu6 : u ≤ 6) (hw : len b = w) (hw6 : w ≤ 6) : ∀ (n i : Nat) (t : Nat → Int), 7 - i < n → i ≤ u + 1 → (∀ p q : Nat, q ≤ w → p < i → t (7 * p + q) = qlv (fun j => dig (6 * a + j)) (fun j => dig (6 * b + j)) p q) →
    ∃ t2, l_X10_slipsOf_2 n a b i len dig t = some t2 ∧ ∀ p q : Nat, q ≤ w → p ≤ u → t2 (7 * p + q) = qlv (fun j => dig (6 * a + j)) (fun j => dig (6 * b + j)) p q := by
  intro n
  induction n with
  | zero => intro i t h; omega
  | succ n ih =>
    intro i t hn hi ht
    rw [l_X10_slipsOf_2, Int.toNat_natCast a, hu, if_pos (by omega)]
    by_cases h : i = u + 1
    · rw [if_pos (by omega)]
      exact ⟨t, rfl, fun p q hq hp => ht p q hq (by omega)⟩
    · obtain ⟨t2, r1, r2⟩ := l_so15 (i := i) ha hb hw hw6 (by omega) (fun j => dig (6 * a + j)) (fun j => rfl) zN 0 t (by have := zN_big; omega) (by omega) (fun p q hq hp => ht p q hq (by omega))
      have r1 : l_X10_slipsOf_15 zN a b i 0 len dig t = some t2 := r1
      rw [if_neg (by omega), r1, q_bs, if_pos (by omega)]
      exact ih (i + 1) t2 (by omega) (by omega) (fun p q hq hp => r2 p q hq (by omega))
theorem q_slipsOf {len dig : Nat → Int} (hl : ∀ j, 0 ≤ len j ∧ len j ≤ 6) {a b : Nat} (ha : a < 10) (hb : b < 10) (t : Nat → Int) : ∃ t2, f_X10_slipsOf a b len dig t = some (qsl len dig a b, t2) := by
  obtain ⟨u, hu⟩ : ∃ u : Nat, len a = u := ⟨(len a).toNat, by have := hl a; omega⟩
  obtain ⟨w, hw⟩ : ∃ w : Nat, len b = w := ⟨(len b).toNat, by have := hl b; omega⟩
  have h1 := hl a
  have h2 := hl b
  obtain ⟨t2, c1, c2⟩ := l_so2 (dig := dig) ha hb hu (by omega) hw (by omega) zN 0 t (by have := zN_big; omega) (by omega) (fun p q hq hp => by omega)
  have c1 : l_X10_slipsOf_2 zN a b 0 len dig t = some t2 := c1
  have e : ((7 : Int) * (u : Int) + (w : Int)).toNat = 7 * u + w := by omega
  unfold f_X10_slipsOf
  rw [c1, q_bs, Int.toNat_natCast a, Int.toNat_natCast b, hu, hw, if_pos (by omega), e, c2 u w (Nat.le_refl _) (Nat.le_refl _)]
  refine ⟨t2, ?_⟩
  unfold qsl
  rw [hu, hw, Int.toNat_natCast, Int.toNat_natCast]
