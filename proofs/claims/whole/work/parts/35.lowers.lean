/-! ===== registers: lowers (greatest common measure, by halves) ===== -/
theorem q_cop2 {y : Nat} (hy : y % 2 = 1) : Nat.Coprime 2 y := by
  show Nat.gcd 2 y = 1
  rw [Nat.gcd_rec, hy]
  rfl
theorem q_ghalf {x y : Nat} (hy : y % 2 = 1) (hx : x % 2 = 0) : Nat.gcd (x / 2) y = Nat.gcd x y := by
  obtain ⟨z, rfl⟩ : ∃ z, x = 2 * z := ⟨x / 2, by omega⟩
  rw [show 2 * z / 2 = z by omega]
  refine Nat.dvd_antisymm (Nat.dvd_gcd (Nat.dvd_trans (Nat.gcd_dvd_left _ _) (Nat.dvd_mul_left z 2)) (Nat.gcd_dvd_right _ _)) (Nat.dvd_gcd ?_ (Nat.gcd_dvd_right _ _))
  have h : Nat.Coprime (Nat.gcd (2 * z) y) 2 := by
    have h1 := q_cop2 hy
    exact (Nat.Coprime.coprime_dvd_right (Nat.gcd_dvd_right (2 * z) y) h1).symm
  exact h.dvd_of_dvd_mul_left (Nat.gcd_dvd_left _ _)
theorem qQ_isEven {p : Nat} (hp : p < 9) (hp4 : p ≠ 4) {L W V : Nat → Int} (h : qQ L W V) : f_X10_isEven p L = some (if V p % 2 = 0 then 1 else 0) := q_isEven hp (h p hp hp4)
theorem qQ_halves {p : Nat} (hp : p < 9) (hp4 : p ≠ 4) {L W V : Nat → Int} (h : qQ L W V) (he : V p % 2 = 0) : ∃ L2 W2, f_X10_halves p L W = some (L2, W2) ∧ qQ L2 W2 (zu V p (V p / 2)) := by
  obtain ⟨L2, W2, h1, h2, h3⟩ := q_halves hp (h p hp hp4) he
  exact ⟨L2, W2, h1, qQ_upd h h3 h2⟩
theorem qQ_lessens {p q : Nat} (hp : p < 9) (hq : q < 9) (hpq : p ≠ q) (hp4 : p ≠ 4) (hq4 : q ≠ 4) {L W V : Nat → Int} (h : qQ L W V) (h1 : V q ≤ V p) : ∃ L2 W2, f_X10_lessens p q L W = some (L2, W2) ∧ qQ L2 W2 (zu V p (V p - V q)) := by
  obtain ⟨L2, W2, g1, g2, g3⟩ := q_lessens hp hq hpq (h p hp hp4) (h q hq hq4) h1
  exact ⟨L2, W2, g1, qQ_upd h g3 g2⟩
theorem qQ_w0 {p : Nat} (hp : p < 9) (hp4 : p ≠ 4) {L W V : Nat → Int} (h : qQ L W V) : W p = 0 ↔ V p = 0 := by
  have hP := h p hp hp4
  obtain ⟨w, hw, hw2⟩ := qR_w hP
  obtain ⟨a1, a2, a3⟩ := hP
  rw [hw] at a3
  have c1 := qS_high a1 a3
  constructor
  · intro h0
    have : w = 0 := by omega
    subst this
    have c2 := qv_nonneg (f := qr L p) 70 (fun j hj => (a1 j hj).1)
    have : qP 0 = 1 := rfl
    omega
  · intro h0
    rcases Nat.eq_zero_or_pos w with h1 | h1
    · omega
    · have c3 := qS_lowK a1 a3 h1
      have := qP_pos (w - 1)
      omega
theorem qQ_nonneg {p : Nat} (hp : p < 9) (hp4 : p ≠ 4) {L W V : Nat → Int} (h : qQ L W V) : 0 ≤ V p ∧ 0 ≤ W p := by
  have hP := h p hp hp4
  obtain ⟨w, hw, hw2⟩ := qR_w hP
  rw [← hP.2.1]
  exact ⟨qv_nonneg 70 (fun j hj => (hP.1 j hj).1), by omega⟩
/-- both even: halves of both -/
theorem l_both : ∀ (K n : Nat) (x y : Nat) (L W V : Nat → Int), K < n → x < 2 ^ K → 0 < x → 0 < y → qQ L W V → V 0 = x → V 1 = y →
    ∃ L2 W2 V2, ∃ x2 y2 : Nat, l_X10_lowers_16 n L W = some (L2, W2) ∧ qQ L2 W2 V2 ∧ V2 0 = x2 ∧ V2 1 = y2 ∧ 0 < x2 ∧ 0 < y2 ∧ x2 ≤ x ∧ y2 ≤ y ∧ x2 * y = x * y2 ∧ (x2 % 2 = 1 ∨ y2 % 2 = 1) := by
  intro K
  induction K with
  | zero =>
    intro n x y L W V h1 h2 h3
    have : (2 : Nat) ^ 0 = 1 := rfl
    omega
  | succ K ih =>
    intro n x y L W V hn hx hx0 hy0 hV h0 h1
    obtain ⟨n, rfl⟩ : ∃ m, n = m + 1 := ⟨n - 1, by omega⟩
    have e0 : f_X10_isEven 0 L = _ := qQ_isEven (p := 0) (by omega) (by omega) hV
    have e1 : f_X10_isEven 1 L = _ := qQ_isEven (p := 1) (by omega) (by omega) hV
    rw [l_X10_lowers_16, e0, q_bs, h0]
    by_cases hx2 : x % 2 = 0
    · rw [if_pos (show (x : Int) % 2 = 0 by omega), if_neg (by omega), e1, q_bs, h1]
      by_cases hy2 : y % 2 = 0
      · rw [if_pos (show (y : Int) % 2 = 0 by omega), if_neg (by omega)]
        obtain ⟨L1, W1, a1, a2⟩ := qQ_halves (p := 0) (by omega) (by omega) hV (by rw [h0]; omega)
        have a1 : f_X10_halves 0 L W = _ := a1
        obtain ⟨L2, W2, b1, b2⟩ := qQ_halves (p := 1) (by omega) (by omega) a2 (by rw [q_zu, if_neg (by omega), h1]; omega)
        have b1 : f_X10_halves 1 L1 W1 = _ := b1
        rw [a1, q_bs]
        dsimp only
        rw [b1, q_bs]
        dsimp only
        have e : (2 : Nat) ^ (K + 1) = 2 ^ K * 2 := rfl
        obtain ⟨L3, W3, V3, x3, y3, c1, c2, c3, c4, c5, c6, c7, c8, c9, c10⟩ := ih n (x / 2) (y / 2) L2 W2 _ (by omega) (by omega) (by omega) (by omega) b2 (by rw [q_zu, if_neg (by omega), q_zu, if_pos rfl, h0]; omega) (by rw [q_zu, if_pos rfl, q_zu, if_neg (by omega), h1]; omega)
        refine ⟨L3, W3, V3, x3, y3, c1, c2, c3, c4, c5, c6, by omega, by omega, ?_, c10⟩
        obtain ⟨a, rfl⟩ : ∃ a, x = 2 * a := ⟨x / 2, by omega⟩
        obtain ⟨b, rfl⟩ : ∃ b, y = 2 * b := ⟨y / 2, by omega⟩
        rw [show 2 * a / 2 = a by omega, show 2 * b / 2 = b by omega] at c9
        rw [Nat.mul_left_comm, c9, Nat.mul_assoc]
      · rw [if_neg (show ¬ (y : Int) % 2 = 0 by omega), if_pos rfl]
        exact ⟨L, W, V, x, y, rfl, hV, h0, h1, hx0, hy0, Nat.le_refl _, Nat.le_refl _, rfl, Or.inr (by omega)⟩
    · rw [if_neg (show ¬ (x : Int) % 2 = 0 by omega), if_pos rfl]
      exact ⟨L, W, V, x, y, rfl, hV, h0, h1, hx0, hy0, Nat.le_refl _, Nat.le_refl _, rfl, Or.inl (by omega)⟩
theorem l_odd2 : ∀ (K n : Nat) (x y : Nat) (L W V : Nat → Int), K < n → x < 2 ^ K → 0 < x → (x % 2 = 1 ∨ y % 2 = 1) → qQ L W V → V 2 = x →
    ∃ L2 W2 V2, ∃ x2 : Nat, l_X10_lowers_66 n L W = some (L2, W2) ∧ qQ L2 W2 V2 ∧ V2 2 = x2 ∧ 0 < x2 ∧ x2 ≤ x ∧ (x % 2 = 0 → 2 * x2 ≤ x) ∧ x2 % 2 = 1 ∧ Nat.gcd x2 y = Nat.gcd x y ∧ ∀ r, r ≠ 2 → V2 r = V r := by
  intro K
  induction K with
  | zero =>
    intro n x y L W V h1 h2 h3
    have : (2 : Nat) ^ 0 = 1 := rfl
    omega
  | succ K ih =>
    intro n x y L W V hn hx hx0 hxy hV h0
    obtain ⟨n, rfl⟩ : ∃ m, n = m + 1 := ⟨n - 1, by omega⟩
    have e0 : f_X10_isEven 2 L = _ := qQ_isEven (p := 2) (by omega) (by omega) hV
    rw [l_X10_lowers_66, e0, q_bs, h0]
    by_cases hx2 : x % 2 = 0
    · rw [if_pos (show (x : Int) % 2 = 0 by omega), if_neg (by omega)]
      obtain ⟨L1, W1, a1, a2⟩ := qQ_halves (p := 2) (by omega) (by omega) hV (by rw [h0]; omega)
      have a1 : f_X10_halves 2 L W = _ := a1
      rw [a1, q_bs]
      dsimp only
      have e : (2 : Nat) ^ (K + 1) = 2 ^ K * 2 := rfl
      obtain ⟨L3, W3, V3, x3, c1, c2, c3, c4, c5, c6, c7, c8, c9⟩ := ih n (x / 2) y L1 W1 _ (by omega) (by omega) (by omega) (Or.inr (by omega)) a2 (by rw [q_zu, if_pos rfl, h0]; omega)
      exact ⟨L3, W3, V3, x3, c1, c2, c3, c4, by omega, by omega, c7, by rw [c8]; exact q_ghalf (by omega) hx2, fun r hr => by rw [c9 r hr, q_zu, if_neg hr]⟩
    · rw [if_neg (show ¬ (x : Int) % 2 = 0 by omega), if_pos rfl]
      exact ⟨L, W, V, x, rfl, hV, h0, hx0, Nat.le_refl _, fun h => absurd h hx2, by omega, rfl, fun _ _ => rfl⟩
theorem l_odd3 : ∀ (K n : Nat) (x y : Nat) (L W V : Nat → Int), K < n → y < 2 ^ K → 0 < y → x % 2 = 1 → qQ L W V → V 3 = y →
    ∃ L2 W2 V2, ∃ y2 : Nat, l_X10_lowers_82 n L W = some (L2, W2) ∧ qQ L2 W2 V2 ∧ V2 3 = y2 ∧ 0 < y2 ∧ y2 ≤ y ∧ (y % 2 = 0 → 2 * y2 ≤ y) ∧ y2 % 2 = 1 ∧ Nat.gcd x y2 = Nat.gcd x y ∧ ∀ r, r ≠ 3 → V2 r = V r := by
  intro K
  induction K with
  | zero =>
    intro n x y L W V h1 h2 h3
    have : (2 : Nat) ^ 0 = 1 := rfl
    omega
  | succ K ih =>
    intro n x y L W V hn hx hx0 hxy hV h0
    obtain ⟨n, rfl⟩ : ∃ m, n = m + 1 := ⟨n - 1, by omega⟩
    have e0 : f_X10_isEven 3 L = _ := qQ_isEven (p := 3) (by omega) (by omega) hV
    rw [l_X10_lowers_82, e0, q_bs, h0]
    by_cases hx2 : y % 2 = 0
    · rw [if_pos (show (y : Int) % 2 = 0 by omega), if_neg (by omega)]
      obtain ⟨L1, W1, a1, a2⟩ := qQ_halves (p := 3) (by omega) (by omega) hV (by rw [h0]; omega)
      have a1 : f_X10_halves 3 L W = _ := a1
      rw [a1, q_bs]
      dsimp only
      have e : (2 : Nat) ^ (K + 1) = 2 ^ K * 2 := rfl
      obtain ⟨L3, W3, V3, x3, c1, c2, c3, c4, c5, c6, c7, c8, c9⟩ := ih n x (y / 2) L1 W1 _ (by omega) (by omega) (by omega) hxy a2 (by rw [q_zu, if_pos rfl, h0]; omega)
      exact ⟨L3, W3, V3, x3, c1, c2, c3, c4, by omega, by omega, c7, by rw [c8, Nat.gcd_comm, Nat.gcd_comm x]; exact q_ghalf hxy hx2, fun r hr => by rw [c9 r hr, q_zu, if_neg hr]⟩
    · rw [if_neg (show ¬ (y : Int) % 2 = 0 by omega), if_pos rfl]
      exact ⟨L, W, V, y, rfl, hV, h0, hx0, Nat.le_refl _, fun h => absurd h hx2, by omega, rfl, fun _ _ => rfl⟩
theorem q_gsub {x y : Nat} (h : x ≤ y) : Nat.gcd x (y - x) = Nat.gcd x y := by
  obtain ⟨z, rfl⟩ := Nat.exists_eq_add_of_le h
  rw [show x + z - x = z by omega, Nat.add_comm, Nat.gcd_add_self_right]
theorem q_prod {x y x2 y2 M : Nat} (h1 : x2 ≤ x) (h2 : y2 ≤ y) (h : x * y < M) : x2 * y2 < M := Nat.lt_of_le_of_lt (Nat.mul_le_mul h1 h2) h
theorem l_bin : ∀ (n K : Nat) (x y : Nat) (L W V : Nat → Int), K + (if x % 2 = 1 ∧ y % 2 = 1 then 1 else 0) < n → x * y < 2 ^ K → x < 2 ^ 9999 → y < 2 ^ 9999 → 0 < y → (x % 2 = 1 ∨ y % 2 = 1) → qQ L W V → V 2 = x → V 3 = y →
    ∃ L2 W2 V2, l_X10_lowers_57 n L W = some (L2, W2) ∧ qQ L2 W2 V2 ∧ V2 3 = (Nat.gcd x y : Nat) ∧ Nat.gcd x y % 2 = 1 ∧ ∀ r, r ≠ 2 → r ≠ 3 → V2 r = V r := by
  intro n
  induction n with
  | zero => intro K x y L W V h; omega
  | succ n ih =>
    intro K x y L W V hn hxy hx9 hy9 hy0 hodd hV h2 h3
    rw [l_X10_lowers_57]
    have hw := qQ_w0 (p := 2) (by omega) (by omega) hV
    have hw0 := (qQ_nonneg (p := 2) (by omega) (by omega) hV).2
    rw [show Int.toNat 2 = 2 from rfl, show Int.toNat 3 = 3 from rfl]
    by_cases hx : x = 0
    · subst hx
      rw [if_neg (by omega)]
      refine ⟨L, W, V, rfl, hV, ?_, ?_, fun _ _ _ => rfl⟩
      · rw [h3, Nat.gcd_zero_left]
      · rw [Nat.gcd_zero_left]; omega
    · rw [if_pos (by omega)]
      obtain ⟨L1, W1, V1, x1, a1, a2, a3, a4, a5, a6, a7, a8, a9⟩ := l_odd2 9999 zN x y L W V (by have := zN_big; omega) hx9 (by omega) hodd hV h2
      obtain ⟨L2, W2, V2, y1, b1, b2, b3, b4, b5, b6, b7, b8, b9⟩ := l_odd3 9999 zN x1 y L1 W1 V1 (by have := zN_big; omega) hy9 hy0 a7 a2 (by rw [a9 3 (by omega), h3])
      have c2 : V2 2 = x1 := by rw [b9 2 (by omega), a3]
      rw [a1, q_bs]
      dsimp only
      rw [b1, q_bs]
      dsimp only
      have hag : f_X10_against 2 3 L2 W2 = some (qcmp (V2 2) (V2 3)) := q_against (p := 2) (q := 3) (by omega) (by omega) (b2 2 (by omega) (by omega)) (b2 3 (by omega) (by omega))
      rw [hag, q_bs, c2, b3]
      -- the new measure
      obtain ⟨K2, hK2, hK3, hK4⟩ : ∃ K2, K2 < n ∧ x1 * y1 < 2 ^ K2 ∧ True := by
        by_cases hb : x % 2 = 1 ∧ y % 2 = 1
        · rw [if_pos hb] at hn
          exact ⟨K, by omega, q_prod a5 b5 hxy, trivial⟩
        · rw [if_neg hb] at hn
          have hK : K ≠ 0 := by
            intro h
            subst h
            have : 1 * 1 ≤ x * y := Nat.mul_le_mul (by omega) hy0
            have : (2 : Nat) ^ 0 = 1 := rfl
            omega
          obtain ⟨K, rfl⟩ : ∃ m, K = m + 1 := ⟨K - 1, by omega⟩
          refine ⟨K, by omega, ?_, trivial⟩
          have e : (2 : Nat) ^ (K + 1) = 2 ^ K * 2 := rfl
          by_cases he : x % 2 = 0
          · have g1 := Nat.mul_le_mul (a6 he) b5
            rw [Nat.mul_assoc] at g1
            omega
          · have g1 := Nat.mul_le_mul a5 (b6 (by omega))
            rw [Nat.mul_left_comm] at g1
            omega
      by_cases hc : x1 < y1
      · rw [show qcmp (x1 : Int) (y1 : Int) = -1 by unfold qcmp; rw [if_pos (by omega)], if_pos (by omega), if_pos (by omega)]
        obtain ⟨L3, W3, d1, d2⟩ := qQ_lessens (p := 3) (q := 2) (by omega) (by omega) (by omega) (by omega) (by omega) b2 (by omega)
        have d1 : f_X10_lessens 3 (5 - 3) L2 W2 = some (L3, W3) := d1
        have hv3 : zu V2 3 (V2 3 - V2 2) 3 = ((y1 - x1 : Nat) : Int) := by rw [q_zu, if_pos rfl, b3, c2]; omega
        have hw3 := qQ_w0 (p := 3) (by omega) (by omega) d2
        rw [d1, q_bs]
        dsimp only
        rw [if_neg (by omega)]
        obtain ⟨L4, W4, V4, f1, f2, f3, f4, f5⟩ := ih K2 x1 (y1 - x1) L3 W3 _ (by rw [if_neg (by omega)]; omega) (q_prod (Nat.le_refl _) (Nat.sub_le _ _) hK3) (by omega) (by omega) (by omega) (Or.inl a7) d2 (by rw [q_zu, if_neg (by omega), c2]) hv3
        have hg : Nat.gcd x1 (y1 - x1) = Nat.gcd x y := by rw [q_gsub (by omega), b8, a8]
        rw [hg] at f3 f4
        exact ⟨L4, W4, V4, f1, f2, f3, f4, fun r r2 r3 => by rw [f5 r r2 r3, q_zu, if_neg r3, b9 r r3, a9 r r2]⟩
      · rw [if_neg (by unfold qcmp; rw [if_neg (by omega)]; split <;> omega), if_pos (by omega)]
        obtain ⟨L3, W3, d1, d2⟩ := qQ_lessens (p := 2) (q := 3) (by omega) (by omega) (by omega) (by omega) (by omega) b2 (by omega)
        have d1 : f_X10_lessens 2 (5 - 2) L2 W2 = some (L3, W3) := d1
        have hv2 : zu V2 2 (V2 2 - V2 3) 2 = ((x1 - y1 : Nat) : Int) := by rw [q_zu, if_pos rfl, b3, c2]; omega
        have hv3 : zu V2 2 (V2 2 - V2 3) 3 = (y1 : Int) := by rw [q_zu, if_neg (by omega), b3]
        have hw3 := qQ_w0 (p := 3) (by omega) (by omega) d2
        rw [d1, q_bs]
        dsimp only
        rw [if_neg (by omega)]
        obtain ⟨L4, W4, V4, f1, f2, f3, f4, f5⟩ := ih K2 (x1 - y1) y1 L3 W3 _ (by rw [if_neg (by omega)]; omega) (q_prod (Nat.sub_le _ _) (Nat.le_refl _) hK3) (by omega) (by omega) b4 (Or.inr b7) d2 hv2 hv3
        have hg : Nat.gcd (x1 - y1) y1 = Nat.gcd x y := by rw [Nat.gcd_comm, q_gsub (by omega), Nat.gcd_comm, b8, a8]
        rw [hg] at f3 f4
        exact ⟨L4, W4, V4, f1, f2, f3, f4, fun r r2 r3 => by rw [f5 r r2 r3, q_zu, if_neg r2, b9 r r3, a9 r r2]⟩
theorem zN_big2 : 30000 < zN := by decide
theorem q_lowers {L W V : Nat → Int} (hV : qQ L W V) (h1 : 0 < V 1) (hb0 : V 0 < qP 31) (hb1 : V 1 < qP 31) :
    ∃ L2 W2 V2, f_X10_lowers L W = some (L2, W2) ∧ qQ L2 W2 V2 ∧ qLow (V 0) (V 1) (V2 0) (V2 1) := by
  unfold f_X10_lowers
  rw [show Int.toNat 0 = 0 from rfl]
  have hw := qQ_w0 (p := 0) (by omega) (by omega) hV
  have h0 := (qQ_nonneg (p := 0) (by omega) (by omega) hV).1
  by_cases hz : V 0 = 0
  · obtain ⟨L1, W1, s1, s2⟩ := qQ_sets (p := 1) (by omega) (v := 1) (by omega) (by omega) hV
    have s1 : f_X10_sets 1 1 L W = some (L1, W1) := s1
    rw [if_pos (hw.2 hz), s1, q_bs]
    refine ⟨L1, W1, _, rfl, s2, ?_⟩
    rw [q_zu, if_neg (by omega), q_zu, if_pos rfl, hz]
    exact ⟨by rw [Int.zero_mul, Int.zero_mul], by omega, by omega, by decide⟩
  · rw [if_neg (fun h => hz (hw.1 h))]
    obtain ⟨x, hx⟩ : ∃ x : Nat, V 0 = x := ⟨(V 0).toNat, by omega⟩
    obtain ⟨y, hy⟩ : ∃ y : Nat, V 1 = y := ⟨(V 1).toNat, by omega⟩
    have e1 : qP 31 < ((2 ^ 9999 : Nat) : Int) := by decide +kernel
    have hx9 : x < 2 ^ 9999 := Int.ofNat_lt.1 (by rw [← hx]; exact Int.lt_trans hb0 e1)
    have hy9 : y < 2 ^ 9999 := Int.ofNat_lt.1 (by rw [← hy]; exact Int.lt_trans hb1 e1)
    obtain ⟨L1, W1, V1, x1, y1, a1, a2, a3, a4, a5, a6, a7, a8, a9, a10⟩ := l_both 9999 zN x y L W V (by have := zN_big; omega) hx9 (by omega) (by omega) hV hx hy
    obtain ⟨L2, W2, b1, b2⟩ := qQ_takes (p := 2) (q := 0) (by omega) (by omega) (by omega) (by omega) a2
    have b1 : f_X10_takes 2 0 L1 W1 = some (L2, W2) := b1
    obtain ⟨L3, W3, c1, c2⟩ := qQ_takes (p := 3) (q := 1) (by omega) (by omega) (by omega) (by omega) b2
    have c1 : f_X10_takes 3 1 L2 W2 = some (L3, W3) := c1
    have hx1 : x1 < 2 ^ 9999 := Nat.lt_of_le_of_lt a7 hx9
    have hy1 : y1 < 2 ^ 9999 := Nat.lt_of_le_of_lt a8 hy9
    obtain ⟨L4, W4, V4, d1, d2, d3, d4, d5⟩ := l_bin zN (9999 + 9999) x1 y1 L3 W3 _ (by have := zN_big2; split <;> omega) (by rw [Nat.pow_add]; exact Nat.mul_lt_mul'' hx1 hy1) hx1 hy1 a6 a10 c2 (by rw [q_zu, if_neg (by omega), q_zu, if_pos rfl, a3]) (by rw [q_zu, if_pos rfl, q_zu, if_neg (by omega), a4])
    have v0 : V4 0 = x1 := by rw [d5 0 (by omega) (by omega), q_zu, if_neg (by omega), q_zu, if_neg (by omega), a3]
    have v1 : V4 1 = y1 := by rw [d5 1 (by omega) (by omega), q_zu, if_neg (by omega), q_zu, if_neg (by omega), a4]
    have hl := qLow_gcd (a := x1) (b := y1) a6
    have hg0 : 0 < Nat.gcd x1 y1 := Nat.gcd_pos_of_pos_right x1 a6
    have hgx := Nat.gcd_dvd_left x1 y1
    have hgy := Nat.gcd_dvd_right x1 y1
    generalize Nat.gcd x1 y1 = g at *
    obtain ⟨a, ha⟩ := hgx
    obtain ⟨b, hb⟩ := hgy
    have ex : (x1 : Int) / (g : Int) = a := by rw [← Int.natCast_ediv, ha, Nat.mul_div_cancel_left _ hg0]
    have ey : (y1 : Int) / (g : Int) = b := by rw [← Int.natCast_ediv, hb, Nat.mul_div_cancel_left _ hg0]
    rw [ex, ey] at hl
    obtain ⟨L5, W5, f1, f2⟩ := q_parts (p := 0) (by omega) (by omega) (by omega) d2 (by rw [d3]; omega) (by rw [d3]; omega) (X := (a : Int)) (by rw [v0, d3, ha, Int.natCast_mul]) (by omega)
    have f1 : f_X10_parts 0 L4 W4 = some (L5, W5) := f1
    obtain ⟨L6, W6, g1, g2⟩ := q_parts (p := 1) (by omega) (by omega) (by omega) f2 (by rw [q_zu, if_neg (by omega), d3]; omega) (by rw [q_zu, if_neg (by omega), d3]; omega) (X := (b : Int)) (by rw [q_zu, if_neg (by omega), q_zu, if_neg (by omega), v1, d3, hb, Int.natCast_mul]) (by omega)
    have g1 : f_X10_parts 1 L5 W5 = some (L6, W6) := g1
    rw [a1, q_bs]
    dsimp only
    rw [b1, q_bs]
    dsimp only
    rw [c1, q_bs]
    dsimp only
    rw [d1, q_bs]
    dsimp only
    rw [f1, q_bs]
    dsimp only
    rw [g1, q_bs]
    refine ⟨L6, W6, _, rfl, g2, ?_⟩
    rw [q_zu, if_neg (by omega), q_zu, if_pos rfl, q_zu, if_pos rfl]
    refine ⟨?_, hl.2.1, hl.2.2.1, hl.2.2.2⟩
    refine q_ratio (A := (x1 : Int)) (B := (y1 : Int)) (by omega) hl.1 ?_
    rw [hx, hy, ← Int.natCast_mul, ← Int.natCast_mul, a9]
theorem q_goneR {w : Nat → Int} (hw : ∀ j, 0 ≤ w j ∧ w j ≤ 100) (h1 : 1 ≤ qsum w 10) {N : Nat} (hN : N ≤ 3) {L W V : Nat → Int} (hV : qQ L W V) :
    ∃ L2 W2 V2, f_X10_gone N L W w = some (1, L2, W2) ∧ qQ L2 W2 V2 ∧ qLow (qab w N) (qbo w N) (V2 0) (V2 1) := by
  obtain ⟨L1, W1, a1, a2⟩ := qQ_sets (p := 5) (by omega) (v := 0) (by omega) (by omega) hV
  have a1 : f_X10_sets 5 0 L W = some (L1, W1) := a1
  obtain ⟨L2, W2, b1, b2⟩ := qQ_sets (p := 6) (by omega) (v := 1) (by omega) (by omega) a2
  have b1 : f_X10_sets 6 1 L1 W1 = some (L2, W2) := b1
  obtain ⟨L3, W3, V3, c1, c2, c3, c4⟩ := l_goneR hw h1 hN zN 0 L2 W2 _ (by have := zN_big; omega) (by omega) b2 (by rw [q_zu, if_neg (by omega), q_zu, if_pos rfl]; rfl) (by rw [q_zu, if_pos rfl]; rfl)
  have c1 : l_X10_gone_40 zN N 0 L2 W2 w = some (L3, W3) := c1
  obtain ⟨L4, W4, d1, d2⟩ := qQ_takes (p := 0) (q := 5) (by omega) (by omega) (by omega) (by omega) c2
  have d1 : f_X10_takes 0 5 L3 W3 = some (L4, W4) := d1
  obtain ⟨L5, W5, e1, e2⟩ := qQ_takes (p := 1) (q := 6) (by omega) (by omega) (by omega) (by omega) d2
  have e1 : f_X10_takes 1 6 L4 W4 = some (L5, W5) := e1
  obtain ⟨g1, g2, g3, g4⟩ := qAB hw h1 N
  have hE : qE N ≤ 91 := by
    have : N = 0 ∨ N = 1 ∨ N = 2 ∨ N = 3 := by omega
    rcases this with h | h | h | h <;> subst h <;> decide
  have hB : qbo w N < qP 31 := Int.lt_of_le_of_lt (Int.le_trans g4 (q_pow_le (by omega) hE)) (by decide +kernel)
  have v0 : zu (zu V3 0 (V3 5)) 1 (zu V3 0 (V3 5) 6) 0 = qab w N := by rw [q_zu, if_neg (by omega), q_zu, if_pos rfl, c3]
  have v1 : zu (zu V3 0 (V3 5)) 1 (zu V3 0 (V3 5) 6) 1 = qbo w N := by rw [q_zu, if_pos rfl, q_zu, if_neg (by omega), c4]
  obtain ⟨L6, W6, V6, f1, f2, f3⟩ := q_lowers e2 (by rw [v1]; omega) (by rw [v0]; omega) (by rw [v1]; omega)
  rw [v0, v1] at f3
  unfold f_X10_gone
  rw [q_in, q_bs]
  rw [if_neg (by rw [if_pos (by omega)]; omega), (q_weights w hw).2, q_bs, if_neg (by omega), a1, q_bs]
  dsimp only
  rw [b1, q_bs]
  dsimp only
  rw [c1, q_bs]
  dsimp only
  rw [d1, q_bs]
  dsimp only
  rw [e1, q_bs]
  dsimp only
  rw [f1, q_bs]
  exact ⟨L6, W6, V6, rfl, f2, f3⟩
theorem q_tells {p1 p3 : Int} (h0 : 0 ≤ p1) (h1 : p1 < 562949953421312) (h2 : 0 < p3) (h3 : p3 < 562949953421312) {L W V : Nat → Int} (hV : qQ L W V) :
    ∃ L2 W2 V2, f_X10_tells p1 p3 L W = some (1, L2, W2) ∧ qQ L2 W2 V2 ∧ qLow p1 p3 (V2 0) (V2 1) := by
  obtain ⟨L1, W1, a1, a2⟩ := qQ_sets (p := 0) (by omega) (v := p1) (by omega) (by omega) hV
  have a1 : f_X10_sets 0 p1 L W = some (L1, W1) := a1
  obtain ⟨L2, W2, b1, b2⟩ := qQ_sets (p := 1) (by omega) (v := p3) (by omega) (by omega) a2
  have b1 : f_X10_sets 1 p3 L1 W1 = some (L2, W2) := b1
  have v0 : zu (zu V 0 p1) 1 p3 0 = p1 := by rw [q_zu, if_neg (by omega), q_zu, if_pos rfl]
  have v1 : zu (zu V 0 p1) 1 p3 1 = p3 := by rw [q_zu, if_pos rfl]
  have e : (562949953421312 : Int) < qP 31 := by decide +kernel
  obtain ⟨L6, W6, V6, f1, f2, f3⟩ := q_lowers b2 (by rw [v1]; omega) (by rw [v0]; omega) (by rw [v1]; omega)
  rw [v0, v1] at f3
  unfold f_X10_tells
  rw [a1, q_bs]
  dsimp only
  rw [b1, q_bs]
  dsimp only
  rw [f1, q_bs]
  exact ⟨L6, W6, V6, rfl, f2, f3⟩
