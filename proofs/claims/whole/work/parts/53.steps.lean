/-! ===== trees: the least price behind a set: the class's table ===== -/
theorem q_bit0 {m k : Nat} (hm : m < 2147483648) (hk : k < 32) (h : m.testBit k = false) : zand (zshr (m : Int) (k : Int)) 1 = 0 := by
  rw [q_bit hm hk, h]
  rfl
theorem q_bit1 {m k : Nat} (hm : m < 2147483648) (hk : k < 32) (h : m.testBit k = true) : zand (zshr (m : Int) (k : Int)) 1 = 1 := by
  rw [q_bit hm hk, h]
  rfl
theorem q_10 : ¬ (1 : Int) = 0 := by omega
theorem q_01 : ¬ (0 : Int) = 1 := by omega
def qff (c : Nat) (F C : Nat → Int) (l S : Nat) (x : Int) : Prop := ∃ w, qvw c l w ∧ qin (qsr w) S ∧ x = qpr F C l w
theorem qst_ff {c : Nat} {F C fx : Nat → Int} {l : Nat} (h : fx l = -1) (S : Nat) (x : Int) : qff c F C l S x ↔ qst c F C fx l S x := by
  constructor
  · rintro ⟨w, h1, h2, h3⟩
    exact ⟨w, h1, Or.inl h, h2, h3⟩
  · rintro ⟨w, h1, _, h2, h3⟩
    exact ⟨w, h1, h2, h3⟩
theorem qsr_tb {c l w : Nat} (h : qvw c l w) (k : Nat) : (qsr w).testBit k = true ↔ (1 ≤ w ∧ w < 20 ∧ w - 1 = k) ∨ (20 ≤ w ∧ ((w - 20) / 64 = k ∨ (w - 20) / 8 % 8 = k)) := by
  unfold qsr
  rcases h with h | h | h
  · subst h
    rw [if_pos rfl, Nat.zero_testBit]
    constructor
    · intro h; simp at h
    · omega
  · rw [if_neg (by omega), if_pos (by omega), Nat.testBit_two_pow, decide_eq_true_iff]
    omega
  · rw [if_neg (by omega), if_neg (by omega), Nat.testBit_or, Nat.testBit_two_pow, Nat.testBit_two_pow, Bool.or_eq_true, decide_eq_true_iff, decide_eq_true_iff]
    omega
def qpw (F C : Nat → Int) (l x y k : Nat) (v : Int) : Prop := ∃ t : Nat, 1 ≤ t ∧ t < k ∧ (v = qpr F C l (20 + 64 * x + 8 * y + t) ∨ v = qpr F C l (20 + 64 * y + 8 * x + t))
theorem qpr_join (F C : Nat → Int) (l : Nat) {x y t : Nat} (hy : y < 8) (ht : t < 8) : qpr F C l (20 + 64 * x + 8 * y + t) = C 4 + qcp F C l x t + (qcp F C l y 8 - qcp F C l y t) := by
  have e1 : (20 + 64 * x + 8 * y + t - 20) / 64 = x := by omega
  have e2 : (20 + 64 * x + 8 * y + t - 20) / 8 % 8 = y := by omega
  have e3 : (20 + 64 * x + 8 * y + t - 20) % 8 = t := by omega
  unfold qpr
  rw [if_neg (by omega), if_neg (by omega), e1, e2, e3]
theorem qpr_copy (F C : Nat → Int) (l : Nat) {x : Nat} (hx : x < 8) : qpr F C l (x + 1) = qcp F C l x 8 := by
  unfold qpr
  rw [if_neg (by omega), if_pos (by omega), Nat.add_sub_cancel]
section ZSTEPS
variable {c : Nat} {F C K : Nat → Int}
theorem l_pairs48 (hC : ∀ j, 0 ≤ C j ∧ C j ≤ 9) (hc : c ≤ 8) (hK : qcd c F C K) {l x y : Nat} (hl : l < c) (hx : x < c) (hy : y < c) : ∀ (n k : Nat) (b : Int), 8 - k < n → k ≤ 8 → 1 ≤ k → qmw (qpw F C l x y k) 1048576 b → ∃ b2, l_X8_fillPairs_48 n l x y b k C K = some b2 ∧ qmw (qpw F C l x y 8) 1048576 b2 := by
  intro n
  induction n with
  | zero => intro k b h; omega
  | succ n ih =>
    intro k b hn hk hk1 hb
    rw [l_X8_fillPairs_48]
    by_cases h : k = 8
    · subst h
      rw [if_neg (by omega)]
      exact ⟨b, rfl, hb⟩
    · have hz1 := (qpr_b hC F l (20 + 64 * x + 8 * y + k)).2
      have hz2 := (qpr_b hC F l (20 + 64 * y + 8 * x + k)).2
      rw [if_pos (by omega), q_priceJoined hC hc hK hl hx hy (by omega), q_bs, q_priceJoined hC hc hK hl hy hx (by omega), q_bs, if_pos (by omega), ← qpr_join F C l (by omega) (by omega), ← qpr_join F C l (by omega) (by omega)]
      refine ih (k + 1) _ (by omega) (by omega) (by omega) (mw_congr (fun v => ?_) (mw_min (mw_min hb (mw_one (by omega))) (mw_one (by omega))))
      constructor
      · rintro ((⟨t, t1, t2, t3⟩ | h1) | h2)
        · exact ⟨t, t1, by omega, t3⟩
        · exact ⟨k, hk1, by omega, Or.inl h1⟩
        · exact ⟨k, hk1, by omega, Or.inr h2⟩
      · rintro ⟨t, t1, t2, t3⟩
        by_cases htk : t = k
        · subst htk
          exact t3.elim (fun h => Or.inl (Or.inr h)) Or.inr
        · exact Or.inl (Or.inl ⟨t, t1, by omega, t3⟩)
def qpg (c : Nat) (F C : Nat → Int) (l x k : Nat) (P : Nat → Int) : Prop := ∀ a b : Nat, a < b → b < c → a ≠ l → b ≠ l → (a < x ∨ (a = x ∧ b < k)) → qmw (qpw F C l a b 8) 1048576 (P (8 * a + b))
theorem l_pairs17 (hC : ∀ j, 0 ≤ C j ∧ C j ≤ 9) (hc : c ≤ 8) (hK : qcd c F C K) {l x : Nat} (hl : l < c) (hx : x < c) : ∀ (n k : Nat) (P : Nat → Int), 8 - k < n → x < k → k ≤ c → qpg c F C l x k P → ∃ P2, l_X8_fillPairs_17 n l x k c C K P = some P2 ∧ qpg c F C l x c P2 := by
  intro n
  induction n with
  | zero => intro k P h; omega
  | succ n ih =>
    intro k P hn hxk hk hP
    rw [l_X8_fillPairs_17]
    by_cases h : k = c
    · subst h
      rw [if_neg (by omega)]
      exact ⟨P, rfl, hP⟩
    · rw [if_pos (show (k : Int) < (c : Int) by omega)]
      by_cases h1 : x = l
      · rw [if_pos (show (x : Int) = (l : Int) by omega), if_pos (show zI ((k : Int) + 1) by omega)]
        exact ih (k + 1) P (by omega) (by omega) (by omega) (fun a b a1 a2 a3 a4 a5 => hP a b a1 a2 a3 a4 (by omega))
      · rw [if_neg (show ¬ (x : Int) = (l : Int) by omega)]
        by_cases h2 : k = l
        · rw [if_pos (show (k : Int) = (l : Int) by omega), if_pos (show zI ((k : Int) + 1) by omega)]
          exact ih (k + 1) P (by omega) (by omega) (by omega) (fun a b a1 a2 a3 a4 a5 => hP a b a1 a2 a3 a4 (by omega))
        · obtain ⟨b2, e1, e2⟩ := l_pairs48 (F := F) hC hc hK hl hx (y := k) (by omega) zN 1 1048576 (by have := zN_big; omega) (by omega) (by omega) (mw_none (fun v hv => by obtain ⟨t, t1, t2, t3⟩ := hv; omega))
          have e1 : l_X8_fillPairs_48 zN l x k 1048576 1 C K = some b2 := e1
          rw [if_neg (show ¬ (k : Int) = (l : Int) by omega), e1, q_bs, if_pos (show zin ((x : Int) * 8 + (k : Int)) 64 by omega), if_pos (show zI ((k : Int) + 1) by omega), q_tn (show (x : Int) * 8 + (k : Int) = ((8 * x + k : Nat) : Int) by omega)]
          refine ih (k + 1) _ (by omega) (by omega) (by omega) (fun a b a1 a2 a3 a4 a5 => ?_)
          rw [q_zu]
          by_cases h3 : a = x ∧ b = k
          · rw [h3.1, h3.2, if_pos rfl]
            exact e2
          · rw [if_neg (by omega)]
            exact hP a b a1 a2 a3 a4 (by omega)
theorem l_pairs2 (hC : ∀ j, 0 ≤ C j ∧ C j ≤ 9) (hc : c ≤ 8) (hK : qcd c F C K) {l : Nat} (hl : l < c) : ∀ (n x : Nat) (P : Nat → Int), 8 - x < n → x ≤ c → qpg c F C l x 0 P → ∃ P2, l_X8_fillPairs_2 n l x c C K P = some P2 ∧ qpg c F C l c 0 P2 := by
  intro n
  induction n with
  | zero => intro x P h; omega
  | succ n ih =>
    intro x P hn hx hP
    rw [l_X8_fillPairs_2]
    by_cases h : x = c
    · subst h
      rw [if_neg (by omega)]
      exact ⟨P, rfl, hP⟩
    · obtain ⟨P2, e1, e2⟩ := l_pairs17 (F := F) hC hc hK hl (x := x) (by omega) zN (x + 1) P (by have := zN_big; omega) (by omega) (by omega) (fun a b a1 a2 a3 a4 a5 => hP a b a1 a2 a3 a4 (by omega))
      have e1 : l_X8_fillPairs_17 zN l x ((x : Int) + 1) c C K P = some P2 := e1
      rw [if_pos (by omega), if_pos (by omega), e1, q_bs, if_pos (by omega)]
      exact ih (x + 1) P2 (by omega) (by omega) (fun a b a1 a2 a3 a4 a5 => e2 a b a1 a2 a3 a4 (by omega))
theorem q_pairs (hC : ∀ j, 0 ≤ C j ∧ C j ≤ 9) (hc : c ≤ 8) (hK : qcd c F C K) {l : Nat} (hl : l < c) (P : Nat → Int) : ∃ P2, f_X8_fillPairs l c C K P = some P2 ∧ ∀ a b : Nat, a < b → b < c → a ≠ l → b ≠ l → qmw (qpw F C l a b 8) 1048576 (P2 (8 * a + b)) := by
  obtain ⟨P2, e1, e2⟩ := l_pairs2 (F := F) hC hc hK hl zN 0 P (by have := zN_big; omega) (by omega) (fun a b a1 a2 a3 a4 a5 => by omega)
  have e1 : l_X8_fillPairs_2 zN l 0 c C K P = some P2 := e1
  unfold f_X8_fillPairs
  rw [e1, q_bs]
  exact ⟨P2, rfl, fun a b a1 a2 a3 a4 => e2 a b a1 a2 a3 a4 (by omega)⟩
theorem q_every (hc : c ≤ 8) : f_X8_everyone c = some ((2 ^ c - 1 : Nat) : Int) ∧ zshl 1 (c : Int) = ((2 ^ c : Nat) : Int) := by
  have h1 := q_p8 hc
  have h2 := Nat.two_pow_pos c
  have h3 := q_one (k := c) (by omega)
  refine ⟨?_, h3⟩
  unfold f_X8_everyone
  rw [h3, show ((2 ^ c : Nat) : Int) - 1 = ((2 ^ c - 1 : Nat) : Int) by omega, if_pos (by omega)]
theorem l_lowest (hc : c ≤ 8) {S : Nat} (hS : S < 2 ^ c) : ∀ (n k : Nat), 8 - k < n → k ≤ c → (∀ j, j < k → S.testBit j = false) → S ≠ 0 → ∃ x : Nat, l_X8_lowestOf_2 n S k c = some (x : Int) ∧ x < c ∧ S.testBit x = true ∧ ∀ j, j < x → S.testBit j = false := by
  have h8 := q_p8 hc
  intro n
  induction n with
  | zero => intro k h; omega
  | succ n ih =>
    intro k hn hk h1 h0
    rw [l_X8_lowestOf_2]
    by_cases h : k = c
    · exfalso
      subst h
      apply h0
      refine Nat.eq_of_testBit_eq (fun j => ?_)
      rw [Nat.zero_testBit]
      by_cases hj : j < k
      · exact h1 j hj
      · cases hb : S.testBit j
        · rfl
        · exact absurd (q_tb hS hb) hj
    · rw [if_pos (by omega)]
      cases hb : S.testBit k
      · rw [q_bit0 (by omega) (by omega) hb, if_pos rfl, if_pos (by omega)]
        refine ih (k + 1) (by omega) (by omega) (fun j hj => ?_) h0
        by_cases hjk : j = k
        · rw [hjk]; exact hb
        · exact h1 j (by omega)
      · rw [q_bit1 (by omega) (by omega) hb, if_neg q_10]
        exact ⟨k, rfl, by omega, hb, h1⟩
theorem l_steps100 (hc : c ≤ 8) {S x : Nat} (hS : S < 2 ^ c) (hx : x < c) {l : Nat} (hlS : S.testBit l = false) (hxS : S.testBit x = true) {P : Nat → Int} (hP : ∀ a b : Nat, a < b → b < c → a ≠ l → b ≠ l → qmw (qpw F C l a b 8) 1048576 (P (8 * a + b))) (v2 v3 : Int) (P0 : Int → Prop) : ∀ (n k : Nat) (b : Int), 8 - k < n → x < k → k ≤ c → qmw (fun v => P0 v ∨ ∃ y : Nat, x < y ∧ y < k ∧ S.testBit y = true ∧ qpw F C l x y 8 v) 1048576 b →
    ∃ b2, l_X8_fillSteps_100 n l v2 v3 S x b k c P = some b2 ∧ qmw (fun v => P0 v ∨ ∃ y : Nat, x < y ∧ y < c ∧ S.testBit y = true ∧ qpw F C l x y 8 v) 1048576 b2 := by
  have h8 := q_p8 hc
  intro n
  induction n with
  | zero => intro k b h; omega
  | succ n ih =>
    intro k b hn hxk hk hb
    rw [l_X8_fillSteps_100]
    by_cases h : k = c
    · subst h
      rw [if_neg (by omega)]
      exact ⟨b, rfl, hb⟩
    · rw [if_pos (by omega)]
      cases hbit : S.testBit k
      · rw [q_bit0 (by omega) (by omega) hbit, if_pos rfl, if_pos (by omega)]
        refine ih (k + 1) b (by omega) (by omega) (by omega) (mw_congr (fun v => ?_) hb)
        constructor
        · rintro (h1 | ⟨y, y1, y2, y3, y4⟩)
          · exact Or.inl h1
          · exact Or.inr ⟨y, y1, by omega, y3, y4⟩
        · rintro (h1 | ⟨y, y1, y2, y3, y4⟩)
          · exact Or.inl h1
          · have : y ≠ k := fun e => by rw [e, hbit] at y3; simp at y3
            exact Or.inr ⟨y, y1, by omega, y3, y4⟩
      · have n1 : x ≠ l := fun e => by rw [e, hlS] at hxS; simp at hxS
        have n2 : k ≠ l := fun e => by rw [e, hlS] at hbit; simp at hbit
        have h3 := hP x k hxk (by omega) n1 n2
        rw [q_bit1 (by omega) (by omega) hbit, if_neg q_10, if_pos (by omega), if_pos (by omega), q_tn (show (x : Int) * 8 + (k : Int) = ((8 * x + k : Nat) : Int) by omega)]
        refine ih (k + 1) _ (by omega) (by omega) (by omega) (mw_congr (fun v => ?_) (mw_min hb h3))
        constructor
        · rintro ((h1 | ⟨y, y1, y2, y3, y4⟩) | h2)
          · exact Or.inl h1
          · exact Or.inr ⟨y, y1, by omega, y3, y4⟩
          · exact Or.inr ⟨k, hxk, by omega, hbit, h2⟩
        · rintro (h1 | ⟨y, y1, y2, y3, y4⟩)
          · exact Or.inl (Or.inl h1)
          · by_cases hyk : y = k
            · subst hyk; exact Or.inr y4
            · exact Or.inl (Or.inr ⟨y, y1, by omega, y3, y4⟩)
/-- what is new by the lowest -/
theorem ff_low (hc : c ≤ 8) {S x l : Nat} (hx : x < c) (hlS : S.testBit l = false) (hxS : S.testBit x = true) (hlow : ∀ j, j < x → S.testBit j = false) (hS : S < 2 ^ c) (v : Int) : ((qff c F C l (S ^^^ 2 ^ x) v ∨ v = qcp F C l x 8) ∨ ∃ y : Nat, x < y ∧ y < c ∧ S.testBit y = true ∧ qpw F C l x y 8 v) ↔ qff c F C l S v := by
  have n1 : x ≠ l := fun e => by rw [e, hlS] at hxS; simp at hxS
  constructor
  · rintro ((⟨w, w1, w2, w3⟩ | h1) | ⟨y, y1, y2, y3, t, t1, t2, t3⟩)
    · exact ⟨w, w1, qin_x2 w2 hxS, w3⟩
    · refine ⟨x + 1, Or.inr (Or.inl ⟨by omega, by omega, by omega, by omega⟩), fun k hk => ?_, by rw [qpr_copy F C l (by omega)]; exact h1⟩
      have hv : qvw c l (x + 1) := Or.inr (Or.inl ⟨by omega, by omega, by omega, by omega⟩)
      rw [qsr_tb hv] at hk
      have : k = x := by omega
      rw [this]; exact hxS
    · have n2 : y ≠ l := fun e => by rw [e, hlS] at y3; simp at y3
      have key : ∀ a b : Nat, (a = x ∧ b = y) ∨ (a = y ∧ b = x) → v = qpr F C l (20 + 64 * a + 8 * b + t) → qff c F C l S v := by
        intro a b hab hv
        have ha : a < c ∧ a ≠ l := by omega
        have hb : b < c ∧ b ≠ l ∧ a ≠ b := by omega
        have e1 : (20 + 64 * a + 8 * b + t - 20) / 64 = a := by omega
        have e2 : (20 + 64 * a + 8 * b + t - 20) / 8 % 8 = b := by omega
        have e3 : (20 + 64 * a + 8 * b + t - 20) % 8 = t := by omega
        have hw : qvw c l (20 + 64 * a + 8 * b + t) := Or.inr (Or.inr ⟨by omega, by omega, by rw [e1]; exact ha.1, by rw [e1]; exact ha.2, by rw [e2]; exact hb.1, by rw [e2]; exact hb.2.1, by rw [e1, e2]; exact hb.2.2, by rw [e3]; omega⟩)
        refine ⟨_, hw, fun k hk => ?_, hv⟩
        rw [qsr_tb hw] at hk
        have : k = x ∨ k = y := by omega
        rcases this with e | e
        · rw [e]; exact hxS
        · rw [e]; exact y3
      rcases t3 with t3 | t3
      · exact key x y (Or.inl ⟨rfl, rfl⟩) t3
      · exact key y x (Or.inr ⟨rfl, rfl⟩) t3
  · rintro ⟨w, w1, w2, w3⟩
    cases hb : (qsr w).testBit x
    · exact Or.inl (Or.inl ⟨w, w1, qin_x w2 hb, w3⟩)
    · have hb2 := (qsr_tb w1 x).1 hb
      rcases w1 with h | h | h
      · omega
      · have e : w = x + 1 := by omega
        rw [e, qpr_copy F C l (by omega)] at w3
        exact Or.inl (Or.inr w3)
      · have hw : qvw c l w := Or.inr (Or.inr h)
        rcases hb2 with hb2 | ⟨_, hb2⟩
        · omega
        · have hy : ∃ y : Nat, y < c ∧ y ≠ x ∧ (qsr w).testBit y = true ∧ (w = 20 + 64 * x + 8 * y + (w - 20) % 8 ∨ w = 20 + 64 * y + 8 * x + (w - 20) % 8) := by
            rcases hb2 with hb2 | hb2
            · exact ⟨(w - 20) / 8 % 8, by omega, by omega, (qsr_tb hw _).2 (Or.inr ⟨by omega, Or.inr rfl⟩), Or.inl (by omega)⟩
            · exact ⟨(w - 20) / 64, by omega, by omega, (qsr_tb hw _).2 (Or.inr ⟨by omega, Or.inl rfl⟩), Or.inr (by omega)⟩
          obtain ⟨y, y1, y2, y3, y4⟩ := hy
          have y5 := w2 y y3
          have y6 : x < y := by
            refine Nat.lt_of_not_le (fun hle => ?_)
            rw [hlow y (by omega)] at y5
            simp at y5
          refine Or.inr ⟨y, y6, y1, y5, (w - 20) % 8, by omega, by omega, ?_⟩
          rcases y4 with y4 | y4
          · left; rw [← y4]; exact w3
          · right; rw [← y4]; exact w3
theorem l_steps33 (hC : ∀ j, 0 ≤ C j ∧ C j ≤ 9) (hc : c ≤ 8) (hK : qcd c F C K) {l : Nat} (hl : l < c) {P : Nat → Int} (hP : ∀ a b : Nat, a < b → b < c → a ≠ l → b ≠ l → qmw (qpw F C l a b 8) 1048576 (P (8 * a + b))) (T0 : Nat → Int) : ∀ (n k : Nat) (T : Nat → Int), 256 - k < n → 1 ≤ k → k ≤ 2 ^ c → (∀ S : Nat, S < k → S.testBit l = false → qmw (qff c F C l S) 1048576 (T (256 * l + S))) → (∀ j : Nat, j < 256 * l ∨ 256 * l + 256 ≤ j → T j = T0 j) →
    ∃ T2, l_X8_fillSteps_33 n l ((2 ^ c - 1 : Nat) : Int) ((l : Int) * 256) k c K T P = some T2 ∧ (∀ S : Nat, S < 2 ^ c → S.testBit l = false → qmw (qff c F C l S) 1048576 (T2 (256 * l + S))) ∧ ∀ j : Nat, j < 256 * l ∨ 256 * l + 256 ≤ j → T2 j = T0 j := by
  have h8 := q_p8 hc
  have hp := Nat.two_pow_pos c
  intro n
  induction n with
  | zero => intro k T h; omega
  | succ n ih =>
    intro k T hn hk1 hk hT h0
    rw [l_X8_fillSteps_33]
    by_cases h : k = 2 ^ c
    · rw [if_pos (by omega)]
      exact ⟨T, rfl, fun S hS => hT S (by omega), h0⟩
    · rw [if_neg (by omega)]
      have hk2 : k < 2 ^ c := by omega
      cases hb : k.testBit l
      · obtain ⟨x, x1, x2, x3, x4⟩ := l_lowest hc hk2 zN 0 (by have := zN_big; omega) (by omega) (fun j hj => by omega) (by omega)
        have x1 : f_X8_lowestOf k c = some (x : Int) := x1
        have xl := x_lt x3
        have n1 : x ≠ l := fun e => by rw [e, hb] at x3; simp at x3
        have p31 : 2 ^ x < 2 ^ 8 := Nat.pow_lt_pow_right (by omega) (by omega)
        have h4 := hT (k ^^^ 2 ^ x) xl (by rw [tb_xo k (fun e => n1 e.symm)]; exact hb)
        have hz1 := (qpr_b hC F l (x + 1)).2
        rw [qpr_copy F C l (by omega)] at hz1
        obtain ⟨b2, e1, e2⟩ := l_steps100 (F := F) (C := C) hc hk2 x2 hb x3 hP ((2 ^ c - 1 : Nat) : Int) ((l : Int) * 256) (fun v => qff c F C l (k ^^^ 2 ^ x) v ∨ v = qcp F C l x 8) zN (x + 1) (min (T (256 * l + (k ^^^ 2 ^ x))) (qcp F C l x 8)) (by have := zN_big; omega) (by omega) (by omega)
          (mw_congr (fun v => ⟨Or.inl, fun h => h.elim id (fun ⟨y, y1, y2, _⟩ => by omega)⟩) (mw_min h4 (mw_one (by omega))))
        have e1 : l_X8_fillSteps_100 zN l ((2 ^ c - 1 : Nat) : Int) ((l : Int) * 256) k x (min (T (256 * l + (k ^^^ 2 ^ x))) (qcp F C l x 8)) ((x : Int) + 1) c P = some b2 := e1
        have g1 : zin ((l : Int) * 256 + ((k ^^^ 2 ^ x : Nat) : Int)) 2048 := by omega
        have g2 : zI ((x : Int) + 1) := by omega
        have g3 : zin ((l : Int) * 256 + (k : Int)) 2048 := by omega
        have g4 : zI ((k : Int) + 1) := by omega
        rw [q_bit0 (by omega) (by omega) hb, if_pos rfl, x1, q_bs, q_one (by omega), q_not (by omega) (by omega), no_x x3, if_pos g1, q_priceCopied hc hK hl x2, q_bs, if_pos g2, q_tn (show (l : Int) * 256 + ((k ^^^ 2 ^ x : Nat) : Int) = ((256 * l + (k ^^^ 2 ^ x) : Nat) : Int) by omega), e1, q_bs, if_pos g3, if_pos g4, q_tn (show (l : Int) * 256 + (k : Int) = ((256 * l + k : Nat) : Int) by omega)]
        refine ih (k + 1) _ (by omega) (by omega) (by omega) (fun S hS hS2 => ?_) (fun j hj => ?_)
        · rw [q_zu]
          by_cases hSk : S = k
          · subst hSk
            rw [if_pos rfl]
            exact mw_congr (ff_low hc x2 hb x3 x4 hk2) e2
          · rw [if_neg (by omega)]
            exact hT S (by omega) hS2
        · rw [q_zu, if_neg (by omega)]
          exact h0 j hj
      · rw [q_bit1 (by omega) (by omega) hb, if_neg q_10, if_pos (by omega)]
        refine ih (k + 1) T (by omega) (by omega) (by omega) (fun S hS hS2 => hT S ?_ hS2) h0
        have : S ≠ k := fun e => by rw [e, hb] at hS2; simp at hS2
        omega
theorem ff_zero (v : Int) (l : Nat) : v = qpr F C l 0 ↔ qff c F C l 0 v := by
  constructor
  · intro h
    exact ⟨0, Or.inl rfl, qin_zero _, h⟩
  · rintro ⟨w, w1, w2, w3⟩
    have : w = 0 := by
      by_cases h0 : w = 0
      · exact h0
      · exfalso
        have h1 : ∃ k, (qsr w).testBit k = true := by
          by_cases h2 : w < 20
          · exact ⟨w - 1, (qsr_tb w1 _).2 (Or.inl ⟨by omega, h2, rfl⟩)⟩
          · exact ⟨(w - 20) / 64, (qsr_tb w1 _).2 (Or.inr ⟨by omega, Or.inl rfl⟩)⟩
        obtain ⟨k, hk⟩ := h1
        have := w2 k hk
        rw [Nat.zero_testBit] at this
        simp at this
    rw [this] at w3
    exact w3
theorem q_steps (hC : ∀ j, 0 ≤ C j ∧ C j ≤ 9) (hc : c ≤ 8) (hK : qcd c F C K) {l : Nat} (hl : l < c) (T P : Nat → Int) : ∃ T2 P2, f_X8_fillSteps l c F C K T P = some (T2, P2) ∧ (∀ S : Nat, S < 2 ^ c → S.testBit l = false → qmw (qff c F C l S) 1048576 (T2 (256 * l + S))) ∧ ∀ j : Nat, j < 256 * l ∨ 256 * l + 256 ≤ j → T2 j = T j := by
  have h8 := q_p8 hc
  have hp := Nat.two_pow_pos c
  obtain ⟨P2, p1, p2⟩ := q_pairs (F := F) hC hc hK hl P
  have hz := (qpr_b hC F l 0).2
  obtain ⟨T2, e1, e2, e3⟩ := l_steps33 (F := F) hC hc hK hl p2 T zN 1 (zu T (256 * l) (qpr F C l 0)) (by have := zN_big; omega) (by omega) (by omega) (fun S hS hS2 => by
    have e : S = 0 := by omega
    subst e
    rw [q_zu, Nat.add_zero, if_pos rfl]
    exact mw_congr (fun v => ff_zero v l) (mw_one (by omega))) (fun j hj => by rw [q_zu, if_neg (by omega)])
  have e1 : l_X8_fillSteps_33 zN l ((2 ^ c - 1 : Nat) : Int) ((l : Int) * 256) 1 c K (zu T (256 * l) (qpr F C l 0)) P2 = some T2 := e1
  unfold f_X8_fillSteps
  rw [p1, q_bs, (q_every hc).1, q_bs, if_pos (by omega), q_priceFirst hC (by omega), q_bs, if_pos (by omega), q_tn (show (l : Int) * 256 = ((256 * l : Nat) : Int) by omega), e1, q_bs]
  exact ⟨T2, P2, rfl, e2, e3⟩
/-- the class's table of steps is right -/
def qsg (c : Nat) (F C : Nat → Int) (T : Nat → Int) : Prop := ∀ l S : Nat, l < c → S < 2 ^ c → S.testBit l = false → qmw (qff c F C l S) 1048576 (T (256 * l + S))
theorem l_least16 (hC : ∀ j, 0 ≤ C j ∧ C j ≤ 9) (hc : c ≤ 8) (hK : qcd c F C K) : ∀ (n k : Nat) (T P : Nat → Int), 8 - k < n → k ≤ c → (∀ l S : Nat, l < k → S < 2 ^ c → S.testBit l = false → qmw (qff c F C l S) 1048576 (T (256 * l + S))) → ∃ T2 P2, l_X8_leastCost_16 n k c F C K T P = some (T2, P2) ∧ qsg c F C T2 := by
  intro n
  induction n with
  | zero => intro k T P h; omega
  | succ n ih =>
    intro k T P hn hk hT
    rw [l_X8_leastCost_16]
    by_cases h : k = c
    · subst h
      rw [if_neg (by omega)]
      exact ⟨T, P, rfl, hT⟩
    · obtain ⟨T2, P2, e1, e2, e3⟩ := q_steps (F := F) hC hc hK (l := k) (by omega) T P
      have h8 := q_p8 hc
      rw [if_pos (by omega), e1, q_bs, if_pos (by omega)]
      refine ih (k + 1) T2 P2 (by omega) (by omega) (fun l S hl hS hS2 => ?_)
      by_cases hlk : l = k
      · subst hlk; exact e2 S hS hS2
      · rw [e3 _ (by omega)]
        exact hT l S (by omega) hS hS2
end ZSTEPS
