/-! ===== trees: the least price behind a set: the reference's table ===== -/
section ZPRICES
variable {c : Nat} {F C : Nat → Int}
theorem l_pr19 (hC : ∀ j, 0 ≤ C j ∧ C j ≤ 9) (hc : c ≤ 8) {l : Nat} (hl : l < c) (H0 : Nat → Int) : ∀ (n k : Nat) (H : Nat → Int), 256 - k < n → k ≤ 2 ^ c → (∀ S : Nat, S < k → H (256 * l + S) = qpr F C l 0) → (∀ j : Nat, j < 256 * l → H j = H0 j) →
    ∃ H2, l_X10_prices_19 n l k c F C H = some H2 ∧ (∀ S : Nat, S < 2 ^ c → H2 (256 * l + S) = qpr F C l 0) ∧ ∀ j : Nat, j < 256 * l → H2 j = H0 j := by
  have h8 := q_p8 hc
  intro n
  induction n with
  | zero => intro k H h; omega
  | succ n ih =>
    intro k H hn hk hH h0
    rw [l_X10_prices_19, (q_every hc).2]
    by_cases h : k = 2 ^ c
    · rw [if_neg (by omega)]
      exact ⟨H, rfl, fun S hS => hH S (by omega), h0⟩
    · have e := q_priceOfR (F := F) hC hc hl (w := 0) (Or.inl rfl)
      have e : f_X10_priceOf l 0 F C = some (qpr F C l 0) := e
      rw [if_pos (by omega), e, q_bs, if_pos (by omega), q_tn (show 256 * (l : Int) + (k : Int) = ((256 * l + k : Nat) : Int) by omega)]
      refine ih (k + 1) _ (by omega) (by omega) (fun S hS => ?_) (fun j hj => ?_)
      · rw [q_zu]
        by_cases hSk : S = k
        · subst hSk; rw [if_pos rfl]
        · rw [if_neg (by omega)]; exact hH S (by omega)
      · rw [q_zu, if_neg (by omega)]; exact h0 j hj
def qfe (c : Nat) (F C : Nat → Int) (l k S : Nat) (v : Int) : Prop := v = qpr F C l 0 ∨ ∃ u : Nat, 1 ≤ u ∧ u < k ∧ qvw c l u ∧ qsr u = S ∧ v = qpr F C l u
theorem l_pr55 (hC : ∀ j, 0 ≤ C j ∧ C j ≤ 9) (hc : c ≤ 8) {l : Nat} (hl : l < c) (H0 : Nat → Int) : ∀ (n k : Nat) (H : Nat → Int), 532 - k < n → 1 ≤ k → k ≤ 532 → (∀ S : Nat, S < 2 ^ c → qmw (qfe c F C l k S) 1000000 (H (256 * l + S))) → (∀ j : Nat, j < 256 * l → H j = H0 j) →
    ∃ H2, l_X10_prices_55 n l k c F C H = some H2 ∧ (∀ S : Nat, S < 2 ^ c → qmw (qfe c F C l 532 S) 1000000 (H2 (256 * l + S))) ∧ ∀ j : Nat, j < 256 * l → H2 j = H0 j := by
  have h8 := q_p8 hc
  intro n
  induction n with
  | zero => intro k H h; omega
  | succ n ih =>
    intro k H hn hk1 hk hH h0
    rw [l_X10_prices_55]
    by_cases h : k = 532
    · subst h
      rw [if_neg (by omega)]
      exact ⟨H, rfl, hH, h0⟩
    · have gz : zI ((k : Int) + 1) := by omega
      rw [if_pos (show (k : Int) < 532 by omega)]
      by_cases hv : qvw c l k
      · have hs := qsr_b hc hv
        have g1 : zin (256 * (l : Int) + (qsr k : Int)) 2048 := by omega
        have hp := (qpr_b hC F l k).2
        have key : ∀ H2 : Nat → Int, H2 (256 * l + qsr k) = min (H (256 * l + qsr k)) (qpr F C l k) → (∀ j : Nat, j ≠ 256 * l + qsr k → H2 j = H j) → ∃ H3, l_X10_prices_55 n l ((k : Int) + 1) c F C H2 = some H3 ∧ (∀ S : Nat, S < 2 ^ c → qmw (qfe c F C l 532 S) 1000000 (H3 (256 * l + S))) ∧ ∀ j : Nat, j < 256 * l → H3 j = H0 j := by
          intro H2 a1 a2
          refine ih (k + 1) H2 (by omega) (by omega) (by omega) (fun S hS => ?_) (fun j hj => by rw [a2 j (by omega)]; exact h0 j hj)
          by_cases hSk : S = qsr k
          · subst hSk
            rw [a1]
            refine mw_congr (fun v => ?_) (mw_min (hH _ hS) (mw_one (x := qpr F C l k) (by omega)))
            constructor
            · rintro ((h1 | ⟨u, u1, u2, u3⟩) | h2)
              · exact Or.inl h1
              · exact Or.inr ⟨u, u1, by omega, u3⟩
              · exact Or.inr ⟨k, hk1, by omega, hv, rfl, h2⟩
            · rintro (h1 | ⟨u, u1, u2, u3, u4, u5⟩)
              · exact Or.inl (Or.inl h1)
              · by_cases huk : u = k
                · subst huk; exact Or.inr u5
                · exact Or.inl (Or.inr ⟨u, u1, by omega, u3, u4, u5⟩)
          · rw [a2 _ (by omega)]
            refine mw_congr (fun v => ?_) (hH S hS)
            constructor
            · rintro (h1 | ⟨u, u1, u2, u3⟩)
              · exact Or.inl h1
              · exact Or.inr ⟨u, u1, by omega, u3⟩
            · rintro (h1 | ⟨u, u1, u2, u3, u4, u5⟩)
              · exact Or.inl h1
              · have : u ≠ k := fun e => by rw [e] at u4; exact hSk u4.symm
                exact Or.inr ⟨u, u1, by omega, u3, u4, u5⟩
        rw [(q_isWay hc hl).1 hv, q_bs, if_neg q_10, q_sourcesR hc hv, q_bs, q_priceOfR hC hc hl hv, q_bs, if_pos g1, q_tn (show 256 * (l : Int) + (qsr k : Int) = ((256 * l + qsr k : Nat) : Int) by omega)]
        by_cases hlt : qpr F C l k < H (256 * l + qsr k)
        · rw [if_pos hlt, if_pos g1, if_pos gz]
          refine key _ ?_ (fun j hj => by rw [q_zu, if_neg hj])
          rw [q_zu, if_pos rfl]
          omega
        · rw [if_neg hlt, if_pos g1, if_pos g1, if_pos gz]
          refine key _ ?_ (fun j hj => by rw [q_zu, if_neg hj])
          rw [q_zu, if_pos rfl]
          omega
      · rw [(q_isWay hc hl).2 hv, q_bs, if_pos rfl, if_pos gz]
        refine ih (k + 1) H (by omega) (by omega) (by omega) (fun S hS => mw_congr (fun v => ?_) (hH S hS)) h0
        constructor
        · rintro (h1 | ⟨u, u1, u2, u3⟩)
          · exact Or.inl h1
          · exact Or.inr ⟨u, u1, by omega, u3⟩
        · rintro (h1 | ⟨u, u1, u2, u3, u4⟩)
          · exact Or.inl h1
          · have : u ≠ k := fun e => by rw [e] at u3; exact hv u3
            exact Or.inr ⟨u, u1, by omega, u3, u4⟩
theorem l_pr151 (hc : c ≤ 8) {l S : Nat} (hl : l < c) (hS : S < 2 ^ c) (P0 : Int → Prop) (hP0 : ∃ v, P0 v) (H0 : Nat → Int) (hH0 : ∀ R : Nat, R < S → qmw (qff c F C l R) 1000000 (H0 (256 * l + R))) : ∀ (n k : Nat) (H : Nat → Int), 8 - k < n → k ≤ c → qmw (fun v => P0 v ∨ ∃ o : Nat, o < k ∧ S.testBit o = true ∧ qff c F C l (S ^^^ 2 ^ o) v) 1000000 (H (256 * l + S)) → (∀ j : Nat, j ≠ 256 * l + S → H j = H0 j) →
    ∃ H2, l_X10_prices_151 n l S k c H = some H2 ∧ qmw (fun v => P0 v ∨ ∃ o : Nat, o < c ∧ S.testBit o = true ∧ qff c F C l (S ^^^ 2 ^ o) v) 1000000 (H2 (256 * l + S)) ∧ ∀ j : Nat, j ≠ 256 * l + S → H2 j = H0 j := by
  have h8 := q_p8 hc
  obtain ⟨v0, hv0⟩ := hP0
  intro n
  induction n with
  | zero => intro k H h; omega
  | succ n ih =>
    intro k H hn hk hH h0
    rw [l_X10_prices_151]
    by_cases h : k = c
    · subst h
      rw [if_neg (by omega)]
      exact ⟨H, rfl, hH, h0⟩
    · have gz : zI ((k : Int) + 1) := by omega
      have g1 : zin (256 * (l : Int) + (S : Int)) 2048 := by omega
      have t1 := q_tn (show 256 * (l : Int) + (S : Int) = ((256 * l + S : Nat) : Int) by omega)
      rw [if_pos (by omega)]
      cases hb : S.testBit k
      · have h3 := (mw_get hH (Or.inl hv0)).2.1
        have key : ∀ H2 : Nat → Int, (∀ j : Nat, H2 j = H j) → ∃ H3, l_X10_prices_151 n l S ((k : Int) + 1) c H2 = some H3 ∧ qmw (fun v => P0 v ∨ ∃ o : Nat, o < c ∧ S.testBit o = true ∧ qff c F C l (S ^^^ 2 ^ o) v) 1000000 (H3 (256 * l + S)) ∧ ∀ j : Nat, j ≠ 256 * l + S → H3 j = H0 j := by
          intro H2 a1
          refine ih (k + 1) H2 (by omega) (by omega) ?_ (fun j hj => by rw [a1]; exact h0 j hj)
          rw [a1]
          refine mw_congr (fun v => ?_) hH
          constructor
          · rintro (h1 | ⟨u, u1, u2⟩)
            · exact Or.inl h1
            · exact Or.inr ⟨u, by omega, u2⟩
          · rintro (h1 | ⟨u, u1, u2, u3⟩)
            · exact Or.inl h1
            · have : u ≠ k := fun e => by rw [e, hb] at u2; simp at u2
              exact Or.inr ⟨u, by omega, u2, u3⟩
        rw [q_bit0 (by omega) (by omega) hb, if_neg q_01, if_pos g1, t1, if_neg (show ¬ (1000000 : Int) < H (256 * l + S) by omega), if_pos g1, if_pos ⟨g1, gz⟩]
        exact key _ (fun j => by rw [q_zu]; split; { rename_i e; rw [e] }; rfl)
      · have xl := x_lt hb
        have p31 : 2 ^ k < 2 ^ 8 := Nat.pow_lt_pow_right (by omega) (by omega)
        have h3 := hH0 _ xl
        have key : ∀ H2 : Nat → Int, H2 (256 * l + S) = min (H (256 * l + S)) (H0 (256 * l + (S ^^^ 2 ^ k))) → (∀ j : Nat, j ≠ 256 * l + S → H2 j = H j) → ∃ H3, l_X10_prices_151 n l S ((k : Int) + 1) c H2 = some H3 ∧ qmw (fun v => P0 v ∨ ∃ o : Nat, o < c ∧ S.testBit o = true ∧ qff c F C l (S ^^^ 2 ^ o) v) 1000000 (H3 (256 * l + S)) ∧ ∀ j : Nat, j ≠ 256 * l + S → H3 j = H0 j := by
          intro H2 a1 a2
          refine ih (k + 1) H2 (by omega) (by omega) ?_ (fun j hj => by rw [a2 j hj]; exact h0 j hj)
          rw [a1]
          refine mw_congr (fun v => ?_) (mw_min hH h3)
          constructor
          · rintro ((h1 | ⟨u, u1, u2⟩) | h2)
            · exact Or.inl h1
            · exact Or.inr ⟨u, by omega, u2⟩
            · exact Or.inr ⟨k, by omega, hb, h2⟩
          · rintro (h1 | ⟨u, u1, u2, u3⟩)
            · exact Or.inl (Or.inl h1)
            · by_cases huk : u = k
              · subst huk; exact Or.inr u3
              · exact Or.inl (Or.inr ⟨u, by omega, u2, u3⟩)
        have g2 : zin (256 * (l : Int) + ((S ^^^ 2 ^ k : Nat) : Int)) 2048 := by omega
        rw [q_bit1 (by omega) (by omega) hb, if_pos rfl, q_one (by omega), zxor_nat _ _ (by omega) (by omega), if_pos g2, if_pos g1, t1, q_tn (show 256 * (l : Int) + ((S ^^^ 2 ^ k : Nat) : Int) = ((256 * l + (S ^^^ 2 ^ k) : Nat) : Int) by omega), h0 (256 * l + (S ^^^ 2 ^ k)) (by omega)]
        by_cases hlt : H0 (256 * l + (S ^^^ 2 ^ k)) < H (256 * l + S)
        · rw [if_pos hlt, if_pos ⟨g1, gz⟩]
          refine key _ ?_ (fun j hj => by rw [q_zu, if_neg hj])
          rw [q_zu, if_pos rfl]
          omega
        · rw [if_neg hlt, if_pos g1, if_pos ⟨g1, gz⟩]
          refine key _ ?_ (fun j hj => by rw [q_zu, if_neg hj])
          rw [q_zu, if_pos rfl]
          omega
theorem fe_ff {l S : Nat} (hS : S < 2 ^ c) (v : Int) : (qfe c F C l 532 S v ∨ ∃ o : Nat, o < c ∧ S.testBit o = true ∧ qff c F C l (S ^^^ 2 ^ o) v) ↔ qff c F C l S v := by
  constructor
  · rintro ((h1 | ⟨u, u1, u2, u3, u4, u5⟩) | ⟨o, o1, o2, w, w1, w2, w3⟩)
    · exact ⟨0, Or.inl rfl, qin_zero _, h1⟩
    · exact ⟨u, u3, by rw [u4]; exact qin_self _, u5⟩
    · exact ⟨w, w1, qin_x2 w2 o2, w3⟩
  · rintro ⟨w, w1, w2, w3⟩
    by_cases h0 : w = 0
    · rw [h0] at w3; exact Or.inl (Or.inl w3)
    · by_cases hs : qsr w = S
      · exact Or.inl (Or.inr ⟨w, by omega, qvw_lt w1, w1, hs, w3⟩)
      · by_cases he : ∃ o, S.testBit o = true ∧ (qsr w).testBit o = false
        · obtain ⟨o, o1, o2⟩ := he
          exact Or.inr ⟨o, q_tb hS o1, o1, w, w1, qin_x w2 o2, w3⟩
        · exfalso
          apply hs
          refine Nat.eq_of_testBit_eq (fun j => ?_)
          cases hj : S.testBit j
          · cases hj2 : (qsr w).testBit j
            · rfl
            · rw [w2 j hj2] at hj; exact hj
          · cases hj2 : (qsr w).testBit j
            · exact absurd ⟨j, hj, hj2⟩ he
            · rfl
theorem l_pr139 (hc : c ≤ 8) {l : Nat} (hl : l < c) (H0 : Nat → Int) : ∀ (n k : Nat) (H : Nat → Int), 256 - k < n → k ≤ 2 ^ c → (∀ S : Nat, S < k → qmw (qff c F C l S) 1000000 (H (256 * l + S))) → (∀ S : Nat, k ≤ S → S < 2 ^ c → qmw (qfe c F C l 532 S) 1000000 (H (256 * l + S))) → (∀ j : Nat, j < 256 * l → H j = H0 j) →
    ∃ H2, l_X10_prices_139 n l k c H = some H2 ∧ (∀ S : Nat, S < 2 ^ c → qmw (qff c F C l S) 1000000 (H2 (256 * l + S))) ∧ ∀ j : Nat, j < 256 * l → H2 j = H0 j := by
  have h8 := q_p8 hc
  intro n
  induction n with
  | zero => intro k H h; omega
  | succ n ih =>
    intro k H hn hk hH hH2 h0
    rw [l_X10_prices_139, (q_every hc).2]
    by_cases h : k = 2 ^ c
    · rw [if_neg (by omega)]
      exact ⟨H, rfl, fun S hS => hH S (by omega), h0⟩
    · have hk2 : k < 2 ^ c := by omega
      obtain ⟨H2, e1, e2, e3⟩ := l_pr151 (F := F) (C := C) hc hl hk2 (qfe c F C l 532 k) ⟨_, Or.inl rfl⟩ H hH zN 0 H (by have := zN_big; omega) (by omega) (mw_congr (fun v => ⟨Or.inl, fun h => h.elim id (fun ⟨o, o1, _⟩ => by omega)⟩) (hH2 k (Nat.le_refl k) hk2)) (fun j hj => rfl)
      have e1 : l_X10_prices_151 zN l k 0 c H = some H2 := e1
      rw [if_pos (by omega), e1, q_bs, if_pos (by omega)]
      refine ih (k + 1) H2 (by omega) (by omega) (fun S hS => ?_) (fun S hS1 hS2 => ?_) (fun j hj => ?_)
      · by_cases hSk : S = k
        · subst hSk
          exact mw_congr (fe_ff hk2) e2
        · rw [e3 _ (by omega)]
          exact hH S (by omega)
      · rw [e3 _ (by omega)]
        exact hH2 S (by omega) hS2
      · rw [e3 _ (by omega)]
        exact h0 j hj
def qsh (c : Nat) (F C : Nat → Int) (H : Nat → Int) : Prop := ∀ l S : Nat, l < c → S < 2 ^ c → qmw (qff c F C l S) 1000000 (H (256 * l + S))
theorem l_pr2 (hC : ∀ j, 0 ≤ C j ∧ C j ≤ 9) (hc : c ≤ 8) : ∀ (n k : Nat) (H X : Nat → Int), 8 - k < n → k ≤ c → (∀ l S : Nat, l < k → S < 2 ^ c → qmw (qff c F C l S) 1000000 (H (256 * l + S))) → (∀ l, l < k → X l = -1) → ∃ H2 X2, l_X10_prices_2 n k c F C H X = some (H2, X2) ∧ qsh c F C H2 ∧ ∀ l, l < c → X2 l = -1 := by
  have h8 := q_p8 hc
  intro n
  induction n with
  | zero => intro k H X h; omega
  | succ n ih =>
    intro k H X hn hk hH hX
    rw [l_X10_prices_2]
    by_cases h : k = c
    · subst h
      rw [if_neg (by omega)]
      exact ⟨H, X, rfl, hH, hX⟩
    · have hk2 : k < c := by omega
      have hz := (qpr_b hC F k 0).2
      obtain ⟨H2, e1, e2, e3⟩ := l_pr19 (F := F) hC hc hk2 H zN 0 H (by have := zN_big; omega) (Nat.zero_le _) (fun S hS => by omega) (fun j _ => rfl)
      have e1 : l_X10_prices_19 zN k 0 c F C H = some H2 := e1
      obtain ⟨H3, e4, e5, e6⟩ := l_pr55 (F := F) hC hc hk2 H zN 1 H2 (by have := zN_big; omega) (by omega) (by omega) (fun S hS => by
        rw [e2 S hS]
        exact mw_congr (fun v => ⟨Or.inl, fun h => h.elim id (fun ⟨u, u1, u2, _⟩ => by omega)⟩) (mw_one (by omega))) e3
      have e4 : l_X10_prices_55 zN k 1 c F C H2 = some H3 := e4
      obtain ⟨H4, e7, e8, e9⟩ := l_pr139 (F := F) (C := C) hc hk2 H zN 0 H3 (by have := zN_big; omega) (Nat.zero_le _) (fun S hS => by omega) (fun S _ hS => e5 S hS) e6
      have e7 : l_X10_prices_139 zN k 0 c H3 = some H4 := e7
      rw [if_pos (by omega), if_pos (by omega), e1, q_bs, e4, q_bs, e7, q_bs, if_pos (by omega), Int.toNat_natCast]
      refine ih (k + 1) H4 _ (by omega) (by omega) (fun l S hl hS => ?_) (fun l hl => ?_)
      · by_cases hlk : l = k
        · subst hlk; exact e8 S hS
        · rw [e9 _ (by omega)]
          exact hH l S (by omega) hS
      · rw [q_zu]
        by_cases hlk : l = k
        · rw [if_pos hlk]
        · rw [if_neg hlk]; exact hX l (by omega)
theorem q_prices (hC : ∀ j, 0 ≤ C j ∧ C j ≤ 9) (hc : c ≤ 8) (H X : Nat → Int) : ∃ H2 X2, f_X10_prices c F C H X = some (H2, X2) ∧ qsh c F C H2 ∧ ∀ l, l < c → X2 l = -1 := by
  obtain ⟨H2, X2, e1, e2, e3⟩ := l_pr2 (F := F) hC hc zN 0 H X (by have := zN_big; omega) (by omega) (fun l S hl => by omega) (fun l hl => by omega)
  have e1 : l_X10_prices_2 zN 0 c F C H X = some (H2, X2) := e1
  unfold f_X10_prices
  rw [e1, q_bs]
  exact ⟨H2, X2, rfl, e2, e3⟩
end ZPRICES
