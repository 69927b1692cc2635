/-! ===== names: name, slips ===== -/
/-- the names of class and reference: n of them, their lengths and digits, the slips between them -/
def qnm (n : Int) (len dig slip : Nat → Int) : Prop := 0 ≤ n ∧ n ≤ 10 ∧ (∀ j, 0 ≤ len j ∧ len j ≤ 6) ∧ (∀ j : Nat, j < 10 → slip (11 * j) = 0) ∧ ∀ a b : Nat, a < n → b < n → slip (10 * a + b) = qsl len dig a b
theorem q_isName (a n : Int) (h0 : 0 ≤ n) (h8 : n ≤ 10) : f_X10_isName a n = some (if 0 ≤ a ∧ a < n then 1 else 0) := by
  unfold f_X10_isName
  rw [if_pos (by unfold zI; omega), q_in, q_bs, if_pos q_zbit]
  congr 1
  by_cases h : 0 ≤ a ∧ a < n
  · rw [if_pos h, if_pos (by omega)]
  · rw [if_neg h, if_neg (by omega)]
theorem q_hasName (a n : Int) : f_X5_has a n = some (if 0 ≤ a ∧ a < n then 1 else 0) := by
  unfold f_X5_has
  by_cases h1 : a < 0
  · rw [if_pos h1, if_neg (by omega)]
  · by_cases h2 : a < n
    · rw [if_neg h1, if_pos h2, if_pos (by omega)]
    · rw [if_neg h1, if_neg h2, if_neg (by omega)]
theorem q_td27 (x : Int) (h : 0 ≤ x) : Int.tdiv x 27 = x / 27 ∧ Int.tmod x 27 = x % 27 := ⟨Int.tdiv_eq_ediv_of_nonneg h, Int.tmod_eq_emod_of_nonneg h⟩
theorem l_isStay {p1 p2 : Int} (hp : p1 ≤ 6) : ∀ (n : Nat) (k v : Int), 0 ≤ k → k ≤ 6 → 7 - k < n → 0 ≤ v → v ≤ 2147483647 → ∃ l, l_X10_name_27 n p1 p2 v 0 k = some (l, 0) := by
  intro n
  induction n with
  | zero => intro k v; omega
  | succ n ih =>
    intro k v h0 h1 h2 h3 h4
    rw [l_X10_name_27]
    by_cases h : k < p1
    · rw [if_pos h, if_pos rfl, (q_td27 v h3).1, if_pos (by omega)]
      exact ih (k + 1) (v / 27) (by omega) (by omega) (by omega) (by omega) (by omega)
    · rw [if_neg h]
      exact ⟨_, rfl⟩
theorem l_isName {p1 p2 : Int} (hp : p1 ≤ 6) : ∀ (n : Nat) (k v : Int), 0 ≤ k → k ≤ 6 → k ≤ p1 → 7 - k < n → 0 ≤ v → v ≤ 2147483647 → ∃ l f, l_X10_name_27 n p1 p2 v 1 k = some (l, f) ∧ 0 ≤ l ∧ l_X5_isName_21 n p1 v k = some (if f = 0 ∨ 0 < l then 0 else 1) := by
  intro n
  induction n with
  | zero => intro k v; omega
  | succ n ih =>
    intro k v h0 h1 hk h2 h3 h4
    rw [l_X10_name_27, l_X5_isName_21]
    by_cases h : k < p1
    · rw [if_pos h, if_pos h, if_neg (by omega), (q_td27 v h3).1, (q_td27 v h3).2]
      have hz : zI (v / 27) ∧ zI (k + 1) := by omega
      by_cases hm : v % 27 = 0
      · rw [if_pos hm, if_neg (by omega), if_pos hz]
        obtain ⟨l, e⟩ := l_isStay (p1 := p1) (p2 := p2) hp n (k + 1) (v / 27) (by omega) (by omega) (by omega) (by omega) (by omega)
        refine ⟨if 0 ≤ l then l else 0, 0, ?_, ?_, ?_⟩
        · rw [e]
          have : 0 ≤ l := by
            have hl : ∀ (n : Nat) (k v : Int), 0 ≤ v → l_X10_name_27 n p1 p2 v 0 k = some (l, 0) → 0 ≤ l := by
              intro n
              induction n with
              | zero => intro k v _ h; cases h
              | succ n ih2 =>
                intro k v hv h
                rw [l_X10_name_27] at h
                by_cases hc : k < p1
                · rw [if_pos hc, if_pos rfl, (q_td27 v hv).1] at h
                  obtain ⟨_, h⟩ := zgd h
                  exact ih2 (k + 1) (v / 27) (by omega) h
                · rw [if_neg hc] at h
                  cases h
                  exact hv
            exact hl n (k + 1) (v / 27) (by omega) e
          rw [if_pos this]
        · split <;> omega
        · rw [if_pos (Or.inl rfl)]
      · rw [if_neg hm, if_pos (by omega), if_pos hz, if_pos hz]
        exact ih (k + 1) (v / 27) (by omega) (by omega) (by omega) (by omega) (by omega) (by omega)
    · rw [if_neg h, if_neg h]
      refine ⟨v, 1, rfl, h3, ?_⟩
      by_cases hv : v = 0
      · rw [if_pos hv, if_neg (by omega)]
      · rw [if_neg hv, if_pos (by omega)]
theorem l_digs {c : Int} (hc : 0 ≤ c) (hc9 : c ≤ 9) : ∀ (n : Nat) (k v : Int) (d : Nat → Int), -1 ≤ k → k ≤ 5 → k + 1 < n → 0 ≤ v → v ≤ 2147483647 → ∃ d2, l_X5_add_50 n v k c d = some d2 ∧ l_X10_name_114 n v k c d = some d2 ∧ ∀ j : Nat, (j : Int) < 6 * c → d2 j = d j := by
  intro n
  induction n with
  | zero => intro k v d; omega
  | succ n ih =>
    intro k v d h0 h1 h2 h3 h4
    rw [l_X5_add_50, l_X10_name_114]
    by_cases h : k < 0
    · rw [if_pos h, if_pos h]
      exact ⟨d, rfl, rfl, fun _ _ => rfl⟩
    · have g1 : zin (6 * c + k) 60 := by omega
      have g2 : zI (v / 27) ∧ zI (k + (-1)) := by omega
      rw [if_neg h, if_neg h, Int.mul_comm c 6, if_pos g1, if_pos g1, (q_td27 v h3).1, (q_td27 v h3).2, if_pos g2, if_pos g2]
      obtain ⟨d2, e1, e2, e3⟩ := ih (k + (-1)) (v / 27) (zu d (6 * c + k).toNat (v % 27)) (by omega) (by omega) (by omega) (by omega) (by omega)
      refine ⟨d2, e1, e2, fun j hj => ?_⟩
      rw [e3 j hj, q_zu, if_neg (by omega)]
theorem l_add88 {len dig : Nat → Int} (hl : ∀ j, 0 ≤ len j ∧ len j ≤ 6) {c : Nat} (hc : c < 10) : ∀ (n k : Nat) (slip ah r : Nat → Int), 10 - k < n → k ≤ c → (∀ j : Nat, j < 10 → slip (11 * j) = 0) → (∀ a b : Nat, a < c → b < c → slip (10 * a + b) = qsl len dig a b) →
    (∀ j : Nat, j < k → slip (10 * c + j) = qsl len dig c j ∧ slip (10 * j + c) = qsl len dig c j) → ∃ slip2 ah2 r2, l_X5_add_88 n k c len dig slip ah r = some (slip2, ah2, r2) ∧ (∀ j : Nat, j < 10 → slip2 (11 * j) = 0) ∧ (∀ a b : Nat, a < c → b < c → slip2 (10 * a + b) = qsl len dig a b) ∧ ∀ j : Nat, j < c → slip2 (10 * c + j) = qsl len dig c j ∧ slip2 (10 * j + c) = qsl len dig c j := by
  intro n
  induction n with
  | zero => intro k slip ah r h; omega
  | succ n ih =>
    intro k slip ah r hn hk h1 h2 h3
    rw [l_X5_add_88]
    by_cases h : k = c
    · subst h
      rw [if_neg (by omega)]
      exact ⟨slip, ah, r, rfl, h1, h2, h3⟩
    · obtain ⟨ah2, r2, e⟩ := q_compare (dig := dig) hl (a := c) (b := k) hc (by omega) ah r
      have g1 : zin ((c : Int) * 10 + (k : Int)) 100 := by omega
      have g2 : zin ((k : Int) * 10 + (c : Int)) 100 := by omega
      have g3 : zI ((k : Int) + 1) := by omega
      rw [if_pos (by omega), e, q_bs, if_pos g1, if_pos g2, if_pos g3, show ((c : Int) * 10 + (k : Int)).toNat = 10 * c + k by omega, show ((k : Int) * 10 + (c : Int)).toNat = 10 * k + c by omega]
      refine ih (k + 1) _ ah2 r2 (by omega) (by omega) (fun j hj => ?_) (fun a b ha hb => ?_) (fun j hj => ?_)
      · rw [q_zu, q_zu, if_neg (by omega), if_neg (by omega)]
        exact h1 j hj
      · rw [q_zu, q_zu, if_neg (by omega), if_neg (by omega)]
        exact h2 a b ha hb
      · rw [q_zu, q_zu, q_zu, q_zu]
        by_cases hjk : j = k
        · subst hjk
          rw [if_neg (by omega), if_pos rfl, if_pos rfl]
          exact ⟨rfl, rfl⟩
        · rw [if_neg (by omega), if_neg (by omega), if_neg (by omega), if_neg (by omega)]
          exact h3 j (by omega)
theorem qsl_congr {len len2 dig dig2 : Nat → Int} {c a b : Nat} (hl : ∀ j, 0 ≤ len j ∧ len j ≤ 6) (h1 : ∀ j, j < c → len2 j = len j) (h2 : ∀ j : Nat, j < 6 * c → dig2 j = dig j) (ha : a < c) (hb : b < c) : qsl len2 dig2 a b = qsl len dig a b := by
  unfold qsl
  rw [h1 a ha, h1 b hb]
  refine qlv_congr _ _ (fun j hj => h2 _ ?_) (fun j hj => h2 _ ?_)
  · have := hl a; omega
  · have := hl b; omega
theorem q_pname (p1 p2 : Int) (hp2 : zI p2) {n : Int} {len dig slip : Nat → Int} (h : qnm n len dig slip) (told ah r : Nat → Int) :
    ∃ a n2 len2 told2 dig2 slip2 ah2 r2, f_X9_name p1 p2 n len told dig slip ah r = some (a, n2, len2, told2, dig2, slip2, ah2, r2) ∧ f_X10_name p1 p2 n len told dig = some (a, n2, len2, told2, dig2) ∧ qnm n2 len2 dig2 slip2 := by
  have hh := h
  obtain ⟨h0, h10, hl, hd, hs⟩ := h
  unfold f_X9_name f_X10_name f_X5_isName
  rw [q_in, q_bs]
  by_cases a1 : 1 ≤ p1 ∧ p1 ≤ 6
  · rw [if_neg (show ¬ p1 < 1 by omega), if_neg (show ¬ 6 < p1 by omega), if_pos a1, if_neg (show ¬ (1 : Int) = 0 by omega)]
    by_cases a2 : p2 < 0
    · rw [if_pos a2, if_pos a2, q_bs, if_pos rfl]
      exact ⟨_, _, _, _, _, _, _, _, rfl, rfl, hh⟩
    · obtain ⟨l, f, e1, e2, e3⟩ := l_isName (p1 := p1) (p2 := p2) a1.2 zN 0 p2 (by omega) (by omega) (by omega) (by have := zN_big; omega) (by omega) hp2.2
      rw [if_neg a2, if_neg a2, e1, e3, q_bs, q_bs]
      dsimp only
      by_cases hf : f = 0 ∨ 0 < l
      · rw [if_pos hf, if_pos rfl]
        by_cases hf0 : f = 0
        · rw [if_pos hf0]
          exact ⟨_, _, _, _, _, _, _, _, rfl, rfl, hh⟩
        · rw [if_neg hf0, if_pos (by omega)]
          exact ⟨_, _, _, _, _, _, _, _, rfl, rfl, hh⟩
      · rw [if_neg hf, if_neg (show ¬ (1 : Int) = 0 by omega), if_neg (show ¬ f = 0 by omega), if_neg (show ¬ 0 < l by omega)]
        by_cases hn : n < 10
        · obtain ⟨c, rfl⟩ : ∃ c : Nat, n = c := ⟨n.toNat, by omega⟩
          obtain ⟨d2, x1, x2, x3⟩ := l_digs (c := (c : Int)) (by omega) (by omega) zN (p1 - 1) p2 dig (by omega) (by omega) (by have := zN_big; omega) (by omega) hp2.2
          have hl2 : ∀ j, 0 ≤ zu len c p1 j ∧ zu len c p1 j ≤ 6 := fun j => by
            rw [q_zu]
            have := hl j
            split <;> omega
          have hcg : ∀ a b : Nat, a < c → b < c → qsl (zu len c p1) d2 a b = qsl len dig a b := fun a b ha hb => qsl_congr hl (fun j hj => by rw [q_zu, if_neg (by omega)]) (fun j hj => x3 j (by omega)) ha hb
          obtain ⟨slip2, ah2, r2, y1, y2, y3, y4⟩ := l_add88 (dig := d2) hl2 (c := c) (by omega) zN 0 slip ah r (by have := zN_big; omega) (by omega) hd (fun a b ha hb => by rw [hcg a b ha hb]; exact hs a b (by omega) (by omega)) (fun j hj => by omega)
          have y1 : l_X5_add_88 zN 0 c (zu len c p1) d2 slip ah r = some (slip2, ah2, r2) := y1
          have g1 : zin (c : Int) 10 ∧ zin (c : Int) 10 := by omega
          have g2 : zI (p1 - 1) := by omega
          have g3 : zI ((c : Int) + 1) ∧ zI ((c : Int) + 1 - 1) := by omega
          unfold f_X5_add
          rw [if_pos hn, if_pos hn, if_neg (show ¬ p1 < 1 by omega), if_neg (show ¬ 6 < p1 by omega), if_neg (show ¬ (c : Int) = 10 by omega), if_pos g1, if_pos g1, if_pos g2, if_pos g2, x1, x2, q_bs, q_bs, Int.toNat_natCast, y1, q_bs, if_pos g3, if_pos g3]
          refine ⟨_, _, _, _, _, _, _, _, rfl, rfl, by dsimp only; omega, by dsimp only; omega, hl2, y2, fun a b ha hb => ?_⟩
          dsimp only at ha hb ⊢
          by_cases hac : a = c
          · subst hac
            by_cases hbc : b = a
            · subst hbc
              rw [qsl_self, show 10 * b + b = 11 * b by omega]
              exact y2 b (by omega)
            · exact (y4 b (by omega)).1
          · by_cases hbc : b = c
            · subst hbc
              rw [qsl_sym]
              exact (y4 a (by omega)).2
            · exact y3 a b (by omega) (by omega)
        · rw [if_neg hn, if_pos (show n = 10 by omega)]
          exact ⟨_, _, _, _, _, _, _, _, rfl, rfl, hh⟩
  · rw [if_neg a1, if_pos rfl]
    by_cases a3 : p1 < 1
    · rw [if_pos a3, q_bs, if_pos rfl]
      exact ⟨_, _, _, _, _, _, _, _, rfl, rfl, hh⟩
    · rw [if_neg a3, if_pos (by omega), q_bs, if_pos rfl]
      exact ⟨_, _, _, _, _, _, _, _, rfl, rfl, hh⟩
theorem q_pslips (p1 p2 : Int) {n : Int} {len dig slip : Nat → Int} (h : qnm n len dig slip) (t : Nat → Int) : ∃ r t2, f_X9_slips p1 p2 n slip = some r ∧ f_X10_slips p1 p2 n len dig t = some (r, t2) := by
  obtain ⟨h0, h10, hl, hd, hs⟩ := h
  have h1n : ¬ (1 : Int) = 0 := by omega
  unfold f_X9_slips f_X10_slips
  rw [q_hasName, q_isName p1 n h0 h10, q_bs, q_bs, q_hasName, q_isName p2 n h0 h10, q_bs, q_bs]
  by_cases h1 : 0 ≤ p1 ∧ p1 < n
  · by_cases h2 : 0 ≤ p2 ∧ p2 < n
    · obtain ⟨a, rfl⟩ : ∃ a : Nat, p1 = a := ⟨p1.toNat, by omega⟩
      obtain ⟨b, rfl⟩ : ∃ b : Nat, p2 = b := ⟨p2.toNat, by omega⟩
      obtain ⟨t2, e⟩ := q_slipsOf (dig := dig) hl (a := a) (b := b) (by omega) (by omega) t
      unfold f_X5_slipsBetween
      rw [if_pos h1, if_pos h2, if_neg h1n, if_neg h1n, if_neg h1n, if_neg h1n, if_pos (by omega), q_bs, show ((a : Int) * 10 + (b : Int)).toNat = 10 * a + b by omega, hs a b (by omega) (by omega), e]
      exact ⟨_, _, rfl, rfl⟩
    · rw [if_pos h1, if_neg h2, if_neg h1n, if_neg h1n, if_pos rfl, if_pos rfl]
      exact ⟨_, _, rfl, rfl⟩
  · rw [if_neg h1, if_pos rfl, if_pos rfl]
    exact ⟨_, _, rfl, rfl⟩
