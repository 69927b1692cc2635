/-! ===== the net: run ===== -/
theorem l_runInit {p : Nat} (p2 p3 : Int) : ∀ (n k : Nat) (d t : Nat → Int), 10 - k < n → k ≤ 10 → (∀ j : Nat, j < k → 0 ≤ d j ∧ d j ≤ 1 ∧ t j = 0) →
    ∃ d2 t2, l_X7_goThrough_2 n p p2 k d t = some (d2, t2) ∧ l_X10_run_27 n p p2 p3 k d t = some (d2, t2) ∧ ∀ j : Nat, j < 10 → 0 ≤ d2 j ∧ d2 j ≤ 1 ∧ t2 j = 0 := by
  intro n
  induction n with
  | zero => intro k d t h; omega
  | succ n ih =>
    intro k d t hn hk hd
    rw [l_X7_goThrough_2, l_X10_run_27]
    by_cases h : k = 10
    · subst h
      rw [if_neg (by omega), if_neg (by omega)]
      exact ⟨d, t, rfl, rfl, hd⟩
    · have hk1 : (k : Int) < 10 := by omega
      have hz : zin (k : Int) 10 ∧ zin (k : Int) 10 ∧ zI ((k : Int) + 1) := by omega
      rw [if_pos hk1, if_pos hk1, Int.toNat_natCast]
      have hnew : ∀ x : Int, 0 ≤ x → x ≤ 1 → ∀ j : Nat, j < k + 1 → 0 ≤ zu d k x j ∧ zu d k x j ≤ 1 ∧ zu t k 0 j = 0 := fun x h1 h2 j hj => by
        rw [q_zu, q_zu]
        by_cases hjk : j = k
        · rw [if_pos hjk, if_pos hjk]; omega
        · rw [if_neg hjk, if_neg hjk]; exact hd j (by omega)
      by_cases hp : (k : Int) = (p : Int)
      · rw [if_pos hp, if_pos hp, if_pos hz, if_pos hz]
        exact ih (k + 1) _ _ (by omega) (by omega) (hnew 1 (by omega) (by omega))
      · rw [if_neg hp, if_neg hp, if_pos hz, if_pos hz]
        exact ih (k + 1) _ _ (by omega) (by omega) (hnew 0 (by omega) (by omega))
theorem l_day {o c od of : Nat → Int} (ho : ∀ j, 0 ≤ o j ∧ o j ≤ 1023) (hc : ∀ j, 0 ≤ c j ∧ c j ≤ 9) (hof : ∀ j, 1 ≤ of j ∧ of j ≤ 9) {m : Nat} (hm : m < 1024) (v5 v6 w3 w6 w7 : Int) : ∀ (n k : Nat) (lot : Int) (s : Nat) (t : Nat → Int), 10 - k < n → k ≤ 10 → s < 1024 → (∀ j : Nat, j < 10 → 0 ≤ t j ∧ t j ≤ 9) →
    ∃ lot2 t2, ∃ s2 : Nat, l_X7_goThrough_68 n m v5 v6 lot s k o c od of t = some (lot2, (s2 : Int), t2) ∧ l_X10_run_98 n w3 m w6 w7 lot s k o c od of t = some (lot2, (s2 : Int), t2) ∧ s2 < 1024 ∧ ∀ j : Nat, j < 10 → 0 ≤ t2 j ∧ t2 j ≤ 9 := by
  intro n
  induction n with
  | zero => intro k lot s t h; omega
  | succ n ih =>
    intro k lot s t hn hk hs ht
    rw [l_X7_goThrough_68, l_X10_run_98]
    by_cases h : k = 10
    · subst h
      rw [if_neg (by omega), if_neg (by omega)]
      exact ⟨lot, t, s, rfl, rfl, hs, ht⟩
    · have hk1 : (k : Int) < 10 := by omega
      have hz3 : zI ((k : Int) + 1) := by omega
      have hz1 : zin (k : Int) 10 := by omega
      have hz11 : zin (k : Int) 10 ∧ zin (k : Int) 10 := ⟨hz1, hz1⟩
      have h10 : ¬ (1 : Int) = 0 := by omega
      have h01 : ¬ (0 : Int) = 1 := by omega
      rw [if_pos hk1, if_pos hk1, Int.toNat_natCast, q_bit (m := m) (k := k) (by omega) (by omega)]
      by_cases hb : m.testBit k = true
      · rw [if_pos hb, if_neg h10, if_pos (rfl : (1 : Int) = 1), if_pos hz1, if_pos hz1]
        generalize zw (lot * 1103515245 + 12345) = lot1
        by_cases hl : Int.tmod (zushr lot1 16) 100 < od k
        · rw [if_pos hl, if_pos hl, if_pos hz11, if_pos hz11]
          by_cases hf : t k < of k
          · have htk := ht k (by omega)
            have hofk := hof k
            obtain ⟨x, x1, x2, x3⟩ := q_getters ho hc (p := k) (by omega)
            have hz5 : zin (k : Int) 10 ∧ zin (k : Int) 10 ∧ zI (t k + 1) := by omega
            obtain ⟨o1, o2⟩ := q_or (a := s) (b := x) (n := 10) (by omega) hs x3
            rw [if_pos hf, if_pos hf, if_pos hz5, if_pos hz5, x1, x2, q_bs, q_bs, if_pos hz3, if_pos hz3, o1]
            exact ih (k + 1) lot1 _ _ (by omega) (by omega) o2 (fun j hj => by
              rw [q_zu]
              by_cases hjk : j = k
              · rw [if_pos hjk]; omega
              · rw [if_neg hjk]; exact ht j hj)
          · rw [if_neg hf, if_neg hf, if_pos hz3, if_pos hz3]
            exact ih (k + 1) lot1 s t (by omega) (by omega) hs ht
        · rw [if_neg hl, if_neg hl, if_pos hz3, if_pos hz3]
          exact ih (k + 1) lot1 s t (by omega) (by omega) hs ht
      · rw [if_neg hb, if_pos (rfl : (0 : Int) = 0), if_neg h01, if_pos hz3, if_pos hz3]
        exact ih (k + 1) lot s t (by omega) (by omega) hs ht
theorem l_countDay {m : Nat} (hm : m < 1024) {D : Int} (hD : 0 ≤ D) (hD2 : D ≤ 100) (w3 w5 w6 w7 : Int) : ∀ (n k : Nat) (d : Nat → Int), 10 - k < n → k ≤ 10 → (∀ j : Nat, j < 10 → 0 ≤ d j ∧ d j ≤ D + 1 ∧ (k ≤ j → d j ≤ D)) →
    ∃ d2, l_X7_countDay_2 n m k d = some d2 ∧ l_X10_run_193 n w3 w5 w6 w7 m k d = some d2 ∧ ∀ j : Nat, j < 10 → 0 ≤ d2 j ∧ d2 j ≤ D + 1 := by
  intro n
  induction n with
  | zero => intro k d h; omega
  | succ n ih =>
    intro k d hn hk hd
    rw [l_X7_countDay_2, l_X10_run_193]
    by_cases h : k = 10
    · subst h
      rw [if_neg (by omega), if_neg (by omega)]
      exact ⟨d, rfl, rfl, fun j hj => ⟨(hd j hj).1, (hd j hj).2.1⟩⟩
    · have hk1 : (k : Int) < 10 := by omega
      have hz3 : zI ((k : Int) + 1) := by omega
      have hdk := hd k (by omega)
      have hdk2 := hdk.2.2 (Nat.le_refl k)
      obtain ⟨b, hb, hb0, hb1⟩ : ∃ b, zand (zshr (m : Int) (k : Int)) 1 = b ∧ 0 ≤ b ∧ b ≤ 1 := ⟨_, q_bit (m := m) (k := k) (by omega) (by omega), by split <;> omega, by split <;> omega⟩
      have hz : zin (k : Int) 10 ∧ zin (k : Int) 10 ∧ zI (d k + b) := by omega
      rw [if_pos hk1, if_pos hk1, Int.toNat_natCast, hb, if_pos hz, if_pos hz, if_pos hz3, if_pos hz3]
      exact ih (k + 1) _ (by omega) (by omega) (fun j hj => by
        rw [q_zu]
        by_cases hjk : j = k
        · rw [if_pos hjk]; omega
        · rw [if_neg hjk]
          have := hd j hj
          exact ⟨this.1, this.2.1, fun h => this.2.2 (by omega)⟩)
theorem l_days {o c od of : Nat → Int} (ho : ∀ j, 0 ≤ o j ∧ o j ≤ 1023) (hc : ∀ j, 0 ≤ c j ∧ c j ≤ 9) (hof : ∀ j, 1 ≤ of j ∧ of j ≤ 9) (p3 : Int) : ∀ (n k : Nat) (lot last : Int) (m : Nat) (d t : Nat → Int), 61 - k < n → 1 ≤ k → k ≤ 61 → m < 1024 → (∀ j : Nat, j < 10 → 0 ≤ d j ∧ d j ≤ k) → (∀ j : Nat, j < 10 → 0 ≤ t j ∧ t j ≤ 9) →
    ∃ last2 d2 t2, l_X7_goThrough_50 n lot m last k o c od of d t = some (last2, d2, t2) ∧ l_X10_run_80 n p3 m lot last k o c od of d t = some (last2, d2, t2) := by
  intro n
  induction n with
  | zero => intro k lot last m d t h; omega
  | succ n ih =>
    intro k lot last m d t hn hk hk2 hm hd ht
    rw [l_X7_goThrough_50, l_X10_run_80]
    by_cases h : k = 61
    · subst h
      have h60 : (60 : Int) < ((61 : Nat) : Int) := by omega
      rw [if_pos h60, if_pos h60]
      exact ⟨last, d, t, rfl, rfl⟩
    · have h60 : ¬ (60 : Int) < (k : Int) := by omega
      have hz3 : zI ((k : Int) + 1) := by omega
      rw [if_neg h60, if_neg h60]
      by_cases hm0 : (m : Int) = 0
      · rw [if_pos hm0, if_pos hm0]
        exact ⟨last, d, t, rfl, rfl⟩
      · obtain ⟨lot2, t2, s2, a1, a2, a3, a4⟩ := l_day ho hc hof (od := od) hm last k p3 last k zN 0 lot 0 t (by have := zN_big; omega) (by omega) (by omega) ht
        have a1 : l_X7_goThrough_68 zN m last k lot 0 0 o c od of t = some (lot2, (s2 : Int), t2) := a1
        have a2 : l_X10_run_98 zN p3 m last k lot 0 0 o c od of t = some (lot2, (s2 : Int), t2) := a2
        obtain ⟨d2, b1, b2, b3⟩ := l_countDay a3 (D := (k : Int)) (by omega) (by omega) p3 lot2 last k zN 0 d (by have := zN_big; omega) (by omega) (fun j hj => ⟨(hd j hj).1, by have := (hd j hj).2; omega, fun _ => (hd j hj).2⟩)
        have b1 : l_X7_countDay_2 zN s2 0 d = some d2 := b1
        have b2 : l_X10_run_193 zN p3 lot2 last k s2 0 d = some d2 := b2
        have c1 : f_X7_countDay s2 d = some d2 := by unfold f_X7_countDay; rw [b1]; rfl
        rw [if_neg hm0, if_neg hm0, a1, a2, q_bs, q_bs]
        dsimp only
        rw [c1, b2, q_bs, q_bs, q_bs]
        have hb4 : ∀ j : Nat, j < 10 → 0 ≤ d2 j ∧ d2 j ≤ ((k + 1 : Nat) : Int) := fun j hj => by have := b3 j hj; omega
        by_cases hs : (s2 : Int) = 0
        · rw [if_pos hs, if_pos hs, if_pos hz3, if_pos hz3]
          exact ih (k + 1) lot2 last s2 d2 t2 (by omega) (by omega) (by omega) a3 hb4 a4
        · rw [if_neg hs, if_neg hs, if_pos hz3, if_pos hz3]
          exact ih (k + 1) lot2 k s2 d2 t2 (by omega) (by omega) (by omega) a3 hb4 a4
theorem q_prun (p1 p2 p3 : Int) {o c od of : Nat → Int} (ho : ∀ j, 0 ≤ o j ∧ o j ≤ 1023) (hc : ∀ j, 0 ≤ c j ∧ c j ≤ 9) (hof : ∀ j, 1 ≤ of j ∧ of j ≤ 9) (d t : Nat → Int) : ∃ r d2 t2, f_X9_run p1 p2 p3 o c od of d t = some (r, d2, t2) ∧ f_X10_run p1 p2 p3 o c od of d t = some (r, d2, t2) := by
  unfold f_X9_run f_X10_run
  rw [(q_person p1).1, (q_person p1).2, q_bs, q_bs, q_in, q_bs]
  have h10 : ¬ (1 : Int) = 0 := by omega
  by_cases h1 : 0 ≤ p1 ∧ p1 ≤ 9
  · rw [if_pos h1, if_neg h10, if_neg h10]
    obtain ⟨p, rfl⟩ : ∃ p : Nat, p1 = p := ⟨p1.toNat, by omega⟩
    obtain ⟨d1, t1, a1, a2, a3⟩ := l_runInit (p := p) p2 p3 zN 0 d t (by have := zN_big; omega) (by omega) (fun j hj => by omega)
    have a1 : l_X7_goThrough_2 zN p p2 0 d t = some (d1, t1) := a1
    have a2 : l_X10_run_27 zN p p2 p3 0 d t = some (d1, t1) := a2
    have h2 : 2 ^ p < 2 ^ 10 := Nat.pow_lt_pow_right (by omega) (by omega)
    obtain ⟨last, d2, t2, b1, b2⟩ := l_days ho hc hof (od := od) p3 zN 1 p2 0 (2 ^ p) d1 t1 (by have := zN_big; omega) (by omega) (by omega) h2 (fun j hj => ⟨(a3 j hj).1, (a3 j hj).2.1⟩) (fun j hj => by have := a3 j hj; omega)
    rw [← q_one (k := p) (by omega)] at b1 b2
    have b1 : l_X7_goThrough_50 zN p2 (zshl 1 p) 0 1 o c od of d1 t1 = some (last, d2, t2) := b1
    have b2 : l_X10_run_80 zN p3 (zshl 1 p) p2 0 1 o c od of d1 t1 = some (last, d2, t2) := b2
    have c1 : f_X7_goThrough p p2 o c od of d t = some (last, d2, t2) := by
      unfold f_X7_goThrough
      rw [a1, q_bs]
      dsimp only
      rw [b1]
      rfl
    by_cases h3 : -1 ≤ p3 ∧ p3 ≤ 9
    · rw [if_pos h3, if_neg h10, a2, q_bs]
      dsimp only
      rw [b2, q_bs]
      dsimp only
      by_cases h4 : p3 = -1
      · rw [if_pos h4, if_pos h4, c1, q_bs, if_pos h4]
        exact ⟨_, _, _, rfl, rfl⟩
      · have h5 : 0 ≤ p3 ∧ p3 ≤ 9 := by omega
        have h6 : zin p3 10 := by omega
        rw [if_neg h4, if_neg h4, (q_person p3).1, q_bs, if_pos h5, if_neg h10, c1, q_bs, if_neg h4]
        unfold f_X7_daysOf
        rw [if_pos h6, if_pos h6, q_bs]
        exact ⟨_, _, _, rfl, rfl⟩
    · have h4 : ¬ p3 = -1 := by omega
      have h5 : ¬ (0 ≤ p3 ∧ p3 ≤ 9) := by omega
      rw [if_neg h3, if_pos (rfl : (0 : Int) = 0), if_neg h4, (q_person p3).1, q_bs, if_neg h5, if_pos (rfl : (0 : Int) = 0)]
      exact ⟨_, _, _, rfl, rfl⟩
  · rw [if_neg h1, if_pos (rfl : (0 : Int) = 0), if_pos (rfl : (0 : Int) = 0)]
    exact ⟨_, _, _, rfl, rfl⟩
