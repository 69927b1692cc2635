/-! ===== names: worn ===== -/
def qsq (len dig : Nat → Int) (a o : Nat) : Int := qsl len dig a o * qsl len dig a o
theorem qsq_b {len dig : Nat → Int} (hl : ∀ j, 0 ≤ len j ∧ len j ≤ 6) (a o : Nat) : 0 ≤ qsq len dig a o ∧ qsq len dig a o ≤ 144 := by
  have h := qsl_b (dig := dig) hl a o
  exact ⟨Int.mul_nonneg h.1 h.1, Int.mul_le_mul h.2 h.2 h.1 (by omega)⟩
section ZWORN
variable {c : Nat} {len dig slip : Nat → Int}
theorem q_wstep (h : qnm c len dig slip) {a o : Nat} (ha : a < c) (ho : o < c) : f_X5_weightOfStep a o slip = some (16 * qsq len dig a o + 1) := by
  obtain ⟨h0, h10, hl, hd, hs⟩ := h
  have hb := qsq_b (dig := dig) hl a o
  have g1 : zin ((a : Int) * 10 + (o : Int)) 100 := by omega
  have e : ((a : Int) * 10 + (o : Int)).toNat = 10 * a + o := by omega
  unfold f_X5_weightOfStep
  rw [e, hs a o (by omega) (by omega), if_pos g1]
  have e2 : qsl len dig a o * qsl len dig a o * 16 + 1 = 16 * qsq len dig a o + 1 := by unfold qsq; omega
  rw [e2, if_pos (by clear e e2; omega)]
theorem q_rstep (hl : ∀ j, 0 ≤ len j ∧ len j ≤ 6) {a o : Nat} (ha : a < 10) (ho : o < 10) (t : Nat → Int) : ∃ t2, f_X10_step a o len dig t = some (100 * qsq len dig a o + 1, t2) := by
  obtain ⟨t2, e⟩ := q_slipsOf (dig := dig) hl ha ho t
  have hb := qsq_b (dig := dig) hl a o
  unfold f_X10_step
  rw [e, q_bs]
  dsimp only
  rw [Int.mul_assoc]
  have e2 : qsl len dig a o * qsl len dig a o = qsq len dig a o := rfl
  rw [e2, if_pos (by omega)]
  exact ⟨t2, rfl⟩
/-! the class's rounds -/
theorem l_w2 (h : qnm c len dig slip) {b : Nat} (hb : b < c) : ∀ (n k : Nat) (w : Nat → Int), c - k < n → k ≤ c → (∀ j : Nat, j < k → w j = if j = b then 0 else 16 * qsq len dig j b + 1) → ∃ w2, l_X5_weighTo_2 n b k c slip w = some w2 ∧ ∀ j : Nat, j < c → w2 j = if j = b then 0 else 16 * qsq len dig j b + 1 := by
  have hc : (c : Int) ≤ 10 := h.2.1
  intro n
  induction n with
  | zero => intro k w h; omega
  | succ n ih =>
    intro k w hn hk hw
    rw [l_X5_weighTo_2]
    by_cases hkc : k = c
    · subst hkc
      rw [if_neg (by omega)]
      exact ⟨w, rfl, hw⟩
    · have g : zin (k : Int) 10 ∧ zI ((k : Int) + 1) := by omega
      rw [if_pos (by omega), Int.toNat_natCast]
      have hnew : ∀ x : Int, x = (if k = b then 0 else 16 * qsq len dig k b + 1) → ∀ j : Nat, j < k + 1 → zu w k x j = if j = b then 0 else 16 * qsq len dig j b + 1 := fun x hx j hj => by
        rw [q_zu]
        by_cases hjk : j = k
        · rw [if_pos hjk, hjk]; exact hx
        · rw [if_neg hjk]; exact hw j (by omega)
      by_cases hkb : k = b
      · rw [if_pos (by omega), if_pos g]
        exact ih (k + 1) _ (by omega) (by omega) (hnew 0 (by rw [if_pos hkb]))
      · rw [if_neg (by omega), q_wstep h (by omega) hb, q_bs, if_pos g]
        exact ih (k + 1) _ (by omega) (by omega) (hnew _ (by rw [if_neg hkb]))
theorem l_w60 (h : qnm c len dig slip) {b : Nat} {f : Nat → Int} (hf : qds c b (fun a o => 16 * qsq len dig a o + 1) f) (v2 : Int) {a : Nat} (ha : a < c) {w0 : Nat → Int} (hw0 : ∀ j : Nat, j < c → f j ≤ w0 j ∧ w0 j ≤ 1000000) : ∀ (n k : Nat) (w : Nat → Int), c - k < n → k ≤ c → (∀ j, j ≠ a → w j = w0 j) → w a ≤ w0 a → f a ≤ w a → (∀ o, o < k → w a ≤ 16 * qsq len dig a o + 1 + w0 o) →
    ∃ w2, l_X5_weighTo_60 n v2 a k c slip w = some w2 ∧ (∀ j, j ≠ a → w2 j = w0 j) ∧ w2 a ≤ w0 a ∧ f a ≤ w2 a ∧ ∀ o, o < c → w2 a ≤ 16 * qsq len dig a o + 1 + w0 o := by
  have hc : (c : Int) ≤ 10 := h.2.1
  intro n
  induction n with
  | zero => intro k w h; omega
  | succ n ih =>
    intro k w hn hk h1 h2 h3 h4
    rw [l_X5_weighTo_60]
    by_cases hkc : k = c
    · subst hkc
      rw [if_neg (by omega)]
      exact ⟨w, rfl, h1, h2, h3, h4⟩
    · have hb := qsq_b (dig := dig) h.2.2.1 a k
      have hk0 := hw0 k (by omega)
      have ha0 := hw0 a ha
      have hfk := hf.1 k (by omega)
      have hfa := hf.1 a ha
      have hwk : f k ≤ w k ∧ w k ≤ 1000000 ∧ w k ≤ w0 k := by
        by_cases hka : k = a
        · rw [hka]; omega
        · rw [h1 k hka]; omega
      have hcand := hf.2.2.2 a k ha (by omega)
      dsimp only at hcand
      have g1 : zin (a : Int) 10 := by omega
      have g2 : zin (k : Int) 10 ∧ zI (16 * qsq len dig a k + 1 + w k) ∧ zin (a : Int) 10 ∧ zI ((k : Int) + 1) := by omega
      rw [if_pos (by omega), if_pos g1, q_wstep h ha (by omega), q_bs, Int.toNat_natCast, Int.toNat_natCast, if_pos g2]
      refine ih (k + 1) _ (by omega) (by omega) (fun j hj => ?_) ?_ ?_ (fun o ho => ?_)
      · rw [q_zu, if_neg hj]; exact h1 j hj
      · rw [q_zu, if_pos rfl]; omega
      · rw [q_zu, if_pos rfl]; omega
      · rw [q_zu, if_pos rfl]
        by_cases hok : o = k
        · subst hok; omega
        · have := h4 o (by omega); omega
theorem l_w49 (h : qnm c len dig slip) {b : Nat} {f : Nat → Int} (hf : qds c b (fun a o => 16 * qsq len dig a o + 1) f) (v2 : Int) {d : Nat → Int} (hd : ∀ j : Nat, j < c → d j ≤ 1000000) : ∀ (n k : Nat) (w : Nat → Int), c - k < n → k ≤ c → (∀ j : Nat, j < c → f j ≤ w j ∧ w j ≤ d j) → (∀ a o, a < k → o < c → w a ≤ 16 * qsq len dig a o + 1 + d o) →
    ∃ w2, l_X5_weighTo_49 n v2 k c slip w = some w2 ∧ (∀ j : Nat, j < c → f j ≤ w2 j ∧ w2 j ≤ d j) ∧ ∀ a o, a < c → o < c → w2 a ≤ 16 * qsq len dig a o + 1 + d o := by
  have hc : (c : Int) ≤ 10 := h.2.1
  intro n
  induction n with
  | zero => intro k w h; omega
  | succ n ih =>
    intro k w hn hk h1 h2
    rw [l_X5_weighTo_49]
    by_cases hkc : k = c
    · subst hkc
      rw [if_neg (by omega)]
      exact ⟨w, rfl, h1, h2⟩
    · obtain ⟨w2, e, a1, a2, a3, a4⟩ := l_w60 h hf v2 (a := k) (by omega) (w0 := w) (fun j hj => by have := h1 j hj; have := hd j hj; omega) zN 0 w (by have := zN_big; omega) (by omega) (fun _ _ => rfl) (by omega) (h1 k (by omega)).1 (fun o ho => by omega)
      have e : l_X5_weighTo_60 zN v2 k 0 c slip w = some w2 := e
      rw [if_pos (by omega), e, q_bs, if_pos (by omega)]
      refine ih (k + 1) w2 (by omega) (by omega) (fun j hj => ?_) (fun a o ha ho => ?_)
      · by_cases hjk : j = k
        · subst hjk; have := h1 j hj; omega
        · rw [a1 j hjk]; exact h1 j hj
      · by_cases hak : a = k
        · subst hak
          have := a4 o ho
          have := (h1 o ho).2
          omega
        · rw [a1 a hak]; exact h2 a o (by omega) ho
theorem l_w39 (h : qnm c len dig slip) {b : Nat} (hb : b < c) {f : Nat → Int} (hf : qds c b (fun a o => 16 * qsq len dig a o + 1) f) : ∀ (n t : Nat) (w : Nat → Int), c - t < n → t ≤ c → (∀ j : Nat, j < c → w j ≤ 1000000) → w b = 0 → qfn c f w t → ∃ w2, l_X5_weighTo_39 n t c slip w = some w2 ∧ ∀ j, j < c → w2 j = f j := by
  have hc : (c : Int) ≤ 10 := h.2.1
  intro n
  induction n with
  | zero => intro k w h; omega
  | succ n ih =>
    intro t w hn ht h1 h2 h3
    rw [l_X5_weighTo_39]
    by_cases htc : t = c
    · subst htc
      rw [if_neg (by omega)]
      exact ⟨w, rfl, fun j hj => qfn_end h3 hj⟩
    · obtain ⟨w2, e, a1, a2⟩ := l_w49 h hf t (d := w) h1 zN 0 w (by have := zN_big; omega) (by omega) (fun j hj => ⟨h3.1 j hj, by omega⟩) (fun a o ha _ => by omega)
      have e : l_X5_weighTo_49 zN t 0 c slip w = some w2 := e
      rw [if_pos (by omega), e, q_bs, if_pos (by omega)]
      refine ih (t + 1) w2 (by omega) (by omega) (fun j hj => by have := a1 j hj; have := h1 j hj; omega) ?_ (q_round2 (fun a o => by have := (qsq_b (dig := dig) h.2.2.1 a o).1; omega) hf h2 h3 (fun a ha => ⟨(a1 a ha).2, fun o ho => a2 a o ha ho⟩) (fun a ha => (a1 a ha).1))
      have x1 := a1 b hb
      have x2 := hf.2.1
      omega
theorem q_weighTo (h : qnm c len dig slip) {b : Nat} (hb : b < c) {f : Nat → Int} (hf : qds c b (fun a o => 16 * qsq len dig a o + 1) f) (w : Nat → Int) : ∃ w2, f_X5_weighTo b c slip w = some w2 ∧ ∀ j, j < c → w2 j = f j := by
  obtain ⟨w1, a1, a2⟩ := l_w2 h hb zN 0 w (by have := zN_big; have := h.2.1; omega) (by omega) (fun j hj => by omega)
  have a1 : l_X5_weighTo_2 zN b 0 c slip w = some w1 := a1
  have hw1b : w1 b = 0 := by rw [a2 b hb, if_pos rfl]
  obtain ⟨w2, b1, b2⟩ := l_w39 h hb hf zN 0 w1 (by have := zN_big; have := h.2.1; omega) (by omega) (fun j hj => by
      rw [a2 j hj]
      have := qsq_b (dig := dig) h.2.2.1 j b
      split <;> omega) hw1b ⟨fun a ha => by
      rw [a2 a ha]
      by_cases hab : a = b
      · rw [if_pos hab, hab, hf.2.1]; omega
      · rw [if_neg hab]
        have := hf.2.2.2 a b ha hb
        have := hf.2.1
        dsimp only at *
        omega, Or.inr (qct_pos (i := b) (decide_eq_true (by rw [hw1b, hf.2.1])) c hb)⟩
  have b1 : l_X5_weighTo_39 zN 0 c slip w1 = some w2 := b1
  unfold f_X5_weighTo
  rw [a1, q_bs, b1]
  exact ⟨w2, rfl, b2⟩
/-! the reference's rounds -/
theorem l_r27 (hc : c ≤ 10) {b : Nat} (v1 v3 : Int) : ∀ (n k : Nat) (w : Nat → Int), c - k < n → k ≤ c → (∀ j : Nat, j < k → w j = if j = b then 0 else 1000000) → ∃ w2, l_X10_worn_27 n v1 b v3 k c w = some w2 ∧ ∀ j : Nat, j < c → w2 j = if j = b then 0 else 1000000 := by
  intro n
  induction n with
  | zero => intro k w h; omega
  | succ n ih =>
    intro k w hn hk hw
    rw [l_X10_worn_27]
    by_cases hkc : k = c
    · subst hkc
      rw [if_neg (by omega)]
      exact ⟨w, rfl, hw⟩
    · have g : zin (k : Int) 10 ∧ zI ((k : Int) + 1) := by omega
      rw [if_pos (by omega), Int.toNat_natCast]
      have hnew : ∀ x : Int, x = (if k = b then 0 else 1000000) → ∀ j : Nat, j < k + 1 → zu w k x j = if j = b then 0 else 1000000 := fun x hx j hj => by
        rw [q_zu]
        by_cases hjk : j = k
        · rw [if_pos hjk, hjk]; exact hx
        · rw [if_neg hjk]; exact hw j (by omega)
      by_cases hkb : k = b
      · rw [if_pos (by omega), if_pos g]
        exact ih (k + 1) _ (by omega) (by omega) (hnew 0 (by rw [if_pos hkb]))
      · rw [if_neg (by omega), if_pos g]
        exact ih (k + 1) _ (by omega) (by omega) (hnew _ (by rw [if_neg hkb]))
theorem l_r88 (hc : c ≤ 10) (hl : ∀ j, 0 ≤ len j ∧ len j ≤ 6) {b : Nat} {f : Nat → Int} (hf : qds c b (fun a o => 100 * qsq len dig a o + 1) f) (v1 v2 v3 v4 : Int) {a : Nat} (ha : a < c) {w0 : Nat → Int} (hw0 : ∀ j : Nat, j < c → f j ≤ w0 j ∧ w0 j ≤ 1000000) : ∀ (n k : Nat) (t w : Nat → Int), c - k < n → k ≤ c → (∀ j, j ≠ a → w j = w0 j) → w a ≤ w0 a → f a ≤ w a → (∀ o, o < k → w a ≤ 100 * qsq len dig a o + 1 + w0 o) →
    ∃ t2 w2, l_X10_worn_88 n v1 v2 v3 v4 a k c len dig t w = some (t2, w2) ∧ (∀ j, j ≠ a → w2 j = w0 j) ∧ w2 a ≤ w0 a ∧ f a ≤ w2 a ∧ ∀ o, o < c → w2 a ≤ 100 * qsq len dig a o + 1 + w0 o := by
  intro n
  induction n with
  | zero => intro k t w h; omega
  | succ n ih =>
    intro k t w hn hk h1 h2 h3 h4
    rw [l_X10_worn_88]
    by_cases hkc : k = c
    · subst hkc
      rw [if_neg (by omega)]
      exact ⟨t, w, rfl, h1, h2, h3, h4⟩
    · have hb := qsq_b (dig := dig) hl a k
      have hk0 := hw0 k (by omega)
      have ha0 := hw0 a ha
      have hfk := hf.1 k (by omega)
      have hfa := hf.1 a ha
      have g1 : zin (a : Int) 10 := by omega
      have g2 : zin (a : Int) 10 ∧ zI ((k : Int) + 1) := by omega
      rw [if_pos (by omega), Int.toNat_natCast, Int.toNat_natCast]
      by_cases hka : k = a
      · subst hka
        rw [if_pos rfl, if_pos g1, if_neg (by omega), if_pos g1, if_pos g2]
        refine ih (k + 1) t _ (by omega) (by omega) (fun j hj => ?_) ?_ ?_ (fun o ho => ?_)
        · rw [q_zu, if_neg hj]; exact h1 j hj
        · rw [q_zu, if_pos rfl]; exact h2
        · rw [q_zu, if_pos rfl]; exact h3
        · rw [q_zu, if_pos rfl]
          by_cases hok : o = k
          · subst hok; omega
          · exact h4 o (by omega)
      · have hwk : w k = w0 k := h1 k hka
        have hcand := hf.2.2.2 a k ha (by omega)
        dsimp only at hcand
        obtain ⟨t2, e⟩ := q_rstep (dig := dig) hl (a := a) (o := k) (by omega) (by omega) t
        have g3 : zI (w k + (100 * qsq len dig a k + 1)) ∧ zin (a : Int) 10 := by omega
        have g4 : zin (k : Int) 10 := by omega
        rw [if_neg (by omega), if_pos g4, e, q_bs]
        dsimp only
        rw [if_pos g3]
        by_cases hlt : w k + (100 * qsq len dig a k + 1) < w a
        · rw [if_pos hlt, if_pos g2]
          refine ih (k + 1) t2 _ (by omega) (by omega) (fun j hj => ?_) ?_ ?_ (fun o ho => ?_)
          · rw [q_zu, if_neg hj]; exact h1 j hj
          · rw [q_zu, if_pos rfl]; omega
          · rw [q_zu, if_pos rfl]; omega
          · rw [q_zu, if_pos rfl]
            by_cases hok : o = k
            · subst hok; omega
            · have := h4 o (by omega); omega
        · rw [if_neg hlt, if_pos g1, if_pos g2]
          refine ih (k + 1) t2 _ (by omega) (by omega) (fun j hj => ?_) ?_ ?_ (fun o ho => ?_)
          · rw [q_zu, if_neg hj]; exact h1 j hj
          · rw [q_zu, if_pos rfl]; exact h2
          · rw [q_zu, if_pos rfl]; exact h3
          · rw [q_zu, if_pos rfl]
            by_cases hok : o = k
            · subst hok; omega
            · exact h4 o (by omega)
theorem l_r76 (hc : c ≤ 10) (hl : ∀ j, 0 ≤ len j ∧ len j ≤ 6) {b : Nat} {f : Nat → Int} (hf : qds c b (fun a o => 100 * qsq len dig a o + 1) f) (v1 v2 v3 v4 : Int) {d : Nat → Int} (hd : ∀ j : Nat, j < c → d j ≤ 1000000) : ∀ (n k : Nat) (t w : Nat → Int), c - k < n → k ≤ c → (∀ j : Nat, j < c → f j ≤ w j ∧ w j ≤ d j) → (∀ a o, a < k → o < c → w a ≤ 100 * qsq len dig a o + 1 + d o) →
    ∃ t2 w2, l_X10_worn_76 n v1 v2 v3 v4 k c len dig t w = some (t2, w2) ∧ (∀ j : Nat, j < c → f j ≤ w2 j ∧ w2 j ≤ d j) ∧ ∀ a o, a < c → o < c → w2 a ≤ 100 * qsq len dig a o + 1 + d o := by
  intro n
  induction n with
  | zero => intro k t w h; omega
  | succ n ih =>
    intro k t w hn hk h1 h2
    rw [l_X10_worn_76]
    by_cases hkc : k = c
    · subst hkc
      rw [if_neg (by omega)]
      exact ⟨t, w, rfl, h1, h2⟩
    · obtain ⟨t2, w2, e, a1, a2, a3, a4⟩ := l_r88 hc hl hf v1 v2 v3 v4 (a := k) (by omega) (w0 := w) (fun j hj => by have := h1 j hj; have := hd j hj; omega) zN 0 t w (by have := zN_big; omega) (by omega) (fun _ _ => rfl) (by omega) (h1 k (by omega)).1 (fun o ho => by omega)
      have e : l_X10_worn_88 zN v1 v2 v3 v4 k 0 c len dig t w = some (t2, w2) := e
      rw [if_pos (by omega), e, q_bs, if_pos (by omega)]
      refine ih (k + 1) t2 w2 (by omega) (by omega) (fun j hj => ?_) (fun a o ha ho => ?_)
      · by_cases hjk : j = k
        · subst hjk; have := h1 j hj; omega
        · rw [a1 j hjk]; exact h1 j hj
      · by_cases hak : a = k
        · subst hak
          have := a4 o ho
          have := (h1 o ho).2
          omega
        · rw [a1 a hak]; exact h2 a o (by omega) ho
theorem l_r64 (hc : c ≤ 10) (hl : ∀ j, 0 ≤ len j ∧ len j ≤ 6) {b : Nat} (hb : b < c) {f : Nat → Int} (hf : qds c b (fun a o => 100 * qsq len dig a o + 1) f) (v1 v2 v3 : Int) : ∀ (n t : Nat) (tb w : Nat → Int), c - t < n → t ≤ c → (∀ j : Nat, j < c → w j ≤ 1000000) → w b = 0 → qfn c f w t → ∃ t2 w2, l_X10_worn_64 n v1 v2 v3 t c len dig tb w = some (t2, w2) ∧ ∀ j, j < c → w2 j = f j := by
  intro n
  induction n with
  | zero => intro k tb w h; omega
  | succ n ih =>
    intro t tb w hn ht h1 h2 h3
    rw [l_X10_worn_64]
    by_cases htc : t = c
    · subst htc
      rw [if_neg (by omega)]
      exact ⟨tb, w, rfl, fun j hj => qfn_end h3 hj⟩
    · obtain ⟨t2, w2, e, a1, a2⟩ := l_r76 hc hl hf v1 v2 v3 t (d := w) h1 zN 0 tb w (by have := zN_big; omega) (by omega) (fun j hj => ⟨h3.1 j hj, by omega⟩) (fun a o ha _ => by omega)
      have e : l_X10_worn_76 zN v1 v2 v3 t 0 c len dig tb w = some (t2, w2) := e
      rw [if_pos (by omega), e, q_bs, if_pos (by omega)]
      refine ih (t + 1) t2 w2 (by omega) (by omega) (fun j hj => by have := a1 j hj; have := h1 j hj; omega) ?_ (q_round2 (fun a o => by have := (qsq_b (dig := dig) hl a o).1; omega) hf h2 h3 (fun a ha => ⟨(a1 a ha).2, fun o ho => a2 a o ha ho⟩) (fun a ha => (a1 a ha).1))
      have x1 := a1 b hb
      have x2 := hf.2.1
      omega
end ZWORN
