/-! ===== trees: prices ===== -/
def qcd (c : Nat) (F C K : Nat → Int) : Prop := ∀ l o k : Nat, l < c → o < c → k ≤ 8 → K ((8 * l + o) * 9 + k) = qcp F C l o k
theorem q_tn {x : Int} {n : Nat} (h : x = n) : x.toNat = n := by omega
section ZPR
variable {F C : Nat → Int}
theorem l_first (l : Nat) (hl : l < 8) : ∀ (n k : Nat), 8 - k < n → k ≤ 8 → l_X4_priceFirst_4 n l (qthere F l k) k F = some (qthere F l 8) ∧ l_X10_priceOf_9 n l (qthere F l k) k F = some (qthere F l 8) := by
  intro n
  induction n with
  | zero => intro k h; omega
  | succ n ih =>
    intro k hn hk
    rw [l_X4_priceFirst_4, l_X10_priceOf_9]
    by_cases h : k = 8
    · subst h
      rw [if_neg (by omega), if_neg (by omega)]
      exact ⟨rfl, rfl⟩
    · have hb := qthere_b F l k
      have h2 := ih (k + 1) (by omega) (by omega)
      have e : qthere F l (k + 1) = qthere F l k + if F (8 * l + k) = -1 then 0 else 1 := rfl
      have g1 : zin ((l : Int) * 8 + (k : Int)) 64 := by omega
      have g2 : zin (8 * (l : Int) + (k : Int)) 64 := by omega
      have g3 : zI (qthere F l k + 0) ∧ zI ((k : Int) + 1) := by omega
      have g4 : zI (qthere F l k + 1) ∧ zI ((k : Int) + 1) := by omega
      rw [e] at h2
      rw [if_pos (show (k : Int) < 8 by omega), if_pos (show (k : Int) < 8 by omega), if_pos g1, if_pos g2, q_tn (show (l : Int) * 8 + (k : Int) = ((8 * l + k : Nat) : Int) by omega), q_tn (show 8 * (l : Int) + (k : Int) = ((8 * l + k : Nat) : Int) by omega)]
      by_cases hf : F (8 * l + k) = -1
      · rw [if_pos hf] at h2
        rw [if_pos hf, if_pos hf, if_pos g4.2, if_pos g3]
        rw [Int.add_zero] at h2 ⊢
        exact h2
      · rw [if_neg hf] at h2
        rw [if_neg hf, if_neg hf, if_pos g4.1, if_pos g4.2, if_pos g4]
        exact h2
theorem q_priceFirst (hC : ∀ j, 0 ≤ C j ∧ C j ≤ 9) {l : Nat} (hl : l < 8) : f_X4_priceFirst l F C = some (qpr F C l 0) := by
  have h := (l_first (F := F) l hl zN 0 (by have := zN_big; omega) (by omega)).1
  have h : l_X4_priceFirst_4 zN l 0 0 F = some (qthere F l 8) := h
  have hb := qpr_b hC F l 0
  have e : qpr F C l 0 = qthere F l 8 * C 3 := rfl
  rw [e] at hb ⊢
  unfold f_X4_priceFirst
  rw [h, q_bs]
  have h3 : C (Int.toNat 3) = C 3 := rfl
  rw [h3, if_pos (by omega)]
theorem q_priceJoined (hC : ∀ j, 0 ≤ C j ∧ C j ≤ 9) {c : Nat} (hc : c ≤ 8) {K : Nat → Int} (hK : qcd c F C K) {l x y k : Nat} (hl : l < c) (hx : x < c) (hy : y < c) (hk : k < 8) : f_X4_priceJoined l x y k C K = some (C 4 + qcp F C l x k + (qcp F C l y 8 - qcp F C l y k)) := by
  have b1 := qcp_b hC F l x k
  have b2 := qcp_b hC F l y 8
  have b3 := qcp_b hC F l y k
  have b4 := hC 4
  have k1 := hK l x k hl hx (by omega)
  have k2 := hK l y 8 hl hy (by omega)
  have k3 := hK l y k hl hy (by omega)
  have h4 : C (Int.toNat 4) = C 4 := rfl
  have g1 : zI (((l : Int) * 8 + (x : Int)) * 9) ∧ zI (((l : Int) * 8 + (y : Int)) * 9) := by omega
  have g2 : zin (((l : Int) * 8 + (x : Int)) * 9 + (k : Int)) 576 ∧ zin (((l : Int) * 8 + (y : Int)) * 9 + 8) 576 ∧ zin (((l : Int) * 8 + (y : Int)) * 9 + (k : Int)) 576 := by omega
  have t1 : (((l : Int) * 8 + (x : Int)) * 9 + (k : Int)).toNat = (8 * l + x) * 9 + k := q_tn (by omega)
  have t2 : (((l : Int) * 8 + (y : Int)) * 9 + 8).toNat = (8 * l + y) * 9 + 8 := q_tn (by omega)
  have t3 : (((l : Int) * 8 + (y : Int)) * 9 + (k : Int)).toNat = (8 * l + y) * 9 + k := q_tn (by omega)
  unfold f_X4_priceJoined
  rw [t1, t2, t3, k1, k2, k3, h4, if_pos g1]
  clear t1 t2 t3 k1 k2 k3
  rw [if_pos ⟨g2.1, g2.2.1, g2.2.2, by omega⟩]
  congr 1
  omega
theorem q_priceCopied {c : Nat} (hc : c ≤ 8) {K : Nat → Int} (hK : qcd c F C K) {l x : Nat} (hl : l < c) (hx : x < c) : f_X4_priceCopied l x K = some (qcp F C l x 8) := by
  have k2 := hK l x 8 hl hx (by omega)
  unfold f_X4_priceCopied
  rw [q_tn (show ((l : Int) * 8 + (x : Int)) * 9 + 8 = (((8 * l + x) * 9 + 8 : Nat) : Int) by omega), k2, if_pos (by omega)]
theorem q_priceOf (hC : ∀ j, 0 ≤ C j ∧ C j ≤ 9) {c : Nat} (hc : c ≤ 8) {K : Nat → Int} (hK : qcd c F C K) {l w : Nat} (hl : l < c) (hw : qvw c l w) : f_X4_priceOf l w F C K = some (qpr F C l w) := by
  unfold f_X4_priceOf
  rcases hw with h | h | h
  · subst h
    rw [if_pos (show ((0 : Nat) : Int) = 0 from rfl), q_priceFirst hC (by omega), q_bs]
  · have e1 : (w : Int) - 1 = ((w - 1 : Nat) : Int) := by omega
    rw [if_neg (show ¬ (w : Int) = 0 by omega), if_neg (show ¬ (8 : Int) < (w : Int) by omega), if_pos (show zI ((w : Int) - 1) by omega), e1, q_priceCopied hc hK hl h.2.2.1, q_bs]
    unfold qpr
    rw [if_neg (show ¬ w = 0 by omega), if_pos (show w < 20 by omega)]
  · rw [if_neg (show ¬ (w : Int) = 0 by omega), if_pos (show (8 : Int) < (w : Int) by omega), q_w0 (by omega), q_w6 (by omega) (by omega), q_w3 (by omega) (by omega), q_priceJoined hC hc hK hl (by omega) (by omega) (by omega), q_bs]
    unfold qpr
    rw [if_neg (show ¬ w = 0 by omega), if_neg (show ¬ w < 20 by omega)]
/-! the reference -/
theorem l_copied (hC : ∀ j, 0 ≤ C j ∧ C j ≤ 9) {l o hi : Nat} (hl : l < 8) (ho : o < 8) (hh : hi ≤ 8) (lo : Nat) : ∀ (n k : Nat), 8 - k < n → lo ≤ k → k ≤ hi → l_X10_copied_6 n l o hi (qcp F C l o k - qcp F C l o lo) k F C = some (qcp F C l o hi - qcp F C l o lo) := by
  intro n
  induction n with
  | zero => intro k h; omega
  | succ n ih =>
    intro k hn hk hk2
    rw [l_X10_copied_6]
    by_cases h : k = hi
    · subst h
      rw [if_neg (by omega)]
    · have h2 := ih (k + 1) (by omega) (by omega) (by omega)
      have e : qcp F C l o (k + 1) = qcp F C l o k + qcs F C l o k := rfl
      have b0 := qcs_b hC F l o k
      obtain ⟨d, hd⟩ : ∃ d, lo + d = k := ⟨k - lo, by omega⟩
      have b1 := qcp_mono hC F l o lo d
      rw [hd] at b1
      have e0 : C (Int.toNat 0) = C 0 := rfl
      have e1 : C (Int.toNat 1) = C 1 := rfl
      have e2 : C (Int.toNat 2) = C 2 := rfl
      have g1 : zin (8 * (l : Int) + (k : Int)) 64 := by omega
      have g2 : zin (8 * (o : Int) + (k : Int)) 64 := by omega
      rw [e] at h2
      have e3 : qcp F C l o k + qcs F C l o k - qcp F C l o lo = qcp F C l o k - qcp F C l o lo + qcs F C l o k := by omega
      rw [e3] at h2
      have g3 : zI (qcp F C l o k - qcp F C l o lo + qcs F C l o k) ∧ zI ((k : Int) + 1) := by omega
      rw [if_pos (by omega), if_pos g1, if_pos g2, q_tn (show 8 * (l : Int) + (k : Int) = ((8 * l + k : Nat) : Int) by omega), q_tn (show 8 * (o : Int) + (k : Int) = ((8 * o + k : Nat) : Int) by omega), e0, e1, e2]
      unfold qcs at h2 g3
      by_cases h3 : F (8 * l + k) = F (8 * o + k)
      · rw [if_pos h3] at h2 g3 ⊢
        rw [if_pos g3]
        exact h2
      · rw [if_neg h3] at h2 g3 ⊢
        by_cases h4 : F (8 * l + k) = -1
        · rw [if_pos h4] at h2 g3 ⊢
          rw [if_pos g3]
          exact h2
        · rw [if_neg h4] at h2 g3 ⊢
          by_cases h5 : F (8 * o + k) = -1
          · rw [if_pos h5] at h2 g3 ⊢
            rw [if_pos g3]
            exact h2
          · rw [if_neg h5] at h2 g3 ⊢
            rw [if_pos g3]
            exact h2
theorem q_copied (hC : ∀ j, 0 ≤ C j ∧ C j ≤ 9) {l o lo hi : Nat} (hl : l < 8) (ho : o < 8) (hh : hi ≤ 8) (hlo : lo ≤ hi) : f_X10_copied l o lo hi F C = some (qcp F C l o hi - qcp F C l o lo) := by
  have h := l_copied (F := F) hC hl ho hh lo zN lo (by have := zN_big; omega) (Nat.le_refl _) hlo
  rw [Int.sub_self] at h
  unfold f_X10_copied
  rw [h, q_bs]
theorem q_priceOfR (hC : ∀ j, 0 ≤ C j ∧ C j ≤ 9) {c : Nat} (hc : c ≤ 8) {l w : Nat} (hl : l < c) (hw : qvw c l w) : f_X10_priceOf l w F C = some (qpr F C l w) := by
  have hb := qpr_b hC F l w
  unfold f_X10_priceOf
  rcases hw with h | h | h
  · subst h
    have h1 := (l_first (F := F) l (by omega) zN 0 (by have := zN_big; omega) (by omega)).2
    have h1 : l_X10_priceOf_9 zN l 0 0 F = some (qthere F l 8) := h1
    have e : qpr F C l 0 = qthere F l 8 * C 3 := rfl
    have h3 : C (Int.toNat 3) = C 3 := rfl
    rw [e] at hb ⊢
    rw [if_pos (show ((0 : Nat) : Int) = 0 from rfl), h1, q_bs, h3, if_pos (by omega)]
  · have e1 : (w : Int) - 1 = ((w - 1 : Nat) : Int) := by omega
    have hq := q_copied (F := F) hC (l := l) (o := w - 1) (lo := 0) (hi := 8) (by omega) (by omega) (by omega) (by omega)
    have hz : qcp F C l (w - 1) 0 = 0 := rfl
    rw [hz, Int.sub_zero] at hq
    have hq : f_X10_copied l ((w - 1 : Nat) : Int) 0 8 F C = some (qcp F C l (w - 1) 8) := hq
    rw [if_neg (show ¬ (w : Int) = 0 by omega), if_pos (show (w : Int) < 20 by omega), if_pos (show zI ((w : Int) - 1) by omega), e1, hq, q_bs]
    unfold qpr
    rw [if_neg (show ¬ w = 0 by omega), if_pos (show w < 20 by omega)]
  · have hq := q_copied (F := F) hC (l := l) (o := (w - 20) / 64) (lo := 0) (hi := (w - 20) % 8) (by omega) (by omega) (by omega) (by omega)
    have hz : qcp F C l ((w - 20) / 64) 0 = 0 := rfl
    rw [hz, Int.sub_zero] at hq
    have hq : f_X10_copied l (((w - 20) / 64 : Nat) : Int) 0 (((w - 20) % 8 : Nat) : Int) F C = some (qcp F C l ((w - 20) / 64) ((w - 20) % 8)) := hq
    have hq2 := q_copied (F := F) hC (l := l) (o := (w - 20) / 8 % 8) (lo := (w - 20) % 8) (hi := 8) (by omega) (by omega) (by omega) (by omega)
    have hq2 : f_X10_copied l (((w - 20) / 8 % 8 : Nat) : Int) (((w - 20) % 8 : Nat) : Int) 8 F C = some (qcp F C l ((w - 20) / 8 % 8) 8 - qcp F C l ((w - 20) / 8 % 8) ((w - 20) % 8)) := hq2
    have h4 : C (Int.toNat 4) = C 4 := rfl
    have e : qpr F C l w = C 4 + qcp F C l ((w - 20) / 64) ((w - 20) % 8) + (qcp F C l ((w - 20) / 8 % 8) 8 - qcp F C l ((w - 20) / 8 % 8) ((w - 20) % 8)) := by
      unfold qpr
      rw [if_neg (show ¬ w = 0 by omega), if_neg (show ¬ w < 20 by omega)]
    rw [e] at hb ⊢
    rw [if_neg (show ¬ (w : Int) = 0 by omega), if_neg (show ¬ (w : Int) < 20 by omega), q_first (by omega) (by omega), q_second (by omega) (by omega), q_cut (by omega) (by omega), q_bs, q_bs, hq, q_bs, q_bs, q_bs, hq2, q_bs, h4, if_pos (by clear hq hq2; omega)]
/-! the class's table -/
theorem q_costOf (l o s : Nat) : f_X4_costOfSentence (F (8 * l + s)) (F (8 * o + s)) C = some (qcs F C l o s) := by
  unfold f_X4_costOfSentence qcs
  by_cases h3 : F (8 * l + s) = F (8 * o + s)
  · rw [if_pos h3, if_pos h3]
  · rw [if_neg h3, if_neg h3]
    by_cases h4 : F (8 * l + s) = -1
    · rw [if_pos h4, if_pos h4]; rfl
    · rw [if_neg h4, if_neg h4]
      by_cases h5 : F (8 * o + s) = -1
      · rw [if_pos h5, if_pos h5]; rfl
      · rw [if_neg h5, if_neg h5]; rfl
theorem l_sumUp (hC : ∀ j, 0 ≤ C j ∧ C j ≤ 9) {l o : Nat} (hl : l < 8) (ho : o < 8) (K0 : Nat → Int) : ∀ (n k : Nat) (K : Nat → Int), 8 - k < n → k ≤ 8 → (∀ j : Nat, j < k → K ((8 * l + o) * 9 + j) = qcp F C l o j) → (∀ j : Nat, j < (8 * l + o) * 9 ∨ (8 * l + o) * 9 + 9 ≤ j → K j = K0 j) →
    ∃ K2, l_X4_sumUp_16 n l o (((l : Int) * 8 + (o : Int)) * 9) (qcp F C l o k) k F C K = some (qcp F C l o 8, K2) ∧ (∀ j : Nat, j < 8 → K2 ((8 * l + o) * 9 + j) = qcp F C l o j) ∧ ∀ j : Nat, j < (8 * l + o) * 9 ∨ (8 * l + o) * 9 + 9 ≤ j → K2 j = K0 j := by
  intro n
  induction n with
  | zero => intro k K h; omega
  | succ n ih =>
    intro k K hn hk h1 h2
    rw [l_X4_sumUp_16]
    by_cases h : k = 8
    · subst h
      rw [if_neg (by omega)]
      exact ⟨K, rfl, h1, h2⟩
    · have b1 := qcp_b hC F l o k
      have b2 := qcs_b hC F l o k
      have e : qcp F C l o (k + 1) = qcp F C l o k + qcs F C l o k := rfl
      have g1 : zin (((l : Int) * 8 + (o : Int)) * 9 + (k : Int)) 576 ∧ zin ((l : Int) * 8 + (k : Int)) 64 ∧ zin ((o : Int) * 8 + (k : Int)) 64 := by omega
      have g2 : zI (qcp F C l o k + qcs F C l o k) ∧ zI ((k : Int) + 1) := by omega
      rw [if_pos (by omega), if_pos g1, q_tn (show (l : Int) * 8 + (k : Int) = ((8 * l + k : Nat) : Int) by omega), q_tn (show (o : Int) * 8 + (k : Int) = ((8 * o + k : Nat) : Int) by omega), q_tn (show ((l : Int) * 8 + (o : Int)) * 9 + (k : Int) = (((8 * l + o) * 9 + k : Nat) : Int) by omega), q_costOf, q_bs, if_pos g2, ← e]
      refine ih (k + 1) _ (by omega) (by omega) (fun j hj => ?_) (fun j hj => ?_)
      · rw [q_zu]
        by_cases hjk : j = k
        · subst hjk; rw [if_pos rfl]
        · rw [if_neg (by omega)]; exact h1 j (by omega)
      · rw [q_zu, if_neg (by omega)]
        exact h2 j hj
theorem q_sumUp (hC : ∀ j, 0 ≤ C j ∧ C j ≤ 9) {l o : Nat} (hl : l < 8) (ho : o < 8) (K : Nat → Int) : ∃ K2, f_X4_sumUp l o F C K = some K2 ∧ (∀ j : Nat, j ≤ 8 → K2 ((8 * l + o) * 9 + j) = qcp F C l o j) ∧ ∀ j : Nat, j < (8 * l + o) * 9 ∨ (8 * l + o) * 9 + 9 ≤ j → K2 j = K j := by
  obtain ⟨K2, a1, a2, a3⟩ := l_sumUp (F := F) hC hl ho K zN 0 K (by have := zN_big; omega) (by omega) (fun j hj => by omega) (fun j _ => rfl)
  have a1 : l_X4_sumUp_16 zN l o (((l : Int) * 8 + (o : Int)) * 9) 0 0 F C K = some (qcp F C l o 8, K2) := a1
  unfold f_X4_sumUp
  rw [if_pos (by omega), a1, q_bs, if_pos (by omega), q_tn (show ((l : Int) * 8 + (o : Int)) * 9 + 8 = (((8 * l + o) * 9 + 8 : Nat) : Int) by omega)]
  refine ⟨_, rfl, fun j hj => ?_, fun j hj => ?_⟩
  · rw [q_zu]
    by_cases hj8 : j = 8
    · subst hj8; rw [if_pos rfl]
    · rw [if_neg (by omega)]; exact a2 j (by omega)
  · rw [q_zu, if_neg (by omega)]
    exact a3 j hj
theorem l_refresh20 (hC : ∀ j, 0 ≤ C j ∧ C j ≤ 9) {c : Nat} (hc : c ≤ 8) {l : Nat} (hl : l < c) : ∀ (n k : Nat) (K : Nat → Int), 8 - k < n → k ≤ c → (∀ p o j : Nat, p < l ∨ (p = l ∧ o < k) → o < c → j ≤ 8 → K ((8 * p + o) * 9 + j) = qcp F C p o j) →
    ∃ K2, l_X4_refresh_20 n l k c F C K = some K2 ∧ ∀ p o j : Nat, p ≤ l → o < c → j ≤ 8 → K2 ((8 * p + o) * 9 + j) = qcp F C p o j := by
  intro n
  induction n with
  | zero => intro k K h; omega
  | succ n ih =>
    intro k K hn hk h1
    rw [l_X4_refresh_20]
    by_cases h : k = c
    · subst h
      rw [if_neg (by omega)]
      exact ⟨K, rfl, fun p o j hp ho hj => h1 p o j (by omega) ho hj⟩
    · obtain ⟨K2, a1, a2, a3⟩ := q_sumUp (F := F) hC (l := l) (o := k) (by omega) (by omega) K
      rw [if_pos (by omega), a1, q_bs, if_pos (by omega)]
      refine ih (k + 1) K2 (by omega) (by omega) (fun p o j hp ho hj => ?_)
      by_cases hpo : p = l ∧ o = k
      · rw [hpo.1, hpo.2]; exact a2 j hj
      · rw [a3 _ (by omega)]
        exact h1 p o j (by omega) ho hj
theorem l_refresh10 (hC : ∀ j, 0 ≤ C j ∧ C j ≤ 9) {c : Nat} (hc : c ≤ 8) : ∀ (n l : Nat) (K : Nat → Int), 8 - l < n → l ≤ c → (∀ p o j : Nat, p < l → o < c → j ≤ 8 → K ((8 * p + o) * 9 + j) = qcp F C p o j) → ∃ K2, l_X4_refresh_10 n l c F C K = some K2 ∧ qcd c F C K2 := by
  intro n
  induction n with
  | zero => intro l K h; omega
  | succ n ih =>
    intro l K hn hl h1
    rw [l_X4_refresh_10]
    by_cases h : l = c
    · subst h
      rw [if_neg (by omega)]
      exact ⟨K, rfl, h1⟩
    · obtain ⟨K2, a1, a2⟩ := l_refresh20 (F := F) hC hc (l := l) (by omega) zN 0 K (by have := zN_big; omega) (by omega) (fun p o j hp ho hj => h1 p o j (by omega) ho hj)
      have a1 : l_X4_refresh_20 zN l 0 c F C K = some K2 := a1
      rw [if_pos (by omega), a1, q_bs, if_pos (by omega)]
      exact ih (l + 1) K2 (by omega) (by omega) (fun p o j hp => a2 p o j (by omega))
theorem q_refresh (hC : ∀ j, 0 ≤ C j ∧ C j ≤ 9) {c : Nat} (hc : c ≤ 8) (cS : Int) (K : Nat → Int) (h : cS ≠ 0 → qcd c F C K) : ∃ cS2 K2, f_X4_refresh c cS F C K = some (cS2, K2) ∧ cS2 ≠ 0 ∧ qcd c F C K2 := by
  unfold f_X4_refresh
  by_cases h0 : cS = 0
  · obtain ⟨K2, a1, a2⟩ := l_refresh10 (F := F) hC hc zN 0 K (by have := zN_big; omega) (by omega) (fun p o j hp => by omega)
    have a1 : l_X4_refresh_10 zN 0 c F C K = some K2 := a1
    rw [if_pos h0, a1, q_bs]
    exact ⟨1, K2, rfl, by omega, a2⟩
  · rw [if_neg h0]
    exact ⟨cS, K, rfl, h0, h h0⟩
/-- price: class and reference -/
theorem q_pprice (p1 p2 : Int) (hC : ∀ j, 0 ≤ C j ∧ C j ≤ 9) {c : Nat} (hc : c ≤ 8) (cS : Int) (K : Nat → Int) (h : cS ≠ 0 → qcd c F C K) : ∃ r cS2 K2, f_X9_price p1 p2 c cS F C K = some (r, cS2, K2) ∧ f_X10_price p1 p2 c F C = some r ∧ (cS2 ≠ 0 → qcd c F C K2) ∧ (cS ≠ 0 → cS2 ≠ 0) := by
  have h10 : ¬ (1 : Int) = 0 := by omega
  unfold f_X9_price f_X10_price
  rw [q_isLetter p1 c (by omega) (by omega), q_bs]
  by_cases h1 : 0 ≤ p1 ∧ p1 < (c : Int)
  · rw [if_pos h1, if_neg h10]
    by_cases h2 : p2 < 0
    · rw [q_sourcesNo p1 p2 c (Or.inr h2), q_bs, if_pos rfl]
      have e : f_X10_isWay p1 p2 c = some 0 := by
        unfold f_X10_isWay
        rw [if_neg (show ¬ p2 = 0 by omega), q_in, q_bs, if_neg (show ¬ (1 ≤ p2 ∧ p2 ≤ 8) by omega), if_pos rfl, q_in, q_bs, if_neg (show ¬ (20 ≤ p2 ∧ p2 ≤ 531) by omega), if_pos rfl]
      rw [e, q_bs, if_pos rfl]
      exact ⟨_, _, _, rfl, rfl, h, id⟩
    · obtain ⟨l, rfl⟩ : ∃ l : Nat, p1 = l := ⟨p1.toNat, by omega⟩
      obtain ⟨w, rfl⟩ : ∃ w : Nat, p2 = w := ⟨p2.toNat, by omega⟩
      have hl : l < c := by omega
      by_cases hv : qvw c l w
      · obtain ⟨cS2, K2, a1, a2, a3⟩ := q_refresh hC hc cS K h
        rw [(q_sources hc hl).1 hv, (q_isWay hc hl).1 hv, q_bs, q_bs, if_neg (show ¬ (qsr w : Int) = -1 by omega), if_neg h10, a1, q_bs]
        dsimp only
        rw [q_priceOf hC hc a3 hl hv, q_priceOfR hC hc hl hv]
        exact ⟨_, _, _, rfl, rfl, fun _ => a3, fun _ => a2⟩
      · rw [(q_sources hc hl).2 hv, (q_isWay hc hl).2 hv, q_bs, q_bs, if_pos rfl, if_pos rfl]
        exact ⟨_, _, _, rfl, rfl, h, id⟩
  · rw [if_neg h1, if_pos rfl, q_sourcesNo p1 p2 c (Or.inl h1), q_bs, if_pos rfl]
    exact ⟨_, _, _, rfl, rfl, h, id⟩
end ZPR
