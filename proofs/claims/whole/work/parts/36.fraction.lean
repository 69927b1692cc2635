/-! ===== the fraction: gone, mean, best, hidden, sign, limb ===== -/
/-- the fraction of the class and the registers 0 and 1 -/
def qFr (s : Int) (f : Nat → Int) (t : Int) (g L W : Nat → Int) : Prop := ∃ V, qQ L W V ∧ qN 40 f s (V 0) ∧ qN 40 g t (V 1)
theorem qFr_of {s t : Int} {f g L W V : Nat → Int} {a b P Q : Int} (hb : 0 < b) (h1 : qN 40 f s P) (h2 : qN 40 g t Q) (h3 : qLow a b P Q) (hV : qQ L W V) (h4 : qLow a b (V 0) (V 1)) : qFr s f t g L W := by
  obtain ⟨e1, e2⟩ := qLow_uniq hb h3 h4
  refine ⟨V, hV, ?_, ?_⟩
  · rw [← e1]; exact h1
  · rw [← e2]; exact h2
theorem q_pgone (p1 : Int) {w : Nat → Int} (hw : ∀ j, 0 ≤ w j ∧ w j ≤ 100) {s t : Int} {f g L W : Nat → Int} (h : qFr s f t g L W) (sa sb ss sp sq : Int) (fa fb fs fp fq : Nat → Int) :
    ∃ r sa2 fa2 sb2 fb2 ss2 fs2 sp2 fp2 sq2 fq2 s2 f2 t2 g2 L2 W2, f_X9_gone p1 w sa fa sb fb ss fs sp fp sq fq s f t g = some (r, sa2, fa2, sb2, fb2, ss2, fs2, sp2, fp2, sq2, fq2, s2, f2, t2, g2) ∧ f_X10_gone p1 L W w = some (r, L2, W2) ∧ qFr s2 f2 t2 g2 L2 W2 := by
  by_cases h1 : 0 ≤ p1 ∧ p1 ≤ 3
  · have hs := qsum_le hw 10
    by_cases h2 : qsum w 10 = 0
    · refine ⟨-3, sa, fa, sb, fb, ss, fs, sp, fp, sq, fq, s, f, t, g, L, W, ?_, ?_, h⟩
      · unfold f_X9_gone
        rw [q_within, q_bs, if_neg (by rw [if_pos h1]; omega), (q_weights w hw).1, q_bs, if_pos h2]
      · unfold f_X10_gone
        rw [q_in, q_bs, if_neg (by rw [if_pos h1]; omega), (q_weights w hw).2, q_bs, if_pos h2]
    · obtain ⟨N, rfl⟩ : ∃ N : Nat, p1 = N := ⟨p1.toNat, by omega⟩
      obtain ⟨V, hV, _, _⟩ := h
      obtain ⟨sa2, fa2, sb2, fb2, ss2, fs2, sp2, fp2, sq2, fq2, s2, f2, t2, g2, P, Q, a1, a2, a3, a4, a5, a6⟩ := q_chance hw (by omega) (N := N) (by omega) sa sb ss sp sq s t fa fb fs fp fq f g
      obtain ⟨L2, W2, V2, b1, b2, b3⟩ := q_goneR hw (by omega) (N := N) (by omega) hV
      refine ⟨1, sa2, fa2, sb2, fb2, ss2, fs2, sp2, fp2, sq2, fq2, s2, f2, t2, g2, L2, W2, ?_, b1, qFr_of ?_ a2 a3 a4 b2 b3⟩
      · unfold f_X9_gone
        rw [q_within, q_bs, if_neg (by rw [if_pos h1]; omega), (q_weights w hw).1, q_bs, if_neg h2, a1, q_bs]
      · have := (qAB hw (by omega) N).2.2.1
        omega
  · refine ⟨-2, sa, fa, sb, fb, ss, fs, sp, fp, sq, fq, s, f, t, g, L, W, ?_, ?_, h⟩
    · unfold f_X9_gone
      rw [q_within, q_bs, if_pos (by rw [if_neg h1])]
    · unfold f_X10_gone
      rw [q_in, q_bs, if_pos (by rw [if_neg h1])]
theorem q_pmean {w : Nat → Int} (hw : ∀ j, 0 ≤ w j ∧ w j ≤ 100) {s t : Int} {f g L W : Nat → Int} (h : qFr s f t g L W) :
    ∃ r s2 f2 t2 g2 L2 W2, f_X9_mean w s f t g = some (r, s2, f2, t2, g2) ∧ f_X10_mean L W w = some (r, L2, W2) ∧ qFr s2 f2 t2 g2 L2 W2 := by
  have hs := qsum_le hw 10
  by_cases h2 : qsum w 10 = 0
  · refine ⟨-3, s, f, t, g, L, W, ?_, ?_, h⟩
    · unfold f_X9_mean
      rw [(q_weights w hw).1, q_bs, if_pos h2]
    · unfold f_X10_mean
      rw [(q_weights w hw).2, q_bs, if_pos h2]
  · obtain ⟨V, hV, _, _⟩ := h
    have hc := qsum2_le hw 10 (by omega)
    obtain ⟨s2, f2, t2, g2, P, Q, a1, a2, a3, a4, a5, a6⟩ := q_fraction (a := qsum (fun j => (j : Int) * w j) 10) (b := qsum w 10) hc.1 (by omega) (by omega) (by omega) s t f g
    obtain ⟨L2, W2, V2, b1, b2, b3⟩ := q_tells (p1 := qsum (fun j => (j : Int) * w j) 10) (p3 := qsum w 10) hc.1 (by omega) (by omega) (by omega) hV
    refine ⟨1, s2, f2, t2, g2, L2, W2, ?_, ?_, qFr_of (by omega) a2 a3 a4 b2 b3⟩
    · unfold f_X9_mean
      rw [(q_weights w hw).1, q_bs, if_neg h2, (q_copiesOfAll w hw).1, q_bs, a1, q_bs]
    · unfold f_X10_mean
      rw [(q_weights w hw).2, q_bs, if_neg h2, (q_copiesOfAll w hw).2, q_bs, q_bs, b1, q_bs]
theorem q_prod3 {x y z X Y Z : Int} (h1 : 0 ≤ x ∧ x ≤ X) (h2 : 0 ≤ y ∧ y ≤ Y) (h3 : 0 ≤ z ∧ z ≤ Z) : 0 ≤ x * y * z ∧ x * y * z ≤ X * Y * Z :=
  ⟨Int.mul_nonneg (Int.mul_nonneg h1.1 h2.1) h3.1, Int.mul_le_mul (Int.mul_le_mul h1.2 h2.2 h2.1 (by omega)) h3.2 h3.1 (Int.mul_nonneg (by omega) (by omega))⟩
theorem l_best {d a : Nat → Int} (hA : ∀ j, 0 ≤ d j ∧ d j ≤ 100 ∧ 1 ≤ a j ∧ a j ≤ 100) (p1 : Int) : ∀ (n k b : Nat), 10 - k < n → 2 ≤ k → k ≤ 10 → 1 ≤ b → b ≤ 9 → ∃ b2 : Nat, l_X0_bestCopies_4 n b k d a = some (b2 : Int) ∧ l_X10_best_17 n p1 b k d a = some (b2 : Int) ∧ 1 ≤ b2 ∧ b2 ≤ 9 := by
  intro n
  induction n with
  | zero => intro k b h; omega
  | succ n ih =>
    intro k b hn hk hk2 hb hb2
    rw [l_X0_bestCopies_4, l_X10_best_17]
    by_cases h : k = 10
    · subst h
      rw [if_pos (by omega), if_neg (by omega)]
      exact ⟨b, rfl, rfl, hb, hb2⟩
    · have e1 : Int.toNat (k : Int) = k := Int.toNat_natCast k
      have e2 : Int.toNat (b : Int) = b := Int.toNat_natCast b
      have hk3 := hA k
      have hb3 := hA b
      have g1 := q_prod3 (x := (k : Int)) (y := d k) (z := a b) (X := 9) (Y := 100) (Z := 100) (by omega) (by omega) (by omega)
      have g2 := q_prod3 (x := (b : Int)) (y := d b) (z := a k) (X := 9) (Y := 100) (Z := 100) (by omega) (by omega) (by omega)
      rw [if_neg (by omega), if_pos (show (k : Int) < 10 by omega), e1, e2]
      generalize (k : Int) * d k * a b = u at *
      generalize (b : Int) * d b * a k = v at *
      have hg : zin (k : Int) 10 ∧ zin (b : Int) 10 ∧ zin (b : Int) 10 ∧ zin (k : Int) 10 ∧ zI u ∧ zI v := by omega
      have hz : zI ((k : Int) + 1) := by omega
      rw [if_pos hg, if_pos hg]
      by_cases h3 : v < u
      · rw [if_pos h3, if_pos h3, if_pos hz, if_pos hz]
        exact ih (k + 1) k (by omega) (by omega) (by omega) (by omega) (by omega)
      · rw [if_neg h3, if_neg h3, if_pos hz, if_pos hz]
        exact ih (k + 1) b (by omega) (by omega) (by omega) hb hb2
theorem q_pbest (p1 : Int) {d a : Nat → Int} (hA : ∀ j, 0 ≤ d j ∧ d j ≤ 100 ∧ 1 ≤ a j ∧ a j ≤ 100) {s t : Int} {f g L W : Nat → Int} (h : qFr s f t g L W) :
    ∃ r s2 f2 t2 g2 L2 W2, f_X9_best p1 d a s f t g = some (r, s2, f2, t2, g2) ∧ f_X10_best p1 L W d a = some (r, L2, W2) ∧ qFr s2 f2 t2 g2 L2 W2 := by
  by_cases h1 : 0 ≤ p1 ∧ p1 ≤ 1
  · obtain ⟨b, b1, b2, b3, b4⟩ := l_best hA p1 zN 2 1 (by have := zN_big; omega) (by omega) (by omega) (by omega) (by omega)
    have b1 : l_X0_bestCopies_4 zN 1 2 d a = some (b : Int) := b1
    have b2 : l_X10_best_17 zN p1 1 2 d a = some (b : Int) := b2
    have c1 : f_X0_bestCopies d a = some (b : Int) := by unfold f_X0_bestCopies; rw [b1]; rfl
    by_cases h2 : p1 = 0
    · refine ⟨(b : Int), s, f, t, g, L, W, ?_, ?_, h⟩
      · unfold f_X9_best
        rw [q_within, q_bs, if_neg (by rw [if_pos h1]; omega), c1, q_bs, if_pos h2]
      · unfold f_X10_best
        rw [q_in, q_bs, if_neg (by rw [if_pos h1]; omega), b2, q_bs, if_pos h2]
    · obtain ⟨V, hV, _, _⟩ := h
      have hb := hA b
      have e2 : Int.toNat (b : Int) = b := Int.toNat_natCast b
      have g1 := Int.mul_nonneg (show 0 ≤ (b : Int) by omega) hb.1
      have g2 : (b : Int) * d b ≤ 9 * 100 := Int.mul_le_mul (by omega) (by omega) hb.1 (by omega)
      have d1 : f_X0_doing b d = some (d b) := by unfold f_X0_doing; rw [if_pos (by omega), e2]
      have d2 : f_X0_asked b a = some (a b) := by unfold f_X0_asked; rw [if_pos (by omega), e2]
      obtain ⟨s2, f2, t2, g2', P, Q, a1, a2, a3, a4, a5, a6⟩ := q_fraction (a := (b : Int) * d b) (b := a b) g1 (by omega) (by omega) (by omega) s t f g
      obtain ⟨L2, W2, V2, e1, e3, e4⟩ := q_tells (p1 := (b : Int) * d b) (p3 := a b) g1 (by omega) (by omega) (by omega) hV
      refine ⟨1, s2, f2, t2, g2', L2, W2, ?_, ?_, qFr_of (by omega) a2 a3 a4 e3 e4⟩
      · unfold f_X9_best
        rw [q_within, q_bs, if_neg (by rw [if_pos h1]; omega), c1, q_bs, if_neg h2, d1, q_bs, if_pos (by omega), d2, q_bs, a1, q_bs]
      · unfold f_X10_best
        rw [q_in, q_bs, if_neg (by rw [if_pos h1]; omega), b2, q_bs, if_neg h2, e2, if_pos (by omega), e1, q_bs]
  · refine ⟨-2, s, f, t, g, L, W, ?_, ?_, h⟩
    · unfold f_X9_best
      rw [q_within, q_bs, if_pos (by rw [if_neg h1])]
    · unfold f_X10_best
      rw [q_in, q_bs, if_pos (by rw [if_neg h1])]
theorem q_psign (p1 : Int) {s t : Int} {f g L W : Nat → Int} (h : qFr s f t g L W) : ∃ r, f_X9_sign p1 s t = some r ∧ f_X10_sign p1 W = some r := by
  obtain ⟨V, hV, h1, h2⟩ := h
  have e1 := (qN_eq h1 (hV 0 (by omega) (by omega))).1
  have e2 := (qN_eq h2 (hV 1 (by omega) (by omega))).1
  unfold f_X9_sign f_X10_sign
  rw [show Int.toNat 0 = 0 from rfl, show Int.toNat 1 = 1 from rfl, ← e1, ← e2]
  by_cases a0 : p1 = 0
  · simp only [if_pos a0]
    by_cases a1 : 0 < s
    · simp only [if_pos a1]; exact ⟨_, rfl, rfl⟩
    · simp only [if_neg a1]; exact ⟨_, rfl, rfl⟩
  · simp only [if_neg a0]
    by_cases a1 : p1 = 1
    · simp only [if_pos a1]; exact ⟨_, rfl, rfl⟩
    · simp only [if_neg a1]
      by_cases a2 : p1 = 2
      · simp only [if_pos a2]; exact ⟨_, rfl, rfl⟩
      · simp only [if_neg a2]; exact ⟨_, rfl, rfl⟩
theorem q_plimb (p1 p2 : Int) {s t : Int} {f g L W : Nat → Int} (h : qFr s f t g L W) : ∃ r, f_X9_limb p1 p2 s f t g = some r ∧ f_X10_limb p1 p2 L W = some r := by
  obtain ⟨V, hV, h1, h2⟩ := h
  obtain ⟨e1, e1d⟩ := qN_eq h1 (hV 0 (by omega) (by omega))
  obtain ⟨e2, e2d⟩ := qN_eq h2 (hV 1 (by omega) (by omega))
  have b1 := h1.2.2.2.1
  have b2 := h2.2.2.2.1
  unfold f_X9_limb f_X10_limb
  rw [q_within, q_in, q_bs, q_bs]
  by_cases h0 : 0 ≤ p1 ∧ p1 ≤ 1
  · have hc : ¬ (if 0 ≤ p1 ∧ p1 ≤ 1 then (1 : Int) else 0) = 0 := by rw [if_pos h0]; omega
    rw [if_neg hc, if_neg hc]
    by_cases h3 : p2 < 0
    · rw [if_pos h3, if_pos h3]
      exact ⟨_, rfl, rfl⟩
    · rw [if_neg h3, if_neg h3]
      obtain ⟨j, rfl⟩ : ∃ j : Nat, p2 = j := ⟨p2.toNat, by omega⟩
      have main : ∀ (r : Nat) (s : Int) (f : Nat → Int), r < 2 → W r = s → s ≤ 40 → (∀ j : Nat, j < 40 → f j = qr L r j) → ∃ x, f_X6_digit j s f = some x ∧ (if zin (r : Int) 9 then if (j : Int) < W (Int.toNat (r : Int)) then (if zin (70 * (r : Int) + (j : Int)) 630 then some (L (Int.toNat (70 * (r : Int) + (j : Int)))) else none) else some (-1) else none) = some x := by
        intro r s f hr hs hs2 hf
        unfold f_X6_digit
        rw [Int.toNat_natCast, Int.toNat_natCast, hs, if_neg (by omega), if_pos (show zin (r : Int) 9 by omega)]
        by_cases h4 : (j : Int) < s
        · rw [if_pos h4, if_pos h4, if_pos (by omega), if_pos (by omega), if_pos (by omega), show Int.toNat (70 * (r : Int) + (j : Int)) = 70 * r + j by omega, hf j (by omega)]
          exact ⟨_, rfl, rfl⟩
        · rw [if_neg h4, if_neg h4]
          exact ⟨_, rfl, rfl⟩
      by_cases h5 : p1 = 0
      · subst h5
        obtain ⟨x, x1, x2⟩ := main 0 s f (by omega) e1.symm b1 e1d
        rw [if_pos rfl, x1, q_bs]
        exact ⟨x, rfl, x2⟩
      · obtain rfl : p1 = 1 := by omega
        obtain ⟨x, x1, x2⟩ := main 1 t g (by omega) e2.symm b2 e2d
        rw [if_neg h5, x1, q_bs]
        exact ⟨x, rfl, x2⟩
  · have hc : (if 0 ≤ p1 ∧ p1 ≤ 1 then (1 : Int) else 0) = 0 := by rw [if_neg h0]
    rw [if_pos hc, if_pos hc]
    exact ⟨_, rfl, rfl⟩
