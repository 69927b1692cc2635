/-! ===== trees: ways, their sources and prices ===== -/
/-- the way w of letter l, there being c -/
def qvw (c l w : Nat) : Prop := w = 0 ∨ (1 ≤ w ∧ w ≤ 8 ∧ w - 1 < c ∧ w - 1 ≠ l) ∨ (20 ≤ w ∧ w < 532 ∧ (w - 20) / 64 < c ∧ (w - 20) / 64 ≠ l ∧ (w - 20) / 8 % 8 < c ∧ (w - 20) / 8 % 8 ≠ l ∧ (w - 20) / 64 ≠ (w - 20) / 8 % 8 ∧ (w - 20) % 8 ≠ 0)
theorem qvw_lt {c l w : Nat} (h : qvw c l w) : w < 532 := by unfold qvw at h; omega
def qsr (w : Nat) : Nat := if w = 0 then 0 else if w < 20 then 2 ^ (w - 1) else 2 ^ ((w - 20) / 64) ||| 2 ^ ((w - 20) / 8 % 8)
def qcs (F C : Nat → Int) (l o s : Nat) : Int := if F (8 * l + s) = F (8 * o + s) then 0 else if F (8 * l + s) = -1 then C 0 else if F (8 * o + s) = -1 then C 2 else C 1
def qcp (F C : Nat → Int) (l o k : Nat) : Int := qsum (qcs F C l o) k
def qthere (F : Nat → Int) (l : Nat) : Nat → Int
  | 0 => 0
  | k + 1 => qthere F l k + if F (8 * l + k) = -1 then 0 else 1
def qpr (F C : Nat → Int) (l w : Nat) : Int := if w = 0 then qthere F l 8 * C 3 else if w < 20 then qcp F C l (w - 1) 8 else C 4 + qcp F C l ((w - 20) / 64) ((w - 20) % 8) + (qcp F C l ((w - 20) / 8 % 8) 8 - qcp F C l ((w - 20) / 8 % 8) ((w - 20) % 8))
theorem qcs_b {C : Nat → Int} (hC : ∀ j, 0 ≤ C j ∧ C j ≤ 9) (F : Nat → Int) (l o s : Nat) : 0 ≤ qcs F C l o s ∧ qcs F C l o s ≤ 9 := by
  have h0 := hC 0
  have h1 := hC 1
  have h2 := hC 2
  unfold qcs
  split
  · omega
  · split
    · omega
    · split <;> omega
theorem qcp_b {C : Nat → Int} (hC : ∀ j, 0 ≤ C j ∧ C j ≤ 9) (F : Nat → Int) (l o k : Nat) : 0 ≤ qcp F C l o k ∧ qcp F C l o k ≤ 9 * k := qsum_le (qcs_b hC F l o) k
theorem qcp_mono {C : Nat → Int} (hC : ∀ j, 0 ≤ C j ∧ C j ≤ 9) (F : Nat → Int) (l o k d : Nat) : qcp F C l o k ≤ qcp F C l o (k + d) ∧ qcp F C l o (k + d) ≤ qcp F C l o k + 9 * d := by
  induction d with
  | zero => simp
  | succ d ih =>
    have h := qcs_b hC F l o (k + d)
    have e : qcp F C l o (k + (d + 1)) = qcp F C l o (k + d) + qcs F C l o (k + d) := rfl
    omega
theorem qthere_b (F : Nat → Int) (l k : Nat) : 0 ≤ qthere F l k ∧ qthere F l k ≤ k := by
  induction k with
  | zero => simp [qthere]
  | succ k ih =>
    simp only [qthere]
    split <;> omega
theorem qpr_b {C : Nat → Int} (hC : ∀ j, 0 ≤ C j ∧ C j ≤ 9) (F : Nat → Int) (l w : Nat) : 0 ≤ qpr F C l w ∧ qpr F C l w ≤ 100 := by
  unfold qpr
  by_cases h0 : w = 0
  · rw [if_pos h0]
    have h1 := qthere_b F l 8
    have h2 := hC 3
    have h3 := Int.mul_nonneg h1.1 h2.1
    have h4 : qthere F l 8 * C 3 ≤ 8 * 9 := Int.mul_le_mul h1.2 h2.2 h2.1 (by omega)
    omega
  · rw [if_neg h0]
    by_cases h1 : w < 20
    · rw [if_pos h1]
      have := qcp_b hC F l (w - 1) 8
      omega
    · rw [if_neg h1]
      have h2 := hC 4
      have h3 := qcp_b hC F l ((w - 20) / 64) ((w - 20) % 8)
      obtain ⟨d, hd⟩ : ∃ d, (w - 20) % 8 + d = 8 := ⟨8 - (w - 20) % 8, by omega⟩
      have h4 := qcp_mono hC F l ((w - 20) / 8 % 8) ((w - 20) % 8) d
      rw [hd] at h4
      omega
theorem qsr_b {c l w : Nat} (hc : c ≤ 8) (h : qvw c l w) : qsr w < 2 ^ c := by
  unfold qsr
  rcases h with h | h | h
  · subst h; rw [if_pos rfl]; exact Nat.two_pow_pos c
  · rw [if_neg (by omega), if_pos (by omega)]
    exact Nat.pow_lt_pow_right (by omega) (by omega)
  · rw [if_neg (by omega), if_neg (by omega)]
    exact Nat.or_lt_two_pow (Nat.pow_lt_pow_right (by omega) (by omega)) (Nat.pow_lt_pow_right (by omega) (by omega))
theorem q_p8 {c : Nat} (hc : c ≤ 8) : 2 ^ c ≤ 256 := Nat.pow_le_pow_right (n := 2) (by omega) (i := c) (j := 8) hc
/-! arithmetic of ways -/
theorem q_w6 {w : Nat} (hw : 20 ≤ w) (hw2 : w < 1000000) : zshr ((w : Int) - 20) 6 = (((w - 20) / 64 : Nat) : Int) := by
  have h : zshr ((w : Int) - 20) ((6 : Nat) : Int) = ((w : Int) - 20) / 2 ^ 6 := zshr_int _ 6 (by omega) (by omega)
  rw [show zshr ((w : Int) - 20) 6 = zshr ((w : Int) - 20) ((6 : Nat) : Int) from rfl, h]
  omega
theorem q_w3 {w : Nat} (hw : 20 ≤ w) (hw2 : w < 1000000) : zand (zshr ((w : Int) - 20) 3) 7 = (((w - 20) / 8 % 8 : Nat) : Int) := by
  have h : zshr ((w : Int) - 20) ((3 : Nat) : Int) = ((w : Int) - 20) / 2 ^ 3 := zshr_int _ 3 (by omega) (by omega)
  rw [zand_7, show zshr ((w : Int) - 20) 3 = zshr ((w : Int) - 20) ((3 : Nat) : Int) from rfl, h]
  omega
theorem q_w0 {w : Nat} (hw : 20 ≤ w) : zand ((w : Int) - 20) 7 = (((w - 20) % 8 : Nat) : Int) := by
  rw [zand_7]
  omega
theorem q_first {w : Nat} (hw : 20 ≤ w) (hw2 : w < 1000000) : f_X10_firstOf w = some (((w - 20) / 64 : Nat) : Int) := by
  have e : Int.tdiv ((w : Int) - 20) 64 = (((w - 20) / 64 : Nat) : Int) := by
    rw [Int.tdiv_eq_ediv_of_nonneg (by omega)]
    omega
  unfold f_X10_firstOf
  rw [if_neg (by omega), if_neg (by omega), e, if_pos (by omega), if_pos (by omega)]
theorem q_second {w : Nat} (hw : 20 ≤ w) (hw2 : w < 1000000) : f_X10_secondOf w = some (((w - 20) / 8 % 8 : Nat) : Int) := by
  have e : Int.tdiv ((w : Int) - 20) 8 = (((w - 20) / 8 : Nat) : Int) := by
    rw [Int.tdiv_eq_ediv_of_nonneg (by omega)]
    omega
  have e2 : Int.tmod (((w - 20) / 8 : Nat) : Int) 8 = (((w - 20) / 8 % 8 : Nat) : Int) := by
    rw [Int.tmod_eq_emod_of_nonneg (by omega)]
    omega
  unfold f_X10_secondOf
  rw [if_neg (by omega), e, if_pos (by omega), e2]
theorem q_cut {w : Nat} (hw : 20 ≤ w) (hw2 : w < 1000000) : f_X10_cutOf w = some (((w - 20) % 8 : Nat) : Int) := by
  have e : Int.tmod ((w : Int) - 20) 8 = (((w - 20) % 8 : Nat) : Int) := by
    rw [Int.tmod_eq_emod_of_nonneg (by omega)]
    omega
  unfold f_X10_cutOf
  rw [if_pos (by omega), e]
theorem q_isOther (l x c : Int) : f_X4_isOther l x c = some (if x ≠ l ∧ 0 ≤ x ∧ x < c then 1 else 0) := by
  unfold f_X4_isOther
  by_cases h1 : x = l
  · rw [if_pos h1, if_neg (fun h => h.1 h1)]
  · rw [if_neg h1]
    by_cases h2 : x < 0
    · rw [if_pos h2, if_neg (fun h => by omega)]
    · rw [if_neg h2]
      by_cases h3 : x < c
      · rw [if_pos h3, if_pos ⟨h1, by omega, h3⟩]
      · rw [if_neg h3, if_neg (fun h => h3 h.2.2)]
theorem qvw_dec (c l w : Nat) : ∃ b : Bool, (b = true ↔ qvw c l w) := by
  by_cases h : qvw c l w
  · exact ⟨true, by simp [h]⟩
  · exact ⟨false, by simp [h]⟩
/-- the class's way: its sources -/
theorem q_sources {c l w : Nat} (hc : c ≤ 8) (hl : l < c) : (qvw c l w → f_X4_sources l w c = some (qsr w : Int)) ∧ (¬ qvw c l w → f_X4_sources l w c = some (-1)) := by
  have h10 : ¬ (1 : Int) = 0 := by omega
  unfold f_X4_sources
  rw [q_has, q_bs, if_pos (show 0 ≤ (l : Int) ∧ (l : Int) < c by omega), if_neg h10, if_neg (show ¬ (w : Int) < 0 by omega)]
  by_cases h1 : w < 532
  · rw [if_pos (show (w : Int) < 532 by omega)]
    by_cases h2 : w = 0
    · subst h2
      rw [if_pos (show ((0 : Nat) : Int) = 0 from rfl)]
      exact ⟨fun _ => rfl, fun h => absurd (Or.inl rfl) h⟩
    · rw [if_neg (show ¬ (w : Int) = 0 by omega)]
      by_cases h3 : 8 < w
      · rw [if_pos (show (8 : Int) < (w : Int) by omega)]
        by_cases h4 : w < 20
        · rw [if_pos (show (w : Int) < 20 by omega)]
          exact ⟨fun h => by unfold qvw at h; omega, fun _ => rfl⟩
        · rw [if_neg (show ¬ (w : Int) < 20 by omega), q_w0 (by omega), q_w6 (by omega) (by omega), q_w3 (by omega) (by omega)]
          have hcut : (((w - 20) % 8 : Nat) : Int) = 0 ↔ (w - 20) % 8 = 0 := by omega
          by_cases h5 : (w - 20) % 8 = 0
          · rw [if_pos (by omega)]
            exact ⟨fun h => by unfold qvw at h; omega, fun _ => rfl⟩
          · rw [if_neg (by omega)]
            by_cases h6 : (w - 20) / 64 = (w - 20) / 8 % 8
            · rw [if_pos (by omega)]
              exact ⟨fun h => by unfold qvw at h; omega, fun _ => rfl⟩
            · rw [if_neg (by omega), q_isOther, q_bs, q_isOther]
              by_cases h7 : (w - 20) / 64 ≠ l ∧ (w - 20) / 64 < c
              · rw [if_pos (show (((w - 20) / 64 : Nat) : Int) ≠ (l : Int) ∧ 0 ≤ (((w - 20) / 64 : Nat) : Int) ∧ (((w - 20) / 64 : Nat) : Int) < (c : Int) by omega), if_neg h10, q_bs]
                by_cases h8 : (w - 20) / 8 % 8 ≠ l ∧ (w - 20) / 8 % 8 < c
                · have a1 : 2 ^ ((w - 20) / 64) < 2 ^ 8 := Nat.pow_lt_pow_right (by omega) (by omega)
                  have a2 : 2 ^ ((w - 20) / 8 % 8) < 2 ^ 8 := Nat.pow_lt_pow_right (by omega) (by omega)
                  rw [if_pos (show (((w - 20) / 8 % 8 : Nat) : Int) ≠ (l : Int) ∧ 0 ≤ (((w - 20) / 8 % 8 : Nat) : Int) ∧ (((w - 20) / 8 % 8 : Nat) : Int) < (c : Int) by omega), if_neg h10, q_one (by omega), q_one (by omega), (q_or (n := 8) (by omega) a1 a2).1]
                  refine ⟨fun _ => ?_, fun h => absurd (Or.inr (Or.inr ⟨by omega, h1, h7.2, h7.1, h8.2, h8.1, h6, h5⟩)) h⟩
                  unfold qsr
                  rw [if_neg h2, if_neg h4]
                · rw [if_neg (show ¬ ((((w - 20) / 8 % 8 : Nat) : Int) ≠ (l : Int) ∧ 0 ≤ (((w - 20) / 8 % 8 : Nat) : Int) ∧ (((w - 20) / 8 % 8 : Nat) : Int) < (c : Int)) by omega), if_pos rfl]
                  exact ⟨fun h => by unfold qvw at h; omega, fun _ => rfl⟩
              · rw [if_neg (show ¬ ((((w - 20) / 64 : Nat) : Int) ≠ (l : Int) ∧ 0 ≤ (((w - 20) / 64 : Nat) : Int) ∧ (((w - 20) / 64 : Nat) : Int) < (c : Int)) by omega), if_pos rfl]
                exact ⟨fun h => by unfold qvw at h; omega, fun _ => rfl⟩
      · have e1 : (w : Int) - 1 = ((w - 1 : Nat) : Int) := by omega
        rw [if_neg (show ¬ (8 : Int) < (w : Int) by omega), if_pos (show zI ((w : Int) - 1) by omega), e1, q_isOther, q_bs]
        by_cases h5 : w - 1 ≠ l ∧ w - 1 < c
        · rw [if_pos (show ((w - 1 : Nat) : Int) ≠ (l : Int) ∧ 0 ≤ ((w - 1 : Nat) : Int) ∧ ((w - 1 : Nat) : Int) < (c : Int) by omega), if_neg h10, q_one (by omega)]
          refine ⟨fun _ => ?_, fun h => absurd (Or.inr (Or.inl ⟨by omega, by omega, h5.2, h5.1⟩)) h⟩
          unfold qsr
          rw [if_neg h2, if_pos (by omega)]
        · rw [if_neg (show ¬ (((w - 1 : Nat) : Int) ≠ (l : Int) ∧ 0 ≤ ((w - 1 : Nat) : Int) ∧ ((w - 1 : Nat) : Int) < (c : Int)) by omega), if_pos rfl]
          exact ⟨fun h => by unfold qvw at h; omega, fun _ => rfl⟩
  · rw [if_neg (show ¬ (w : Int) < 532 by omega)]
    exact ⟨fun h => absurd (qvw_lt h) h1, fun _ => rfl⟩
theorem q_sourcesNo (p1 p2 : Int) (c : Nat) (h : ¬ (0 ≤ p1 ∧ p1 < c) ∨ p2 < 0) : f_X4_sources p1 p2 c = some (-1) := by
  unfold f_X4_sources
  rw [q_has, q_bs]
  by_cases h1 : 0 ≤ p1 ∧ p1 < (c : Int)
  · rw [if_pos h1, if_neg (by omega), if_pos (show p2 < 0 by omega)]
  · rw [if_neg h1, if_pos rfl]
/-- the reference's ways -/
theorem q_isWay {c l w : Nat} (hc : c ≤ 8) (hl : l < c) : (qvw c l w → f_X10_isWay l w c = some 1) ∧ (¬ qvw c l w → f_X10_isWay l w c = some 0) := by
  have h10 : ¬ (1 : Int) = 0 := by omega
  have hL : ∀ x : Nat, f_X10_isLetter x c = some (if x < c then 1 else 0) := fun x => by
    rw [q_isLetter x c (by omega) (by omega)]
    by_cases h : x < c
    · rw [if_pos h, if_pos (by omega)]
    · rw [if_neg h, if_neg (by omega)]
  unfold f_X10_isWay
  by_cases h2 : w = 0
  · subst h2
    rw [if_pos (show ((0 : Nat) : Int) = 0 from rfl)]
    exact ⟨fun _ => rfl, fun h => absurd (Or.inl rfl) h⟩
  · rw [if_neg (show ¬ (w : Int) = 0 by omega), q_in, q_bs, q_in, q_bs]
    by_cases h3 : w ≤ 8
    · have e1 : (w : Int) - 1 = ((w - 1 : Nat) : Int) := by omega
      have ef : f_X10_firstOf w = some ((w - 1 : Nat) : Int) := by
        unfold f_X10_firstOf
        rw [if_neg (show ¬ (w : Int) = 0 by omega), if_pos (show (w : Int) < 20 by omega), if_pos (show zI ((w : Int) - 1) by omega), e1]
      have es : f_X10_secondOf w = some (-1) := by
        unfold f_X10_secondOf
        rw [if_pos (show (w : Int) < 20 by omega)]
      rw [if_pos (show 1 ≤ (w : Int) ∧ (w : Int) ≤ 8 by omega), if_neg h10, ef, es, q_bs, q_bs, hL, q_bs]
      by_cases h5 : w - 1 < c
      · rw [if_pos h5, if_neg h10]
        by_cases h6 : w - 1 = l
        · rw [if_pos (show ((w - 1 : Nat) : Int) = (l : Int) by omega), if_pos (show (w : Int) < 20 by omega)]
          exact ⟨fun h => by unfold qvw at h; omega, fun _ => rfl⟩
        · rw [if_neg (show ¬ ((w - 1 : Nat) : Int) = (l : Int) by omega), if_pos (show (w : Int) < 20 by omega)]
          exact ⟨fun _ => rfl, fun h => absurd (Or.inr (Or.inl ⟨by omega, by omega, h5, h6⟩)) h⟩
      · rw [if_neg h5, if_pos rfl, if_pos (show (w : Int) < 20 by omega)]
        exact ⟨fun h => by unfold qvw at h; omega, fun _ => rfl⟩
    · rw [if_neg (show ¬ (1 ≤ (w : Int) ∧ (w : Int) ≤ 8) by omega), if_pos rfl]
      by_cases h4 : 20 ≤ w ∧ w < 532
      · rw [if_pos (show 20 ≤ (w : Int) ∧ (w : Int) ≤ 531 by omega), if_neg h10, q_first (by omega) (by omega), q_second (by omega) (by omega), q_cut (by omega) (by omega), q_bs, q_bs, hL, hL, q_bs, q_bs, q_bs]
        by_cases h5 : (w - 20) / 64 < c
        · rw [if_pos h5, if_neg h10]
          by_cases h6 : (w - 20) / 64 = l
          · rw [if_pos (show (((w - 20) / 64 : Nat) : Int) = (l : Int) by omega), if_neg (show ¬ (w : Int) < 20 by omega)]
            exact ⟨fun h => by unfold qvw at h; omega, fun _ => rfl⟩
          · rw [if_neg (show ¬ (((w - 20) / 64 : Nat) : Int) = (l : Int) by omega), if_neg (show ¬ (w : Int) < 20 by omega)]
            by_cases h7 : (w - 20) / 8 % 8 < c
            · rw [if_pos h7, if_neg h10]
              by_cases h8 : (w - 20) / 8 % 8 = l
              · rw [if_pos (show (((w - 20) / 8 % 8 : Nat) : Int) = (l : Int) by omega)]
                exact ⟨fun h => by unfold qvw at h; omega, fun _ => rfl⟩
              · rw [if_neg (show ¬ (((w - 20) / 8 % 8 : Nat) : Int) = (l : Int) by omega)]
                by_cases h9 : (w - 20) / 64 = (w - 20) / 8 % 8
                · rw [if_pos (show (((w - 20) / 64 : Nat) : Int) = (((w - 20) / 8 % 8 : Nat) : Int) by omega)]
                  exact ⟨fun h => by unfold qvw at h; omega, fun _ => rfl⟩
                · rw [if_neg (show ¬ (((w - 20) / 64 : Nat) : Int) = (((w - 20) / 8 % 8 : Nat) : Int) by omega)]
                  by_cases h11 : (w - 20) % 8 = 0
                  · rw [if_neg (show ¬ (0 : Int) < (((w - 20) % 8 : Nat) : Int) by omega)]
                    exact ⟨fun h => by unfold qvw at h; omega, fun _ => rfl⟩
                  · rw [if_pos (show (0 : Int) < (((w - 20) % 8 : Nat) : Int) by omega)]
                    exact ⟨fun _ => rfl, fun h => absurd (Or.inr (Or.inr ⟨h4.1, h4.2, h5, h6, h7, h8, h9, h11⟩)) h⟩
            · rw [if_neg h7, if_pos rfl]
              exact ⟨fun h => by unfold qvw at h; omega, fun _ => rfl⟩
        · rw [if_neg h5, if_pos rfl, if_neg (show ¬ (w : Int) < 20 by omega)]
          exact ⟨fun h => by unfold qvw at h; omega, fun _ => rfl⟩
      · rw [if_neg (show ¬ (20 ≤ (w : Int) ∧ (w : Int) ≤ 531) by omega), if_pos rfl]
        exact ⟨fun h => by unfold qvw at h; omega, fun _ => rfl⟩
theorem q_sourcesR {c l w : Nat} (hc : c ≤ 8) (h : qvw c l w) : f_X10_sources w = some (qsr w : Int) := by
  unfold f_X10_sources qsr
  rcases h with h | h | h
  · subst h
    rw [if_pos (show ((0 : Nat) : Int) = 0 from rfl), if_pos rfl]
    rfl
  · rw [if_neg (show ¬ (w : Int) = 0 by omega), if_pos (show (w : Int) < 20 by omega), if_neg (show ¬ w = 0 by omega), if_pos (show w < 20 by omega), show (w : Int) - 1 = ((w - 1 : Nat) : Int) by omega, q_one (by omega)]
  · have a1 : 2 ^ ((w - 20) / 64) < 2 ^ 8 := Nat.pow_lt_pow_right (by omega) (by omega)
    have a2 : 2 ^ ((w - 20) / 8 % 8) < 2 ^ 8 := Nat.pow_lt_pow_right (by omega) (by omega)
    rw [if_neg (show ¬ (w : Int) = 0 by omega), if_neg (show ¬ (w : Int) < 20 by omega), if_neg (show ¬ w = 0 by omega), if_neg (show ¬ w < 20 by omega), q_first (by omega) (by omega), q_second (by omega) (by omega), q_bs, q_bs, q_one (by omega), q_one (by omega), (q_or (n := 8) (by omega) a1 a2).1]
