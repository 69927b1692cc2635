/-! ===== the net: reach ===== -/
/-- how many of the first places fulfil P -/
def qct (P : Nat → Bool) : Nat → Nat
  | 0 => 0
  | k + 1 => qct P k + if P k = true then 1 else 0
theorem qct_le (P : Nat → Bool) (k : Nat) : qct P k ≤ k := by
  induction k with
  | zero => exact Nat.le_refl _
  | succ k ih => simp only [qct]; split <;> omega
theorem qct_mono {P Q : Nat → Bool} : ∀ k : Nat, (∀ j, j < k → P j = true → Q j = true) → qct P k ≤ qct Q k := by
  intro k
  induction k with
  | zero => intro _; exact Nat.le_refl _
  | succ k ih =>
    intro h
    have h1 := ih (fun j hj => h j (by omega))
    have h2 := h k (by omega)
    simp only [qct]
    by_cases ha : P k = true
    · rw [if_pos ha, if_pos (h2 ha)]; omega
    · rw [if_neg ha]; split <;> omega
theorem qct_lt {P Q : Nat → Bool} {i : Nat} (hp : P i = false) (hq : Q i = true) : ∀ k : Nat, i < k → (∀ j, j < k → P j = true → Q j = true) → qct P k < qct Q k := by
  intro k
  induction k with
  | zero => intro h; omega
  | succ k ih =>
    intro hi h
    simp only [qct]
    by_cases hik : i = k
    · subst hik
      have h1 := qct_mono (P := P) (Q := Q) i (fun j hj => h j (by omega))
      rw [hp, hq, if_neg (by decide), if_pos rfl]
      omega
    · have h1 := ih (by omega) (fun j hj => h j (by omega))
      have h2 := h k (by omega)
      by_cases ha : P k = true
      · rw [if_pos ha, if_pos (h2 ha)]; omega
      · rw [if_neg ha]; split <;> omega
theorem qct_pos {P : Nat → Bool} {i : Nat} (hp : P i = true) : ∀ k : Nat, i < k → 1 ≤ qct P k := by
  intro k hk
  have h := qct_lt (P := fun _ => false) (Q := P) (i := i) rfl hp k hk (fun j _ h => by cases h)
  omega
theorem q_tb {m n q : Nat} (hm : m < 2 ^ n) (h : m.testBit q = true) : q < n := by
  rcases Nat.lt_or_ge q n with h1 | h1
  · exact h1
  · have h2 : (2 : Nat) ^ n ≤ 2 ^ q := Nat.pow_le_pow_right (by omega) h1
    rw [Nat.testBit_lt_two_pow (by omega)] at h
    cases h
/-- what a set of people can't leave, if some are told better -/
def qcl (nx : Nat → Nat) (told : Nat) (S : Nat) : Prop := ∀ p, p < 10 → S.testBit p = true → told.testBit p = false → ∀ q, (nx p).testBit q = true → told.testBit q = false → S.testBit q = true
def qrch (nx : Nat → Nat) (told own S : Nat) : Prop := S < 2 ^ 10 ∧ S.testBit own = true ∧ qcl nx told S ∧ ∀ S2 : Nat, S2.testBit own = true → qcl nx told S2 → ∀ q, S.testBit q = true → S2.testBit q = true
theorem qrch_uniq {nx : Nat → Nat} {told own S T : Nat} (h1 : qrch nx told own S) (h2 : qrch nx told own T) : S = T := by
  apply Nat.eq_of_testBit_eq
  intro i
  have a := h1.2.2.2 T h2.2.1 h2.2.2.1 i
  have b := h2.2.2.2 S h1.2.1 h1.2.2.1 i
  cases hs : S.testBit i <;> cases ht : T.testBit i
  · rfl
  · rw [b ht] at hs; cases hs
  · rw [a hs] at ht; cases ht
  · rfl
theorem l_got {e : Nat → Int} {nx : Nat → Nat} (he : ∀ j : Nat, j < 10 → e j = nx j ∧ nx j < 2 ^ 10) {fr : Nat} (hfr : fr < 2 ^ 10) (v2 v4 v6 : Int) : ∀ (n k g : Nat), 10 - k < n → k ≤ 10 → g < 2 ^ 10 → ∃ g2 : Nat, l_X7_reached_39 n v2 v4 fr v6 g k e = some (g2 : Int) ∧ g2 < 2 ^ 10 ∧ ∀ q, g2.testBit q = true ↔ g.testBit q = true ∨ ∃ i, k ≤ i ∧ i < 10 ∧ fr.testBit i = true ∧ (nx i).testBit q = true := by
  intro n
  induction n with
  | zero => intro k g h; omega
  | succ n ih =>
    intro k g hn hk hg
    rw [l_X7_reached_39]
    by_cases h : k = 10
    · subst h
      rw [if_neg (by omega)]
      exact ⟨g, rfl, hg, fun q => ⟨Or.inl, fun h => h.elim id (fun ⟨i, h1, h2, _⟩ => by omega)⟩⟩
    · have hk1 : (k : Int) < 10 := by omega
      have hz1 : zin (k : Int) 10 := by omega
      have hz3 : zI ((k : Int) + 1) := by omega
      rw [if_pos hk1, Int.toNat_natCast, q_bit (m := fr) (k := k) (by omega) (by omega), if_pos hz3, if_pos hz1, if_pos hz3]
      by_cases hb : fr.testBit k = true
      · obtain ⟨e1, e2⟩ := he k (by omega)
        obtain ⟨o1, o2⟩ := q_or (a := g) (b := nx k) (n := 10) (by omega) hg e2
        rw [if_pos hb, if_neg (by omega), e1, o1]
        obtain ⟨g2, r1, r2, r3⟩ := ih (k + 1) (g ||| nx k) (by omega) (by omega) o2
        refine ⟨g2, r1, r2, fun q => ?_⟩
        rw [r3 q, Nat.testBit_or, Bool.or_eq_true]
        constructor
        · rintro ((h1 | h1) | ⟨i, h1, h2, h3, h4⟩)
          · exact Or.inl h1
          · exact Or.inr ⟨k, Nat.le_refl _, by omega, hb, h1⟩
          · exact Or.inr ⟨i, by omega, h2, h3, h4⟩
        · rintro (h1 | ⟨i, h1, h2, h3, h4⟩)
          · exact Or.inl (Or.inl h1)
          · by_cases hik : i = k
            · subst hik; exact Or.inl (Or.inr h4)
            · exact Or.inr ⟨i, by omega, h2, h3, h4⟩
      · rw [if_neg hb, if_pos rfl]
        obtain ⟨g2, r1, r2, r3⟩ := ih (k + 1) g (by omega) (by omega) hg
        refine ⟨g2, r1, r2, fun q => ?_⟩
        rw [r3 q]
        constructor
        · rintro (h1 | ⟨i, h1, h2, h3, h4⟩)
          · exact Or.inl h1
          · exact Or.inr ⟨i, by omega, h2, h3, h4⟩
        · rintro (h1 | ⟨i, h1, h2, h3, h4⟩)
          · exact Or.inl h1
          · by_cases hik : i = k
            · subst hik; exact absurd h3 hb
            · exact Or.inr ⟨i, by omega, h2, h3, h4⟩
theorem l_reached {e : Nat → Int} {nx : Nat → Nat} (he : ∀ j : Nat, j < 10 → e j = nx j ∧ nx j < 2 ^ 10) {told own : Nat} (ht : told < 2 ^ 10) : ∀ (n t A F : Nat), 10 - t < n → t ≤ 10 → A < 2 ^ 10 → F < 2 ^ 10 → A.testBit own = true → (∀ q, F.testBit q = true → A.testBit q = true) → (∀ q, A.testBit q = true → told.testBit q = false) →
    (∀ S2 : Nat, S2.testBit own = true → qcl nx told S2 → ∀ q, A.testBit q = true → S2.testBit q = true) → (∀ p, p < 10 → A.testBit p = true → F.testBit p = false → ∀ q, (nx p).testBit q = true → told.testBit q = false → A.testBit q = true) → (F ≠ 0 → t + 1 ≤ qct A.testBit 10) →
    ∃ S : Nat, l_X7_reached_21 n told A F t e = some (S : Int) ∧ qrch nx told own S := by
  intro n
  induction n with
  | zero => intro t A F h; omega
  | succ n ih =>
    intro t A F hn htt hA hF h1 h2 h3 h4 h5 h6
    rw [l_X7_reached_21]
    have done : F = 0 → qrch nx told own A := fun h => by
      refine ⟨hA, h1, fun p hp hpA _ q hq hqt => h5 p hp hpA ?_ q hq hqt, h4⟩
      rw [h]; exact Nat.zero_testBit p
    by_cases h : t = 10
    · have hF0 : F = 0 := by
        rcases Nat.eq_zero_or_pos F with h0 | h0
        · exact h0
        · have := h6 (by omega)
          have := qct_le A.testBit 10
          omega
      subst h
      rw [if_neg (by omega)]
      exact ⟨A, rfl, done hF0⟩
    · rw [if_pos (by omega)]
      by_cases hF0 : F = 0
      · rw [if_pos (by omega)]
        exact ⟨A, rfl, done hF0⟩
      · rw [if_neg (by omega)]
        obtain ⟨g, r1, r2, r3⟩ := l_got he hF told A t zN 0 0 (by have := zN_big; omega) (by omega) (by omega)
        have r1 : l_X7_reached_39 zN told A F t 0 0 e = some (g : Int) := r1
        have hg1 := qno_le g A (n := 10) r2
        have hg2 := qno_le (qno g A) told (n := 10) hg1
        have hz3 : zI ((t : Int) + 1) := by omega
        obtain ⟨o1, o2⟩ := q_or (a := A) (b := qno (qno g A) told) (n := 10) (by omega) hA hg2
        rw [r1, q_bs, if_pos hz3, q_not (a := g) (b := A) (by omega) (by omega), q_not (a := qno g A) (b := told) (by omega) (by omega), o1]
        have hbit : ∀ q, (qno (qno g A) told).testBit q = true ↔ g.testBit q = true ∧ A.testBit q = false ∧ told.testBit q = false := fun q => by
          rw [qno_bit, qno_bit]
          cases g.testBit q <;> cases A.testBit q <;> cases told.testBit q <;> decide
        have hg : ∀ q, g.testBit q = true ↔ ∃ i, i < 10 ∧ F.testBit i = true ∧ (nx i).testBit q = true := fun q => by
          rw [r3 q, Nat.zero_testBit]
          constructor
          · rintro (h | ⟨i, _, h2, h3⟩)
            · cases h
            · exact ⟨i, h2, h3⟩
          · rintro ⟨i, h2, h3⟩
            exact Or.inr ⟨i, Nat.zero_le _, h2, h3⟩
        have hor : ∀ q, (A ||| qno (qno g A) told).testBit q = true ↔ A.testBit q = true ∨ (qno (qno g A) told).testBit q = true := fun q => by
          rw [Nat.testBit_or, Bool.or_eq_true]
        refine ih (t + 1) (A ||| qno (qno g A) told) (qno (qno g A) told) (by omega) (by omega) o2 hg2 ((hor _).2 (Or.inl h1)) (fun q hq => (hor _).2 (Or.inr hq)) (fun q hq => ?_) (fun S2 s1 s2 q hq => ?_) (fun p hp hpA hpF q hq hqt => ?_) (fun hne => ?_)
        · rcases (hor _).1 hq with h | h
          · exact h3 q h
          · exact ((hbit q).1 h).2.2
        · rcases (hor _).1 hq with h | h
          · exact h4 S2 s1 s2 q h
          · obtain ⟨b1, b2, b3⟩ := (hbit q).1 h
            obtain ⟨i, i1, i2, i3⟩ := (hg q).1 b1
            exact s2 i i1 (h4 S2 s1 s2 i (h2 i i2)) (h3 i (h2 i i2)) q i3 b3
        · rcases (hor _).1 hpA with h | h
          · by_cases hf : F.testBit p = true
            · by_cases hqA : A.testBit q = true
              · exact (hor _).2 (Or.inl hqA)
              · exact (hor _).2 (Or.inr ((hbit q).2 ⟨(hg q).2 ⟨p, hp, hf, hq⟩, by simpa using hqA, hqt⟩))
            · exact (hor _).2 (Or.inl (h5 p hp h (by simpa using hf) q hq hqt))
          · rw [h] at hpF; cases hpF
        · obtain ⟨i, hi⟩ := Nat.exists_testBit_of_ne_zero hne
          have h7 := qct_lt (P := A.testBit) (Q := (A ||| qno (qno g A) told).testBit) (i := i) ((hbit i).1 hi).2.1 ((hor i).2 (Or.inr hi)) 10 (q_tb hg2 hi) (fun j _ hj => (hor j).2 (Or.inl hj))
          have h8 := h6 hF0
          omega
theorem q_own {m p : Nat} (hm : m < 2147483648) (hp : p < 31) : zand (m : Int) (zshl 1 (p : Int)) = 0 ↔ m.testBit p = false := by
  have h2 : 2 ^ p < 2 ^ 31 := Nat.pow_lt_pow_right (by omega) hp
  rw [q_one hp, zand_nat _ _ hm (by omega)]
  have e : ((m &&& 2 ^ p : Nat) : Int) = 0 ↔ m &&& 2 ^ p = 0 := by omega
  rw [e]
  constructor
  · intro h
    have h1 : (m &&& 2 ^ p).testBit p = false := by rw [h]; exact Nat.zero_testBit p
    rw [Nat.testBit_and, Nat.testBit_two_pow_self, Bool.and_true] at h1
    exact h1
  · intro h
    apply Nat.eq_of_testBit_eq
    intro i
    rw [Nat.testBit_and, Nat.zero_testBit]
    by_cases hi : p = i
    · subst hi; rw [h]; rfl
    · rw [Nat.testBit_two_pow_of_ne hi, Bool.and_false]
theorem q_reached {e : Nat → Int} {nx : Nat → Nat} (he : ∀ j : Nat, j < 10 → e j = nx j ∧ nx j < 2 ^ 10) {told own : Nat} (ht : told < 2 ^ 10) (ho : own < 10) : ∃ S : Nat, f_X7_reached own told e = some (S : Int) ∧ qrch nx told own S := by
  have h2 : 2 ^ own < 2 ^ 10 := Nat.pow_lt_pow_right (by omega) ho
  have hone := q_one (k := own) (by omega)
  have hb : ∀ q, (2 ^ own).testBit q = true ↔ own = q := fun q => by rw [Nat.testBit_two_pow]; exact decide_eq_true_iff
  unfold f_X7_reached
  by_cases h : told.testBit own = true
  · rw [if_neg (fun g => by rw [(q_own (by omega) (by omega)).1 g] at h; cases h), hone]
    refine ⟨2 ^ own, rfl, h2, (hb own).2 rfl, fun p hp hp1 hp2 => ?_, fun S2 s1 s2 q hq => ?_⟩
    · rw [(hb p).1 hp1, hp2] at h; cases h
    · rw [← (hb q).1 hq]; exact s1
  · rw [if_pos ((q_own (by omega) (by omega)).2 (by simpa using h)), hone]
    obtain ⟨S, r1, r2⟩ := l_reached he (own := own) ht zN 0 (2 ^ own) (2 ^ own) (by have := zN_big; omega) (by omega) h2 h2 ((hb own).2 rfl) (fun q hq => hq) (fun q hq => by rw [← (hb q).1 hq]; simpa using h) (fun S2 s1 s2 q hq => by rw [← (hb q).1 hq]; exact s1) (fun p hp a b => by rw [a] at b; cases b) (fun _ => qct_pos (i := own) ((hb own).2 rfl) 10 ho)
    have r1 : l_X7_reached_21 zN told ((2 ^ own : Nat) : Int) ((2 ^ own : Nat) : Int) 0 e = some (S : Int) := r1
    rw [r1]
    exact ⟨S, rfl, r2⟩
