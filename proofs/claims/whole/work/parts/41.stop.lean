/-! ===== the net: the reference's reach; stop ===== -/
def qnx (o c od : Nat → Int) (p : Nat) : Nat := if 0 < od p then ((f_X7_getters p o c).getD 0).toNat else 0
theorem qnx_ok {o c : Nat → Int} (ho : ∀ j, 0 ≤ o j ∧ o j ≤ 1023) (hc : ∀ j, 0 ≤ c j ∧ c j ≤ 9) (od : Nat → Int) {p : Nat} (hp : p < 10) : qnx o c od p < 2 ^ 10 ∧ (0 < od p → f_X7_getters p o c = some (qnx o c od p : Int) ∧ f_X10_goesTo p o c = some (qnx o c od p : Int)) ∧ (¬ 0 < od p → qnx o c od p = 0) := by
  obtain ⟨s, e1, e2, e3⟩ := q_getters ho hc hp
  unfold qnx
  by_cases h : 0 < od p
  · rw [if_pos h, e1]
    exact ⟨e3, fun _ => ⟨rfl, e2⟩, fun g => absurd h g⟩
  · rw [if_neg h]
    exact ⟨by omega, fun g => absurd g h, fun _ => rfl⟩
theorem l_look {o c : Nat → Int} (ho : ∀ j, 0 ≤ o j ∧ o j ≤ 1023) (hc : ∀ j, 0 ≤ c j ∧ c j ≤ 9) (od : Nat → Int) : ∀ (n k : Nat) (e : Nat → Int), 10 - k < n → k ≤ 10 → (∀ j : Nat, j < k → e j = qnx o c od j) → ∃ e2, l_X7_lookAhead_2 n k o c od e = some e2 ∧ ∀ j : Nat, j < 10 → e2 j = qnx o c od j := by
  intro n
  induction n with
  | zero => intro k e h; omega
  | succ n ih =>
    intro k e hn hk he
    rw [l_X7_lookAhead_2]
    by_cases h : k = 10
    · subst h
      rw [if_neg (by omega)]
      exact ⟨e, rfl, he⟩
    · obtain ⟨a1, a2, a3⟩ := qnx_ok ho hc od (p := k) (by omega)
      have hk1 : (k : Int) < 10 := by omega
      have hz1 : zin (k : Int) 10 := by omega
      have hz2 : zin (k : Int) 10 ∧ zI ((k : Int) + 1) := by omega
      rw [if_pos hk1, if_pos hz1, Int.toNat_natCast]
      have hnew : ∀ x : Int, x = qnx o c od k → ∀ j : Nat, j < k + 1 → zu e k x j = qnx o c od j := fun x hx j hj => by
        rw [q_zu]
        by_cases hjk : j = k
        · rw [if_pos hjk, hjk]; exact hx
        · rw [if_neg hjk]; exact he j (by omega)
      by_cases hod : 0 < od k
      · rw [if_pos hod, (a2 hod).1, q_bs, if_pos hz2]
        exact ih (k + 1) _ (by omega) (by omega) (hnew _ rfl)
      · rw [if_neg hod, if_pos hz2]
        exact ih (k + 1) _ (by omega) (by omega) (hnew _ (by rw [a3 hod]; rfl))
theorem q_look {o c : Nat → Int} (ho : ∀ j, 0 ≤ o j ∧ o j ≤ 1023) (hc : ∀ j, 0 ≤ c j ∧ c j ≤ 9) (od e : Nat → Int) : ∃ e2, f_X7_lookAhead o c od e = some e2 ∧ ∀ j : Nat, j < 10 → e2 j = qnx o c od j ∧ qnx o c od j < 2 ^ 10 := by
  obtain ⟨e2, r1, r2⟩ := l_look ho hc od zN 0 e (by have := zN_big; omega) (by omega) (fun j hj => by omega)
  have r1 : l_X7_lookAhead_2 zN 0 o c od e = some e2 := r1
  unfold f_X7_lookAhead
  rw [r1]
  exact ⟨e2, rfl, fun j hj => ⟨r2 j hj, (qnx_ok ho hc od hj).1⟩⟩
theorem l_rin {o c : Nat → Int} (ho : ∀ j, 0 ≤ o j ∧ o j ≤ 1023) (hc : ∀ j, 0 ≤ c j ∧ c j ≤ 9) (od : Nat → Int) {told : Nat} (ht : told < 2 ^ 10) (v4 : Int) : ∀ (n k S : Nat), 10 - k < n → k ≤ 10 → S < 2 ^ 10 →
    ∃ S2 : Nat, l_X10_reachOf_17 n told v4 S k o c od = some (S2 : Int) ∧ S2 < 2 ^ 10 ∧ (∀ q, S.testBit q = true → S2.testBit q = true) ∧ (∀ T : Nat, qcl (qnx o c od) told T → (∀ q, S.testBit q = true → T.testBit q = true) → ∀ q, S2.testBit q = true → T.testBit q = true) ∧
      ∀ p, k ≤ p → p < 10 → S.testBit p = true → told.testBit p = false → ∀ q, (qnx o c od p).testBit q = true → told.testBit q = false → S2.testBit q = true := by
  intro n
  induction n with
  | zero => intro k S h; omega
  | succ n ih =>
    intro k S hn hk hS
    rw [l_X10_reachOf_17]
    by_cases h : k = 10
    · subst h
      rw [if_neg (by omega)]
      exact ⟨S, rfl, hS, fun q h => h, fun T _ h => h, fun p h1 h2 => by omega⟩
    · have hk1 : (k : Int) < 10 := by omega
      have hz1 : zin (k : Int) 10 := by omega
      have hz3 : zI ((k : Int) + 1) := by omega
      have hor0 : zor (S : Int) 0 = (S : Int) := by
        have := (q_or (a := S) (b := 0) (n := 10) (by omega) hS (by omega)).1
        rw [Nat.or_zero] at this
        exact this
      obtain ⟨a1, a2, a3⟩ := qnx_ok ho hc od (p := k) (by omega)
      rw [if_pos hk1, if_pos hz3, if_pos hz1, hor0, Int.toNat_natCast, q_bit (m := S) (k := k) (by omega) (by omega), q_bit (m := told) (k := k) (by omega) (by omega)]
      have stay : (S.testBit k = true → told.testBit k = false → ∀ q, (qnx o c od k).testBit q = true → told.testBit q = false → S.testBit q = true) → ∃ S2 : Nat, l_X10_reachOf_17 n told v4 S ((k : Int) + 1) o c od = some (S2 : Int) ∧ S2 < 2 ^ 10 ∧ (∀ q, S.testBit q = true → S2.testBit q = true) ∧ (∀ T : Nat, qcl (qnx o c od) told T → (∀ q, S.testBit q = true → T.testBit q = true) → ∀ q, S2.testBit q = true → T.testBit q = true) ∧
          ∀ p, k ≤ p → p < 10 → S.testBit p = true → told.testBit p = false → ∀ q, (qnx o c od p).testBit q = true → told.testBit q = false → S2.testBit q = true := fun hs => by
        obtain ⟨S2, r1, r2, r3, r4, r5⟩ := ih (k + 1) S (by omega) (by omega) hS
        refine ⟨S2, r1, r2, r3, r4, fun p p1 p2 p3 p4 q q1 q2 => ?_⟩
        by_cases hpk : p = k
        · subst hpk; exact r3 q (hs p3 p4 q q1 q2)
        · exact r5 p (by omega) p2 p3 p4 q q1 q2
      by_cases hb : S.testBit k = true
      · rw [if_pos hb, if_pos rfl]
        by_cases hb2 : told.testBit k = true
        · rw [if_pos hb2, if_neg (by omega)]
          exact stay (fun _ h => by rw [hb2] at h; cases h)
        · rw [if_neg hb2, if_pos rfl]
          by_cases hod : 0 < od k
          · have hq := qno_le (qnx o c od k) told (n := 10) a1
            obtain ⟨o1, o2⟩ := q_or (a := S) (b := qno (qnx o c od k) told) (n := 10) (by omega) hS hq
            rw [if_pos hod, (a2 hod).2, q_bs, if_pos hz3, q_not (a := qnx o c od k) (b := told) (by omega) (by omega), o1]
            obtain ⟨S2, r1, r2, r3, r4, r5⟩ := ih (k + 1) (S ||| qno (qnx o c od k) told) (by omega) (by omega) o2
            have hor : ∀ q, (S ||| qno (qnx o c od k) told).testBit q = true ↔ S.testBit q = true ∨ (qnx o c od k).testBit q = true ∧ told.testBit q = false := fun q => by
              rw [Nat.testBit_or, qno_bit]
              cases S.testBit q <;> cases (qnx o c od k).testBit q <;> cases told.testBit q <;> decide
            refine ⟨S2, r1, r2, fun q hq => r3 q ((hor q).2 (Or.inl hq)), fun T t1 t2 q hq => r4 T t1 (fun j hj => ?_) q hq, fun p p1 p2 p3 p4 q q1 q2 => ?_⟩
            · rcases (hor j).1 hj with h | h
              · exact t2 j h
              · exact t1 k (by omega) (t2 k hb) (by simpa using hb2) j h.1 h.2
            · by_cases hpk : p = k
              · subst hpk; exact r3 q ((hor q).2 (Or.inr ⟨q1, q2⟩))
              · exact r5 p (by omega) p2 ((hor p).2 (Or.inl p3)) p4 q q1 q2
          · rw [if_neg hod]
            exact stay (fun _ _ q hq => by rw [a3 hod, Nat.zero_testBit] at hq; cases hq)
      · rw [if_neg hb, if_neg (by omega)]
        exact stay (fun h => absurd h hb)
theorem l_rout {o c : Nat → Int} (ho : ∀ j, 0 ≤ o j ∧ o j ≤ 1023) (hc : ∀ j, 0 ≤ c j ∧ c j ≤ 9) (od : Nat → Int) {told own : Nat} (ht : told < 2 ^ 10) : ∀ (n t S : Nat), 10 - t < n → t ≤ 10 → S < 2 ^ 10 → S.testBit own = true →
    (∀ T : Nat, T.testBit own = true → qcl (qnx o c od) told T → ∀ q, S.testBit q = true → T.testBit q = true) → (¬ qcl (qnx o c od) told S → t + 1 ≤ qct S.testBit 10) → ∃ S2 : Nat, l_X10_reachOf_7 n told S t o c od = some (S2 : Int) ∧ qrch (qnx o c od) told own S2 := by
  intro n
  induction n with
  | zero => intro t S h; omega
  | succ n ih =>
    intro t S hn htt hS h1 h2 h3
    rw [l_X10_reachOf_7]
    by_cases h : t = 10
    · subst h
      rw [if_neg (by omega)]
      refine ⟨S, rfl, hS, h1, ?_, h2⟩
      by_cases hq : qcl (qnx o c od) told S
      · exact hq
      · have := h3 hq
        have := qct_le S.testBit 10
        omega
    · have hz3 : zI ((t : Int) + 1) := by omega
      obtain ⟨S2, r1, r2, r3, r4, r5⟩ := l_rin ho hc od ht (t : Int) zN 0 S (by have := zN_big; omega) (by omega) hS
      have r1 : l_X10_reachOf_17 zN told t S 0 o c od = some (S2 : Int) := r1
      rw [if_pos (by omega), r1, q_bs, if_pos hz3]
      refine ih (t + 1) S2 (by omega) (by omega) r2 (r3 own h1) (fun T t1 t2 => r4 T t2 (h2 T t1 t2)) (fun hne => ?_)
      have hnS : ¬ qcl (qnx o c od) told S := fun hS1 => by
        apply hne
        have e : S2 = S := by
          apply Nat.eq_of_testBit_eq
          intro i
          have a := r4 S hS1 (fun q h => h) i
          have b := r3 i
          cases hs : S.testBit i <;> cases hs2 : S2.testBit i
          · rfl
          · rw [a hs2] at hs; cases hs
          · rw [b hs] at hs2; cases hs2
          · rfl
        rw [e]
        exact hS1
      have h4 := h3 hnS
      have h5 : ∃ q, q < 10 ∧ S.testBit q = false ∧ S2.testBit q = true := by
        refine Classical.byContradiction fun hno => hnS (fun p p1 p2 p3 q q1 q2 => ?_)
        by_cases hq : S.testBit q = true
        · exact hq
        · exact absurd ⟨q, q_tb (qnx_ok ho hc od p1).1 q1, by simpa using hq, r5 p (Nat.zero_le _) p1 p2 p3 q q1 q2⟩ hno
      obtain ⟨q, q1, q2, q3⟩ := h5
      have := qct_lt (P := S.testBit) (Q := S2.testBit) q2 q3 10 q1 (fun j _ h => r3 j h)
      omega
theorem q_reachOf {o c : Nat → Int} (ho : ∀ j, 0 ≤ o j ∧ o j ≤ 1023) (hc : ∀ j, 0 ≤ c j ∧ c j ≤ 9) (od : Nat → Int) {told own : Nat} (ht : told < 2 ^ 10) (hw : own < 10) : ∃ S : Nat, f_X10_reachOf own told o c od = some (S : Int) ∧ qrch (qnx o c od) told own S := by
  have h2 : 2 ^ own < 2 ^ 10 := Nat.pow_lt_pow_right (by omega) hw
  have hb : ∀ q, (2 ^ own).testBit q = true ↔ own = q := fun q => by rw [Nat.testBit_two_pow]; exact decide_eq_true_iff
  unfold f_X10_reachOf
  obtain ⟨S, r1, r2⟩ := l_rout ho hc od (own := own) ht zN 0 (2 ^ own) (by have := zN_big; omega) (by omega) h2 ((hb own).2 rfl) (fun T t1 _ q hq => by rw [← (hb q).1 hq]; exact t1) (fun _ => qct_pos (i := own) ((hb own).2 rfl) 10 hw)
  have r1 : l_X10_reachOf_7 zN told ((2 ^ own : Nat) : Int) 0 o c od = some (S : Int) := r1
  rw [q_one (k := own) (by omega), r1]
  exact ⟨S, rfl, r2⟩
theorem q_preach (p1 p2 : Int) {o c : Nat → Int} (ho : ∀ j, 0 ≤ o j ∧ o j ≤ 1023) (hc : ∀ j, 0 ≤ c j ∧ c j ≤ 9) (od e : Nat → Int) : ∃ r e2, f_X9_reach p1 p2 o c od e = some (r, e2) ∧ f_X10_reach p1 p2 o c od = some r := by
  unfold f_X9_reach f_X10_reach
  rw [(q_person p1).1, (q_person p1).2, q_bs, q_bs, q_within, q_in, q_bs, q_bs]
  have h10 : ¬ (1 : Int) = 0 := by omega
  by_cases h1 : 0 ≤ p1 ∧ p1 ≤ 9
  · by_cases h2 : 0 ≤ p2 ∧ p2 ≤ 1023
    · obtain ⟨p, rfl⟩ : ∃ p : Nat, p1 = p := ⟨p1.toNat, by omega⟩
      obtain ⟨m, rfl⟩ : ∃ m : Nat, p2 = m := ⟨p2.toNat, by omega⟩
      obtain ⟨e2, a1, a2⟩ := q_look ho hc od e
      obtain ⟨S, b1, b2⟩ := q_reached a2 (told := m) (own := p) (by omega) (by omega)
      obtain ⟨T, c1, c2⟩ := q_reachOf ho hc od (told := m) (own := p) (by omega) (by omega)
      rw [if_pos h1, if_pos h2, if_neg h10, if_neg h10, if_neg h10, if_neg h10, a1, q_bs, b1, c1, q_bs, q_bs, qrch_uniq b2 c2]
      exact ⟨_, _, rfl, rfl⟩
    · rw [if_pos h1, if_neg h2, if_neg h10, if_neg h10, if_pos rfl, if_pos rfl]
      exact ⟨_, _, rfl, rfl⟩
  · rw [if_neg h1, if_pos rfl, if_pos rfl]
    exact ⟨_, _, rfl, rfl⟩
theorem qct_shift (P : Nat → Bool) (k : Nat) : qct P (k + 1) = (if P 0 = true then 1 else 0) + qct (fun i => P (i + 1)) k := by
  induction k with
  | zero => simp only [qct]; omega
  | succ k ih =>
    rw [qct, ih]
    simp only [qct]
    omega
theorem l_size : ∀ (j n s m : Nat), j < n → m < 2 ^ j → s + j ≤ 10 → l_X10_sizeOf_4 n s m = some ((s + qct m.testBit j : Nat) : Int) := by
  intro j
  induction j with
  | zero =>
    intro n s m hn hm hs
    obtain ⟨n, rfl⟩ : ∃ k, n = k + 1 := ⟨n - 1, by omega⟩
    rw [l_X10_sizeOf_4, if_neg (by omega)]
    rfl
  | succ j ih =>
    intro n s m hn hm hs
    obtain ⟨n, rfl⟩ : ∃ k, n = k + 1 := ⟨n - 1, by omega⟩
    have hj : (2 : Nat) ^ (j + 1) ≤ 2 ^ 10 := Nat.pow_le_pow_right (by omega) (by omega)
    rw [l_X10_sizeOf_4, zand_1]
    have e1 : zshr (m : Int) 1 = ((m / 2 : Nat) : Int) := by
      have := zshr_int (m : Int) 1 (by omega) (by omega)
      rw [show zshr (m : Int) 1 = zshr (m : Int) ((1 : Nat) : Int) from rfl, this]
      omega
    have e2 : (s : Int) + (m : Int) % 2 = ((s + m % 2 : Nat) : Int) := by omega
    rw [e1, e2, if_pos (show zI ((s + m % 2 : Nat) : Int) by omega), qct_shift]
    have e3 : (if m.testBit 0 = true then 1 else 0) = m % 2 := by
      rw [Nat.testBit_zero]
      rcases (show m % 2 = 0 ∨ m % 2 = 1 by omega) with h | h <;> rw [h] <;> rfl
    have e4 : (fun i => m.testBit (i + 1)) = (m / 2).testBit := by
      funext i
      exact (Nat.testBit_div_two m i).symm
    rw [e3, e4]
    by_cases h0 : 0 < (m : Int)
    · rw [if_pos h0, ih n (s + m % 2) (m / 2) (by omega) (by rw [Nat.pow_succ] at hm; omega) (by omega)]
      congr 2
      omega
    · have : m = 0 := by omega
      subst this
      rw [if_neg h0]
      have hz : ∀ k, qct (0 / 2 : Nat).testBit k = 0 := by
        intro k
        induction k with
        | zero => rfl
        | succ k ih2 => rw [qct, ih2, if_neg (by rw [Nat.zero_div, Nat.zero_testBit]; decide)]
      rw [hz]
      rfl
theorem q_size {m : Nat} (hm : m < 2 ^ 10) : f_X10_sizeOf m = some ((qct m.testBit 10 : Nat) : Int) := by
  unfold f_X10_sizeOf
  have h := l_size 10 zN 0 m (by have := zN_big; omega) hm (by omega)
  rw [Nat.zero_add] at h
  have h : l_X10_sizeOf_4 zN 0 m = some ((qct m.testBit 10 : Nat) : Int) := h
  rw [h]
  rfl
theorem q_bitCount : ∀ m : Nat, m < 1024 → f_J6_bitCount_0f7a4 m = some ((qct m.testBit 10 : Nat) : Int) := by decide +kernel
