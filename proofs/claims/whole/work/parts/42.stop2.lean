/-! ===== the net: stop ===== -/
/-- the fewest told, of like ones the least as bits -/
def qbst (r : Nat → Nat) (own m b : Nat) : Prop := b < 2 ^ 10 ∧ b.testBit own = false ∧ qct (r b).testBit 10 ≤ m ∧ ∀ t, t < 2 ^ 10 → t.testBit own = false → qct (r t).testBit 10 ≤ m → qct b.testBit 10 < qct t.testBit 10 ∨ (qct b.testBit 10 = qct t.testBit 10 ∧ b ≤ t)
theorem qbst_uniq {r : Nat → Nat} {own m a b : Nat} (h1 : qbst r own m a) (h2 : qbst r own m b) : a = b := by
  have x := h1.2.2.2 b h2.1 h2.2.1 h2.2.2.1
  have y := h2.2.2.2 a h1.1 h1.2.1 h1.2.2.1
  omega
theorem q_sub_le {a b : Nat} (h : ∀ q, a.testBit q = true → b.testBit q = true) : a ≤ b := by
  have e : a &&& b = a := by
    apply Nat.eq_of_testBit_eq
    intro i
    have := h i
    rw [Nat.testBit_and]
    cases ha : a.testBit i
    · rfl
    · rw [h i ha]; rfl
  rw [← e]
  exact Nat.and_le_right
theorem q_sub_lt {a b : Nat} (hb : b < 2 ^ 10) (h : ∀ q, a.testBit q = true → b.testBit q = true) (hne : a ≠ b) : qct a.testBit 10 < qct b.testBit 10 := by
  obtain ⟨i, hi⟩ := Nat.exists_testBit_ne_of_ne hne
  have := h i
  cases ha : a.testBit i
  · cases hb2 : b.testBit i
    · rw [ha, hb2] at hi; exact absurd rfl hi
    · exact qct_lt ha hb2 10 (q_tb hb hb2) (fun j _ => h j)
  · rw [ha, this ha] at hi; exact absurd rfl hi
theorem q_nosub {t a : Nat} (ht : t < 2147483648) (ha : a < 2147483648) : zand (t : Int) (zxor (a : Int) (-1)) = 0 ↔ ∀ q, t.testBit q = true → a.testBit q = true := by
  rw [q_not ht ha]
  have e : ((qno t a : Nat) : Int) = 0 ↔ qno t a = 0 := by omega
  rw [e]
  constructor
  · intro h q hq
    have h1 : (qno t a).testBit q = false := by rw [h]; exact Nat.zero_testBit q
    rw [qno_bit, hq] at h1
    cases h2 : a.testBit q
    · rw [h2] at h1; cases h1
    · rfl
  · intro h
    apply Nat.eq_of_testBit_eq
    intro i
    rw [qno_bit, Nat.zero_testBit]
    cases h1 : t.testBit i
    · rfl
    · rw [h i h1]; rfl
theorem l_stopC {e : Nat → Int} {r : Nat → Nat} {own m able : Nat} (hr : ∀ t : Nat, t < 2 ^ 10 → f_X7_reached own t e = some (r t : Int) ∧ r t < 2 ^ 10) (hab : able < 2 ^ 10) (hao : able.testBit own = false) : ∀ (n t b : Nat), able + 1 - t < n → t ≤ able + 1 → b < 2 ^ 10 → b.testBit own = false → qct (r b).testBit 10 ≤ m → (∀ q, b.testBit q = true → able.testBit q = true) → (b < t ∨ b = able) →
    (∀ x, x < t → (∀ q, x.testBit q = true → able.testBit q = true) → qct (r x).testBit 10 ≤ m → qct b.testBit 10 < qct x.testBit 10 ∨ (qct b.testBit 10 = qct x.testBit 10 ∧ b ≤ x)) →
    ∃ b2 : Nat, l_X7_fewestTold_19 n own m able b t e = some (b2 : Int) ∧ b2 < 2 ^ 10 ∧ b2.testBit own = false ∧ qct (r b2).testBit 10 ≤ m ∧ ∀ x, (∀ q, x.testBit q = true → able.testBit q = true) → qct (r x).testBit 10 ≤ m → qct b2.testBit 10 < qct x.testBit 10 ∨ (qct b2.testBit 10 = qct x.testBit 10 ∧ b2 ≤ x) := by
  intro n
  induction n with
  | zero => intro t b h; omega
  | succ n ih =>
    intro t b hn ht h1 h2 h3 h4 h5 h6
    rw [l_X7_fewestTold_19]
    by_cases h : t = able + 1
    · subst h
      rw [if_pos (by omega)]
      exact ⟨b, rfl, h1, h2, h3, fun x hx => h6 x (Nat.lt_succ_of_le (q_sub_le hx)) hx⟩
    · have hz3 : zI ((t : Int) + 1) := by omega
      have ht2 : t < 2 ^ 10 := by omega
      rw [if_neg (by omega)]
      by_cases hs : ∀ q, t.testBit q = true → able.testBit q = true
      · rw [if_pos ((q_nosub (by omega) (by omega)).2 hs), q_bitCount t ht2, q_bitCount b h1, q_bs, q_bs]
        by_cases hc : qct t.testBit 10 < qct b.testBit 10
        · rw [if_pos (by omega), (hr t ht2).1, q_bs, q_bitCount _ (hr t ht2).2, q_bs]
          by_cases hm : (m : Int) < ((qct (r t).testBit 10 : Nat) : Int)
          · rw [if_pos hm, if_pos hz3]
            refine ih (t + 1) b (by omega) (by omega) h1 h2 h3 h4 (by omega) (fun x hx hx2 hx3 => ?_)
            by_cases hxt : x = t
            · subst hxt; omega
            · exact h6 x (by omega) hx2 hx3
          · rw [if_neg hm, if_pos hz3]
            have hto : t.testBit own = false := by
              cases hq : t.testBit own
              · rfl
              · rw [hs own hq] at hao; cases hao
            refine ih (t + 1) t (by omega) (by omega) ht2 hto (by omega) hs (by omega) (fun x hx hx2 hx3 => ?_)
            by_cases hxt : x = t
            · subst hxt; omega
            · have := h6 x (by omega) hx2 hx3
              omega
        · rw [if_neg (by omega), if_pos hz3]
          refine ih (t + 1) b (by omega) (by omega) h1 h2 h3 h4 (by omega) (fun x hx hx2 hx3 => ?_)
          by_cases hxt : x = t
          · subst hxt
            rcases h5 with h5 | h5
            · omega
            · by_cases he : x = able
              · omega
              · have := q_sub_lt hab hs he
                rw [h5] at hc
                omega
          · exact h6 x (by omega) hx2 hx3
      · rw [if_neg (fun g => hs ((q_nosub (by omega) (by omega)).1 g)), if_pos hz3]
        refine ih (t + 1) b (by omega) (by omega) h1 h2 h3 h4 (by omega) (fun x hx hx2 hx3 => ?_)
        by_cases hxt : x = t
        · subst hxt; exact absurd hx2 hs
        · exact h6 x (by omega) hx2 hx3
theorem l_stopR {o c od : Nat → Int} {r : Nat → Nat} {own m : Nat} (hw : own < 10) (hr : ∀ t : Nat, t < 2 ^ 10 → f_X10_reachOf own t o c od = some (r t : Int) ∧ r t < 2 ^ 10) : ∀ (n t : Nat) (b : Int), 1024 - t < n → t ≤ 1024 →
    (b = -1 ∧ (∀ x, x < t → x.testBit own = false → ¬ qct (r x).testBit 10 ≤ m) ∨ ∃ b1 : Nat, b = b1 ∧ b1 < t ∧ b1.testBit own = false ∧ qct (r b1).testBit 10 ≤ m ∧ ∀ x, x < t → x.testBit own = false → qct (r x).testBit 10 ≤ m → qct b1.testBit 10 < qct x.testBit 10 ∨ (qct b1.testBit 10 = qct x.testBit 10 ∧ b1 ≤ x)) →
    (∃ x, x < 1024 ∧ x.testBit own = false ∧ qct (r x).testBit 10 ≤ m) → ∃ b2 : Nat, l_X10_stop_27 n own m b t o c od = some (b2 : Int) ∧ qbst r own m b2 := by
  intro n
  induction n with
  | zero => intro t b h; omega
  | succ n ih =>
    intro t b hn ht hb hex
    rw [l_X10_stop_27]
    by_cases h : t = 1024
    · subst h
      rw [if_neg (by omega)]
      rcases hb with ⟨_, hb⟩ | ⟨b1, rfl, c1, c2, c3, c4⟩
      · obtain ⟨x, x1, x2, x3⟩ := hex
        exact absurd x3 (hb x x1 x2)
      · exact ⟨b1, rfl, c1, c2, c3, c4⟩
    · have hz3 : zI ((t : Int) + 1) := by omega
      have ht2 : t < 2 ^ 10 := by omega
      rw [if_pos (by omega), q_bit (m := t) (k := own) (by omega) (by omega)]
      by_cases hto : t.testBit own = true
      · rw [if_pos hto, if_neg (by omega), if_pos hz3]
        refine ih (t + 1) b (by omega) (by omega) ?_ hex
        rcases hb with ⟨hb1, hb⟩ | ⟨b1, hb1, c1, c2, c3, c4⟩
        · refine Or.inl ⟨hb1, fun x hx hx2 => ?_⟩
          by_cases hxt : x = t
          · subst hxt; rw [hto] at hx2; cases hx2
          · exact hb x (by omega) hx2
        · refine Or.inr ⟨b1, hb1, by omega, c2, c3, fun x hx hx2 hx3 => ?_⟩
          by_cases hxt : x = t
          · subst hxt; rw [hto] at hx2; cases hx2
          · exact c4 x (by omega) hx2 hx3
      · have hto2 : t.testBit own = false := by simpa using hto
        rw [if_neg hto, if_pos rfl, (hr t ht2).1, q_bs, q_size (hr t ht2).2, q_bs]
        by_cases hm : (m : Int) < ((qct (r t).testBit 10 : Nat) : Int)
        · rw [if_pos hm, if_pos hz3]
          refine ih (t + 1) b (by omega) (by omega) ?_ hex
          rcases hb with ⟨hb1, hb⟩ | ⟨b1, hb1, c1, c2, c3, c4⟩
          · refine Or.inl ⟨hb1, fun x hx hx2 => ?_⟩
            by_cases hxt : x = t
            · subst hxt; omega
            · exact hb x (by omega) hx2
          · refine Or.inr ⟨b1, hb1, by omega, c2, c3, fun x hx hx2 hx3 => ?_⟩
            by_cases hxt : x = t
            · subst hxt; omega
            · exact c4 x (by omega) hx2 hx3
        · rw [if_neg hm]
          rcases hb with ⟨hb1, hb⟩ | ⟨b1, hb1, c1, c2, c3, c4⟩
          · rw [if_pos hb1, if_pos hz3]
            refine ih (t + 1) t (by omega) (by omega) (Or.inr ⟨t, rfl, by omega, hto2, by omega, fun x hx hx2 hx3 => ?_⟩) hex
            by_cases hxt : x = t
            · subst hxt; omega
            · exact absurd hx3 (hb x (by omega) hx2)
          · rw [if_neg (by omega), q_size ht2, hb1, q_size (m := b1) (by omega), q_bs, q_bs]
            by_cases hc : ((qct t.testBit 10 : Nat) : Int) < ((qct b1.testBit 10 : Nat) : Int)
            · rw [if_pos hc, if_pos hz3]
              refine ih (t + 1) t (by omega) (by omega) (Or.inr ⟨t, rfl, by omega, hto2, by omega, fun x hx hx2 hx3 => ?_⟩) hex
              by_cases hxt : x = t
              · subst hxt; omega
              · have := c4 x (by omega) hx2 hx3
                omega
            · rw [if_neg hc, if_pos hz3]
              refine ih (t + 1) b1 (by omega) (by omega) (Or.inr ⟨b1, rfl, by omega, c2, c3, fun x hx hx2 hx3 => ?_⟩) hex
              by_cases hxt : x = t
              · subst hxt; omega
              · exact c4 x (by omega) hx2 hx3
theorem q_pstop (p1 p2 : Int) {o c : Nat → Int} (ho : ∀ j, 0 ≤ o j ∧ o j ≤ 1023) (hc : ∀ j, 0 ≤ c j ∧ c j ≤ 9) (od e : Nat → Int) : ∃ r e2, f_X9_stop p1 p2 o c od e = some (r, e2) ∧ f_X10_stop p1 p2 o c od = some r := by
  unfold f_X9_stop f_X10_stop
  rw [(q_person p1).1, (q_person p1).2, q_bs, q_bs, q_within, q_in, q_bs, q_bs]
  have h10 : ¬ (1 : Int) = 0 := by omega
  by_cases h1 : 0 ≤ p1 ∧ p1 ≤ 9
  · by_cases h2 : 1 ≤ p2 ∧ p2 ≤ 10
    · obtain ⟨p, rfl⟩ : ∃ p : Nat, p1 = p := ⟨p1.toNat, by omega⟩
      obtain ⟨m, rfl⟩ : ∃ m : Nat, p2 = m := ⟨p2.toNat, by omega⟩
      have hp : p < 10 := by omega
      obtain ⟨e2, a1, a2⟩ := q_look ho hc od e
      obtain ⟨r, hr⟩ := Classical.axiomOfChoice (r := fun (t S : Nat) => t < 2 ^ 10 → f_X7_reached p t e2 = some (S : Int) ∧ f_X10_reachOf p t o c od = some (S : Int) ∧ qrch (qnx o c od) t p S) (fun t => by
        by_cases ht : t < 2 ^ 10
        · obtain ⟨S, b1, b2⟩ := q_reached a2 (told := t) (own := p) ht hp
          obtain ⟨T, c1, c2⟩ := q_reachOf ho hc od (told := t) (own := p) ht hp
          have e := qrch_uniq b2 c2
          subst e
          exact ⟨S, fun _ => ⟨b1, c1, b2⟩⟩
        · exact ⟨0, fun h => absurd h ht⟩)
      have h2p : 2 ^ p < 2 ^ 10 := Nat.pow_lt_pow_right (by omega) hp
      obtain ⟨z1, -, z2⟩ := hr 0 (by omega)
      have hab : qno (r 0) (2 ^ p) < 2 ^ 10 := qno_le _ _ z2.1
      have habb : ∀ q, (qno (r 0) (2 ^ p)).testBit q = true ↔ (r 0).testBit q = true ∧ q ≠ p := fun q => by
        rw [qno_bit, Nat.testBit_two_pow]
        by_cases hq : p = q
        · subst hq; simp
        · simp [hq, Ne.symm hq]
      have hao : (qno (r 0) (2 ^ p)).testBit p = false := by
        cases hq : (qno (r 0) (2 ^ p)).testBit p
        · rfl
        · exact absurd rfl ((habb p).1 hq).2
      -- telling those that no letter reaches changes nothing
      have hcap : ∀ t, t < 2 ^ 10 → t.testBit p = false → r (t &&& qno (r 0) (2 ^ p)) = r t := fun t ht hto => by
        have hlt : t &&& qno (r 0) (2 ^ p) < 2 ^ 10 := Nat.lt_of_le_of_lt Nat.and_le_left ht
        have hb : ∀ q, (t &&& qno (r 0) (2 ^ p)).testBit q = true ↔ t.testBit q = true ∧ (r 0).testBit q = true ∧ q ≠ p := fun q => by
          rw [Nat.testBit_and, Bool.and_eq_true, habb]
        obtain ⟨-, -, s1, s2, s3, s4⟩ := hr _ hlt
        obtain ⟨-, -, t1, t2, t3, t4⟩ := hr t ht
        obtain ⟨-, u2, u3, u4⟩ := z2
        have hsub : ∀ q, (r t).testBit q = true → (r 0).testBit q = true := t4 (r 0) u2 (fun a a1 a2 _ q q1 _ => u3 a a1 a2 (Nat.zero_testBit _) q q1 (Nat.zero_testBit _))
        refine qrch_uniq (nx := qnx o c od) (told := t) (own := p) ⟨s1, s2, fun a a1 a2 a3 q q1 q2 => ?_, fun S2 k1 k2 => ?_⟩ ⟨t1, t2, t3, t4⟩
        · refine s3 a a1 a2 ?_ q q1 ?_
          · cases hx : (t &&& qno (r 0) (2 ^ p)).testBit a
            · rfl
            · rw [((hb a).1 hx).1] at a3; cases a3
          · cases hx : (t &&& qno (r 0) (2 ^ p)).testBit q
            · rfl
            · rw [((hb q).1 hx).1] at q2; cases q2
        · -- the reach of the told is closed for the fewer told
          have hcl : qcl (qnx o c od) (t &&& qno (r 0) (2 ^ p)) (r t) := fun a a1 a2 a3 q q1 q2 => by
            have ha0 := hsub a a2
            have hat : t.testBit a = false := by
              cases hx : t.testBit a
              · rfl
              · by_cases hap : a = p
                · subst hap; rw [hto] at hx; cases hx
                · rw [(hb a).2 ⟨hx, ha0, hap⟩] at a3; cases a3
            have hq0 : (r 0).testBit q = true := u3 a a1 ha0 (Nat.zero_testBit _) q q1 (Nat.zero_testBit _)
            have hqt : t.testBit q = false := by
              cases hx : t.testBit q
              · rfl
              · by_cases hap : q = p
                · subst hap; rw [hto] at hx; cases hx
                · rw [(hb q).2 ⟨hx, hq0, hap⟩] at q2; cases q2
            exact t3 a a1 a2 hat q q1 hqt
          intro q hq
          exact t4 S2 k1 k2 q (s4 (r t) t2 hcl q hq)
      have hgood : qct (r (qno (r 0) (2 ^ p))).testBit 10 ≤ m := by
        obtain ⟨-, -, s1, s2, s3, s4⟩ := hr _ hab
        obtain ⟨-, u2, u3, u4⟩ := z2
        have hone : ∀ q, (r (qno (r 0) (2 ^ p))).testBit q = true → (2 ^ p).testBit q = true := s4 (2 ^ p) Nat.testBit_two_pow_self (fun a a1 a2 a3 q q1 q2 => by
          rw [Nat.testBit_two_pow] at a2
          have hap : p = a := of_decide_eq_true a2
          subst hap
          have hq0 : (r 0).testBit q = true := u3 p a1 u2 (Nat.zero_testBit _) q q1 (Nat.zero_testBit _)
          by_cases hqp : q = p
          · subst hqp; exact Nat.testBit_two_pow_self
          · rw [(habb q).2 ⟨hq0, hqp⟩] at q2; cases q2)
        have hle := qct_mono (P := (r (qno (r 0) (2 ^ p))).testBit) (Q := (2 ^ p).testBit) 10 (fun j _ => hone j)
        have h1p : ∀ k, qct (2 ^ p).testBit k ≤ if p < k then 1 else 0 := by
          intro k
          induction k with
          | zero => exact Nat.zero_le _
          | succ k ih =>
            rw [qct, Nat.testBit_two_pow]
            by_cases hpk : p = k
            · subst hpk
              rw [if_neg (by omega)] at ih
              rw [if_pos (by simp), if_pos (by omega)]
              omega
            · rw [if_neg (by simp [hpk])]
              by_cases hlt : p < k
              · rw [if_pos hlt] at ih; rw [if_pos (by omega)]; omega
              · rw [if_neg hlt] at ih; rw [if_neg (by omega)]; omega
        have := h1p 10
        rw [if_pos hp] at this
        omega
      obtain ⟨b, x1, x2, x3, x4, x5⟩ := l_stopC (m := m) (fun t ht => ⟨(hr t ht).1, (hr t ht).2.2.1⟩) hab hao zN 0 (qno (r 0) (2 ^ p)) (by have := zN_big; omega) (by omega) hab hao hgood (fun q h => h) (Or.inr rfl) (fun x hx => by omega)
      have x1 : l_X7_fewestTold_19 zN p m (qno (r 0) (2 ^ p) : Nat) (qno (r 0) (2 ^ p) : Nat) 0 e2 = some (b : Int) := x1
      obtain ⟨b2, y1, y2⟩ := l_stopR (m := m) hp (fun t ht => ⟨(hr t ht).2.1, (hr t ht).2.2.1⟩) zN 0 (-1) (by have := zN_big; omega) (by omega) (Or.inl ⟨rfl, fun x hx => by omega⟩) ⟨_, hab, hao, hgood⟩
      have y1 : l_X10_stop_27 zN p m (-1) 0 o c od = some (b2 : Int) := y1
      have hbb : qbst r p m b := ⟨x2, x3, x4, fun t t1 t2 t3 => by
        have hlt : t &&& qno (r 0) (2 ^ p) < 2 ^ 10 := Nat.lt_of_le_of_lt Nat.and_le_left t1
        have hs := x5 (t &&& qno (r 0) (2 ^ p)) (fun q hq => by rw [Nat.testBit_and, Bool.and_eq_true] at hq; exact hq.2) (by rw [hcap t t1 t2]; exact t3)
        by_cases he : t &&& qno (r 0) (2 ^ p) = t
        · rw [he] at hs; exact hs
        · have := q_sub_lt t1 (fun q hq => by rw [Nat.testBit_and, Bool.and_eq_true] at hq; exact hq.1) he
          omega⟩
      have z1 : f_X7_reached p 0 e2 = some (r 0 : Int) := z1
      unfold f_X7_fewestTold
      rw [if_pos h1, if_pos h2, if_neg h10, if_neg h10, if_neg h10, if_neg h10, a1, q_bs, z1, q_bs, q_one (k := p) (by omega), q_not (by have := z2.1; omega) (by omega), x1, y1, qbst_uniq hbb y2]
      exact ⟨_, _, rfl, rfl⟩
    · rw [if_pos h1, if_neg h2, if_neg h10, if_neg h10, if_pos rfl, if_pos rfl]
      exact ⟨_, _, rfl, rfl⟩
  · rw [if_neg h1, if_pos rfl, if_pos rfl]
    exact ⟨_, _, rfl, rfl⟩
