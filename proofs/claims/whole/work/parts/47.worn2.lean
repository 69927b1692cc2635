/-! ===== names: worn, the answers ===== -/
/-- the first place of c that fulfils P; -1: none -/
def qfs (P : Nat → Prop) (c : Nat) (r : Int) : Prop := (r = -1 ∧ ∀ o, o < c → ¬ P o) ∨ ∃ o : Nat, r = o ∧ o < c ∧ P o ∧ ∀ p, p < o → ¬ P p
theorem qfs_uniq {P : Nat → Prop} {c : Nat} {r s : Int} (h1 : qfs P c r) (h2 : qfs P c s) : r = s := by
  rcases h1 with ⟨a1, a2⟩ | ⟨o, a1, a2, a3, a4⟩
  · rcases h2 with ⟨b1, b2⟩ | ⟨p, b1, b2, b3, b4⟩
    · rw [a1, b1]
    · exact absurd b3 (a2 p b2)
  · rcases h2 with ⟨b1, b2⟩ | ⟨p, b1, b2, b3, b4⟩
    · exact absurd a3 (b2 o a2)
    · rcases Nat.lt_trichotomy o p with h | h | h
      · exact absurd a3 (b4 o h)
      · rw [a1, b1, h]
      · exact absurd b3 (a4 p h)
section ZWORN2
variable {c : Nat} {len dig slip : Nat → Int}
theorem l_nextC (h : qnm c len dig slip) {b : Nat} {f w : Nat → Int} (hf : qds c b (fun a o => 100 * qsq len dig a o + 1) f) (hw : ∀ j, j < c → w j = 16 * (f j / 100) + f j % 100) (hF : ∀ j, j < c → f j ≤ 1000000) {a : Nat} (ha : a < c) : ∀ (n k : Nat), c - k < n → k ≤ c → (∀ o, o < k → ¬ f o + (100 * qsq len dig a o + 1) = f a) →
    ∃ r, l_X5_nextFrom_2 n a k c slip w = some r ∧ qfs (fun o => f o + (100 * qsq len dig a o + 1) = f a) c r := by
  have hc : (c : Int) ≤ 10 := h.2.1
  intro n
  induction n with
  | zero => intro k h; omega
  | succ n ih =>
    intro k hn hk h1
    rw [l_X5_nextFrom_2]
    by_cases hkc : k = c
    · subst hkc
      rw [if_neg (by omega)]
      exact ⟨-1, rfl, Or.inl ⟨rfl, h1⟩⟩
    · have hkc2 : k < c := by omega
      have hb := qsq_b (dig := dig) h.2.2.1 a k
      have hq := fun a o => (qsq_b (dig := dig) h.2.2.1 a o).1
      have ht := q_tight (n := c) (by omega) hq hf ha hkc2
      have hwk := hw k hkc2
      have hwa := hw a ha
      have hFk := hF k hkc2
      have hfk := hf.1 k hkc2
      have g : zin (k : Int) 10 ∧ zin (a : Int) 10 ∧ zI (16 * qsq len dig a k + 1 + (16 * (f k / 100) + f k % 100)) := by omega
      rw [if_pos (by omega), q_wstep h ha hkc2, q_bs, Int.toNat_natCast, Int.toNat_natCast, hwk, hwa, if_pos g]
      by_cases hp : f k + (100 * qsq len dig a k + 1) = f a
      · rw [if_pos (ht.2 hp)]
        exact ⟨k, rfl, Or.inr ⟨k, rfl, hkc2, hp, h1⟩⟩
      · rw [if_neg (fun e => hp (ht.1 e)), if_pos (by omega)]
        refine ih (k + 1) (by omega) (by omega) (fun o ho => ?_)
        by_cases hok : o = k
        · subst hok; exact hp
        · exact h1 o (by omega)
theorem l_nextR (hc : c ≤ 10) (hl : ∀ j, 0 ≤ len j ∧ len j ≤ 6) {b : Nat} {f far : Nat → Int} (hf : qds c b (fun a o => 100 * qsq len dig a o + 1) f) (hw : ∀ j, j < c → far j = f j) (hF : ∀ j, j < c → f j ≤ 1000000) {a : Nat} (ha : a < c) (v2 v3 v5 : Int) : ∀ (n m : Nat) (t : Nat → Int) (v : Int), m < n → m ≤ c → ((v = -1 ∧ ∀ o, m ≤ o → o < c → ¬ f o + (100 * qsq len dig a o + 1) = f a) ∨ ∃ o : Nat, v = o ∧ m ≤ o ∧ o < c ∧ f o + (100 * qsq len dig a o + 1) = f a ∧ ∀ p, m ≤ p → p < o → ¬ f p + (100 * qsq len dig a p + 1) = f a) →
    ∃ r t2, l_X10_worn_223 n v2 v3 a v5 v ((m : Int) - 1) len dig t far = some (r, t2) ∧ qfs (fun o => f o + (100 * qsq len dig a o + 1) = f a) c r := by
  intro n
  induction n with
  | zero => intro m t v h; omega
  | succ n ih =>
    intro m t v hn hm hv
    rw [l_X10_worn_223]
    by_cases hm0 : m = 0
    · subst hm0
      rw [if_pos (by omega)]
      refine ⟨v, t, rfl, ?_⟩
      rcases hv with ⟨h1, h2⟩ | ⟨o, h1, h2, h3, h4, h5⟩
      · exact Or.inl ⟨h1, fun o ho => h2 o (by omega) ho⟩
      · exact Or.inr ⟨o, h1, h3, h4, fun p hp => h5 p (by omega) hp⟩
    · obtain ⟨k, rfl⟩ : ∃ k, m = k + 1 := ⟨m - 1, by omega⟩
      have ek : ((k + 1 : Nat) : Int) - 1 = (k : Int) := by omega
      have ek2 : (k : Int) + (-1) = (k : Int) - 1 := by omega
      have hkc : k < c := by omega
      have hb := qsq_b (dig := dig) hl a k
      have g1 : zI ((k : Int) - 1) := by omega
      have hskip : ¬ f k + (100 * qsq len dig a k + 1) = f a → ((v = -1 ∧ ∀ o, k ≤ o → o < c → ¬ f o + (100 * qsq len dig a o + 1) = f a) ∨ ∃ o : Nat, v = o ∧ k ≤ o ∧ o < c ∧ f o + (100 * qsq len dig a o + 1) = f a ∧ ∀ p, k ≤ p → p < o → ¬ f p + (100 * qsq len dig a p + 1) = f a) := fun hno => by
        rcases hv with ⟨h1, h2⟩ | ⟨o, h1, h2, h3, h4, h5⟩
        · refine Or.inl ⟨h1, fun o ho1 ho2 => ?_⟩
          by_cases hok : o = k
          · subst hok; exact hno
          · exact h2 o (by omega) ho2
        · refine Or.inr ⟨o, h1, by omega, h3, h4, fun p hp1 hp2 => ?_⟩
          by_cases hok : p = k
          · subst hok; exact hno
          · exact h5 p (by omega) hp2
      rw [ek, if_neg (by omega), ek2]
      by_cases hka : k = a
      · rw [if_pos (by omega), if_pos g1]
        exact ih k t v (by omega) (by omega) (hskip (by subst hka; omega))
      · obtain ⟨t2, e⟩ := q_rstep (dig := dig) hl (a := a) (o := k) (by omega) (by omega) t
        have hFk := hF k hkc
        have hfk := hf.1 k hkc
        have g3 : zin (a : Int) 10 ∧ zI (f k + (100 * qsq len dig a k + 1)) := by omega
        have g4 : zin (k : Int) 10 := by omega
        rw [if_neg (by omega), if_pos g4, e, q_bs, Int.toNat_natCast, Int.toNat_natCast, hw k hkc, hw a ha]
        dsimp only
        rw [if_pos g3]
        by_cases hp : f k + (100 * qsq len dig a k + 1) = f a
        · rw [if_pos hp, if_pos g1]
          exact ih k t2 k (by omega) (by omega) (Or.inr ⟨k, rfl, Nat.le_refl _, hkc, hp, fun p hp1 hp2 => by omega⟩)
        · rw [if_neg hp, if_pos g1]
          exact ih k t2 v (by omega) (by omega) (hskip hp)
theorem l_wornName (h : qnm c len dig slip) {b : Nat} (hb : b < c) {f w far : Nat → Int} (hf : qds c b (fun a o => 100 * qsq len dig a o + 1) f) (hw : ∀ j, j < c → w j = 16 * (f j / 100) + f j % 100) (hfar : ∀ j, j < c → far j = f j) (hF : ∀ j, j < c → f j ≤ 1000000) (i : Int) : ∀ (n g a : Nat) (t : Nat → Int), 10 - g < n → a < c → g + qrk c f a ≤ 9 → (g : Int) ≤ i →
    ∃ r t2, l_X5_wornName_11 n i a g c slip w = some (r, w) ∧ l_X10_worn_197 n b i a g c len dig t far = some (r, t2, far) := by
  have hc : (c : Int) ≤ 10 := h.2.1
  intro n
  induction n with
  | zero => intro g a t h; omega
  | succ n ih =>
    intro g a t hn ha hg hi
    rw [l_X5_wornName_11, l_X10_worn_197]
    by_cases hgi : (g : Int) < i
    · obtain ⟨r, e1, e2⟩ := l_nextC h hf hw hF ha zN 0 (by have := zN_big; omega) (by omega) (fun o ho => by omega)
      have e1 : f_X5_nextFrom a c slip w = some r := e1
      rw [if_pos hgi, if_pos (by omega), e1, q_bs, if_pos hgi]
      by_cases hab : a = b
      · subst hab
        have hr : r = -1 := by
          rcases e2 with ⟨e2, _⟩ | ⟨o, _, ho, e3, _⟩
          · exact e2
          · have := hf.1 o ho
            have := hf.2.1
            have := (qsq_b (dig := dig) h.2.2.1 a o).1
            omega
        rw [if_pos hr, if_pos rfl]
        exact ⟨_, _, rfl, rfl⟩
      · obtain ⟨r2, t2, d1, d2⟩ := l_nextR (c := c) (by omega) h.2.2.1 hf hfar hF ha b i g zN c t (-1) (by have := zN_big; omega) (Nat.le_refl _) (Or.inl ⟨rfl, fun o h1 h2 => by omega⟩)
        have hrr := qfs_uniq e2 d2
        subst hrr
        obtain ⟨o, ho, e4⟩ := hf.2.2.1 a ha hab
        dsimp only at e4
        rcases e2 with ⟨_, e3⟩ | ⟨o2, e5, ho2, e6, _⟩
        · exact absurd (by omega) (e3 o ho)
        · subst e5
          have hst := (qsq_b (dig := dig) h.2.2.1 a o2).1
          have hrk := qrk_lt (f := f) (a := a) ho2 (by omega)
          have g1 : zI ((g : Int) + 1) := by omega
          have g2 : zI ((c : Int) - 1) := by omega
          rw [if_neg (show ¬ (o2 : Int) = -1 by omega), if_neg (show ¬ (a : Int) = (b : Int) by omega), if_pos g1, if_pos g2, d1, q_bs, if_pos g1]
          exact ih (g + 1) o2 t2 (by omega) ho2 (by omega) (by omega)
    · rw [if_neg hgi, if_neg hgi]
      exact ⟨_, _, rfl, rfl⟩
theorem q_pworn (p1 p2 p3 : Int) {c : Int} (h : qnm c len dig slip) (w t far : Nat → Int) : ∃ r w2 t2 far2, f_X9_worn p1 p2 p3 c slip w = some (r, w2) ∧ f_X10_worn p1 p2 p3 c len dig t far = some (r, t2, far2) := by
  have hh := h
  obtain ⟨h0, h10, hl, -, -⟩ := h
  have h1n : ¬ (1 : Int) = 0 := by omega
  unfold f_X9_worn f_X10_worn
  rw [q_hasName, q_isName p1 c h0 h10, q_bs, q_bs, q_hasName, q_isName p2 c h0 h10, q_bs, q_bs]
  by_cases h1 : 0 ≤ p1 ∧ p1 < c
  · by_cases h2 : 0 ≤ p2 ∧ p2 < c
    · rw [if_pos h1, if_pos h2, if_neg h1n, if_neg h1n, if_neg h1n, if_neg h1n]
      by_cases h3 : p3 < -1
      · rw [if_pos h3, if_pos h3]
        exact ⟨_, _, _, _, rfl, rfl⟩
      · obtain ⟨c, rfl⟩ : ∃ x : Nat, c = x := ⟨c.toNat, by omega⟩
        obtain ⟨a, rfl⟩ : ∃ a : Nat, p1 = a := ⟨p1.toNat, by omega⟩
        obtain ⟨b, rfl⟩ : ∃ b : Nat, p2 = b := ⟨p2.toNat, by omega⟩
        have hb : b < c := by omega
        have ha : a < c := by omega
        have hq : ∀ a o, 0 ≤ qsq len dig a o := fun a o => (qsq_b (dig := dig) hl a o).1
        obtain ⟨f, hf⟩ := qds_ex (n := c) (b := b) hb (st := fun a o => 100 * qsq len dig a o + 1) (fun a o => by have := hq a o; omega)
        have hF : ∀ j, j < c → f j ≤ 1000000 := fun j hj => by
          have h5 := hf.2.2.2 j b hj hb
          have h6 := hf.2.1
          have h7 := qsq_b (dig := dig) hl j b
          dsimp only at h5
          omega
        have hg := q_six hb (by omega) hq hf
        obtain ⟨w2, x1, x2⟩ := q_weighTo hh hb hg w
        obtain ⟨w1, y1, y2⟩ := l_r27 (c := c) (by omega) (b := b) a p3 zN 0 far (by have := zN_big; omega) (by omega) (fun j hj => by omega)
        have y1 : l_X10_worn_27 zN a b p3 0 c far = some w1 := y1
        have hw1b : w1 b = 0 := by rw [y2 b hb, if_pos rfl]
        obtain ⟨t2, far2, z1, z2⟩ := l_r64 (c := c) (dig := dig) (by omega) hl hb hf a b p3 zN 0 t w1 (by have := zN_big; omega) (by omega) (fun j hj => by rw [y2 j hj]; split <;> omega) hw1b ⟨fun j hj => by
          rw [y2 j hj]
          by_cases hjb : j = b
          · rw [if_pos hjb, hjb, hf.2.1]; omega
          · rw [if_neg hjb]; exact hF j hj, Or.inr (qct_pos (i := b) (decide_eq_true (by rw [hw1b, hf.2.1])) c hb)⟩
        have z1 : l_X10_worn_64 zN a b p3 0 c len dig t w1 = some (t2, far2) := z1
        rw [if_neg h3, if_neg h3, y1, q_bs, z1, q_bs]
        dsimp only
        by_cases h4 : p3 = -1
        · have hd := q_hund2 (n := c) (by omega) hq hf ha
          have hFa := hF a ha
          have k1 : Int.tdiv (w2 a) 16 = f a / 100 := by
            rw [x2 a ha, Int.tdiv_eq_ediv_of_nonneg (show 0 ≤ 16 * (f a / 100) + f a % 100 by omega)]
            omega
          have k2 : Int.tdiv (far2 a) 100 = f a / 100 := by rw [z2 a ha, Int.tdiv_eq_ediv_of_nonneg (show 0 ≤ f a by omega)]
          have g1 : zin (a : Int) 10 ∧ zI (Int.tdiv (w2 (Int.toNat (a : Int))) 16) := by rw [Int.toNat_natCast, k1]; omega
          have g2 : zin (a : Int) 10 ∧ zI (Int.tdiv (far2 (Int.toNat (a : Int))) 100) := by rw [Int.toNat_natCast, k2]; omega
          unfold f_X5_wornCost
          rw [if_pos h4, if_pos h4, x1, q_bs, if_pos g1, if_pos g2, Int.toNat_natCast, k1, k2]
          exact ⟨_, _, _, _, rfl, rfl⟩
        · obtain ⟨r, t3, k1, k2⟩ := l_wornName hh hb hf x2 z2 hF p3 zN 0 a t2 (by have := zN_big; omega) ha (by have := qrk_n f ha; omega) (by omega)
          have k1 : l_X5_wornName_11 zN p3 a 0 c slip w2 = some (r, w2) := k1
          have k2 : l_X10_worn_197 zN b p3 a 0 c len dig t2 far2 = some (r, t3, far2) := k2
          unfold f_X5_wornName
          rw [if_neg h4, if_neg h4, x1, q_bs, k1, k2]
          exact ⟨_, _, _, _, rfl, rfl⟩
    · rw [if_pos h1, if_neg h2, if_neg h1n, if_neg h1n, if_pos rfl, if_pos rfl]
      exact ⟨_, _, _, _, rfl, rfl⟩
  · rw [if_neg h1, if_pos rfl, if_pos rfl]
    exact ⟨_, _, _, _, rfl, rfl⟩
end ZWORN2
