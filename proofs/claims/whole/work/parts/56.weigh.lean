/-! ===== trees: what all others cost for each set ahead of a letter ===== -/
def qps (c : Nat) (F C fx : Nat → Int) (l S : Nat) (v : Int) : Prop := S.testBit l = false ∧ ∃ a b, qpt (qst c F C fx) c 0 S a ∧ qpt (qst c F C fx) c (S ^^^ 2 ^ l) (2 ^ c - 1) b ∧ v = a + b
def qpk (c : Nat) (F C fx : Nat → Int) (l k S : Nat) (v : Int) : Prop := ∃ M, M < 2 ^ c ∧ qin S M ∧ (∀ j, k ≤ j → M.testBit j = S.testBit j) ∧ qps c F C fx l M v
section ZWEIGH
variable {c : Nat} {F C fx h hp T : Nat → Int}
theorem qpk_zero {l S : Nat} (hS : S < 2 ^ c) (v : Int) : qps c F C fx l S v ↔ qpk c F C fx l 0 S v := by
  constructor
  · intro hv
    exact ⟨S, hS, qin_self S, fun _ _ => rfl, hv⟩
  · rintro ⟨M, m1, m2, m3, m4⟩
    have : M = S := Nat.eq_of_testBit_eq (fun j => m3 j (Nat.zero_le j))
    rw [this] at m4
    exact m4
theorem qpk_have {l k S : Nat} (hb : S.testBit k = true) (v : Int) : qpk c F C fx l k S v ↔ qpk c F C fx l (k + 1) S v := by
  constructor
  · rintro ⟨M, m1, m2, m3, m4⟩
    exact ⟨M, m1, m2, fun j hj => m3 j (by omega), m4⟩
  · rintro ⟨M, m1, m2, m3, m4⟩
    refine ⟨M, m1, m2, fun j hj => ?_, m4⟩
    by_cases hjk : j = k
    · rw [hjk, hb]; exact m2 k hb
    · exact m3 j (by omega)
theorem qpk_step {l k S : Nat} (hb : S.testBit k = false) (v : Int) : (qpk c F C fx l k S v ∨ qpk c F C fx l k (S ^^^ 2 ^ k) v) ↔ qpk c F C fx l (k + 1) S v := by
  constructor
  · rintro (⟨M, m1, m2, m3, m4⟩ | ⟨M, m1, m2, m3, m4⟩)
    · exact ⟨M, m1, m2, fun j hj => m3 j (by omega), m4⟩
    · refine ⟨M, m1, fun j hj => m2 j ?_, fun j hj => ?_, m4⟩
      · have : j ≠ k := fun e => by rw [e, hb] at hj; simp at hj
        rw [tb_xo S this]; exact hj
      · rw [m3 j (by omega), tb_xo S (by omega)]
  · rintro ⟨M, m1, m2, m3, m4⟩
    cases hm : M.testBit k
    · refine Or.inl ⟨M, m1, m2, fun j hj => ?_, m4⟩
      by_cases hjk : j = k
      · rw [hjk, hb, hm]
      · exact m3 j (by omega)
    · refine Or.inr ⟨M, m1, fun j hj => ?_, fun j hj => ?_, m4⟩
      · by_cases hjk : j = k
        · rw [hjk]; exact hm
        · rw [tb_xo S hjk] at hj; exact m2 j hj
      · by_cases hjk : j = k
        · rw [hjk, hm, tb_xi, hb]; rfl
        · rw [tb_xo S hjk]; exact m3 j (by omega)
theorem qpk_end {l S : Nat} (hS : S < 2 ^ c) (v : Int) : qpk c F C fx l c S v ↔ ∃ (M : Nat) (a b : Int), M < 2 ^ c ∧ M.testBit l = false ∧ qin S M ∧ qpt (qst c F C fx) c 0 M a ∧ qpt (qst c F C fx) c (M ^^^ 2 ^ l) (2 ^ c - 1) b ∧ v = a + b := by
  constructor
  · rintro ⟨M, m1, m2, m3, m4, a, b, m5, m6, m7⟩
    exact ⟨M, a, b, m1, m4, m2, m5, m6, m7⟩
  · rintro ⟨M, a, b, m1, m4, m2, m5, m6, m7⟩
    refine ⟨M, m1, m2, fun j hj => ?_, m4, a, b, m5, m6, m7⟩
    cases hM : M.testBit j
    · cases hS2 : S.testBit j
      · rfl
      · exact absurd (q_tb hS hS2) (by omega)
    · exact absurd (q_tb m1 hM) (by omega)
def qwg (c : Nat) (F C fx : Nat → Int) (l k S : Nat) (x : Int) : Prop := qmw (qpk c F C fx l k S) 1048576 x ∧ 0 ≤ x ∧ x ≤ 2097152
theorem l_weigh20 (hC : ∀ j, 0 ≤ C j ∧ C j ≤ 9) (hc : c ≤ 8) {l : Nat} (hl : l < c) {B R : Nat → Int} (hB : qbg c F C fx B) (hR : qrg c F C fx R) : ∀ (n k : Nat) (D : Nat → Int), 256 - k < n → k ≤ 2 ^ c → (∀ S, S < k → qwg c F C fx l 0 S (D S)) → ∃ D2, l_X8_weigh_20 n ((2 ^ c - 1 : Nat) : Int) ((2 ^ l : Nat) : Int) k B R D = some D2 ∧ ∀ S, S < 2 ^ c → qwg c F C fx l 0 S (D2 S) := by
  have h8 := q_p8 hc
  have hp0 := Nat.two_pow_pos c
  have p31 : 2 ^ l < 2 ^ 8 := Nat.pow_lt_pow_right (by omega) (by omega)
  intro n
  induction n with
  | zero => intro k D h; omega
  | succ n ih =>
    intro k D hn hk hD
    rw [l_X8_weigh_20]
    by_cases he : k = 2 ^ c
    · rw [if_pos (by omega)]
      exact ⟨D, rfl, fun S hS => hD S (by omega)⟩
    · have g1 : zin (k : Int) 256 := by omega
      have gz : zI ((k : Int) + 1) := by omega
      have hk2 : k < 2 ^ c := by omega
      have go : zand (k : Int) ((2 ^ l : Nat) : Int) = 0 ↔ k.testBit l = false := by
        have := q_own (m := k) (p := l) (by omega) (by omega)
        rw [q_one (by omega)] at this
        exact this
      rw [if_neg (by omega)]
      cases hb : k.testBit l
      · have xb := x_b (i := l) hk2 hl
        have ho := (q_or (n := 8) (a := k) (b := 2 ^ l) (by omega) (by omega) p31).1
        rw [or_x hb] at ho
        obtain ⟨b1, b2⟩ := hB k hk2
        obtain ⟨r1, r2⟩ := hR _ xb
        have n1 := mw_nonneg (by omega) b1 (fun v hv => (qpt_b (qst_b hC fx) hv).1)
        have n2 := mw_nonneg (by omega) r1 (fun v hv => (qpt_b (qst_b hC fx) hv).1)
        have g2 : zin ((k ^^^ 2 ^ l : Nat) : Int) 256 := by omega
        have h3 := mw_add (by omega) b1 r1 (fun v hv => (qpt_b (qst_b hC fx) hv).1) (fun v hv => (qpt_b (qst_b hC fx) hv).1) (fun y u hy hu => by
          have := qpt_b (qst_b hC fx) hu
          have := qpt_b (qst_b hC fx) hy
          omega)
        rw [if_pos (go.2 hb), ho, if_pos ⟨g1, g2⟩, Int.toNat_natCast, Int.toNat_natCast, if_pos ⟨g1, by omega, gz⟩]
        refine ih (k + 1) _ (by omega) (by omega) (fun S hS => ?_)
        rw [q_zu]
        by_cases hSk : S = k
        · subst hSk
          rw [if_pos rfl]
          refine ⟨mw_congr (fun v => ?_) h3, by omega, by omega⟩
          rw [← qpk_zero hk2]
          constructor
          · rintro ⟨x, y, h1⟩
            exact ⟨hb, x, y, h1⟩
          · rintro ⟨_, x, y, h1⟩
            exact ⟨x, y, h1⟩
        · rw [if_neg hSk]; exact hD S (by omega)
      · rw [if_neg (fun e => by rw [go.1 e] at hb; simp at hb), if_pos ⟨g1, gz⟩, Int.toNat_natCast]
        refine ih (k + 1) _ (by omega) (by omega) (fun S hS => ?_)
        rw [q_zu]
        by_cases hSk : S = k
        · subst hSk
          rw [if_pos rfl]
          refine ⟨mw_none (fun v hv => ?_), by omega, by omega⟩
          have := ((qpk_zero hk2 v).2 hv).1
          rw [hb] at this
          simp at this
        · rw [if_neg hSk]; exact hD S (by omega)
theorem l_weigh86 (hc : c ≤ 8) {l i : Nat} (hi : i < c) : ∀ (n k : Nat) (D : Nat → Int), 256 - k < n → k ≤ 2 ^ c → (∀ S, S < k → qwg c F C fx l (i + 1) S (D S)) → (∀ S, k ≤ S → S < 2 ^ c → qwg c F C fx l i S (D S)) → ∃ D2, l_X8_weigh_86 n ((2 ^ c - 1 : Nat) : Int) i k D = some D2 ∧ ∀ S, S < 2 ^ c → qwg c F C fx l (i + 1) S (D2 S) := by
  have h8 := q_p8 hc
  have hp0 := Nat.two_pow_pos c
  have p31 : 2 ^ i < 2 ^ 8 := Nat.pow_lt_pow_right (by omega) (by omega)
  intro n
  induction n with
  | zero => intro k D h; omega
  | succ n ih =>
    intro k D hn hk hD hD2
    rw [l_X8_weigh_86]
    by_cases he : k = 2 ^ c
    · rw [if_pos (by omega)]
      exact ⟨D, rfl, fun S hS => hD S (by omega)⟩
    · have g1 : zin (k : Int) 256 := by omega
      have gz : zI ((k : Int) + 1) := by omega
      have hk2 : k < 2 ^ c := by omega
      rw [if_neg (by omega)]
      cases hb : k.testBit i
      · have xb := x_b (i := i) hk2 hi
        have xg := x_gt hb
        have ho := (q_or (n := 8) (a := k) (b := 2 ^ i) (by omega) (by omega) p31).1
        rw [or_x hb] at ho
        obtain ⟨b1, b2, b3⟩ := hD2 k (Nat.le_refl k) hk2
        obtain ⟨r1, r2, r3⟩ := hD2 _ (Nat.le_of_lt xg) xb
        have g2 : zin ((k ^^^ 2 ^ i : Nat) : Int) 256 := by omega
        rw [q_bit0 (by omega) (by omega) hb, if_pos rfl, q_one (by omega), ho, if_pos ⟨g1, g2, g1⟩, if_pos gz, Int.toNat_natCast, Int.toNat_natCast]
        refine ih (k + 1) _ (by omega) (by omega) (fun S hS => ?_) (fun S hS hS2 => ?_)
        · rw [q_zu]
          by_cases hSk : S = k
          · subst hSk
            rw [if_pos rfl]
            exact ⟨mw_congr (qpk_step hb) (mw_min b1 r1), by omega, by omega⟩
          · rw [if_neg hSk]; exact hD S (by omega)
        · rw [q_zu, if_neg (by omega)]
          exact hD2 S (by omega) hS2
      · rw [q_bit1 (by omega) (by omega) hb, if_neg q_10, if_pos gz]
        refine ih (k + 1) _ (by omega) (by omega) (fun S hS => ?_) (fun S hS hS2 => hD2 S (by omega) hS2)
        by_cases hSk : S = k
        · subst hSk
          obtain ⟨b1, b2⟩ := hD2 S (Nat.le_refl S) hk2
          exact ⟨mw_congr (qpk_have hb) b1, b2⟩
        · exact hD S (by omega)
theorem l_weigh71 (hc : c ≤ 8) {l : Nat} : ∀ (n k : Nat) (D : Nat → Int), 8 - k < n → k ≤ c → (∀ S, S < 2 ^ c → qwg c F C fx l k S (D S)) → ∃ D2, l_X8_weigh_71 n ((2 ^ c - 1 : Nat) : Int) k c D = some D2 ∧ ∀ S, S < 2 ^ c → qwg c F C fx l c S (D2 S) := by
  have h8 := q_p8 hc
  intro n
  induction n with
  | zero => intro k D h; omega
  | succ n ih =>
    intro k D hn hk hD
    rw [l_X8_weigh_71]
    by_cases he : k = c
    · subst he
      rw [if_neg (by omega)]
      exact ⟨D, rfl, hD⟩
    · obtain ⟨D2, e1, e2⟩ := l_weigh86 (F := F) (C := C) (fx := fx) (l := l) hc (i := k) (by omega) zN 0 D (by have := zN_big; omega) (Nat.zero_le _) (fun S hS => by omega) (fun S _ hS => hD S hS)
      have e1 : l_X8_weigh_86 zN ((2 ^ c - 1 : Nat) : Int) k 0 D = some D2 := e1
      rw [if_pos (by omega), e1, q_bs, if_pos (by omega)]
      exact ih (k + 1) D2 (by omega) (by omega) e2
theorem q_weigh (hC : ∀ j, 0 ≤ C j ∧ C j ≤ 9) (hc : c ≤ 8) (hT : qsg c F C T) (hh : qhl c F C fx h hp) {l : Nat} (hl : l < c) (B R D : Nat → Int) : ∃ B2 R2 D2, f_X8_weigh l c T B R D h hp = some (B2, R2, D2) ∧ ∀ S, S < 2 ^ c → qwg c F C fx l c S (D2 S) := by
  obtain ⟨B2, b1, b2⟩ := q_built hC hc hT hh B
  obtain ⟨R2, r1, r2⟩ := q_rest hC hc hT hh R
  obtain ⟨D2, d1, d2⟩ := l_weigh20 hC hc hl b2 r2 zN 0 D (by have := zN_big; have := q_p8 hc; omega) (Nat.zero_le _) (fun S hS => by omega)
  obtain ⟨D3, d3, d4⟩ := l_weigh71 hc zN 0 D2 (by have := zN_big; omega) (by omega) d2
  have d1 : l_X8_weigh_20 zN ((2 ^ c - 1 : Nat) : Int) ((2 ^ l : Nat) : Int) 0 B2 R2 D = some D2 := d1
  have d3 : l_X8_weigh_71 zN ((2 ^ c - 1 : Nat) : Int) 0 c D2 = some D3 := d3
  unfold f_X8_weigh
  rw [b1, q_bs, r1, q_bs, (q_every hc).1, q_bs, q_one (by omega), d1, q_bs, d3, q_bs]
  exact ⟨B2, R2, D3, rfl, d4⟩
/-- the least price of a tree -/
def qmn (c : Nat) (F C fx : Nat → Int) (m : Int) : Prop := qtr c F C fx m ∧ ∀ v, qtr c F C fx v → m ≤ v
theorem qmn_b (hC : ∀ j, 0 ≤ C j ∧ C j ≤ 9) (hc : c ≤ 8) {m : Int} (hm : qtr c F C fx m) : 0 ≤ m ∧ m ≤ 25500 := by
  have := qpt_b (qst_b hC fx) hm
  have := q_p8 hc
  omega
theorem qmn_uniq {m k : Int} (h1 : qmn c F C fx m) (h2 : qmn c F C fx k) : m = k := by
  have := h1.2 k h2.1
  have := h2.2 m h1.1
  omega
theorem mw_is {P : Int → Prop} {B b m : Int} (h : qmw P B b) (hm : m < B) : b = m ↔ P m ∧ ∀ v, P v → m ≤ v := by
  constructor
  · intro e
    rcases h with ⟨h1, h2, h3⟩ | ⟨h1, h2⟩
    · rw [← e]; exact ⟨h1, h3⟩
    · omega
  · rintro ⟨a1, a2⟩
    obtain ⟨h1, h2, h3⟩ := mw_get h a1
    have := h3 m a1
    have := a2 b h1
    omega
theorem q_fits (hC : ∀ j, 0 ≤ C j ∧ C j ≤ 9) (hc : c ≤ 8) {K : Nat → Int} (hK : qcd c F C K) {l : Nat} (hl : l < c) {D : Nat → Int} (hD : ∀ S, S < 2 ^ c → qwg c F C fx l c S (D S)) {m : Int} (hm : m < 1048576) (w : Nat) :
    (qvw c l w ∧ qmn c F C (zu fx l w) m ∧ f_X8_fits l w m c F C K D = some 1) ∨ (¬ (qvw c l w ∧ qmn c F C (zu fx l w) m) ∧ f_X8_fits l w m c F C K D = some 0) := by
  unfold f_X8_fits
  by_cases hv : qvw c l w
  · have hs := qsr_b hc hv
    have h8 := q_p8 hc
    obtain ⟨d1, d2, d3⟩ := hD _ hs
    have hz := qpr_b hC F l w
    rw [(q_sources hc hl).1 hv, q_bs, if_neg (by omega), if_pos (by omega), q_priceOf hC hc hK hl hv, q_bs, Int.toNat_natCast, if_pos (by omega)]
    have d4 := mw_is d1 (m := m - qpr F C l w) (by omega)
    have d5 : D (qsr w) + qpr F C l w = m ↔ qmn c F C (zu fx l w) m := by
      rw [show D (qsr w) + qpr F C l w = m ↔ D (qsr w) = m - qpr F C l w by omega, d4]
      constructor
      · rintro ⟨a1, a2⟩
        refine ⟨?_, fun v hv2 => ?_⟩
        · rw [qpk_end hs] at a1
          obtain ⟨M, a, b, h1, h2, h3, h4, h5, h6⟩ := a1
          exact (tr_fix fx hl hv m).2 ⟨M, a, b, h1, h2, h3, h4, h5, by omega⟩
        · obtain ⟨M, a, b, h1, h2, h3, h4, h5, h6⟩ := (tr_fix fx hl hv v).1 hv2
          have := a2 (a + b) ((qpk_end hs _).2 ⟨M, a, b, h1, h2, h3, h4, h5, rfl⟩)
          omega
      · rintro ⟨a1, a2⟩
        refine ⟨?_, fun v hv2 => ?_⟩
        · obtain ⟨M, a, b, h1, h2, h3, h4, h5, h6⟩ := (tr_fix fx hl hv m).1 a1
          exact (qpk_end hs _).2 ⟨M, a, b, h1, h2, h3, h4, h5, by omega⟩
        · obtain ⟨M, a, b, h1, h2, h3, h4, h5, h6⟩ := (qpk_end hs _).1 hv2
          have := a2 (v + qpr F C l w) ((tr_fix fx hl hv _).2 ⟨M, a, b, h1, h2, h3, h4, h5, by omega⟩)
          omega
    by_cases he : D (qsr w) + qpr F C l w = m
    · rw [if_pos he]
      exact Or.inl ⟨hv, d5.1 he, rfl⟩
    · rw [if_neg he]
      exact Or.inr ⟨fun h => he (d5.2 h.2), rfl⟩
  · rw [(q_sources hc hl).2 hv, q_bs, if_pos rfl]
    exact Or.inr ⟨fun h => hv h.1, rfl⟩
end ZWEIGH
