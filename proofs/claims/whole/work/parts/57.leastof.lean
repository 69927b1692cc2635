/-! ===== trees: the reference's sums ===== -/
def qfx (c : Nat) (fx : Nat → Int) : Prop := ∀ l, l < c → fx l = -1 ∨ ∃ w : Nat, qvw c l w ∧ fx l = (w : Int)
def qjr (c : Nat) (F C fx : Nat → Int) (S k T : Nat) (v : Int) : Prop := (T = 0 ∧ v = 0) ∨ ∃ i : Nat, i < c ∧ T.testBit i = true ∧ (T ^^^ 2 ^ i < S ∨ (T ^^^ 2 ^ i = S ∧ i < k)) ∧ ∃ u x, qpt (qst c F C fx) c 0 (T ^^^ 2 ^ i) u ∧ qst c F C fx i (T ^^^ 2 ^ i) x ∧ v = u + x
def qjs (c : Nat) (F C fx : Nat → Int) (S k : Nat) (Y : Nat → Int) : Prop := ∀ T, T < 2 ^ c → qmw (qjr c F C fx S k T) 1000000 (Y T) ∧ Y T ≤ 1000000
section ZLEAST
variable {c : Nat} {F C fx H : Nat → Int}
theorem qjr_own (S k : Nat) (v : Int) : qjr c F C fx S k S v ↔ qpt (qst c F C fx) c 0 S v := by
  by_cases h0 : S = 0
  · subst h0
    rw [qpt_zero]
    constructor
    · rintro (h | ⟨i, i1, i2, i3⟩)
      · exact h.2
      · rw [Nat.zero_testBit] at i2
        simp at i2
    · intro h
      exact Or.inl ⟨rfl, h⟩
  · rw [qpt_back (by omega)]
    constructor
    · rintro (h | ⟨i, i1, i2, i3, i4⟩)
      · exact absurd h.1 h0
      · exact ⟨i, i1, i2, i4⟩
    · rintro ⟨i, i1, i2, i4⟩
      exact Or.inr ⟨i, i1, i2, Or.inl (x_lt i2), i4⟩
theorem qjr_next (S T : Nat) (v : Int) : qjr c F C fx S c T v ↔ qjr c F C fx (S + 1) 0 T v := by
  constructor
  · rintro (h | ⟨i, i1, i2, i3, i4⟩)
    · exact Or.inl h
    · exact Or.inr ⟨i, i1, i2, Or.inl (by omega), i4⟩
  · rintro (h | ⟨i, i1, i2, i3, i4⟩)
    · exact Or.inl h
    · exact Or.inr ⟨i, i1, i2, by omega, i4⟩
/-- a step that adds nothing -/
theorem qjr_skip {S k T : Nat} (h : ∀ u x, T = S ^^^ 2 ^ k → S.testBit k = false → k < c → qpt (qst c F C fx) c 0 S u → qst c F C fx k S x → False) (v : Int) : qjr c F C fx S k T v ↔ qjr c F C fx S (k + 1) T v := by
  constructor
  · rintro (h | ⟨i, i1, i2, i3, i4⟩)
    · exact Or.inl h
    · exact Or.inr ⟨i, i1, i2, by omega, i4⟩
  · rintro (h1 | ⟨i, i1, i2, i3, u, x, i4, i5, i6⟩)
    · exact Or.inl h1
    · refine Or.inr ⟨i, i1, i2, ?_, u, x, i4, i5, i6⟩
      rcases i3 with i3 | ⟨i3, i7⟩
      · exact Or.inl i3
      · by_cases hik : i = k
        · exfalso
          subst hik
          rw [i3] at i4 i5
          refine h u x ?_ ?_ i1 i4 i5
          · rw [← i3, x_x]
          · rw [← i3, tb_xi, i2]; rfl
        · exact Or.inr ⟨i3, by omega⟩
theorem qjr_add {S k : Nat} (hk : k < c) (hb : S.testBit k = false) (v : Int) : (qjr c F C fx S k (S ^^^ 2 ^ k) v ∨ ∃ u x, qpt (qst c F C fx) c 0 S u ∧ qst c F C fx k S x ∧ v = u + x) ↔ qjr c F C fx S (k + 1) (S ^^^ 2 ^ k) v := by
  constructor
  · rintro ((h | ⟨i, i1, i2, i3, i4⟩) | h)
    · exact Or.inl h
    · exact Or.inr ⟨i, i1, i2, by omega, i4⟩
    · refine Or.inr ⟨k, hk, ?_, ?_, ?_⟩
      · rw [tb_xi, hb]; rfl
      · rw [x_x]; exact Or.inr ⟨rfl, by omega⟩
      · rw [x_x]; exact h
  · rintro (h1 | ⟨i, i1, i2, i3, i4⟩)
    · exact Or.inl (Or.inl h1)
    · by_cases hik : i = k
      · subst hik
        rw [x_x] at i4
        exact Or.inr i4
      · exact Or.inl (Or.inr ⟨i, i1, i2, by omega, i4⟩)
theorem l_lo9 (hc : c ≤ 8) : ∀ (n k : Nat) (Y : Nat → Int), 256 - k < n → k ≤ 2 ^ c → (∀ T, T < k → qmw (qjr c F C fx 0 0 T) 1000000 (Y T) ∧ Y T ≤ 1000000) → ∃ Y2, l_X10_leastOf_9 n ((2 ^ c : Nat) : Int) k Y = some Y2 ∧ qjs c F C fx 0 0 Y2 := by
  have h8 := q_p8 hc
  intro n
  induction n with
  | zero => intro k Y h; omega
  | succ n ih =>
    intro k Y hn hk hY
    rw [l_X10_leastOf_9]
    by_cases he : k = 2 ^ c
    · rw [if_neg (by omega)]
      exact ⟨Y, rfl, fun T hT => hY T (by omega)⟩
    · have g : zin (k : Int) 256 ∧ zI ((k : Int) + 1) := by omega
      rw [if_pos (by omega)]
      by_cases h0 : k = 0
      · rw [if_pos (show (k : Int) = 0 by omega), if_pos g, Int.toNat_natCast]
        refine ih (k + 1) _ (by omega) (by omega) (fun T hT => ?_)
        have : T = 0 := by omega
        subst this
        rw [q_zu, if_pos (by omega)]
        refine ⟨mw_congr (fun v => ?_) (mw_one (x := 0) (by omega)), by omega⟩
        rw [qjr_own, qpt_zero]
      · rw [if_neg (show ¬ (k : Int) = 0 by omega), if_pos g, Int.toNat_natCast]
        refine ih (k + 1) _ (by omega) (by omega) (fun T hT => ?_)
        rw [q_zu]
        by_cases hTk : T = k
        · rw [if_pos hTk]
          refine ⟨mw_none (fun v => ?_), by omega⟩
          rintro (h | ⟨i, i1, i2, i3, i4⟩) <;> omega
        · rw [if_neg hTk]
          exact hY T (by omega)
theorem l_lo45 (hC : ∀ j, 0 ≤ C j ∧ C j ≤ 9) (hc : c ≤ 8) (hH : qsh c F C H) (hfx : qfx c fx) {S : Nat} (hS : S < 2 ^ c) (v1 : Int) : ∀ (n k : Nat) (Y : Nat → Int), 8 - k < n → k ≤ c → qjs c F C fx S k Y → ∃ Y2, l_X10_leastOf_45 n v1 S k c F C H fx Y = some Y2 ∧ qjs c F C fx (S + 1) 0 Y2 := by
  have h8 := q_p8 hc
  intro n
  induction n with
  | zero => intro k Y h; omega
  | succ n ih =>
    intro k Y hn hk hY
    rw [l_X10_leastOf_45]
    by_cases he : k = c
    · subst he
      rw [if_neg (by omega)]
      exact ⟨Y, rfl, fun T hT => ⟨mw_congr (qjr_next S T) (hY T hT).1, (hY T hT).2⟩⟩
    · have hkc : k < c := by omega
      have gS : zin (S : Int) 256 := by omega
      have gz : zI ((k : Int) + 1) := by omega
      have gk : zin (k : Int) 8 := by omega
      obtain ⟨y1, y2⟩ := hY S hS
      have y1 := mw_congr (qjr_own S k) y1
      have y0 := mw_nonneg (by omega) y1 (fun v hv => (qpt_b (qst_b hC fx) hv).1)
      rw [if_pos (show (k : Int) < (c : Int) by omega), if_pos gS, Int.toNat_natCast]
      by_cases hlt : Y S < 1000000
      · rw [if_pos hlt]
        cases hb : S.testBit k
        · have xg := x_gt hb
          have xb := x_b (i := k) hS hkc
          have p31 : 2 ^ k < 2 ^ 8 := Nat.pow_lt_pow_right (by omega) (by omega)
          have ho := (q_or (n := 8) (a := S) (b := 2 ^ k) (by omega) (by omega) p31).1
          rw [or_x hb] at ho
          have gT : zin ((S ^^^ 2 ^ k : Nat) : Int) 256 := by omega
          have key : ∀ (x : Int) (Y2 : Nat → Int), qmw (qst c F C fx k S) 1000000 x → Y2 (S ^^^ 2 ^ k) = min (Y (S ^^^ 2 ^ k)) (Y S + x) → (∀ j : Nat, j ≠ S ^^^ 2 ^ k → Y2 j = Y j) → ∃ Y3, l_X10_leastOf_45 n v1 S ((k : Int) + 1) c F C H fx Y2 = some Y3 ∧ qjs c F C fx (S + 1) 0 Y3 := by
            intro x Y2 hx a1 a2
            refine ih (k + 1) Y2 (by omega) (by omega) (fun T hT => ?_)
            by_cases hTx : T = S ^^^ 2 ^ k
            · subst hTx
              obtain ⟨t1, t2⟩ := hY _ hT
              rw [a1]
              have h3 := mw_add (by omega) y1 hx (fun v hv => (qpt_b (qst_b hC fx) hv).1) (fun v hv => (qst_b hC fx _ _ _ hv).1) (fun u y hu hy => by
                have := qpt_b (qst_b hC fx) hu
                have := qst_b hC fx _ _ _ hy
                omega)
              exact ⟨mw_congr (qjr_add hkc hb) (mw_min t1 h3), by omega⟩
            · obtain ⟨t1, t2⟩ := hY _ hT
              rw [a2 T hTx]
              exact ⟨mw_congr (qjr_skip (fun u x e => absurd e hTx)) t1, t2⟩
          have fin : ∀ x : Int, qmw (qst c F C fx k S) 1000000 x → x ≤ 1000000 → 0 ≤ x → ∃ Y3, (if zin (S : Int) 256 ∧ zI (Y S + x) then if zin (zor (S : Int) (zshl 1 (k : Int))) 256 then if (Y S + x) < (Y (Int.toNat (zor (S : Int) (zshl 1 (k : Int))))) then (if zin (zor (S : Int) (zshl 1 (k : Int))) 256 then if zI ((k : Int) + 1) then l_X10_leastOf_45 n v1 S ((k : Int) + 1) c F C H fx (zu Y (Int.toNat (zor (S : Int) (zshl 1 (k : Int)))) (Y S + x)) else none else none) else (if zin (zor (S : Int) (zshl 1 (k : Int))) 256 then if zin (zor (S : Int) (zshl 1 (k : Int))) 256 then if zI ((k : Int) + 1) then l_X10_leastOf_45 n v1 S ((k : Int) + 1) c F C H fx (zu Y (Int.toNat (zor (S : Int) (zshl 1 (k : Int)))) (Y (Int.toNat (zor (S : Int) (zshl 1 (k : Int)))))) else none else none else none) else none else none) = some Y3 ∧ qjs c F C fx (S + 1) 0 Y3 := by
            intro x hx hx2 hx0
            rw [q_one (by omega), ho, if_pos ⟨gS, by omega⟩, if_pos gT, Int.toNat_natCast]
            by_cases hl2 : Y S + x < Y (S ^^^ 2 ^ k)
            · rw [if_pos hl2, if_pos gT, if_pos gz]
              refine key x _ hx ?_ (fun j hj => by rw [q_zu, if_neg hj])
              rw [q_zu, if_pos rfl]
              omega
            · rw [if_neg hl2, if_pos gT, if_pos gT, if_pos gz]
              refine key x _ hx ?_ (fun j hj => by rw [q_zu, if_neg hj])
              rw [q_zu, if_pos rfl]
              omega
          rw [q_bit0 (by omega) (by omega) hb, if_pos rfl, if_pos gk, Int.toNat_natCast]
          rcases hfx k hkc with h1 | ⟨w, w1, w2⟩
          · have h3 := mw_congr (qst_ff (fx := fx) h1 S) (hH k S hkc hS)
            have h4 := mw_get h3 (v := qpr F C k 0) ⟨0, Or.inl rfl, Or.inl h1, qin_zero _, rfl⟩
            have h5 := mw_nonneg (by omega) h3 (fun v hv => (qst_b hC fx _ _ _ hv).1)
            rw [if_pos h1, if_pos (show zin (256 * (k : Int) + (S : Int)) 2048 by omega), q_tn (show 256 * (k : Int) + (S : Int) = ((256 * k + S : Nat) : Int) by omega)]
            exact fin _ h3 (by omega) h5
          · have hs := qsr_b hc w1
            have hz := qpr_b hC F k w
            have hn1 : ¬ fx k = -1 := by omega
            rw [if_neg hn1, w2, q_sourcesR hc w1, q_bs, q_not (by omega) (by omega), q_priceOfR hC hc hkc w1]
            by_cases hin : qin (qsr w) S
            · rw [if_pos (by rw [(qin_no _ _).2 hin]; rfl), q_bs]
              refine fin _ (mw_congr (fun v => ?_) (mw_one (x := qpr F C k w) (by omega))) (by omega) hz.1
              constructor
              · intro hv
                exact ⟨w, w1, Or.inr w2, hin, hv⟩
              · rintro ⟨u, u1, u2, u3, u4⟩
                have : u = w := by omega
                rw [this] at u4
                exact u4
            · have hq : ¬ qno (qsr w) S = 0 := fun e => hin ((qin_no _ _).1 e)
              rw [if_neg (by omega)]
              refine fin _ (mw_none (fun v => ?_)) (by omega) (by omega)
              rintro ⟨u, u1, u2, u3, u4⟩
              have : u = w := by omega
              rw [this] at u3
              exact hin u3
        · rw [q_bit1 (by omega) (by omega) hb, if_neg q_10, if_pos gz]
          refine ih (k + 1) Y (by omega) (by omega) (fun T hT => ⟨mw_congr (qjr_skip (fun u x e e2 => ?_)) (hY T hT).1, (hY T hT).2⟩)
          rw [hb] at e2
          simp at e2
      · rw [if_neg hlt]
        have hno : ∀ v, ¬ qpt (qst c F C fx) c 0 S v := fun v hv => hlt (mw_get y1 hv).2.1
        refine ⟨Y, rfl, fun T hT => ⟨mw_congr (fun v => ?_) (hY T hT).1, (hY T hT).2⟩⟩
        have e : ∀ d, qjr c F C fx S k T v ↔ qjr c F C fx S (k + d) T v := by
          intro d
          induction d with
          | zero => exact Iff.rfl
          | succ d ihd => exact ihd.trans (qjr_skip (fun u x _ _ _ e4 => absurd e4 (hno u)) v)
        have := e (c - k)
        rw [show k + (c - k) = c by omega] at this
        exact this.trans (qjr_next S T v)
theorem l_lo38 (hC : ∀ j, 0 ≤ C j ∧ C j ≤ 9) (hc : c ≤ 8) (hH : qsh c F C H) (hfx : qfx c fx) : ∀ (n k : Nat) (Y : Nat → Int), 256 - k < n → k ≤ 2 ^ c → qjs c F C fx k 0 Y → ∃ Y2, l_X10_leastOf_38 n ((2 ^ c : Nat) : Int) k c F C H fx Y = some Y2 ∧ qjs c F C fx (2 ^ c) 0 Y2 := by
  have h8 := q_p8 hc
  intro n
  induction n with
  | zero => intro k Y h; omega
  | succ n ih =>
    intro k Y hn hk hY
    rw [l_X10_leastOf_38]
    by_cases he : k = 2 ^ c
    · rw [if_neg (by omega)]
      rw [he] at hY
      exact ⟨Y, rfl, hY⟩
    · obtain ⟨Y2, e1, e2⟩ := l_lo45 hC hc hH hfx (S := k) (by omega) ((2 ^ c : Nat) : Int) zN 0 Y (by have := zN_big; omega) (by omega) hY
      have e1 : l_X10_leastOf_45 zN ((2 ^ c : Nat) : Int) k 0 c F C H fx Y = some Y2 := e1
      rw [if_pos (by omega), e1, q_bs, if_pos (by omega)]
      exact ih (k + 1) Y2 (by omega) (by omega) e2
theorem q_leastOf (hC : ∀ j, 0 ≤ C j ∧ C j ≤ 9) (hc : c ≤ 8) (hH : qsh c F C H) (hfx : qfx c fx) (Y : Nat → Int) : ∃ r Y2, f_X10_leastOf c F C H fx Y = some (r, Y2) ∧ ∀ m, m < 1000000 → (r = m ↔ qmn c F C fx m) := by
  have h8 := q_p8 hc
  have hp := Nat.two_pow_pos c
  obtain ⟨Y1, e1, e2⟩ := l_lo9 (F := F) (C := C) (fx := fx) hc zN 0 Y (by have := zN_big; omega) (Nat.zero_le _) (fun T hT => by omega)
  obtain ⟨Y2, e3, e4⟩ := l_lo38 hC hc hH hfx zN 0 Y1 (by have := zN_big; omega) (Nat.zero_le _) e2
  have e1 : l_X10_leastOf_9 zN ((2 ^ c : Nat) : Int) 0 Y = some Y1 := e1
  have e3 : l_X10_leastOf_38 zN ((2 ^ c : Nat) : Int) 0 c F C H fx Y1 = some Y2 := e3
  unfold f_X10_leastOf
  rw [(q_every hc).2, e1, q_bs, e3, q_bs, if_pos (by omega), q_tn (show ((2 ^ c : Nat) : Int) - 1 = ((2 ^ c - 1 : Nat) : Int) by omega)]
  refine ⟨_, _, rfl, fun m hm => ?_⟩
  have h1 := (e4 (2 ^ c - 1) (by omega)).1
  refine mw_is (P := qtr c F C fx) (mw_congr (fun v => ?_) h1) hm
  refine Iff.trans ?_ (qjr_own (2 ^ c - 1) 0 v)
  constructor
  · rintro (h | ⟨i, i1, i2, i3, i4⟩)
    · exact Or.inl h
    · exact Or.inr ⟨i, i1, i2, Or.inl (x_lt i2), i4⟩
  · rintro (h | ⟨i, i1, i2, i3, i4⟩)
    · exact Or.inl h
    · exact Or.inr ⟨i, i1, i2, Or.inl (by omega), i4⟩
end ZLEAST
