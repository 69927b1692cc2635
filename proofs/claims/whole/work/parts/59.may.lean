/-! ===== trees: may, sure ===== -/
section ZMAY
variable {c : Nat} {F C : Nat → Int}
theorem qfx_fix {fx : Nat → Int} (h : ∀ i, i < c → fx i = -1) {l w : Nat} (hw : qvw c l w) : qfx c (zu fx l w) := fun i hi => by
  rw [q_zu]
  by_cases hil : i = l
  · subst hil
    rw [if_pos rfl]
    exact Or.inr ⟨w, hw, rfl⟩
  · rw [if_neg hil]
    exact Or.inl (h i hi)
theorem zu_eq {fx gx : Nat → Int} {l : Nat} (h : ∀ i, i < c → i ≠ l → fx i = gx i) (y : Int) : ∀ i, i < c → zu fx l y i = zu gx l y i := fun i hi => by
  rw [q_zu, q_zu]
  by_cases hil : i = l
  · rw [if_pos hil, if_pos hil]
  · rw [if_neg hil, if_neg hil]
    exact h i hi hil
theorem q_isWayNo {p2 : Int} (h : p2 < 0) (p1 : Int) (n : Int) : f_X10_isWay p1 p2 n = some 0 := by
  unfold f_X10_isWay
  rw [if_neg (show ¬ p2 = 0 by omega), q_in, q_bs, if_neg (show ¬ (1 ≤ p2 ∧ p2 ≤ 8) by omega), if_pos rfl, q_in, q_bs, if_neg (show ¬ (20 ≤ p2 ∧ p2 ≤ 531) by omega), if_pos rfl]
theorem q_pmay (p1 p2 : Int) (hC : ∀ j, 0 ≤ C j ∧ C j ≤ 9) (hc : c ≤ 8) {cS tp cost : Int} {K T : Nat → Int} (hI : qpi c F C cS K tp cost T) (P B R D h hp H X Y : Nat → Int) : ∃ (r m tp2 cS2 : Int) (K2 T2 P2 B2 R2 D2 h2 H2 X2 Y2 : Nat → Int), f_X9_may p1 p2 c cS F C K cost tp T P B R D h hp = some (r, cS2, K2, m, tp2, T2, P2, B2, R2, D2, h2) ∧ f_X10_may p1 p2 c F C H X Y = some (r, H2, X2, Y2) ∧ qpi c F C cS2 K2 tp2 m T2 := by
  unfold f_X9_may f_X10_may
  rw [q_isLetter p1 c (by omega) (by omega), q_bs]
  by_cases h1 : 0 ≤ p1 ∧ p1 < (c : Int)
  · rw [if_pos h1, if_neg q_10]
    by_cases h2 : p2 < 0
    · rw [q_sourcesNo p1 p2 c (Or.inr h2), q_bs, if_pos rfl, q_isWayNo h2, q_bs, if_pos rfl]
      exact ⟨_, _, _, _, _, _, _, _, _, _, _, _, _, _, rfl, rfl, hI⟩
    · obtain ⟨l, rfl⟩ : ∃ l : Nat, p1 = l := ⟨p1.toNat, by omega⟩
      obtain ⟨w, rfl⟩ : ∃ w : Nat, p2 = w := ⟨p2.toNat, by omega⟩
      have hl : l < c := by omega
      by_cases hv : qvw c l w
      · obtain ⟨m, tp2, cS2, K2, T2, P2, B2, h2, e1, e2, e3, e4, e5, e6⟩ := q_leastCost hC hc hI P B h hp
        obtain ⟨h3, f1, f2⟩ := q_free (F := F) (C := C) hc h2 hp
        obtain ⟨B3, R3, D3, d1, d2⟩ := q_weigh hC hc e6 f2 hl B2 R D
        obtain ⟨H2, X2, Y2, g1, g2, g3⟩ := q_leastAll hC hc e2 H X Y
        have hb := qmn_b hC hc e2.1
        obtain ⟨r, Y3, g4, g5⟩ := q_leastOf hC hc g2 (qfx_fix g3 hv) Y2
        have g6 := g5 m (by omega)
        rw [qmn_eq (zu_eq (gx := qno1) (fun i hi _ => g3 i hi) (w : Int))] at g6
        rw [(q_sources hc hl).1 hv, (q_isWay hc hl).1 hv, q_bs, q_bs, if_neg (show ¬ (qsr w : Int) = -1 by omega), if_neg q_10, g1, q_bs]
        dsimp only
        rw [Int.toNat_natCast, if_pos (show zin (l : Int) 8 by omega), g4, q_bs]
        dsimp only
        unfold f_X8_mayHave
        rw [e1, q_bs]
        dsimp only
        rw [f1, q_bs, d1, q_bs]
        dsimp only
        rcases q_fits hC hc e5 hl d2 (m := m) (by omega) w with ⟨_, k1, k2⟩ | ⟨k1, k2⟩
        · rw [k2, q_bs, if_pos (show zbit 1 from Or.inr rfl), q_bs, if_pos (g6.2 k1)]
          dsimp only
          rw [if_neg q_10]
          exact ⟨_, _, _, _, _, _, _, _, _, _, _, _, _, _, rfl, rfl, fun _ => e5, fun _ => ⟨e4, e6, e2⟩⟩
        · rw [k2, q_bs, if_pos (show zbit 0 from Or.inl rfl), q_bs, if_neg (fun e => k1 ⟨hv, g6.1 e⟩)]
          dsimp only
          rw [if_pos rfl]
          exact ⟨_, _, _, _, _, _, _, _, _, _, _, _, _, _, rfl, rfl, fun _ => e5, fun _ => ⟨e4, e6, e2⟩⟩
      · rw [(q_sources hc hl).2 hv, (q_isWay hc hl).2 hv, q_bs, q_bs, if_pos rfl, if_pos rfl]
        exact ⟨_, _, _, _, _, _, _, _, _, _, _, _, _, _, rfl, rfl, hI⟩
  · rw [if_neg h1, if_pos rfl, q_sourcesNo p1 p2 c (Or.inl h1), q_bs, if_pos rfl]
    exact ⟨_, _, _, _, _, _, _, _, _, _, _, _, _, _, rfl, rfl, hI⟩
theorem q_pick (P : Nat → Prop) : ∃ Q : Nat → Bool, ∀ w, Q w = true ↔ P w := by
  have h : ∀ w, ∃ b : Bool, (b = true ↔ P w) := fun w => by
    by_cases h : P w
    · exact ⟨true, by simp [h]⟩
    · exact ⟨false, by simp [h]⟩
  obtain ⟨Q, hQ⟩ := Classical.axiomOfChoice h
  exact ⟨Q, hQ⟩
theorem qct_up (P : Nat → Bool) (k d : Nat) : qct P k ≤ qct P (k + d) := by
  induction d with
  | zero => exact Nat.le_refl _
  | succ d ih =>
    have e : qct P (k + (d + 1)) = qct P (k + d) + if P (k + d) = true then 1 else 0 := rfl
    omega
theorem l_ways18 (hC : ∀ j, 0 ≤ C j ∧ C j ≤ 9) (hc : c ≤ 8) {K : Nat → Int} (hK : qcd c F C K) {l : Nat} (hl : l < c) {D fx : Nat → Int} (hD : ∀ S, S < 2 ^ c → qwg c F C fx l c S (D S)) {m : Int} (hm : m < 1048576) {P : Nat → Bool} (hP : ∀ w, P w = true ↔ (qvw c l w ∧ qmn c F C (zu fx l w) m)) : ∀ (n k : Nat), 532 - k < n → k ≤ 532 → l_X8_waysThatMayBe_18 n l ((qct P k : Nat) : Int) k m c F C K D = some ((qct P 532 : Nat) : Int) := by
  intro n
  induction n with
  | zero => intro k h; omega
  | succ n ih =>
    intro k hn hk
    rw [l_X8_waysThatMayBe_18]
    by_cases he : k = 532
    · subst he
      rw [if_neg (by omega)]
    · have h1 := ih (k + 1) (by omega) (by omega)
      have e : qct P (k + 1) = qct P k + if P k = true then 1 else 0 := rfl
      have hle := qct_le P k
      rw [if_pos (by omega)]
      rcases q_fits hC hc hK hl hD hm k with ⟨k1, k2, k3⟩ | ⟨k2, k3⟩
      · rw [if_pos ((hP k).2 ⟨k1, k2⟩)] at e
        rw [e] at h1
        rw [k3, q_bs, if_neg q_10, if_pos (by omega), if_pos (by omega)]
        exact h1
      · rw [if_neg (fun h => k2 ((hP k).1 h))] at e
        rw [e] at h1
        rw [k3, q_bs, if_pos rfl, if_pos (by omega)]
        exact h1
theorem l_sure21 (hC : ∀ j, 0 ≤ C j ∧ C j ≤ 9) (hc : c ≤ 8) {H : Nat → Int} (hH : qsh c F C H) {l : Nat} (hl : l < c) {m : Int} (hm : m < 1000000) {P : Nat → Bool} (hP : ∀ w, P w = true ↔ (qvw c l w ∧ qmn c F C (zu qno1 l w) m)) : ∀ (n k : Nat) (X Y : Nat → Int), 532 - k < n → k ≤ 532 → (∀ i, i < c → i ≠ l → X i = -1) → qct P k ≤ 2 → ∃ (a : Nat) (X2 Y2 : Nat → Int), l_X10_sure_21 n l m ((qct P k : Nat) : Int) k c F C H X Y = some ((a : Int), X2, Y2) ∧ (a = 1 ↔ qct P 532 = 1) := by
  intro n
  induction n with
  | zero => intro k X Y h; omega
  | succ n ih =>
    intro k X Y hn hk hX h2
    rw [l_X10_sure_21]
    by_cases he : k = 532
    · subst he
      rw [if_neg (by omega)]
      exact ⟨_, _, _, rfl, Iff.rfl⟩
    · rw [if_pos (show (k : Int) < 532 by omega)]
      by_cases h3 : qct P k < 2
      · have gz : zI ((k : Int) + 1) := by omega
        have e : qct P (k + 1) = qct P k + if P k = true then 1 else 0 := rfl
        rw [if_pos (show ((qct P k : Nat) : Int) < 2 by omega)]
        by_cases hv : qvw c l k
        · have hX2 : ∀ i, i < c → zu X l (k : Int) i = zu qno1 l (k : Int) i := zu_eq (fun i hi hil => hX i hi hil) _
          have hfx : qfx c (zu X l (k : Int)) := fun i hi => by
            rw [hX2 i hi]
            exact qfx_fix (c := c) (fx := qno1) (fun _ _ => rfl) hv i hi
          obtain ⟨r, Y3, g4, g5⟩ := q_leastOf hC hc hH hfx Y
          have g6 := g5 m hm
          rw [qmn_eq hX2] at g6
          rw [(q_isWay hc hl).1 hv, q_bs, if_neg q_10, if_pos (show zin (l : Int) 8 by omega), Int.toNat_natCast, g4, q_bs]
          dsimp only
          by_cases hr : r = m
          · rw [if_pos ((hP k).2 ⟨hv, g6.1 hr⟩)] at e
            have h1 := ih (k + 1) (zu X l (k : Int)) Y3 (by omega) (by omega) (fun i hi hil => by rw [q_zu, if_neg hil]; exact hX i hi hil) (by omega)
            rw [e] at h1
            rw [if_pos hr, if_pos (show zI (((qct P k : Nat) : Int) + 1) by omega), if_pos gz]
            exact h1
          · rw [if_neg (fun h => hr (g6.2 ((hP k).1 h).2))] at e
            have h1 := ih (k + 1) (zu X l (k : Int)) Y3 (by omega) (by omega) (fun i hi hil => by rw [q_zu, if_neg hil]; exact hX i hi hil) (by omega)
            rw [e] at h1
            rw [if_neg hr, if_pos (show zI (((qct P k : Nat) : Int) + 0) by omega), if_pos gz, Int.add_zero]
            exact h1
        · rw [if_neg (fun h => hv ((hP k).1 h).1)] at e
          have h1 := ih (k + 1) X Y (by omega) (by omega) hX (by omega)
          rw [e] at h1
          rw [(q_isWay hc hl).2 hv, q_bs, if_pos rfl, if_pos gz]
          exact h1
      · have h4 := qct_up P k (532 - k)
        rw [show k + (532 - k) = 532 by omega] at h4
        rw [if_neg (show ¬ ((qct P k : Nat) : Int) < 2 by omega)]
        exact ⟨_, _, _, rfl, by omega⟩
theorem q_psure (p1 : Int) (hC : ∀ j, 0 ≤ C j ∧ C j ≤ 9) (hc : c ≤ 8) {cS tp cost : Int} {K T : Nat → Int} (hI : qpi c F C cS K tp cost T) (P B R D h hp H X Y : Nat → Int) : ∃ (r m tp2 cS2 : Int) (K2 T2 P2 B2 R2 D2 h2 H2 X2 Y2 : Nat → Int), f_X9_sure p1 c cS F C K cost tp T P B R D h hp = some (r, cS2, K2, m, tp2, T2, P2, B2, R2, D2, h2) ∧ f_X10_sure p1 c F C H X Y = some (r, H2, X2, Y2) ∧ qpi c F C cS2 K2 tp2 m T2 := by
  unfold f_X9_sure f_X10_sure
  rw [q_isLetter p1 c (by omega) (by omega), q_has, q_bs, q_bs]
  by_cases h1 : 0 ≤ p1 ∧ p1 < (c : Int)
  · rw [if_pos h1, if_neg q_10, if_neg q_10]
    obtain ⟨l, rfl⟩ : ∃ l : Nat, p1 = l := ⟨p1.toNat, by omega⟩
    have hl : l < c := by omega
    obtain ⟨m, tp2, cS2, K2, T2, P2, B2, h2, e1, e2, e3, e4, e5, e6⟩ := q_leastCost hC hc hI P B h hp
    obtain ⟨h3, f1, f2⟩ := q_free (F := F) (C := C) hc h2 hp
    obtain ⟨B3, R3, D3, d1, d2⟩ := q_weigh hC hc e6 f2 hl B2 R D
    obtain ⟨H2, X2, Y2, g1, g2, g3⟩ := q_leastAll hC hc e2 H X Y
    have hb := qmn_b hC hc e2.1
    obtain ⟨Q, hQ⟩ := q_pick (fun w : Nat => qvw c l w ∧ qmn c F C (zu qno1 l w) m)
    have k1 := l_ways18 hC hc e5 hl d2 (m := m) (by omega) hQ zN 0 (by have := zN_big; omega) (by omega)
    obtain ⟨a, X3, Y3, k2, k3⟩ := l_sure21 hC hc g2 hl (m := m) (by omega) hQ zN 0 X2 Y2 (by have := zN_big; omega) (by omega) (fun i hi _ => g3 i hi) (by have := qct_le Q 0; omega)
    have k1 : l_X8_waysThatMayBe_18 zN l 0 0 m c F C K2 D3 = some ((qct Q 532 : Nat) : Int) := k1
    have k2 : l_X10_sure_21 zN l m 0 0 c F C H2 X2 Y2 = some ((a : Int), X3, Y3) := k2
    unfold f_X8_waysThatMayBe
    rw [e1, g1, q_bs, q_bs]
    dsimp only
    rw [f1, q_bs, d1, q_bs, k2, q_bs]
    dsimp only
    rw [k1, q_bs, q_bs]
    dsimp only
    by_cases h : a = 1
    · rw [if_pos (show ((qct Q 532 : Nat) : Int) = 1 by omega), if_pos (show (a : Int) = 1 by omega)]
      exact ⟨_, _, _, _, _, _, _, _, _, _, _, _, _, _, rfl, rfl, fun _ => e5, fun _ => ⟨e4, e6, e2⟩⟩
    · rw [if_neg (show ¬ ((qct Q 532 : Nat) : Int) = 1 by omega), if_neg (show ¬ (a : Int) = 1 by omega)]
      exact ⟨_, _, _, _, _, _, _, _, _, _, _, _, _, _, rfl, rfl, fun _ => e5, fun _ => ⟨e4, e6, e2⟩⟩
  · rw [if_neg h1, if_pos rfl, if_pos rfl]
    exact ⟨_, _, _, _, _, _, _, _, _, _, _, _, _, _, rfl, rfl, hI⟩
end ZMAY
