/-! ===== trees: the least row of ways ===== -/
def qpre (W : Nat → Int) (k : Nat) : Nat → Int := fun i => if i < k then W i else -1
def qgr (c : Nat) (F C : Nat → Int) (m : Int) (W : Nat → Int) (k : Nat) : Prop := ∀ l : Nat, l < k → ∃ w : Nat, W l = (w : Int) ∧ qvw c l w ∧ qmn c F C (zu (qpre W l) l w) m ∧ ∀ u : Nat, u < w → ¬ (qvw c l u ∧ qmn c F C (zu (qpre W l) l u) m)
section ZGREEDY
variable {c : Nat} {F C : Nat → Int}
theorem qpre_eq {W V : Nat → Int} {k : Nat} (h : ∀ i, i < k → W i = V i) : qpre W k = qpre V k := by
  funext i
  unfold qpre
  by_cases hi : i < k
  · rw [if_pos hi, if_pos hi]; exact h i hi
  · rw [if_neg hi, if_neg hi]
theorem qpre_next {W V : Nat → Int} {k : Nat} {y : Int} (h : ∀ i, i < k → V i = W i) (hk : V k = y) : qpre V (k + 1) = zu (qpre W k) k y := by
  funext i
  rw [q_zu]
  unfold qpre
  by_cases hi : i = k
  · subst hi
    rw [if_pos (by omega), if_pos rfl]; exact hk
  · rw [if_neg hi]
    by_cases hi2 : i < k
    · rw [if_pos (by omega), if_pos hi2]; exact h i hi2
    · rw [if_neg (by omega), if_neg hi2]
theorem qpre_zero (W : Nat → Int) : qpre W 0 = qno1 := by
  funext i
  unfold qpre qno1
  rw [if_neg (by omega)]
theorem qpre_own (W : Nat → Int) {k i : Nat} (h : k ≤ i) : qpre W k i = -1 := by
  unfold qpre
  rw [if_neg (by omega)]
theorem qpre_in (W : Nat → Int) {k i : Nat} (h : i < k) : qpre W k i = W i := by
  unfold qpre
  rw [if_pos h]
theorem qgr_more {m : Int} {W V : Nat → Int} {k w : Nat} (hW : qgr c F C m W k) (h : ∀ i, i < k → V i = W i) (hk : V k = (w : Int)) (h1 : qvw c k w ∧ qmn c F C (zu (qpre W k) k w) m) (h2 : ∀ u : Nat, u < w → ¬ (qvw c k u ∧ qmn c F C (zu (qpre W k) k u) m)) : qgr c F C m V (k + 1) := by
  intro l hl
  by_cases hlk : l = k
  · subst hlk
    rw [qpre_eq h]
    exact ⟨w, hk, h1.1, h1.2, h2⟩
  · obtain ⟨u, a1, a2, a3, a4⟩ := hW l (by omega)
    rw [qpre_eq (V := W) (fun i hi => h i (by omega))]
    exact ⟨u, by rw [h l (by omega)]; exact a1, a2, a3, a4⟩
theorem qgr_uniq {m : Int} {W V : Nat → Int} {k : Nat} (hW : qgr c F C m W k) (hV : qgr c F C m V k) : ∀ l, l < k → W l = V l := by
  intro l
  induction l using Nat.strongRecOn with
  | _ l ih =>
    intro hl
    obtain ⟨w, a1, a2, a3, a4⟩ := hW l hl
    obtain ⟨v, b1, b2, b3, b4⟩ := hV l hl
    have e : qpre W l = qpre V l := qpre_eq (fun i hi => ih i hi (by omega))
    rw [e] at a3 a4
    have h1 : ¬ w < v := fun h => b4 w h ⟨a2, a3⟩
    have h2 : ¬ v < w := fun h => a4 v h ⟨b2, b3⟩
    omega
theorem q_fit {fx : Nat → Int} {m : Int} {l : Nat} (hl : l < c) (hfx : fx l = -1) (hm : qmn c F C fx m) : ∃ w, qvw c l w ∧ qmn c F C (zu fx l w) m := by
  obtain ⟨w, w1, w2, w3⟩ := tr_some fx hl hm.1
  exact ⟨w, w1, w3, fun v hv => hm.2 v (tr_sub fx hl w1 hfx hv)⟩
theorem l_lw2 (hC : ∀ j, 0 ≤ C j ∧ C j ≤ 9) (hc : c ≤ 8) {K : Nat → Int} (hK : qcd c F C K) {l : Nat} (hl : l < c) {D fx : Nat → Int} (hD : ∀ S, S < 2 ^ c → qwg c F C fx l c S (D S)) {m : Int} (hm : m < 1048576) {z : Nat} (hz : qvw c l z ∧ qmn c F C (zu fx l z) m) : ∀ (n k : Nat), 532 - k < n → k ≤ z → (∀ u, u < k → ¬ (qvw c l u ∧ qmn c F C (zu fx l u) m)) → ∃ w : Nat, l_X8_leastWayThatFits_2 n l k m c F C K D = some (w : Int) ∧ (qvw c l w ∧ qmn c F C (zu fx l w) m) ∧ ∀ u, u < w → ¬ (qvw c l u ∧ qmn c F C (zu fx l u) m) := by
  have hz2 := qvw_lt hz.1
  intro n
  induction n with
  | zero => intro k h; omega
  | succ n ih =>
    intro k hn hk hno
    rw [l_X8_leastWayThatFits_2, if_pos (by omega)]
    rcases q_fits hC hc hK hl hD hm k with ⟨k1, k2, k3⟩ | ⟨k2, k3⟩
    · rw [k3, q_bs, if_neg q_10]
      exact ⟨k, rfl, ⟨k1, k2⟩, hno⟩
    · rw [k3, q_bs, if_pos rfl, if_pos (by omega)]
      have : k ≠ z := fun e => by rw [e] at k2; exact k2 hz
      refine ih (k + 1) (by omega) (by omega) (fun u hu => ?_)
      by_cases huk : u = k
      · rw [huk]; exact k2
      · exact hno u (by omega)
theorem l_settle19 (hC : ∀ j, 0 ≤ C j ∧ C j ≤ 9) (hc : c ≤ 8) {K T : Nat → Int} (hK : qcd c F C K) (hT : qsg c F C T) {m : Int} (hm : m < 1000000) : ∀ (n k : Nat) (B R D h hp W : Nat → Int), 8 - k < n → k ≤ c → qgr c F C m W k → qhl c F C (qpre W k) h hp → qmn c F C (qpre W k) m → ∃ B2 R2 D2 h2 hp2 W2, l_X8_settle_19 n k m c F C K T B R D h hp W = some (B2, R2, D2, h2, hp2, W2) ∧ qgr c F C m W2 c ∧ qhl c F C (qpre W2 c) h2 hp2 := by
  intro n
  induction n with
  | zero => intro k B R D h hp W h; omega
  | succ n ih =>
    intro k B R D h hp W hn hk hW hh hmn
    rw [l_X8_settle_19]
    by_cases he : k = c
    · subst he
      rw [if_neg (by omega)]
      exact ⟨B, R, D, h, hp, W, rfl, hW, hh⟩
    · have hkc : k < c := by omega
      obtain ⟨B2, R2, D2, d1, d2⟩ := q_weigh hC hc hT hh hkc B R D
      obtain ⟨z, hz⟩ := q_fit hkc (qpre_own W (Nat.le_refl k)) hmn
      obtain ⟨w, w1, w2, w3⟩ := l_lw2 hC hc hK hkc d2 (m := m) (by omega) hz zN 0 (by have := zN_big; omega) (by omega) (fun u hu => by omega)
      have w1 : f_X8_leastWayThatFits k m c F C K D2 = some (w : Int) := w1
      have g : zin (k : Int) 8 := by omega
      rw [if_pos (by omega), d1, q_bs]
      dsimp only
      rw [w1, q_bs, if_pos g, (q_sources hc hkc).1 w2.1, q_bs, if_pos g, q_priceOf hC hc hK hkc w2.1, q_bs, if_pos ⟨g, by omega⟩, Int.toNat_natCast]
      have hV : ∀ i, i < k → (zu W k (w : Int)) i = W i := fun i hi => by rw [q_zu, if_neg (by omega)]
      have hVk : (zu W k (w : Int)) k = (w : Int) := by rw [q_zu, if_pos rfl]
      refine ih (k + 1) _ _ _ _ _ _ (by omega) (by omega) (qgr_more hW hV hVk w2 w3) (fun i hi => ?_) (by rw [qpre_next hV hVk]; exact w2.2)
      rw [qpre_next hV hVk, q_zu, q_zu, q_zu]
      by_cases hik : i = k
      · subst hik
        rw [if_pos rfl, if_pos rfl, if_pos rfl]
        exact Or.inr ⟨w, w2.1, rfl, rfl, rfl⟩
      · rw [if_neg hik, if_neg hik, if_neg hik]
        exact hh i hi
/-! the reference -/
theorem l_plants20 (hC : ∀ j, 0 ≤ C j ∧ C j ≤ 9) (hc : c ≤ 8) {H : Nat → Int} (hH : qsh c F C H) {l : Nat} (hl : l < c) {fx : Nat → Int} (hfx : qfx c fx) {m : Int} (hm : m < 1000000) {z : Nat} (hz : qvw c l z ∧ qmn c F C (zu fx l z) m) : ∀ (n k : Nat) (X Y : Nat → Int), 533 - k < n → k ≤ z → (∀ u, u < k → ¬ (qvw c l u ∧ qmn c F C (zu fx l u) m)) → (∀ i, i < c → i ≠ l → X i = fx i) → ∃ (w : Nat) (X2 Y2 : Nat → Int), l_X10_plants_20 n m l ((k : Int) - 1) 0 c F C H X Y = some (X2, Y2) ∧ X2 l = (w : Int) ∧ (∀ i, i < c → i ≠ l → X2 i = fx i) ∧ (qvw c l w ∧ qmn c F C (zu fx l w) m) ∧ ∀ u, u < w → ¬ (qvw c l u ∧ qmn c F C (zu fx l u) m) := by
  have hz2 := qvw_lt hz.1
  intro n
  induction n with
  | zero => intro k X Y h; omega
  | succ n ih =>
    intro k X Y hn hk hno hX
    have e1 : (k : Int) - 1 + 1 = (k : Int) := by omega
    have e2 : ((k + 1 : Nat) : Int) - 1 = (k : Int) := by omega
    rw [l_X10_plants_20, if_pos rfl, e1, if_pos (by omega)]
    have next : k ≠ z → ¬ (qvw c l k ∧ qmn c F C (zu fx l k) m) → ∀ X3 Y3 : Nat → Int, (∀ i, i < c → i ≠ l → X3 i = fx i) → ∃ (w : Nat) (X2 Y2 : Nat → Int), l_X10_plants_20 n m l (k : Int) 0 c F C H X3 Y3 = some (X2, Y2) ∧ X2 l = (w : Int) ∧ (∀ i, i < c → i ≠ l → X2 i = fx i) ∧ (qvw c l w ∧ qmn c F C (zu fx l w) m) ∧ ∀ u, u < w → ¬ (qvw c l u ∧ qmn c F C (zu fx l u) m) := by
      intro hkz hk2 X3 Y3 hX3
      have h1 := ih (k + 1) X3 Y3 (by omega) (by omega) (fun u hu => by
        by_cases huk : u = k
        · rw [huk]; exact hk2
        · exact hno u (by omega)) hX3
      rw [e2] at h1
      exact h1
    by_cases hv : qvw c l k
    · have hX2 : ∀ i, i < c → zu X l (k : Int) i = zu fx l (k : Int) i := zu_eq hX _
      have hf2 : qfx c (zu X l (k : Int)) := fun i hi => by
        rw [hX2 i hi, q_zu]
        by_cases hil : i = l
        · subst hil; rw [if_pos rfl]; exact Or.inr ⟨k, hv, rfl⟩
        · rw [if_neg hil]; exact hfx i hi
      obtain ⟨r, Y3, g4, g5⟩ := q_leastOf hC hc hH hf2 Y
      have g6 := g5 m hm
      rw [qmn_eq hX2] at g6
      have hX3 : ∀ i, i < c → i ≠ l → zu X l (k : Int) i = fx i := fun i hi hil => by rw [q_zu, if_neg hil]; exact hX i hi hil
      rw [(q_isWay hc hl).1 hv, q_bs, if_neg q_10, if_pos (show zin (l : Int) 8 by omega), Int.toNat_natCast, g4, q_bs]
      dsimp only
      by_cases hr : r = m
      · have hn2 : ∃ n2, n = n2 + 1 := ⟨n - 1, by omega⟩
        obtain ⟨n2, rfl⟩ := hn2
        rw [if_pos hr, l_X10_plants_20, if_neg q_10]
        exact ⟨k, _, _, rfl, by rw [q_zu, if_pos rfl], hX3, ⟨hv, g6.1 hr⟩, hno⟩
      · rw [if_neg hr]
        have hk2 : ¬ (qvw c l k ∧ qmn c F C (zu fx l k) m) := fun h => hr (g6.2 h.2)
        exact next (fun e => hk2 (by rw [e]; exact hz)) hk2 _ _ hX3
    · rw [(q_isWay hc hl).2 hv, q_bs, if_pos rfl]
      exact next (fun e => hv (by rw [e]; exact hz.1)) (fun h => hv h.1) X Y hX
theorem l_plants7 (hC : ∀ j, 0 ≤ C j ∧ C j ≤ 9) (hc : c ≤ 8) {H : Nat → Int} (hH : qsh c F C H) {m : Int} (hm : m < 1000000) : ∀ (n k : Nat) (X Y : Nat → Int), 8 - k < n → k ≤ c → qgr c F C m X k → (∀ i, k ≤ i → i < c → X i = -1) → qmn c F C (qpre X k) m → ∃ X2 Y2, l_X10_plants_7 n m k c F C H X Y = some (X2, Y2) ∧ qgr c F C m X2 c := by
  intro n
  induction n with
  | zero => intro k X Y h; omega
  | succ n ih =>
    intro k X Y hn hk hX hf hmn
    rw [l_X10_plants_7]
    by_cases he : k = c
    · subst he
      rw [if_neg (by omega)]
      exact ⟨X, Y, rfl, hX⟩
    · have hkc : k < c := by omega
      obtain ⟨z, hz⟩ := q_fit hkc (qpre_own X (Nat.le_refl k)) hmn
      have hfx : qfx c (qpre X k) := fun i hi => by
        by_cases hik : i < k
        · rw [qpre_in X hik]
          obtain ⟨w, a1, a2, a3, a4⟩ := hX i hik
          exact Or.inr ⟨w, a2, a1⟩
        · exact Or.inl (qpre_own X (by omega))
      obtain ⟨w, X2, Y2, b1, b2, b3, b4, b5⟩ := l_plants20 hC hc hH hkc hfx hm hz zN 0 X Y (by have := zN_big; omega) (by omega) (fun u hu => by omega) (fun i hi hik => by
        by_cases hik2 : i < k
        · rw [qpre_in X hik2]
        · rw [qpre_own X (by omega)]; exact hf i (by omega) hi)
      have b1 : l_X10_plants_20 zN m k (-1) 0 c F C H X Y = some (X2, Y2) := b1
      have hV : ∀ i, i < k → X2 i = X i := fun i hi => by rw [b3 i (by omega) (by omega), qpre_in X hi]
      rw [if_pos (by omega), b1, q_bs, if_pos (by omega)]
      refine ih (k + 1) X2 Y2 (by omega) (by omega) (qgr_more hX hV b2 b4 b5) (fun i hi hic => ?_) (by rw [qpre_next hV b2]; exact b4.2)
      rw [b3 i hic (by omega)]
      exact qpre_own X (by omega)
theorem q_plants (hC : ∀ j, 0 ≤ C j ∧ C j ≤ 9) (hc : c ≤ 8) {m : Int} (hm : qmn c F C qno1 m) (H X Y : Nat → Int) : ∃ H2 X2 Y2, f_X10_plants c F C H X Y = some (H2, X2, Y2) ∧ qgr c F C m X2 c := by
  obtain ⟨H2, X2, Y2, g1, g2, g3⟩ := q_leastAll hC hc hm H X Y
  have hb := qmn_b hC hc hm.1
  obtain ⟨X3, Y3, e1, e2⟩ := l_plants7 hC hc g2 (m := m) (by omega) zN 0 X2 Y2 (by have := zN_big; omega) (by omega) (fun l hl => by omega) (fun i _ hi => g3 i hi) (by rw [qpre_zero]; exact hm)
  have e1 : l_X10_plants_7 zN m 0 c F C H2 X2 Y2 = some (X3, Y3) := e1
  unfold f_X10_plants
  rw [g1, q_bs]
  dsimp only
  rw [e1, q_bs]
  exact ⟨H2, X3, Y3, rfl, e2⟩
end ZGREEDY
