/-! ===== trees: least ===== -/
section ZLST
variable {c : Nat} {F C : Nat → Int}
def qno1 : Nat → Int := fun _ => -1
theorem qpa_c3 {st st2 : Nat → Nat → Int → Prop} (h : ∀ i S x, i < c → st i S x → st2 i S x) : ∀ (n S T : Nat) (v : Int), qpa st c n S T v → qpa st2 c n S T v := by
  intro n
  induction n with
  | zero => intro S T v h; exact h
  | succ n ih =>
    intro S T v g
    obtain ⟨i, x, u, h1, h2, h3, h4, h5⟩ := g
    exact ⟨i, x, u, h1, h2, h i _ x h1 h3, ih _ _ _ h4, h5⟩
theorem qtr_eq {fx gx : Nat → Int} (h : ∀ i, i < c → fx i = gx i) {v : Int} (hv : qtr c F C fx v) : qtr c F C gx v := by
  obtain ⟨n, hv⟩ := hv
  refine ⟨n, qpa_c3 (fun i S x hi hx => ?_) _ _ _ _ hv⟩
  obtain ⟨w, w1, w2, w3⟩ := hx
  rw [h i hi] at w2
  exact ⟨w, w1, w2, w3⟩
theorem qmn_eq {fx gx : Nat → Int} (h : ∀ i, i < c → fx i = gx i) {m : Int} : qmn c F C fx m ↔ qmn c F C gx m :=
  ⟨fun hm => ⟨qtr_eq h hm.1, fun v hv => hm.2 v (qtr_eq (fun i hi => (h i hi).symm) hv)⟩, fun hm => ⟨qtr_eq (fun i hi => (h i hi).symm) hm.1, fun v hv => hm.2 v (qtr_eq h hv)⟩⟩
theorem l_free : ∀ (n k : Nat) (h : Nat → Int), 8 - k < n → k ≤ 8 → (∀ l, l < k → h l = -1) → ∃ h2, l_X8_freeAll_2 n k h = some h2 ∧ ∀ l, l < 8 → h2 l = -1 := by
  intro n
  induction n with
  | zero => intro k h h1; omega
  | succ n ih =>
    intro k h hn hk hh
    rw [l_X8_freeAll_2]
    by_cases he : k = 8
    · subst he
      rw [if_neg (show ¬ ((8 : Nat) : Int) < Int.ofNat 8 from by decide)]
      exact ⟨h, rfl, hh⟩
    · have g : (k : Int) < Int.ofNat 8 := Int.ofNat_lt.2 (by omega)
      rw [if_pos g, if_pos (by omega), Int.toNat_natCast]
      refine ih (k + 1) _ (by omega) (by omega) (fun l hl => ?_)
      rw [q_zu]
      by_cases hlk : l = k
      · rw [if_pos hlk]
      · rw [if_neg hlk]; exact hh l (by omega)
theorem q_free (hc : c ≤ 8) (h hp : Nat → Int) : ∃ h2, f_X8_freeAll h = some h2 ∧ qhl c F C qno1 h2 hp := by
  obtain ⟨h2, e1, e2⟩ := l_free zN 0 h (by have := zN_big; omega) (by omega) (fun l hl => by omega)
  have e1 : l_X8_freeAll_2 zN 0 h = some h2 := e1
  unfold f_X8_freeAll
  rw [e1, q_bs]
  exact ⟨h2, rfl, fun l hl => Or.inl ⟨rfl, e2 l (by omega)⟩⟩
/-- what the class holds ready of prices -/
def qpi (c : Nat) (F C : Nat → Int) (cS : Int) (K : Nat → Int) (tp cost : Int) (T : Nat → Int) : Prop := (cS ≠ 0 → qcd c F C K) ∧ (tp ≠ 0 → cS ≠ 0 ∧ qsg c F C T ∧ qmn c F C qno1 cost)
theorem q_leastCost (hC : ∀ j, 0 ≤ C j ∧ C j ≤ 9) (hc : c ≤ 8) {cS tp cost : Int} {K T : Nat → Int} (hI : qpi c F C cS K tp cost T) (P B h hp : Nat → Int) : ∃ (m tp2 cS2 : Int) (K2 T2 P2 B2 h2 : Nat → Int), f_X8_leastCost cost tp c cS F C K T P B h hp = some (m, m, tp2, cS2, K2, T2, P2, B2, h2) ∧ qmn c F C qno1 m ∧ tp2 ≠ 0 ∧ cS2 ≠ 0 ∧ qcd c F C K2 ∧ qsg c F C T2 := by
  unfold f_X8_leastCost
  by_cases ht : tp = 0
  · obtain ⟨cS2, K2, k1, k2, k3⟩ := q_refresh hC hc cS K hI.1
    obtain ⟨T2, P2, t1, t2⟩ := l_least16 (F := F) hC hc k3 zN 0 T P (by have := zN_big; omega) (by omega) (fun l S hl => by omega)
    have t1 : l_X8_leastCost_16 zN 0 c F C K2 T P = some (T2, P2) := t1
    obtain ⟨h2, h3, h4⟩ := q_free (F := F) (C := C) hc h hp
    obtain ⟨B2, b1, b2⟩ := q_built hC hc t2 h4 B
    have h8 := q_p8 hc
    have hp0 := Nat.two_pow_pos c
    rw [if_pos ht, k1, q_bs]
    dsimp only
    rw [t1, q_bs, h3, q_bs]
    dsimp only
    rw [b1, q_bs, (q_every hc).1, q_bs, if_pos (by omega), Int.toNat_natCast]
    obtain ⟨v, hv⟩ := tr_free (F := F) (C := C) (c := c) qno1 (fun l hl => rfl)
    have h5 := mw_get (b2 (2 ^ c - 1) (by omega)).1 hv
    exact ⟨_, _, _, _, _, _, _, _, rfl, ⟨h5.1, h5.2.2⟩, by omega, k2, k3, t2⟩
  · obtain ⟨a1, a2, a3⟩ := hI.2 ht
    rw [if_neg ht]
    exact ⟨_, _, _, _, _, _, _, _, rfl, a3, ht, a1, hI.1 a1, a2⟩
theorem qfx_free {fx : Nat → Int} (h : ∀ l, l < c → fx l = -1) : qfx c fx := fun l hl => Or.inl (h l hl)
theorem q_leastAll (hC : ∀ j, 0 ≤ C j ∧ C j ≤ 9) (hc : c ≤ 8) {m : Int} (hm : qmn c F C qno1 m) (H X Y : Nat → Int) : ∃ H2 X2 Y2, f_X10_leastAll c F C H X Y = some (m, H2, X2, Y2) ∧ qsh c F C H2 ∧ ∀ l, l < c → X2 l = -1 := by
  obtain ⟨H2, X2, e1, e2, e3⟩ := q_prices (F := F) hC hc H X
  obtain ⟨r, Y2, e4, e5⟩ := q_leastOf hC hc e2 (qfx_free e3) Y
  have hb := qmn_b hC hc hm.1
  have e6 := (e5 m (by omega)).2 ((qmn_eq e3 (gx := qno1)).2 hm)
  unfold f_X10_leastAll
  rw [e1, q_bs]
  dsimp only
  rw [e4, q_bs, e6]
  exact ⟨H2, X2, Y2, rfl, e2, e3⟩
/-- least: class and reference -/
theorem q_pleast (hC : ∀ j, 0 ≤ C j ∧ C j ≤ 9) (hc : c ≤ 8) {cS tp cost : Int} {K T : Nat → Int} (hI : qpi c F C cS K tp cost T) (P B h hp H X Y : Nat → Int) : ∃ (m tp2 cS2 : Int) (K2 T2 P2 B2 h2 H2 X2 Y2 : Nat → Int), f_X9_least c cS F C K cost tp T P B h hp = some (m, cS2, K2, m, tp2, T2, P2, B2, h2) ∧ f_X10_least c F C H X Y = some (m, H2, X2, Y2) ∧ qpi c F C cS2 K2 tp2 m T2 := by
  obtain ⟨m, tp2, cS2, K2, T2, P2, B2, h2, e1, e2, e3, e4, e5, e6⟩ := q_leastCost hC hc hI P B h hp
  obtain ⟨H2, X2, Y2, g1, g2, g3⟩ := q_leastAll hC hc e2 H X Y
  unfold f_X9_least f_X10_least
  rw [e1, g1, q_bs, q_bs]
  exact ⟨m, tp2, cS2, K2, T2, P2, B2, h2, H2, X2, Y2, rfl, rfl, fun _ => e5, fun _ => ⟨e4, e6, e2⟩⟩
end ZLST
