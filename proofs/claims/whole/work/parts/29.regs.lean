/-! ===== the reference's registers ===== -/
def qr (L : Nat → Int) (p : Nat) : Nat → Int := fun j => L (70 * p + j)
def qR (L W : Nat → Int) (p : Nat) (P : Int) : Prop := qN 70 (qr L p) (W p) P
/-- nothing but register p has changed -/
def qK (p : Nat) (L W L2 W2 : Nat → Int) : Prop := ∀ r : Nat, r < 9 → r ≠ p → (∀ j : Nat, j < 70 → L2 (70 * r + j) = L (70 * r + j)) ∧ W2 r = W r
theorem qK_trans {p : Nat} {L W L2 W2 L3 W3 : Nat → Int} (h1 : qK p L W L2 W2) (h2 : qK p L2 W2 L3 W3) : qK p L W L3 W3 := fun r hr hp => by
  obtain ⟨a1, a2⟩ := h1 r hr hp
  obtain ⟨b1, b2⟩ := h2 r hr hp
  exact ⟨fun j hj => by rw [b1 j hj, a1 j hj], by rw [b2, a2]⟩
theorem qK_R {p r : Nat} {L W L2 W2 : Nat → Int} {P : Int} (h : qK p L W L2 W2) (hr : r < 9) (hp : r ≠ p) (h1 : qR L W r P) : qR L2 W2 r P := by
  obtain ⟨a1, a2⟩ := h r hr hp
  unfold qR
  rw [a2]
  exact qN_congr h1 a1
/-- only places of row p have changed -/
def qO (p : Nat) (L L2 : Nat → Int) : Prop := ∀ i : Nat, ¬ (70 * p ≤ i ∧ i < 70 * p + 70) → L2 i = L i
theorem qO_refl (p : Nat) (L : Nat → Int) : qO p L L := fun _ _ => rfl
theorem qO_trans {p : Nat} {L L2 L3 : Nat → Int} (h1 : qO p L L2) (h2 : qO p L2 L3) : qO p L L3 := fun i hi => by rw [h2 i hi, h1 i hi]
theorem qO_zu {p j : Nat} (hj : j < 70) (L : Nat → Int) (v : Int) : qO p L (zu L (70 * p + j) v) := fun i hi => by rw [q_zu, if_neg (by omega)]
theorem qO_r {p r : Nat} {L L2 : Nat → Int} (h : qO p L L2) (hr : r ≠ p) (j : Nat) (hj : j < 70) : L2 (70 * r + j) = L (70 * r + j) := h _ (by omega)
theorem qO_K {p : Nat} {L L2 W W2 : Nat → Int} (h : qO p L L2) (hw : ∀ r, r ≠ p → W2 r = W r) : qK p L W L2 W2 := fun r _ hp => ⟨fun j hj => qO_r h hp j hj, hw r hp⟩
theorem qr_zu (L : Nat → Int) (p k : Nat) (v : Int) (j : Nat) : qr (zu L (70 * p + k) v) p j = zu (qr L p) k v j := by
  show zu L (70 * p + k) v (70 * p + j) = _
  rw [q_zu, q_zu]
  by_cases h : j = k
  · rw [if_pos h, if_pos (by omega)]
  · rw [if_neg h, if_neg (by omega)]
    rfl
theorem l_trims {p : Nat} (hp : p < 9) (L : Nat → Int) : ∀ (n k : Nat) (W : Nat → Int), k < n → k ≤ 70 → W p = k → (∀ j : Nat, k ≤ j → j < 70 → qr L p j = 0) → ∃ W2, l_X10_trims_0 n p L W = some W2 ∧ qS 70 (qr L p) (W2 p) ∧ ∀ r, r ≠ p → W2 r = W r := by
  intro n
  induction n with
  | zero => intro k W h; omega
  | succ n ih =>
    intro k W hn hk hW hz
    rw [l_X10_trims_0, Int.toNat_natCast, hW, if_pos (by omega)]
    cases k with
    | zero =>
      rw [if_neg (by omega)]
      exact ⟨W, rfl, by rw [hW]; exact ⟨by omega, by omega, fun j h1 h2 => hz j (by omega) h2, fun j h => by omega⟩, fun _ _ => rfl⟩
    | succ k =>
      rw [if_pos (by omega), if_pos (by omega), show Int.toNat (70 * (p : Int) + ((k + 1 : Nat) : Int) - 1) = 70 * p + k by omega]
      by_cases h : L (70 * p + k) = 0
      · rw [if_pos h, if_pos (by omega)]
        obtain ⟨W2, w1, w2, w3⟩ := ih k (zu W p (((k + 1 : Nat) : Int) - 1)) (by omega) (by omega) (by rw [q_zu, if_pos rfl]; omega) (fun j h1 h2 => by
          by_cases hj : j = k
          · rw [hj]; exact h
          · exact hz j (by omega) h2)
        exact ⟨W2, w1, w2, fun r hr => by rw [w3 r hr, q_zu, if_neg hr]⟩
      · rw [if_neg h]
        refine ⟨W, rfl, ?_, fun _ _ => rfl⟩
        rw [hW]
        exact ⟨by omega, by omega, fun j h1 h2 => hz j (by omega) h2, fun j hj => by rw [show j = k by omega]; exact h⟩
theorem q_trims {p : Nat} (hp : p < 9) {L W : Nat → Int} {k : Nat} (hk : k ≤ 70) (hW : W p = k) (hd : qD 70 (qr L p)) (hz : ∀ j : Nat, k ≤ j → j < 70 → qr L p j = 0) : ∃ W2, f_X10_trims p L W = some W2 ∧ qR L W2 p (qv (qr L p) 70) ∧ ∀ r, r ≠ p → W2 r = W r := by
  obtain ⟨W2, w1, w2, w3⟩ := l_trims hp L zN k W (by have := zN_big; omega) hk hW hz
  unfold f_X10_trims
  rw [w1, q_bs]
  exact ⟨W2, rfl, ⟨hd, rfl, w2⟩, w3⟩
def qsd (v : Int) (j : Nat) : Int := if j < 3 then v / 2 ^ (30 * j) % 1073741824 else 0
theorem q_sh {v : Int} (hv : 0 ≤ v) (hv2 : v < 9223372036854775808) {j : Nat} (hj : j < 3) : zandl (zshrl v (30 * (j : Int))) 1073741823 = qsd v j := by
  have e : zshrl v (30 * (j : Int)) = v / 2 ^ (30 * j) := by
    have h := zshrl_int v (30 * j) (by omega) (by omega)
    rw [show ((30 * j : Nat) : Int) = 30 * (j : Int) by omega] at h
    exact h
  rw [e, zandl_mask]
  unfold qsd
  rw [if_pos hj]
theorem l_sets {p : Nat} (hp : p < 9) {v : Int} (hv : 0 ≤ v) (hv2 : v < 9223372036854775808) : ∀ (n k : Nat) (L : Nat → Int), 70 - k < n → k ≤ 70 → (∀ j : Nat, j < k → qr L p j = qsd v j) → ∃ L2, l_X10_sets_3 n p v k L = some L2 ∧ (∀ j : Nat, j < 70 → qr L2 p j = qsd v j) ∧ qO p L L2 := by
  intro n
  induction n with
  | zero => intro k L h; omega
  | succ n ih =>
    intro k L hn hk hd
    rw [l_X10_sets_3]
    by_cases h : k = 70
    · subst h
      rw [if_neg (by omega)]
      exact ⟨L, rfl, hd, qO_refl p L⟩
    · have e : Int.toNat (70 * (p : Int) + (k : Int)) = 70 * p + k := by omega
      have step : ∀ x, x = qsd v k → ∃ L2, l_X10_sets_3 n p v (k + 1 : Nat) (zu L (70 * p + k) x) = some L2 ∧ (∀ j : Nat, j < 70 → qr L2 p j = qsd v j) ∧ qO p L L2 := by
        intro x hx
        obtain ⟨L2, l1, l2, l3⟩ := ih (k + 1) (zu L (70 * p + k) x) (by omega) (by omega) (fun j hj => by
          rw [qr_zu, q_zu]
          by_cases hjk : j = k
          · rw [if_pos hjk, hjk, hx]
          · rw [if_neg hjk]; exact hd j (by omega))
        exact ⟨L2, l1, l2, qO_trans (qO_zu (by omega) L x) l3⟩
      rw [if_pos (by omega), e]
      by_cases h3 : k < 3
      · have h4 := q_sh hv hv2 h3
        have h5 : 0 ≤ qsd v k ∧ qsd v k < 1073741824 := by
          unfold qsd
          rw [if_pos h3]
          omega
        rw [if_pos (by omega), h4, if_pos (by omega)]
        exact step _ rfl
      · rw [if_neg (by omega), if_pos (by omega)]
        exact step _ (by unfold qsd; rw [if_neg h3])
theorem qsd_v {v : Int} (hv : 0 ≤ v) (hv2 : v < 9223372036854775808) : qD 70 (qsd v) ∧ qv (qsd v) 70 = v := by
  constructor
  · intro j hj
    unfold qsd
    split <;> omega
  · rw [qv_top (f := qsd v) (s := 3) 70 (by omega) (fun j h1 h2 => by unfold qsd; rw [if_neg (by omega)])]
    show 0 + v / 2 ^ (30 * 0) % 1073741824 * 1 + v / 2 ^ (30 * 1) % 1073741824 * (1 * 1073741824) + v / 2 ^ (30 * 2) % 1073741824 * (1 * 1073741824 * 1073741824) = v
    have e0 : (2 : Int) ^ (30 * 0) = 1 := rfl
    have e1 : (2 : Int) ^ (30 * 1) = 1073741824 := rfl
    have e2 : (2 : Int) ^ (30 * 2) = 1152921504606846976 := rfl
    rw [e0, e1, e2]
    omega
theorem q_sets {p : Nat} (hp : p < 9) {v : Int} (hv : 0 ≤ v) (hv2 : v < 9223372036854775808) (L W : Nat → Int) : ∃ L2 W2, f_X10_sets p v L W = some (L2, W2) ∧ qR L2 W2 p v ∧ qK p L W L2 W2 := by
  obtain ⟨L2, l1, l2, l3⟩ := l_sets hp hv hv2 zN 0 L (by have := zN_big; omega) (by omega) (fun j h => by omega)
  have l1 : l_X10_sets_3 zN p v 0 L = some L2 := l1
  obtain ⟨d1, d2⟩ := qsd_v hv hv2
  obtain ⟨W2, w1, w2, w3⟩ := q_trims hp (L := L2) (W := zu W p 3) (k := 3) (by omega) (by rw [q_zu, if_pos rfl]; rfl) (fun j hj => by rw [l2 j hj]; exact d1 j hj) (fun j h1 h2 => by rw [l2 j h2]; unfold qsd; rw [if_neg (by omega)])
  unfold f_X10_sets
  rw [l1, q_bs, if_pos (by omega), Int.toNat_natCast, w1, q_bs]
  rw [qv_congr 70 l2, d2] at w2
  exact ⟨L2, W2, rfl, w2, qO_K l3 (fun r hr => by rw [w3 r hr, q_zu, if_neg hr])⟩
theorem qv_even (f : Nat → Int) (k : Nat) : qv f (k + 1) % 2 = f 0 % 2 := by
  induction k with
  | zero => show (0 + f 0 * 1) % 2 = _; omega
  | succ k ih =>
    show (qv f (k + 1) + f (k + 1) * (qP k * 1073741824)) % 2 = _
    rw [← Int.mul_assoc]
    omega
theorem q_isEven {p : Nat} (hp : p < 9) {L W : Nat → Int} {P : Int} (h : qR L W p P) : f_X10_isEven p L = some (if P % 2 = 0 then 1 else 0) := by
  unfold f_X10_isEven
  rw [if_pos (by omega), zand_1, show Int.toNat (70 * (p : Int)) = 70 * p + 0 by omega]
  have e : P % 2 = L (70 * p + 0) % 2 := by rw [← h.2.1]; exact qv_even (qr L p) 69
  rw [e]
  split <;> rfl
theorem l_takes {p q : Nat} (hp : p < 9) (hq : q < 9) (hpq : p ≠ q) : ∀ (n k : Nat) (L : Nat → Int), 70 - k < n → k ≤ 70 → (∀ j : Nat, j < k → qr L p j = qr L q j) → ∃ L2, l_X10_takes_2 n p q k L = some L2 ∧ (∀ j : Nat, j < 70 → qr L2 p j = qr L q j) ∧ qO p L L2 := by
  intro n
  induction n with
  | zero => intro k L h; omega
  | succ n ih =>
    intro k L hn hk hd
    rw [l_X10_takes_2]
    by_cases h : k = 70
    · subst h
      rw [if_neg (by omega)]
      exact ⟨L, rfl, hd, qO_refl p L⟩
    · rw [if_pos (by omega), if_pos (by omega), if_pos (by omega), show Int.toNat (70 * (p : Int) + (k : Int)) = 70 * p + k by omega, show Int.toNat (70 * (q : Int) + (k : Int)) = 70 * q + k by omega]
      have hO := qO_zu (p := p) (j := k) (by omega) L (L (70 * q + k))
      have hq2 : ∀ j : Nat, j < 70 → qr (zu L (70 * p + k) (L (70 * q + k))) q j = qr L q j := fun j hj => qO_r hO (fun h => hpq h.symm) j hj
      obtain ⟨L2, l1, l2, l3⟩ := ih (k + 1) (zu L (70 * p + k) (L (70 * q + k))) (by omega) (by omega) (fun j hj => by
        rw [hq2 j (by omega), qr_zu, q_zu]
        by_cases hjk : j = k
        · rw [if_pos hjk, hjk]; rfl
        · rw [if_neg hjk]; exact hd j (by omega))
      exact ⟨L2, l1, fun j hj => by rw [l2 j hj, hq2 j hj], qO_trans hO l3⟩
theorem q_takes {p q : Nat} (hp : p < 9) (hq : q < 9) (hpq : p ≠ q) {L W : Nat → Int} {Q : Int} (h : qR L W q Q) : ∃ L2 W2, f_X10_takes p q L W = some (L2, W2) ∧ qR L2 W2 p Q ∧ qK p L W L2 W2 := by
  obtain ⟨L2, l1, l2, l3⟩ := l_takes hp hq hpq zN 0 L (by have := zN_big; omega) (by omega) (fun j h => by omega)
  have l1 : l_X10_takes_2 zN p q 0 L = some L2 := l1
  unfold f_X10_takes
  rw [l1, q_bs, if_pos (by omega), Int.toNat_natCast, Int.toNat_natCast]
  refine ⟨L2, _, rfl, ?_, qO_K l3 (fun r hr => by rw [q_zu, if_neg hr])⟩
  unfold qR
  rw [q_zu, if_pos rfl]
  exact qN_congr h l2
