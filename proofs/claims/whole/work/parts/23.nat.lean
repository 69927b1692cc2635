/-! ===== numbers as rows of digits ===== -/
def qP : Nat → Int
  | 0 => 1
  | k + 1 => qP k * 1073741824
def qv (f : Nat → Int) : Nat → Int
  | 0 => 0
  | k + 1 => qv f k + f k * qP k
def qD (K : Nat) (f : Nat → Int) : Prop := ∀ j : Nat, j < K → 0 ≤ f j ∧ f j < 1073741824
def qS (K : Nat) (f : Nat → Int) (s : Int) : Prop := 0 ≤ s ∧ s ≤ K ∧ (∀ j : Nat, s ≤ j → j < K → f j = 0) ∧ ∀ j : Nat, (j : Int) + 1 = s → f j ≠ 0
def qN (K : Nat) (f : Nat → Int) (s P : Int) : Prop := qD K f ∧ qv f K = P ∧ qS K f s
theorem qP_pos (k : Nat) : 0 < qP k := by
  induction k with
  | zero => decide
  | succ k ih => simp only [qP]; omega
theorem qP_add (a b : Nat) : qP (a + b) = qP a * qP b := by
  induction b with
  | zero => simp [qP]
  | succ b ih =>
    show qP (a + b) * 1073741824 = qP a * (qP b * 1073741824)
    rw [ih, Int.mul_assoc]
theorem qP_le {a b : Nat} (h : a ≤ b) : qP a ≤ qP b := by
  obtain ⟨c, rfl⟩ := Nat.exists_eq_add_of_le h
  induction c with
  | zero => exact Int.le_refl _
  | succ c ih =>
    have := qP_pos (a + c)
    have h2 := ih (by omega)
    show qP a ≤ qP (a + c) * 1073741824
    omega
theorem qv_nonneg {f : Nat → Int} : ∀ k : Nat, (∀ j : Nat, j < k → 0 ≤ f j) → 0 ≤ qv f k
  | 0, _ => by simp [qv]
  | k + 1, h => by
    have h1 := qv_nonneg k (fun j hj => h j (by omega))
    have h2 := Int.mul_nonneg (h k (by omega)) (Int.le_of_lt (qP_pos k))
    simp only [qv]
    omega
theorem qv_lt {f : Nat → Int} : ∀ k : Nat, qD k f → qv f k < qP k
  | 0, _ => by show (0 : Int) < 1; omega
  | k + 1, h => by
    have h1 := qv_lt k (fun j hj => h j (by omega))
    have h2 := h k (by omega)
    have h3 : (f k + 1) * qP k ≤ 1073741824 * qP k := Int.mul_le_mul_of_nonneg_right (by omega) (Int.le_of_lt (qP_pos k))
    rw [Int.add_mul, Int.one_mul] at h3
    simp only [qv, qP]
    rw [Int.mul_comm (qP k)]
    omega
theorem qv_congr {f g : Nat → Int} : ∀ k : Nat, (∀ j : Nat, j < k → f j = g j) → qv f k = qv g k
  | 0, _ => rfl
  | k + 1, h => by
    simp only [qv]
    rw [qv_congr k (fun j hj => h j (by omega)), h k (by omega)]
theorem qv_zu (f : Nat → Int) (p : Nat) (v : Int) : ∀ k : Nat, qv (zu f p v) k = if p < k then qv f k + (v - f p) * qP p else qv f k
  | 0 => by simp [qv]
  | k + 1 => by
    simp only [qv]
    rw [qv_zu f p v k, q_zu]
    by_cases h : p < k
    · rw [if_pos h, if_neg (by omega), if_pos (by omega)]
      omega
    · rw [if_neg h]
      by_cases h2 : k = p
      · subst h2
        rw [if_pos rfl, if_pos (by omega), Int.sub_mul]
        omega
      · rw [if_neg h2, if_neg (by omega)]
theorem qv_top {f : Nat → Int} {s : Nat} : ∀ k : Nat, s ≤ k → (∀ j : Nat, s ≤ j → j < k → f j = 0) → qv f k = qv f s
  | 0, h, _ => by rw [show s = 0 by omega]
  | k + 1, h, hz => by
    by_cases he : s = k + 1
    · rw [he]
    · simp only [qv]
      rw [hz k (by omega) (by omega), qv_top k (by omega) (fun j h1 h2 => hz j h1 (by omega))]
      omega
theorem q_dig {a b r s P : Int} (hr : 0 ≤ r) (hr2 : r < P) (hs : 0 ≤ s) (hs2 : s < P) (h : r + a * P = s + b * P) : a = b := by
  rcases Int.lt_trichotomy a b with h1 | h1 | h1
  · have h2 : (a + 1) * P ≤ b * P := Int.mul_le_mul_of_nonneg_right (by omega) (by omega)
    rw [Int.add_mul] at h2
    omega
  · exact h1
  · have h2 : (b + 1) * P ≤ a * P := Int.mul_le_mul_of_nonneg_right (by omega) (by omega)
    rw [Int.add_mul] at h2
    omega
theorem qv_inj {f g : Nat → Int} : ∀ k : Nat, qD k f → qD k g → qv f k = qv g k → ∀ j : Nat, j < k → f j = g j
  | 0, _, _, _ => fun j hj => by omega
  | k + 1, hf, hg, h => by
    simp only [qv] at h
    have f1 := qv_nonneg (f := f) k (fun j hj => (hf j (by omega)).1)
    have g1 := qv_nonneg (f := g) k (fun j hj => (hg j (by omega)).1)
    have f2 := qv_lt (f := f) k (fun j hj => hf j (by omega))
    have g2 := qv_lt (f := g) k (fun j hj => hg j (by omega))
    have e : f k = g k := q_dig f1 f2 g1 g2 h
    rw [e] at h
    have h2 := qv_inj k (fun j hj => hf j (by omega)) (fun j hj => hg j (by omega)) (by omega)
    intro j hj
    by_cases hk : j = k
    · rw [hk]; exact e
    · exact h2 j (by omega)
theorem qS_uniq {K : Nat} {f : Nat → Int} {s t : Int} (h1 : qS K f s) (h2 : qS K f t) : s = t := by
  obtain ⟨a1, a2, a3, a4⟩ := h1
  obtain ⟨b1, b2, b3, b4⟩ := h2
  rcases Int.lt_trichotomy s t with h | h | h
  · exact absurd (a3 (t - 1).toNat (by omega) (by omega)) (b4 (t - 1).toNat (by omega))
  · exact h
  · exact absurd (b3 (s - 1).toNat (by omega) (by omega)) (a4 (s - 1).toNat (by omega))
/-- a row of the class and one of the reference that say one number are alike -/
theorem qN_eq {f g : Nat → Int} {s t P : Int} (h1 : qN 40 f s P) (h2 : qN 70 g t P) : s = t ∧ ∀ j : Nat, j < 40 → f j = g j := by
  obtain ⟨d1, v1, s1⟩ := h1
  obtain ⟨d2, v2, s2⟩ := h2
  have hF : ∀ j : Nat, j < 70 → (fun j => if j < 40 then f j else 0) j = g j := by
    refine qv_inj 70 (fun j hj => ?_) d2 ?_
    · by_cases h : j < 40
      · simp only [h, if_true]; exact d1 j h
      · simp only [h, if_false]; omega
    · rw [v2, ← v1]
      have e1 := qv_top (f := fun j => if j < 40 then f j else 0) (s := 40) 70 (by omega) (fun j h1 h2 => if_neg (by omega))
      rw [e1]
      exact qv_congr 40 (fun j hj => if_pos hj)
  have hF2 : ∀ j : Nat, j < 40 → f j = g j := fun j hj => by
    have := hF j (by omega)
    simp only [hj, if_true] at this
    exact this
  refine ⟨?_, hF2⟩
  obtain ⟨a1, a2, a3, a4⟩ := s1
  refine qS_uniq (K := 70) (f := g) ⟨a1, by omega, fun j h1 h2 => ?_, fun j h => ?_⟩ s2
  · by_cases h : j < 40
    · rw [← hF2 j h]; exact a3 j h1 h
    · have := hF j h2
      simp only [h, if_false] at this
      exact this.symm
  · rw [← hF2 j (by omega)]
    exact a4 j h
theorem l_trim (d : Nat → Int) : ∀ (n : Nat) (v s : Int), 0 ≤ s → s ≤ v → v ≤ 40 → 40 - v < n → (∀ j : Nat, s ≤ j → (j : Int) < v → d j = 0) → (∀ j : Nat, (j : Int) + 1 = s → d j ≠ 0) → ∃ s2, l_X6_trim_7 n v s d = some s2 ∧ qS 40 d s2 := by
  intro n
  induction n with
  | zero => intro v s h1 h2 h3 h4; omega
  | succ n ih =>
    intro v s h1 h2 h3 h4 h5 h6
    rw [l_X6_trim_7]
    by_cases h : v < 40
    · by_cases hz : d v.toNat = 0
      · simp (disch := omega) only [if_pos, hz]
        refine ih (v + 1) s h1 (by omega) (by omega) (by omega) (fun j g1 g2 => ?_) h6
        by_cases g3 : (j : Int) < v
        · exact h5 j g1 g3
        · rw [show j = v.toNat by omega]; exact hz
      · rw [if_pos h, if_pos (by unfold zin; omega), if_neg hz]
        simp (disch := omega) only [if_pos]
        refine ih (v + 1) (v + 1) (by omega) (by omega) (by omega) (by omega) (fun j g1 g2 => by omega) (fun j g => ?_)
        rw [show j = v.toNat by omega]; exact hz
    · rw [if_neg h]
      exact ⟨s, rfl, h1, by omega, fun j g1 g2 => h5 j g1 (by omega), h6⟩
theorem q_trim (s : Int) (d : Nat → Int) : ∃ s2, f_X6_trim s d = some s2 ∧ qS 40 d s2 := by
  obtain ⟨s2, e, h⟩ := l_trim d zN 0 0 (by omega) (by omega) (by omega) (by have := zN_big; omega) (fun j h1 h2 => by omega) (fun j h => by omega)
  unfold f_X6_trim
  rw [e]
  exact ⟨s2, rfl, h⟩
theorem q_split (v P : Int) : (v / 1073741824) * (P * 1073741824) + (v % 1073741824) * P = v * P := by
  have h : v = (v / 1073741824) * 1073741824 + v % 1073741824 := by omega
  have h2 : v * P = ((v / 1073741824) * 1073741824 + v % 1073741824) * P := by rw [← h]
  rw [h2, Int.add_mul, Int.mul_assoc, Int.mul_comm 1073741824 P]
theorem q_split2 (v P : Int) : (v / 1073741824) * (P * 1073741824) = v * P - (v % 1073741824) * P := by
  have := q_split v P
  omega
theorem l_become : ∀ (n k : Nat) (v : Int) (d : Nat → Int), k ≤ 40 → 40 - k < n → 0 ≤ v → v < 9223372036854775808 → v < qP (40 - k) → qD k d → ∃ d2, l_X6_become_5 n v k d = some d2 ∧ qD 40 d2 ∧ qv d2 40 = qv d k + v * qP k := by
  intro n
  induction n with
  | zero => intro k v d h1 h2; omega
  | succ n ih =>
    intro k v d hk hn hv hv2 hv3 hd
    rw [l_X6_become_5]
    by_cases h : k = 40
    · subst h
      rw [if_neg (by omega)]
      have : qP (40 - 40) = 1 := rfl
      exact ⟨d, rfl, hd, by rw [show v = 0 by omega]; omega⟩
    · have hlt : v / 1073741824 < qP (40 - (k + 1)) := by
        have e : qP (40 - k) = qP (40 - (k + 1)) * 1073741824 := by rw [show 40 - k = (40 - (k + 1)) + 1 by omega]; rfl
        rw [e] at hv3
        omega
      have e := q_hi v hv hv2
      rw [q_lo, e]
      simp (disch := omega) only [if_pos]
      have e2 : Int.toNat (k : Int) = k := Int.toNat_natCast k
      rw [e2]
      obtain ⟨d2, h1, h2, h3⟩ := ih (k + 1) (v / 1073741824) (zu d k (v % 1073741824)) (by omega) (by omega) (by omega) (by omega) hlt (fun j hj => by
        rw [q_zu]
        by_cases hjk : j = k
        · rw [if_pos hjk]; omega
        · rw [if_neg hjk]; exact hd j (by omega))
      refine ⟨d2, h1, h2, ?_⟩
      rw [h3]
      show qv (zu d k _) k + zu d k _ k * qP k + _ * (qP k * 1073741824) = _
      rw [qv_zu, if_neg (by omega), q_zu, if_pos rfl]
      have := q_split v (qP k)
      omega
theorem q_become (v s : Int) (d : Nat → Int) (hv : 0 ≤ v) (hv2 : v < 9223372036854775808) : ∃ s2 d2, f_X6_become v s d = some (s2, d2) ∧ qN 40 d2 s2 v := by
  have hb : (9223372036854775808 : Int) ≤ qP 40 := by
    have := qP_le (show 3 ≤ 40 by omega)
    have e : qP 3 = 1237940039285380274899124224 := by decide
    omega
  obtain ⟨d2, e, h1, h2⟩ := l_become zN 0 v d (by omega) (by have := zN_big; omega) hv hv2 (by show v < qP 40; omega) (fun j hj => by omega)
  unfold f_X6_become
  have e0 : l_X6_become_5 zN v 0 d = some d2 := e
  obtain ⟨s2, e2, h3⟩ := q_trim s d2
  rw [e0, q_bs, e2, q_bs]
  refine ⟨s2, d2, rfl, h1, ?_, h3⟩
  rw [h2]
  show 0 + v * 1 = v
  omega
theorem l_take (d1 : Nat → Int) : ∀ (n k : Nat) (d : Nat → Int), k ≤ 40 → 40 - k < n → (∀ j : Nat, j < k → d j = d1 j) → ∃ d2, l_X6_take_2 n k d d1 = some d2 ∧ ∀ j : Nat, j < 40 → d2 j = d1 j := by
  intro n
  induction n with
  | zero => intro k d h1 h2; omega
  | succ n ih =>
    intro k d hk hn hd
    rw [l_X6_take_2]
    by_cases h : k = 40
    · subst h
      rw [if_neg (by omega)]
      exact ⟨d, rfl, hd⟩
    · simp (disch := omega) only [if_pos]
      have e2 : Int.toNat (k : Int) = k := Int.toNat_natCast k
      rw [e2]
      refine ih (k + 1) _ (by omega) (by omega) (fun j hj => ?_)
      rw [q_zu]
      by_cases hjk : j = k
      · rw [if_pos hjk, hjk]
      · rw [if_neg hjk]; exact hd j (by omega)
theorem qN_congr {K : Nat} {f g : Nat → Int} {s P : Int} (h : qN K f s P) (he : ∀ j : Nat, j < K → g j = f j) : qN K g s P := by
  obtain ⟨h1, h2, h3, h4, h5, h6⟩ := h
  refine ⟨fun j hj => by rw [he j hj]; exact h1 j hj, by rw [qv_congr K he]; exact h2, h3, h4, fun j g1 g2 => by rw [he j g2]; exact h5 j g1 g2, fun j g => by rw [he j (by omega)]; exact h6 j g⟩
theorem q_take {d1 : Nat → Int} {s1 P : Int} (h : qN 40 d1 s1 P) (s : Int) (d : Nat → Int) : ∃ d2, f_X6_take s d s1 d1 = some (s1, d2) ∧ qN 40 d2 s1 P := by
  obtain ⟨d2, e, h2⟩ := l_take d1 zN 0 d (by omega) (by have := zN_big; omega) (fun j hj => by omega)
  have e0 : l_X6_take_2 zN 0 d d1 = some d2 := e
  unfold f_X6_take
  rw [e0]
  exact ⟨d2, rfl, qN_congr h h2⟩
