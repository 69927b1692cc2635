/-! ===== the cells of a new object ===== -/
def k0 : Nat → Int := fun _ => 0
def k1 : Nat → Int := fun _ => 1
def sC0 (t : Int) (g : Nat → Int) : zT := [([0, 0], [k0, k0, k0, k1, k0]), ([0, 0, 0, 0], [k0, k0, k0, k0, k0, k0, k0, k0, k0, k0]), ([0], [k0, k0, k0, k0, k0, k0, k0]), ([], [k0]), ([0], [k0]), ([0], [k0]), ([0], [k0]), ([0], [k0]), ([0], [k0]), ([], [k0, k1]), ([], [k0, k0, k0, k1, k0, k0, k0]), ([0, 0, 0, 0], [k0, k0]), ([0], [k0]), ([t], [g])]
def sM0 (L W : Nat → Int) : zT := [([], [L, W]), ([0], [k0, k0, k0, k1, k0, k0, k0, k0, k0]), ([0], [k0, k0, k0, k0, k0]), ([], [k0]), ([], [k0, k1]), ([], [k0, k0, k0, k1, k0, k0]), ([0], [k0])]
theorem k0_qv (k : Nat) : qv k0 k = 0 := by
  induction k with
  | zero => rfl
  | succ k ih => simp [qv, ih, k0]
theorem k0_qN (K : Nat) : qN K k0 0 0 := ⟨fun j _ => by simp [k0], k0_qv K, by omega, by omega, fun j _ _ => rfl, fun j h => by omega⟩
theorem k0_qQ : qQ k0 k0 k0 := fun r _ _ => by
  show qN 70 (qr k0 r) (k0 r) (k0 r)
  exact k0_qN 70
theorem rel0 : ∃ t g L W, f_X6_become 1 0 k0 = some (t, g) ∧ f_X10_sets 1 1 k0 k0 = some (L, W) ∧ qRel (sC0 t g) (sM0 L W) := by
  obtain ⟨t, g, a1, a2⟩ := q_become 1 0 k0 (by omega) (by omega)
  obtain ⟨L, W, b1, b2⟩ := qQ_sets (p := 1) (by omega) (v := 1) (by omega) (by omega) k0_qQ
  refine ⟨t, g, L, W, a1, b1, 0, 0, 0, 0, 0, 0, 0, 0, 0, 0, 0, 0, 0, 0, 0, 0, 0, t, k0, k0, k0, k1, k0, k0, k0, k0, k0, k0, k0, k0, k0, k0, k0, k0, k0, k0, k0, k0, k0, k0, k0, k0, k0, k0, k0, k0, k0, k1, k0, k0, k0, k1, k0, k0, k0, k0, k0, k0, g, L, W, k0, k0, k0, k0, k0, k0, k0, rfl, rfl, ?_, ?_, ?_, ?_, ?_, ?_, ?_, ?_⟩
  · refine ⟨0, rfl, by omega, fun j => by simp [k0], fun j => by simp [k0], fun j => by simp [k0], fun j => by simp [k1], ⟨fun h => absurd rfl h, fun h => absurd rfl h⟩, fun h => absurd rfl h⟩
  · exact ⟨by omega, by omega, fun j => by simp [k0], fun j _ => rfl, fun a b h => by omega⟩
  · exact fun j => by simp [k0]
  · exact fun j => by simp [k0, k1]
  · exact fun j => by simp [k0]
  · exact fun j => by simp [k0, k1]
  · exact ⟨by omega, by omega, fun j => by simp [k0], fun v _ => rfl⟩
  · refine ⟨zu k0 1 1, b2, ?_, ?_⟩
    · exact k0_qN 40
    · exact a2
