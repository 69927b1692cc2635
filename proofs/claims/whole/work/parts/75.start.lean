/-! ===== the cells of two new objects, cut to their lengths ===== -/
def zcut (n : Nat) (f : Nat → Int) : Nat → Int := fun x => if x < n then f x else 0
theorem zcut_lt {n x : Nat} {f : Nat → Int} (h : x < n) : zcut n f x = f x := if_pos h
theorem zcut_zI {n : Nat} {f : Nat → Int} (h : ∀ x, x < n → zI (f x)) (x : Nat) : zI (zcut n f x) := by
  unfold zcut
  split
  next hx => exact h x hx
  next => exact zI0
theorem k0_zI (x : Nat) : zI (k0 x) := zI0
theorem k1_zI (x : Nat) : zI (k1 x) := ⟨by show (-2147483648 : Int) ≤ 1; omega, by show (1 : Int) ≤ 2147483647; omega⟩
theorem zall_nil {α : Type} {P : α → Prop} : ∀ x ∈ ([] : List α), P x := fun x h => absurd h List.not_mem_nil
theorem zall_cons {α : Type} {P : α → Prop} {a : α} {l : List α} (h : P a) (k : ∀ x ∈ l, P x) : ∀ x ∈ a :: l, P x := List.forall_mem_cons.mpr ⟨h, k⟩
theorem sC0_ok {t : Int} {g : Nat → Int} (ht : zI t) (hg : ∀ x, zI (g x)) : zok shpC (sC0 t g) := by
  refine zok_of rfl ?_
  unfold sC0
  repeat' first
    | exact zall_nil
    | exact zI0
    | exact k0_zI
    | exact k1_zI
    | exact ht
    | exact hg
    | refine zall_cons ?_ ?_
    | refine ⟨?_, ?_⟩
theorem sM0_ok2 {L W : Nat → Int} (hL : ∀ x, zI (L x)) (hW : ∀ x, zI (W x)) : zok shpM (sM0 L W) := by
  refine zok_of rfl ?_
  unfold sM0
  repeat' first
    | exact zall_nil
    | exact zI0
    | exact k0_zI
    | exact k1_zI
    | exact hL
    | exact hW
    | refine zall_cons ?_ ?_
    | refine ⟨?_, ?_⟩
theorem rel1 : ∃ t g L W, f_X6_become 1 0 k0 = some (t, g) ∧ f_X10_sets 1 1 k0 k0 = some (L, W) ∧ zok shpC (sC0 t (zcut 40 g)) ∧ zok shpM (sM0 (zcut 630 L) (zcut 9 W)) ∧ qRel (sC0 t (zcut 40 g)) (sM0 (zcut 630 L) (zcut 9 W)) := by
  obtain ⟨t, g, a1, a2⟩ := q_become 1 0 k0 (by omega) (by omega)
  obtain ⟨L, W, b1, b2, b3⟩ := q_sets (p := 1) (by omega) (v := 1) (by omega) (by omega) k0 k0
  have hL : ∀ x, x < 630 → zI (L x) := fun x hx => by
    have e : x = 70 * (x / 70) + x % 70 := by omega
    by_cases h1 : x / 70 = 1
    · have := b2.1 (x % 70) (by omega)
      have e2 : qr L 1 (x % 70) = L x := by
        show L (70 * 1 + x % 70) = L x
        congr 1
        omega
      have e3 : qr L ((1 : Nat) : Nat) (x % 70) = L x := e2
      rw [e3] at this
      exact ⟨by omega, by omega⟩
    · have := (b3 (x / 70) (by omega) h1).1 (x % 70) (by omega)
      rw [← e] at this
      rw [this]
      exact zI0
  have hW : ∀ x, x < 9 → zI (W x) := fun x hx => by
    by_cases h1 : x = 1
    · subst h1
      have := b2.2.2
      obtain ⟨c1, c2, -⟩ := this
      exact ⟨by omega, by omega⟩
    · have := (b3 x hx h1).2
      rw [this]
      exact zI0
  have ht : zI t := by
    obtain ⟨c1, c2, -⟩ := a2.2.2
    exact ⟨by omega, by omega⟩
  refine ⟨t, g, L, W, a1, b1, sC0_ok ht (zcut_zI fun x hx => ?_), sM0_ok2 (zcut_zI hL) (zcut_zI hW), ?_⟩
  · have := a2.1 x hx
    exact ⟨by omega, by omega⟩
  have hQ : qQ (zcut 630 L) (zcut 9 W) (zu k0 1 1) := fun r hr _ => by
    have e : qR L W r (zu k0 1 1 r) := by
      by_cases h1 : r = 1
      · subst h1
        exact b2
      · rw [show zu k0 1 1 r = 0 by unfold zu; rw [if_neg h1]; rfl]
        exact qK_R b3 hr h1 (k0_qN 70)
    unfold qR at e ⊢
    rw [zcut_lt hr]
    refine qN_congr e (fun j hj => ?_)
    show zcut 630 L (70 * r + j) = L (70 * r + j)
    exact zcut_lt (by omega)
  unfold sC0 sM0
  refine qRel_in ?_ ?_ ?_ ?_ ?_ ?_ ?_ ?_
  · refine ⟨0, rfl, by omega, fun j => by simp [k0], fun j => by simp [k0], fun j => by simp [k0], fun j => by simp [k1], ⟨fun h => absurd rfl h, fun h => absurd rfl h⟩, fun h => absurd rfl h⟩
  · exact ⟨by omega, by omega, fun j => by simp [k0], fun j _ => rfl, fun a b h => by omega⟩
  · exact fun j => by simp [k0]
  · exact fun j => by simp [k0, k1]
  · exact fun j => by simp [k0]
  · exact fun j => by simp [k0, k1]
  · exact ⟨by omega, by omega, fun j => by simp [k0], fun v _ => rfl⟩
  · refine ⟨zu k0 1 1, hQ, ?_, ?_⟩
    · exact k0_qN 40
    · exact qN_congr a2 (fun j hj => zcut_lt hj)
