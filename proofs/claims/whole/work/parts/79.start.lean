set_option maxHeartbeats 4000000 in
set_option maxRecDepth 100000 in
/-- YOUR PART: from the entry, for every script of at most 2560 ints, the law comes to its end with true ('hflags': the launch's flags, for a law that throws: no stack traces) -/
theorem whole_start {p : Program} {e : Env} {s : State} {m : MethodId} {below : List Frame} {meth : Method} {c : Code} (l : Launch) (hflags : l.flags = flags0) {b L : Nat} {xs : Nat → Int32} (hL : L ≤ 2560) (C0 : lw_At p s m meth c b L xs) : W p l e room_1 s m #[Value.ref b] below meth c s.heap [] 0 0 (lw_Z below #[Value.ref b] s) (entryFrame m ([Value.ref b] : List Value).toArray 4) := by
  obtain ⟨hx, hb, hr, hml, hown, hts, hX, hbl, hlocks, hgv⟩ := id C0
  have hA : ∀ q : Nat, s.heap.size ≤ q → (fun q : Nat => s.heap.size ≤ q) q := fun _ h => h
  obtain ⟨cX0, iX0, hKX0⟩ := u_known (C := RX0) (T := TX0) (N := 2) (n := 2) hts (fun w hw => uU_tbl w (u_lay_X0 w hw)) (hts _ (uU_tbl _ u_2_4))
  obtain ⟨cX1, iX1, hKX1⟩ := u_known (C := RX1) (T := TX1) (N := 6) (n := 6) hts (fun w hw => uU_tbl w (u_lay_X1 w hw)) (hts _ (uU_tbl _ u_2_12))
  obtain ⟨cX2, iX2, hKX2⟩ := u_known (C := RX2) (T := TX2) (N := 2) (n := 2) hts (fun w hw => uU_tbl w (u_lay_X2 w hw)) (hts _ (uU_tbl _ u_2_16))
  obtain ⟨cX3, iX3, hKX3⟩ := u_known (C := RX3) (T := TX3) (N := 6) (n := 6) hts (fun w hw => uU_tbl w (u_lay_X3 w hw)) (hts _ (uU_tbl _ u_2_0))
  obtain ⟨cX4, iX4, hKX4⟩ := u_known (C := RX4) (T := TX4) (N := 7) (n := 7) hts (fun w hw => uU_tbl w (u_lay_X4 w hw)) (hts _ (uU_tbl _ u_3_0))
  obtain ⟨cX5, iX5, hKX5⟩ := u_known (C := RX5) (T := TX5) (N := 8) (n := 8) hts (fun w hw => uU_tbl w (u_lay_X5 w hw)) (hts _ (uU_tbl _ u_1_20))
  obtain ⟨cX6, iX6, hKX6⟩ := u_known (C := RX6) (T := TX6) (N := 2) (n := 2) hts (fun w hw => uU_tbl w (u_lay_X6 w hw)) (hts _ (uU_tbl _ u_4_16))
  obtain ⟨cX7, iX7, hKX7⟩ := u_known (C := RX7) (T := TX7) (N := 7) (n := 7) hts (fun w hw => uU_tbl w (u_lay_X7 w hw)) (hts _ (uU_tbl _ u_2_8))
  obtain ⟨cX8, iX8, hKX8⟩ := u_known (C := RX8) (T := TX8) (N := 15) (n := 15) hts (fun w hw => uU_tbl w (u_lay_X8 w hw)) (hts _ (uU_tbl _ u_1_14))
  obtain ⟨cX9, iX9, hKX9⟩ := u_known (C := RX9) (T := TX9) (N := 8) (n := 8) hts (fun w hw => uU_tbl w (u_lay_X9 w hw)) (hts _ (uU_tbl _ u_1_1))
  obtain ⟨cX10, iX10, hKX10⟩ := u_known (C := RX10) (T := TX10) (N := 29) (n := 29) hts (fun w hw => uU_tbl w (u_lay_X10 w hw)) (hts _ (uU_tbl _ u_1_4))
  obtain ⟨D, hKc⟩ : ∃ D : va_G, ∀ (k : Nat) (q : vw_C), vwCl[k]? = some q → u_Kn s q.1 q.2.1 q.2.2 (D.1 k) (D.2 k) := by
    refine ⟨(fun k => zg cX0 [cX0, cX1, cX2, cX3, cX4, cX5, cX6, cX7, cX8, cX9, cX10] k, fun k => zg iX0 [iX0, iX1, iX2, iX3, iX4, iX5, iX6, iX7, iX8, iX9, iX10] k), ?_⟩
    intro k q hq
    match k, hq with
    | 0, hq => cases hq; exact hKX0
    | 1, hq => cases hq; exact hKX1
    | 2, hq => cases hq; exact hKX2
    | 3, hq => cases hq; exact hKX3
    | 4, hq => cases hq; exact hKX4
    | 5, hq => cases hq; exact hKX5
    | 6, hq => cases hq; exact hKX6
    | 7, hq => cases hq; exact hKX7
    | 8, hq => cases hq; exact hKX8
    | 9, hq => cases hq; exact hKX9
    | 10, hq => cases hq; exact hKX10
    | k + 11, hq => simp [vwCl] at hq
  obtain ⟨cA, hKA⟩ : ∃ cA : ClassId, va_K D vwCl [(cA, .int)] s := by
    obtain ⟨cA, kA, comp, h1, h2, h3⟩ := Cond.arrayClass_spec (hts _ (uU_tbl _ u_3_3))
    refine ⟨cA, hKc, fun k q hk => ?_⟩
    have hz : k < 1 := (List.getElem?_eq_some_iff.mp hk).1
    rw [show k = 0 by omega] at hk
    cases hk
    exact ⟨fun n z => ⟨fun k h => (by cases h), kA, h2, comp, h3⟩, h1⟩
  have hP : va_P D vwCl [] s.heap := fun k q h => by simp at h
  have hD : va_D (fun q : Nat => s.heap.size ≤ q) [] := ⟨fun i j p q h => by simp at h, fun k q h => by simp at h⟩
  have hS : va_S (fun q : Nat => s.heap.size ≤ q) s.heap s.heap [] := va_S.rf
  have K0 : zKc p s m #[Value.ref b] c D cA (fun q : Nat => s.heap.size ≤ q) code R_law lw_tbl 4 := ⟨hx, hb, hml, hown, hts, hKA, hA⟩
  obtain ⟨t, g, L2, W2, a1, a2, o1, o2, hR⟩ := rel1
  have hl := lv_entry ([.ref b]) (n := 4) (Nat.le_of_ble_eq_true rfl)
  rw [lg_entry_eq]
  generalize (lg_sl ([.ref b]) ++ List.replicate (4 - (lg_sl ([.ref b])).length) Slot.unset).toArray = ls at hl ⊢
  have hl : lv_has ls 4 [(0, .ref b)] := hl
  refine va_new (ci := 9) (fs := [.null, .null, .null, .null, .null, .null, .null, .null]) (C := RX9) (T := TX9) (N := 8) hx hb hts (fun w hw => uU_tbl w (u_lay_X9 w hw)) tyX9 tyX9_ok hown (hts _ (uU_tbl _ u_1_0)) (hts _ (uU_tbl _ u_1_1)) (hts _ (uU_tbl _ u_1_2)) hKA hP hD hS hA rfl (fun j hj => by rcases (show j = 0 ∨ j = 1 ∨ j = 2 ∨ j = 3 ∨ j = 4 ∨ j = 5 ∨ j = 6 ∨ j = 7 by omega) with rfl | rfl | rfl | rfl | rfl | rfl | rfl | rfl <;> rfl) (Nat.le_of_ble_eq_true rfl) (Nat.le_of_ble_eq_true rfl) (by decide +kernel : decode code 0 = .ok (.new 7, 3)) (fun qx H hP hD hS => ?_)
  refine lv_dup hx hb (by decide +kernel : decode code 3 = .ok (.dup, 1)) rfl ?_
  refine zk_init (ex := []) (rest := [.ref qx]) (wr := []) (lv := [(0, .ref b)]) (na := 0) K0 (c_X9_init l t g a1) rfl (lGinI u_1_9) rfl rfl (uU_tbl _ u_1_2) rfl (uU_tbl _ u_1_7) (uU_tbl _ u_1_8) (by decide +kernel) rfl ⟨Nat.le_of_ble_eq_true rfl, Nat.le_of_ble_eq_true rfl⟩ (Nat.le_of_ble_eq_true rfl) (by decide +kernel : decode code 4 = .ok (.invokespecial 9, 3)) rfl rfl (fun ax => ?_) _ _ _ hP hD hS hl
  intro H locs ls hP hD hS hl
  refine lv_astore_n (lv' := [(1, .ref qx), (0, .ref b)]) hx hb (by decide +kernel : decode code 7 = .ok (.astore_n 1, 1)) rfl hl (by decide) rfl (fun ls hl => ?_)
  refine va_new (ci := 10) (fs := [.null, .null, .int (Int32.ofInt 0), .null, .null, .null, .null, .null, .null, .null, .null, .null, .int (Int32.ofInt 0), .null, .null, .null, .null, .null, .null, .null, .null, .null, .null, .null, .null, .null, .null, .null, .int (Int32.ofInt 0)]) (C := RX10) (T := TX10) (N := 29) hx hb hts (fun w hw => uU_tbl w (u_lay_X10 w hw)) tyX10 tyX10_ok hown (hts _ (uU_tbl _ u_1_3)) (hts _ (uU_tbl _ u_1_4)) (hts _ (uU_tbl _ u_1_5)) hKA hP hD hS hA rfl (fun j hj => by rcases (show j = 0 ∨ j = 1 ∨ j = 2 ∨ j = 3 ∨ j = 4 ∨ j = 5 ∨ j = 6 ∨ j = 7 ∨ j = 8 ∨ j = 9 ∨ j = 10 ∨ j = 11 ∨ j = 12 ∨ j = 13 ∨ j = 14 ∨ j = 15 ∨ j = 16 ∨ j = 17 ∨ j = 18 ∨ j = 19 ∨ j = 20 ∨ j = 21 ∨ j = 22 ∨ j = 23 ∨ j = 24 ∨ j = 25 ∨ j = 26 ∨ j = 27 ∨ j = 28 by omega) with rfl | rfl | rfl | rfl | rfl | rfl | rfl | rfl | rfl | rfl | rfl | rfl | rfl | rfl | rfl | rfl | rfl | rfl | rfl | rfl | rfl | rfl | rfl | rfl | rfl | rfl | rfl | rfl | rfl <;> rfl) (Nat.le_of_ble_eq_true rfl) (Nat.le_of_ble_eq_true rfl) (by decide +kernel : decode code 8 = .ok (.new 10, 3)) (fun qm H hP hD hS => ?_)
  refine lv_dup hx hb (by decide +kernel : decode code 11 = .ok (.dup, 1)) rfl ?_
  refine zk_init (ex := []) (rest := [.ref qm]) (wr := [] ++ wdX9 t g cA qx ax) (lv := [(1, .ref qx), (0, .ref b)]) (na := 0) K0 (c_X10_init l L2 W2 a2) rfl (lGinI u_6_23) rfl rfl (uU_tbl _ u_1_5) rfl (uU_tbl _ u_6_21) (uU_tbl _ u_6_22) (by decide +kernel) rfl ⟨Nat.le_of_ble_eq_true rfl, Nat.le_of_ble_eq_true rfl⟩ (Nat.le_of_ble_eq_true rfl) (by decide +kernel : decode code 12 = .ok (.invokespecial 12, 3)) rfl rfl (fun am => ?_) _ _ _ hP hD hS hl
  intro H locs ls hP hD hS hl
  refine lv_astore_n (lv' := [(2, .ref qm), (1, .ref qx), (0, .ref b)]) hx hb (by decide +kernel : decode code 15 = .ok (.astore_n 2, 1)) rfl hl (by decide) rfl (fun ls hl => ?_)
  refine lv_iconst (v := nI 0) hx hb (by decide +kernel : decode code 16 = .ok (.iconst 0, 1)) (by decide) ?_
  refine lv_istore_n (lv' := [(3, .int (nI 0)), (2, .ref qm), (1, .ref qx), (0, .ref b)]) hx hb (by decide +kernel : decode code 17 = .ok (.istore_n 3, 1)) rfl hl (by decide) rfl (fun ls hl => ?_)
  have C1 : lC p s m meth c D cA b L xs := ⟨C0, K0, hL⟩
  have fin := l_loop (l := l) (e := e) (below := below) (adx := zg 0 (qx :: ax)) (adm := zg 0 (qm :: am)) C1 (L + 6) 0 _ _ (by omega) (by omega) hR o1 o2
  obtain ⟨hP, hD⟩ := cut_both (a1 := zg 0 (qx :: ax)) (a2 := zg 0 (qm :: am)) hP hD
  exact fin _ _ _ hP hD hS (lv_sub hl [3, 2, 1, 0] rfl)
