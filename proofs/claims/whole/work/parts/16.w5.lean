def bX8_forget : zB := [(0, [(.aload_n 0, 1), (.iconst 0, 1), (.putfield 49, 3), (.aload_n 0, 1), (.iconst 0, 1), (.putfield 53, 3)], 10, .return_, 1)]
theorem bX8_forget_ok : zBok cX8_forget 1 bX8_forget = true := by decide +kernel
abbrev wX8_forget : List Cond := Cond.code yX8_forget cX8_forget 1 none :: uU
def rX8_forget : Room := { frames := 0, cells := 0, slots := 0, locals := 0 }
set_option maxRecDepth 20000 in
set_option maxHeartbeats 4000000 in
theorem m_C_X8_forget (l : Launch) (M0 : zM) (M2 : zM) (M3 : zM) (M4 : zM) (M5 : zM) (M6 : zM) (M7 : zM) (M8 : zM) (M9 : zM) (M10 : zM) (M11 : zM) (M12 : zM) (M13 : zM) (T_cost : Int) (T_priced : Int) (T_settled : Int) (T_quarrel : Int) (T_steps : Nat → Int) (T_pairs : Nat → Int) (T_built : Nat → Int) (T_rest : Nat → Int) (T_beside : Nat → Int) (T_held : Nat → Int) (T_heldPrice : Nat → Int) (T_ways : Nat → Int) (T_early : Nat → Int) (T_late : Nat → Int) (x : Int × Int) (h : f_X8_forget T_priced T_settled = some x) : zD l yX8_forget wX8_forget rX8_forget lamC shpC [(2, Int.ofNat 1)] [M0, ([T_cost, T_priced, T_settled, T_quarrel], [T_steps, T_pairs, T_built, T_rest, T_beside, T_held, T_heldPrice, T_ways, T_early, T_late]), M2, M3, M4, M5, M6, M7, M8, M9, M10, M11, M12, M13] (none) [M0, ([T_cost, x.1, x.2, T_quarrel], [T_steps, T_pairs, T_built, T_rest, T_beside, T_held, T_heldPrice, T_ways, T_early, T_late]), M2, M3, M4, M5, M6, M7, M8, M9, M10, M11, M12, M13] := by
  refine zD_of (B := bX8_forget) (E := eX8n) (by decide) rfl lokC (eX8n_ok _) bX8_forget_ok (Or.inl rfl) rfl (fun S R => ?_)
  obtain ⟨rb, rg, ri, rv, rs, r0, r1, r2, r3, rt, rmk⟩ := R
  show S 0 [some (2, Int.ofNat 1)] [] [M0, ([T_cost, T_priced, T_settled, T_quarrel], [T_steps, T_pairs, T_built, T_rest, T_beside, T_held, T_heldPrice, T_ways, T_early, T_late]), M2, M3, M4, M5, M6, M7, M8, M9, M10, M11, M12, M13]
  unfold f_X8_forget at h
  obtain rfl := Option.some.inj h
  exact r0 false 0 rfl rfl rfl rfl (And.intro (show zbit 0 by decide) (show zbit 0 by decide))
def bX8_fillPairs : zB := [(0, [(.iconst 0, 1), (.istore_n 2, 1)], 2, .nop, 0), (2, [(.iload_n 2, 1), (.aload_n 0, 1), (.getfield 12, 3), (.getfield 59, 3)], 10, .if_icmp .ge 114, 3), (13, [(.iload_n 2, 1), (.iconst 1, 1), (.iadd, 1), (.istore_n 3, 1)], 17, .nop, 0), (17, [(.iload_n 3, 1), (.aload_n 0, 1), (.getfield 12, 3), (.getfield 59, 3)], 25, .if_icmp .ge 93, 3), (28, [(.iload_n 2, 1), (.iload_n 1, 1)], 30, .if_icmp .eq 82, 3), (33, [(.iload_n 3, 1), (.iload_n 1, 1)], 35, .if_icmp .ne 6, 3), (38, [], 38, .goto 74, 3), (41, [(.ldc 115, 2), (.istore 4, 2), (.iconst 1, 1), (.istore 5, 2)], 48, .nop, 0), (48, [(.iload 5, 2), (.bipush 8, 2)], 52, .if_icmp .ge 47, 3), (55, [(.iload 4, 2), (.aload_n 0, 1), (.getfield 12, 3), (.iload_n 1, 1), (.iload_n 2, 1), (.iload_n 3, 1), (.iload 5, 2)], 66, .invokevirtual 116, 3), (69, [(.invokestatic 110, 3), (.istore 4, 2), (.iload 4, 2), (.aload_n 0, 1), (.getfield 12, 3), (.iload_n 1, 1), (.iload_n 3, 1), (.iload_n 2, 1), (.iload 5, 2)], 85, .invokevirtual 116, 3), (88, [(.invokestatic 110, 3), (.istore 4, 2), (.iinc 5 1, 3)], 96, .goto (-48), 3), (99, [(.aload_n 0, 1), (.getfield 22, 3), (.iload_n 2, 1), (.bipush 8, 2), (.imul, 1), (.iload_n 3, 1), (.iadd, 1), (.iload 4, 2), (.iastore, 1)], 112, .nop, 0), (112, [(.iinc 3 1, 3)], 115, .goto (-98), 3), (118, [(.iinc 2 1, 3)], 121, .goto (-119), 3), (124, [], 124, .return_, 1)]
theorem bX8_fillPairs_ok : zBok cX8_fillPairs 6 bX8_fillPairs = true := by decide +kernel
abbrev wX8_fillPairs : List Cond := Cond.code yX8_fillPairs cX8_fillPairs 6 none :: uU
def rX8_fillPairs : Room := { frames := 1, cells := 0, slots := 0, locals := 26 }
set_option maxRecDepth 20000 in
set_option maxHeartbeats 4000000 in
theorem m_C_X8_fillPairs (l : Launch) (M2 : zM) (M3 : zM) (M4 : zM) (M5 : zM) (M6 : zM) (M7 : zM) (M8 : zM) (M9 : zM) (M10 : zM) (M11 : zM) (M12 : zM) (M13 : zM) (p1 : Int) (L_count : Int) (L_copiedStands : Int) (L_from : Nat → Int) (L_to : Nat → Int) (L_forms : Nat → Int) (L_costs : Nat → Int) (L_copied : Nat → Int) (T_cost : Int) (T_priced : Int) (T_settled : Int) (T_quarrel : Int) (T_steps : Nat → Int) (T_pairs : Nat → Int) (T_built : Nat → Int) (T_rest : Nat → Int) (T_beside : Nat → Int) (T_held : Nat → Int) (T_heldPrice : Nat → Int) (T_ways : Nat → Int) (T_early : Nat → Int) (T_late : Nat → Int) (x : Nat → Int) (h : f_X8_fillPairs p1 L_count L_costs L_copied T_pairs = some x) : zD l yX8_fillPairs wX8_fillPairs rX8_fillPairs lamC shpC [(2, Int.ofNat 1), (0, p1)] [([L_count, L_copiedStands], [L_from, L_to, L_forms, L_costs, L_copied]), ([T_cost, T_priced, T_settled, T_quarrel], [T_steps, T_pairs, T_built, T_rest, T_beside, T_held, T_heldPrice, T_ways, T_early, T_late]), M2, M3, M4, M5, M6, M7, M8, M9, M10, M11, M12, M13] (none) [([L_count, L_copiedStands], [L_from, L_to, L_forms, L_costs, L_copied]), ([T_cost, T_priced, T_settled, T_quarrel], [T_steps, x, T_built, T_rest, T_beside, T_held, T_heldPrice, T_ways, T_early, T_late]), M2, M3, M4, M5, M6, M7, M8, M9, M10, M11, M12, M13] := by
  refine zD_of (B := bX8_fillPairs) (E := eX8) (by decide) rfl lokC (eX8_ok _) bX8_fillPairs_ok (Or.inr ⟨Nat.le_of_ble_eq_true rfl, Nat.le_of_ble_eq_true rfl⟩) rfl (fun S R => ?_)
  obtain ⟨rb, rg, ri, rv, rs, r0, r1, r2, r3, rt, rmk⟩ := R
  show S 0 [some (2, Int.ofNat 1), some (0, p1), none, none, none, none] [] [([L_count, L_copiedStands], [L_from, L_to, L_forms, L_costs, L_copied]), ([T_cost, T_priced, T_settled, T_quarrel], [T_steps, T_pairs, T_built, T_rest, T_beside, T_held, T_heldPrice, T_ways, T_early, T_late]), M2, M3, M4, M5, M6, M7, M8, M9, M10, M11, M12, M13]
  have LP48 : ∀ (n : Nat) (v1 : Int) (v2 : Int) (v3 : Int) (v4 : Int) (v5 : Int) (L_count : Int) (L_copiedStands : Int) (L_from : Nat → Int) (L_to : Nat → Int) (L_forms : Nat → Int) (L_costs : Nat → Int) (L_copied : Nat → Int) (T_cost : Int) (T_priced : Int) (T_settled : Int) (T_quarrel : Int) (T_steps : Nat → Int) (T_pairs : Nat → Int) (T_built : Nat → Int) (T_rest : Nat → Int) (T_beside : Nat → Int) (T_held : Nat → Int) (T_heldPrice : Nat → Int) (T_ways : Nat → Int) (T_early : Nat → Int) (T_late : Nat → Int) (y : Int), l_X8_fillPairs_48 n v1 v2 v3 v4 v5 L_costs L_copied = some y → S 99 [some (2, Int.ofNat 1), some (0, v1), some (0, v2), some (0, v3), some (0, y), none] [] [([L_count, L_copiedStands], [L_from, L_to, L_forms, L_costs, L_copied]), ([T_cost, T_priced, T_settled, T_quarrel], [T_steps, T_pairs, T_built, T_rest, T_beside, T_held, T_heldPrice, T_ways, T_early, T_late]), M2, M3, M4, M5, M6, M7, M8, M9, M10, M11, M12, M13] → S 48 [some (2, Int.ofNat 1), some (0, v1), some (0, v2), some (0, v3), some (0, v4), some (0, v5)] [] [([L_count, L_copiedStands], [L_from, L_to, L_forms, L_costs, L_copied]), ([T_cost, T_priced, T_settled, T_quarrel], [T_steps, T_pairs, T_built, T_rest, T_beside, T_held, T_heldPrice, T_ways, T_early, T_late]), M2, M3, M4, M5, M6, M7, M8, M9, M10, M11, M12, M13] := by
    intro n
    induction n with
    | zero =>
      intro v1 v2 v3 v4 v5 L_count L_copiedStands L_from L_to L_forms L_costs L_copied T_cost T_priced T_settled T_quarrel T_steps T_pairs T_built T_rest T_beside T_held T_heldPrice T_ways T_early T_late y h k
      rw [l_X8_fillPairs_48] at h
      cases h
    | succ n ih =>
      intro v1 v2 v3 v4 v5 L_count L_copiedStands L_from L_to L_forms L_costs L_copied T_cost T_priced T_settled T_quarrel T_steps T_pairs T_built T_rest T_beside T_held T_heldPrice T_ways T_early T_late y h k
      rw [l_X8_fillPairs_48] at h
      refine ri false 8 (q := v5 < 8) (t1 := 55) (t2 := 99) rfl rfl trivial (fun c => ?_) (fun c => ?_)
      · replace h := zif1 c h
        obtain ⟨x4, hx4, h⟩ := zbd h
        refine rv false 9 4 (rest := [(0, v4)]) rfl rfl trivial rfl (m_C_X4_priceJoined l ([T_cost, T_priced, T_settled, T_quarrel], [T_steps, T_pairs, T_built, T_rest, T_beside, T_held, T_heldPrice, T_ways, T_early, T_late]) M2 M3 M4 M5 M6 M7 M8 M9 M10 M11 M12 M13 v1 v2 v3 v5 L_count L_copiedStands L_from L_to L_forms L_costs L_copied x4 hx4) ⟨_, _, _, _, rfl, rfl, rfl, by decide +kernel, ⟨Nat.le_of_ble_eq_true rfl, Nat.le_of_ble_eq_true rfl⟩, uGin u_15_4 u_12_19 u_12_20 u_3_1 u_12_21⟩ ⟨rfl, _, _, _, rfl, rfl⟩ ?_
        obtain ⟨x5, hx5, h⟩ := zbd h
        refine rv false 10 4 (L2 := [some (2, Int.ofNat 1), some (0, v1), some (0, v2), some (0, v3), some (0, (min v4 x4)), some (0, v5)]) (rest := [(0, (min v4 x4))]) rfl rfl trivial rfl (m_C_X4_priceJoined l ([T_cost, T_priced, T_settled, T_quarrel], [T_steps, T_pairs, T_built, T_rest, T_beside, T_held, T_heldPrice, T_ways, T_early, T_late]) M2 M3 M4 M5 M6 M7 M8 M9 M10 M11 M12 M13 v1 v3 v2 v5 L_count L_copiedStands L_from L_to L_forms L_costs L_copied x5 hx5) ⟨_, _, _, _, rfl, rfl, rfl, by decide +kernel, ⟨Nat.le_of_ble_eq_true rfl, Nat.le_of_ble_eq_true rfl⟩, uGin u_15_4 u_12_19 u_12_20 u_3_1 u_12_21⟩ ⟨rfl, _, _, _, rfl, rfl⟩ ?_
        obtain ⟨g6_0, h⟩ := zgd h
        refine rg false 11 (t := 48) (L2 := [some (2, Int.ofNat 1), some (0, v1), some (0, v2), some (0, v3), some (0, (min (min v4 x4) x5)), some (0, (v5 + 1))]) rfl rfl rfl g6_0 ?_
        exact ih v1 v2 v3 (min (min v4 x4) x5) (v5 + 1) L_count L_copiedStands L_from L_to L_forms L_costs L_copied T_cost T_priced T_settled T_quarrel T_steps T_pairs T_built T_rest T_beside T_held T_heldPrice T_ways T_early T_late y h k
      · replace h := zif2 c h
        refine rmk [true, true, true, true, true, false] (L2 := [some (2, Int.ofNat 1), some (0, v1), some (0, v2), some (0, v3), some (0, v4), none]) rfl ?_
        obtain rfl := Option.some.inj h
        exact k
  have LP17 : ∀ (n : Nat) (v1 : Int) (v2 : Int) (v3 : Int) (L_count : Int) (L_copiedStands : Int) (L_from : Nat → Int) (L_to : Nat → Int) (L_forms : Nat → Int) (L_costs : Nat → Int) (L_copied : Nat → Int) (T_cost : Int) (T_priced : Int) (T_settled : Int) (T_quarrel : Int) (T_steps : Nat → Int) (T_pairs : Nat → Int) (T_built : Nat → Int) (T_rest : Nat → Int) (T_beside : Nat → Int) (T_held : Nat → Int) (T_heldPrice : Nat → Int) (T_ways : Nat → Int) (T_early : Nat → Int) (T_late : Nat → Int) (y : Nat → Int), l_X8_fillPairs_17 n v1 v2 v3 L_count L_costs L_copied T_pairs = some y → S 118 [some (2, Int.ofNat 1), some (0, v1), some (0, v2), none, none, none] [] [([L_count, L_copiedStands], [L_from, L_to, L_forms, L_costs, L_copied]), ([T_cost, T_priced, T_settled, T_quarrel], [T_steps, y, T_built, T_rest, T_beside, T_held, T_heldPrice, T_ways, T_early, T_late]), M2, M3, M4, M5, M6, M7, M8, M9, M10, M11, M12, M13] → S 17 [some (2, Int.ofNat 1), some (0, v1), some (0, v2), some (0, v3), none, none] [] [([L_count, L_copiedStands], [L_from, L_to, L_forms, L_costs, L_copied]), ([T_cost, T_priced, T_settled, T_quarrel], [T_steps, T_pairs, T_built, T_rest, T_beside, T_held, T_heldPrice, T_ways, T_early, T_late]), M2, M3, M4, M5, M6, M7, M8, M9, M10, M11, M12, M13] := by
    intro n
    induction n with
    | zero =>
      intro v1 v2 v3 L_count L_copiedStands L_from L_to L_forms L_costs L_copied T_cost T_priced T_settled T_quarrel T_steps T_pairs T_built T_rest T_beside T_held T_heldPrice T_ways T_early T_late y h k
      rw [l_X8_fillPairs_17] at h
      cases h
    | succ n ih =>
      intro v1 v2 v3 L_count L_copiedStands L_from L_to L_forms L_costs L_copied T_cost T_priced T_settled T_quarrel T_steps T_pairs T_built T_rest T_beside T_held T_heldPrice T_ways T_early T_late y h k
      rw [l_X8_fillPairs_17] at h
      refine ri false 3 (q := v3 < L_count) (t1 := 28) (t2 := 118) rfl rfl trivial (fun c => ?_) (fun c => ?_)
      · replace h := zif1 c h
        refine ri false 4 (q := v2 = v1) (t1 := 112) (t2 := 33) rfl rfl trivial (fun c => ?_) (fun c => ?_)
        · replace h := zif1 c h
          obtain ⟨g2_0, h⟩ := zgd h
          refine rg false 13 (t := 17) (L2 := [some (2, Int.ofNat 1), some (0, v1), some (0, v2), some (0, (v3 + 1)), none, none]) rfl rfl rfl g2_0 ?_
          exact ih v1 v2 (v3 + 1) L_count L_copiedStands L_from L_to L_forms L_costs L_copied T_cost T_priced T_settled T_quarrel T_steps T_pairs T_built T_rest T_beside T_held T_heldPrice T_ways T_early T_late y h k
        · replace h := zif2 c h
          refine ri false 5 (q := v3 = v1) (t1 := 38) (t2 := 41) rfl rfl trivial (fun c => ?_) (fun c => ?_)
          · replace h := zif1 c h
            refine rg false 6 (t := 112) rfl rfl rfl trivial ?_
            obtain ⟨g3_0, h⟩ := zgd h
            refine rg false 13 (t := 17) (L2 := [some (2, Int.ofNat 1), some (0, v1), some (0, v2), some (0, (v3 + 1)), none, none]) rfl rfl rfl g3_0 ?_
            exact ih v1 v2 (v3 + 1) L_count L_copiedStands L_from L_to L_forms L_costs L_copied T_cost T_priced T_settled T_quarrel T_steps T_pairs T_built T_rest T_beside T_held T_heldPrice T_ways T_early T_late y h k
          · replace h := zif2 c h
            refine rb false 7 (L2 := [some (2, Int.ofNat 1), some (0, v1), some (0, v2), some (0, v3), some (0, 1048576), some (0, 1)]) rfl rfl trivial ?_
            obtain ⟨x7, hx7, h⟩ := zbd h
            refine LP48 zN v1 v2 v3 1048576 1 L_count L_copiedStands L_from L_to L_forms L_costs L_copied T_cost T_priced T_settled T_quarrel T_steps T_pairs T_built T_rest T_beside T_held T_heldPrice T_ways T_early T_late x7 hx7 ?_
            obtain ⟨g8_0, h⟩ := zgd h
            refine rb false 12 (σ2 := [([L_count, L_copiedStands], [L_from, L_to, L_forms, L_costs, L_copied]), ([T_cost, T_priced, T_settled, T_quarrel], [T_steps, (zu T_pairs (Int.toNat ((v2 * 8) + v3)) x7), T_built, T_rest, T_beside, T_held, T_heldPrice, T_ways, T_early, T_late]), M2, M3, M4, M5, M6, M7, M8, M9, M10, M11, M12, M13]) rfl rfl g8_0 ?_
            obtain ⟨g9_0, h⟩ := zgd h
            refine rg false 13 (t := 17) (L2 := [some (2, Int.ofNat 1), some (0, v1), some (0, v2), some (0, (v3 + 1)), some (0, x7), none]) rfl rfl rfl g9_0 ?_
            refine rmk [true, true, true, true, false, false] (L2 := [some (2, Int.ofNat 1), some (0, v1), some (0, v2), some (0, (v3 + 1)), none, none]) rfl ?_
            exact ih v1 v2 (v3 + 1) L_count L_copiedStands L_from L_to L_forms L_costs L_copied T_cost T_priced T_settled T_quarrel T_steps (zu T_pairs (Int.toNat ((v2 * 8) + v3)) x7) T_built T_rest T_beside T_held T_heldPrice T_ways T_early T_late y h k
      · replace h := zif2 c h
        refine rmk [true, true, true, false, false, false] (L2 := [some (2, Int.ofNat 1), some (0, v1), some (0, v2), none, none, none]) rfl ?_
        obtain rfl := Option.some.inj h
        exact k
  have LP2 : ∀ (n : Nat) (v1 : Int) (v2 : Int) (L_count : Int) (L_copiedStands : Int) (L_from : Nat → Int) (L_to : Nat → Int) (L_forms : Nat → Int) (L_costs : Nat → Int) (L_copied : Nat → Int) (T_cost : Int) (T_priced : Int) (T_settled : Int) (T_quarrel : Int) (T_steps : Nat → Int) (T_pairs : Nat → Int) (T_built : Nat → Int) (T_rest : Nat → Int) (T_beside : Nat → Int) (T_held : Nat → Int) (T_heldPrice : Nat → Int) (T_ways : Nat → Int) (T_early : Nat → Int) (T_late : Nat → Int) (y : Nat → Int), l_X8_fillPairs_2 n v1 v2 L_count L_costs L_copied T_pairs = some y → S 124 [none, none, none, none, none, none] [] [([L_count, L_copiedStands], [L_from, L_to, L_forms, L_costs, L_copied]), ([T_cost, T_priced, T_settled, T_quarrel], [T_steps, y, T_built, T_rest, T_beside, T_held, T_heldPrice, T_ways, T_early, T_late]), M2, M3, M4, M5, M6, M7, M8, M9, M10, M11, M12, M13] → S 2 [some (2, Int.ofNat 1), some (0, v1), some (0, v2), none, none, none] [] [([L_count, L_copiedStands], [L_from, L_to, L_forms, L_costs, L_copied]), ([T_cost, T_priced, T_settled, T_quarrel], [T_steps, T_pairs, T_built, T_rest, T_beside, T_held, T_heldPrice, T_ways, T_early, T_late]), M2, M3, M4, M5, M6, M7, M8, M9, M10, M11, M12, M13] := by
    intro n
    induction n with
    | zero =>
      intro v1 v2 L_count L_copiedStands L_from L_to L_forms L_costs L_copied T_cost T_priced T_settled T_quarrel T_steps T_pairs T_built T_rest T_beside T_held T_heldPrice T_ways T_early T_late y h k
      rw [l_X8_fillPairs_2] at h
      cases h
    | succ n ih =>
      intro v1 v2 L_count L_copiedStands L_from L_to L_forms L_costs L_copied T_cost T_priced T_settled T_quarrel T_steps T_pairs T_built T_rest T_beside T_held T_heldPrice T_ways T_early T_late y h k
      rw [l_X8_fillPairs_2] at h
      refine ri false 1 (q := v2 < L_count) (t1 := 13) (t2 := 124) rfl rfl trivial (fun c => ?_) (fun c => ?_)
      · replace h := zif1 c h
        obtain ⟨g1_0, h⟩ := zgd h
        refine rb false 2 (L2 := [some (2, Int.ofNat 1), some (0, v1), some (0, v2), some (0, (v2 + 1)), none, none]) rfl rfl g1_0 ?_
        obtain ⟨x10, hx10, h⟩ := zbd h
        refine LP17 zN v1 v2 (v2 + 1) L_count L_copiedStands L_from L_to L_forms L_costs L_copied T_cost T_priced T_settled T_quarrel T_steps T_pairs T_built T_rest T_beside T_held T_heldPrice T_ways T_early T_late x10 hx10 ?_
        obtain ⟨g11_0, h⟩ := zgd h
        refine rg false 14 (t := 2) (L2 := [some (2, Int.ofNat 1), some (0, v1), some (0, (v2 + 1)), none, none, none]) rfl rfl rfl g11_0 ?_
        exact ih v1 (v2 + 1) L_count L_copiedStands L_from L_to L_forms L_costs L_copied T_cost T_priced T_settled T_quarrel T_steps x10 T_built T_rest T_beside T_held T_heldPrice T_ways T_early T_late y h k
      · replace h := zif2 c h
        refine rmk [false, false, false, false, false, false] (L2 := [none, none, none, none, none, none]) rfl ?_
        obtain rfl := Option.some.inj h
        exact k
  unfold f_X8_fillPairs at h
  refine rb false 0 (L2 := [some (2, Int.ofNat 1), some (0, p1), some (0, 0), none, none, none]) rfl rfl trivial ?_
  obtain ⟨x12, hx12, h⟩ := zbd h
  refine LP2 zN p1 0 L_count L_copiedStands L_from L_to L_forms L_costs L_copied T_cost T_priced T_settled T_quarrel T_steps T_pairs T_built T_rest T_beside T_held T_heldPrice T_ways T_early T_late x12 hx12 ?_
  obtain rfl := Option.some.inj h
  exact r0 false 15 rfl rfl rfl rfl trivial
def bX8_everyone : zB := [(0, [(.iconst 1, 1), (.aload_n 0, 1), (.getfield 12, 3), (.getfield 59, 3), (.ishl, 1), (.iconst 1, 1), (.isub, 1)], 11, .ireturn, 1)]
theorem bX8_everyone_ok : zBok cX8_everyone 1 bX8_everyone = true := by decide +kernel
abbrev wX8_everyone : List Cond := Cond.code yX8_everyone cX8_everyone 1 (some .int) :: uU
def rX8_everyone : Room := { frames := 0, cells := 0, slots := 0, locals := 0 }
set_option maxRecDepth 20000 in
set_option maxHeartbeats 4000000 in
theorem m_C_X8_everyone (l : Launch) (M1 : zM) (M2 : zM) (M3 : zM) (M4 : zM) (M5 : zM) (M6 : zM) (M7 : zM) (M8 : zM) (M9 : zM) (M10 : zM) (M11 : zM) (M12 : zM) (M13 : zM) (L_count : Int) (L_copiedStands : Int) (L_from : Nat → Int) (L_to : Nat → Int) (L_forms : Nat → Int) (L_costs : Nat → Int) (L_copied : Nat → Int) (x : Int) (h : f_X8_everyone L_count = some x) : zD l yX8_everyone wX8_everyone rX8_everyone lamC shpC [(2, Int.ofNat 1)] [([L_count, L_copiedStands], [L_from, L_to, L_forms, L_costs, L_copied]), M1, M2, M3, M4, M5, M6, M7, M8, M9, M10, M11, M12, M13] (some (0, x)) [([L_count, L_copiedStands], [L_from, L_to, L_forms, L_costs, L_copied]), M1, M2, M3, M4, M5, M6, M7, M8, M9, M10, M11, M12, M13] := by
  refine zD_of (B := bX8_everyone) (E := eX8n) (by decide) rfl lokC (eX8n_ok _) bX8_everyone_ok (Or.inl rfl) rfl (fun S R => ?_)
  obtain ⟨rb, rg, ri, rv, rs, r0, r1, r2, r3, rt, rmk⟩ := R
  show S 0 [some (2, Int.ofNat 1)] [] [([L_count, L_copiedStands], [L_from, L_to, L_forms, L_costs, L_copied]), M1, M2, M3, M4, M5, M6, M7, M8, M9, M10, M11, M12, M13]
  unfold f_X8_everyone at h
  obtain ⟨g1_0, h⟩ := zgd h
  obtain rfl := Option.some.inj h
  exact r1 false 0 rfl rfl rfl rfl rfl rfl g1_0
def bX8_lowestOf : zB := [(0, [(.iconst 0, 1), (.istore_n 2, 1)], 2, .nop, 0), (2, [(.iload_n 2, 1), (.aload_n 0, 1), (.getfield 12, 3), (.getfield 59, 3)], 10, .if_icmp .ge 19, 3), (13, [(.iload_n 1, 1), (.iload_n 2, 1), (.ishr, 1), (.iconst 1, 1), (.iand, 1)], 18, .ifCond .eq 5, 3), (21, [(.iload_n 2, 1)], 22, .ireturn, 1), (23, [(.iinc 2 1, 3)], 26, .goto (-24), 3), (29, [(.iconst 0, 1)], 30, .ireturn, 1)]
theorem bX8_lowestOf_ok : zBok cX8_lowestOf 3 bX8_lowestOf = true := by decide +kernel
abbrev wX8_lowestOf : List Cond := Cond.code yX8_lowestOf cX8_lowestOf 3 (some .int) :: uU
def rX8_lowestOf : Room := { frames := 0, cells := 0, slots := 0, locals := 0 }
set_option maxRecDepth 20000 in
set_option maxHeartbeats 4000000 in
theorem m_C_X8_lowestOf (l : Launch) (M1 : zM) (M2 : zM) (M3 : zM) (M4 : zM) (M5 : zM) (M6 : zM) (M7 : zM) (M8 : zM) (M9 : zM) (M10 : zM) (M11 : zM) (M12 : zM) (M13 : zM) (p1 : Int) (L_count : Int) (L_copiedStands : Int) (L_from : Nat → Int) (L_to : Nat → Int) (L_forms : Nat → Int) (L_costs : Nat → Int) (L_copied : Nat → Int) (x : Int) (h : f_X8_lowestOf p1 L_count = some x) : zD l yX8_lowestOf wX8_lowestOf rX8_lowestOf lamC shpC [(2, Int.ofNat 1), (0, p1)] [([L_count, L_copiedStands], [L_from, L_to, L_forms, L_costs, L_copied]), M1, M2, M3, M4, M5, M6, M7, M8, M9, M10, M11, M12, M13] (some (0, x)) [([L_count, L_copiedStands], [L_from, L_to, L_forms, L_costs, L_copied]), M1, M2, M3, M4, M5, M6, M7, M8, M9, M10, M11, M12, M13] := by
  refine zD_of (B := bX8_lowestOf) (E := eX8n) (by decide) rfl lokC (eX8n_ok _) bX8_lowestOf_ok (Or.inl rfl) rfl (fun S R => ?_)
  obtain ⟨rb, rg, ri, rv, rs, r0, r1, r2, r3, rt, rmk⟩ := R
  show S 0 [some (2, Int.ofNat 1), some (0, p1), none] [] [([L_count, L_copiedStands], [L_from, L_to, L_forms, L_costs, L_copied]), M1, M2, M3, M4, M5, M6, M7, M8, M9, M10, M11, M12, M13]
  have LP2 : ∀ (n : Nat) (v1 : Int) (v2 : Int), l_X8_lowestOf_2 n v1 v2 L_count = some x → S 2 [some (2, Int.ofNat 1), some (0, v1), some (0, v2)] [] [([L_count, L_copiedStands], [L_from, L_to, L_forms, L_costs, L_copied]), M1, M2, M3, M4, M5, M6, M7, M8, M9, M10, M11, M12, M13] := by
    intro n
    induction n with
    | zero =>
      intro v1 v2 h
      rw [l_X8_lowestOf_2] at h
      cases h
    | succ n ih =>
      intro v1 v2 h
      rw [l_X8_lowestOf_2] at h
      refine ri false 1 (q := v2 < L_count) (t1 := 13) (t2 := 29) rfl rfl trivial (fun c => ?_) (fun c => ?_)
      · replace h := zif1 c h
        refine ri false 2 (q := (zand (zshr v1 v2) 1) = 0) (t1 := 23) (t2 := 21) rfl rfl trivial (fun c => ?_) (fun c => ?_)
        · replace h := zif1 c h
          obtain ⟨g1_0, h⟩ := zgd h
          refine rg false 4 (t := 2) (L2 := [some (2, Int.ofNat 1), some (0, v1), some (0, (v2 + 1))]) rfl rfl rfl g1_0 ?_
          exact ih v1 (v2 + 1) h
        · replace h := zif2 c h
          obtain rfl := Option.some.inj h
          exact r1 false 3 rfl rfl rfl rfl rfl rfl trivial
      · replace h := zif2 c h
        obtain rfl := Option.some.inj h
        exact r1 false 5 rfl rfl rfl rfl rfl rfl trivial
  unfold f_X8_lowestOf at h
  refine rb false 0 (L2 := [some (2, Int.ofNat 1), some (0, p1), some (0, 0)]) rfl rfl trivial ?_
  exact LP2 zN p1 0 h
def bX8_fillSteps : zB := [(0, [(.aload_n 0, 1), (.iload_n 1, 1)], 2, .invokevirtual 96, 3), (5, [(.aload_n 0, 1)], 6, .invokevirtual 73, 3), (9, [(.istore_n 2, 1), (.iload_n 1, 1), (.sipush 256, 3), (.imul, 1), (.istore_n 3, 1), (.aload_n 0, 1), (.getfield 18, 3), (.iload_n 3, 1), (.aload_n 0, 1), (.getfield 12, 3), (.iload_n 1, 1)], 26, .invokevirtual 99, 3), (29, [(.iastore, 1), (.iconst 1, 1), (.istore 4, 2)], 33, .nop, 0), (33, [(.iload 4, 2), (.iload_n 2, 1)], 36, .if_icmp .gt 129, 3), (39, [(.iload 4, 2), (.iload_n 1, 1), (.ishr, 1), (.iconst 1, 1), (.iand, 1)], 45, .ifCond .eq 6, 3), (48, [], 48, .goto 111, 3), (51, [(.aload_n 0, 1), (.iload 4, 2)], 54, .invokevirtual 103, 3), (57, [(.istore 5, 2), (.iload 4, 2), (.iconst 1, 1), (.iload 5, 2), (.ishl, 1), (.iconst (-1), 1), (.ixor, 1), (.iand, 1), (.istore 6, 2)], 70, .nop, 0), (70, [(.aload_n 0, 1), (.getfield 18, 3), (.iload_n 3, 1), (.iload 6, 2), (.iadd, 1), (.iaload, 1), (.aload_n 0, 1), (.getfield 12, 3), (.iload_n 1, 1), (.iload 5, 2)], 86, .invokevirtual 106, 3), (89, [(.invokestatic 110, 3), (.istore 7, 2), (.iload 5, 2), (.iconst 1, 1), (.iadd, 1), (.istore 8, 2)], 100, .nop, 0), (100, [(.iload 8, 2), (.aload_n 0, 1), (.getfield 12, 3), (.getfield 59, 3)], 109, .if_icmp .ge 39, 3), (112, [(.iload 4, 2), (.iload 8, 2), (.ishr, 1), (.iconst 1, 1), (.iand, 1)], 119, .ifCond .eq 23, 3), (122, [(.iload 7, 2), (.aload_n 0, 1), (.getfield 22, 3), (.iload 5, 2), (.bipush 8, 2), (.imul, 1), (.iload 8, 2), (.iadd, 1), (.iaload, 1), (.invokestatic 110, 3), (.istore 7, 2)], 142, .nop, 0), (142, [(.iinc 8 1, 3)], 145, .goto (-45), 3), (148, [(.aload_n 0, 1), (.getfield 18, 3), (.iload_n 3, 1), (.iload 4, 2), (.iadd, 1), (.iload 7, 2), (.iastore, 1)], 159, .nop, 0), (159, [(.iinc 4 1, 3)], 162, .goto (-129), 3), (165, [], 165, .return_, 1)]
theorem bX8_fillSteps_ok : zBok cX8_fillSteps 9 bX8_fillSteps = true := by decide +kernel
abbrev wX8_fillSteps : List Cond := Cond.code yX8_fillSteps cX8_fillSteps 9 none :: uU
def rX8_fillSteps : Room := { frames := 2, cells := 0, slots := 0, locals := 51 }
set_option maxRecDepth 20000 in
set_option maxHeartbeats 4000000 in
theorem m_C_X8_fillSteps (l : Launch) (M2 : zM) (M3 : zM) (M4 : zM) (M5 : zM) (M6 : zM) (M7 : zM) (M8 : zM) (M9 : zM) (M10 : zM) (M11 : zM) (M12 : zM) (M13 : zM) (p1 : Int) (L_count : Int) (L_copiedStands : Int) (L_from : Nat → Int) (L_to : Nat → Int) (L_forms : Nat → Int) (L_costs : Nat → Int) (L_copied : Nat → Int) (T_cost : Int) (T_priced : Int) (T_settled : Int) (T_quarrel : Int) (T_steps : Nat → Int) (T_pairs : Nat → Int) (T_built : Nat → Int) (T_rest : Nat → Int) (T_beside : Nat → Int) (T_held : Nat → Int) (T_heldPrice : Nat → Int) (T_ways : Nat → Int) (T_early : Nat → Int) (T_late : Nat → Int) (x : (Nat → Int) × (Nat → Int)) (h : f_X8_fillSteps p1 L_count L_forms L_costs L_copied T_steps T_pairs = some x) : zD l yX8_fillSteps wX8_fillSteps rX8_fillSteps lamC shpC [(2, Int.ofNat 1), (0, p1)] [([L_count, L_copiedStands], [L_from, L_to, L_forms, L_costs, L_copied]), ([T_cost, T_priced, T_settled, T_quarrel], [T_steps, T_pairs, T_built, T_rest, T_beside, T_held, T_heldPrice, T_ways, T_early, T_late]), M2, M3, M4, M5, M6, M7, M8, M9, M10, M11, M12, M13] (none) [([L_count, L_copiedStands], [L_from, L_to, L_forms, L_costs, L_copied]), ([T_cost, T_priced, T_settled, T_quarrel], [x.1, x.2, T_built, T_rest, T_beside, T_held, T_heldPrice, T_ways, T_early, T_late]), M2, M3, M4, M5, M6, M7, M8, M9, M10, M11, M12, M13] := by
  refine zD_of (B := bX8_fillSteps) (E := eX8) (by decide) rfl lokC (eX8_ok _) bX8_fillSteps_ok (Or.inr ⟨Nat.le_of_ble_eq_true rfl, Nat.le_of_ble_eq_true rfl⟩) rfl (fun S R => ?_)
  obtain ⟨rb, rg, ri, rv, rs, r0, r1, r2, r3, rt, rmk⟩ := R
  show S 0 [some (2, Int.ofNat 1), some (0, p1), none, none, none, none, none, none, none] [] [([L_count, L_copiedStands], [L_from, L_to, L_forms, L_costs, L_copied]), ([T_cost, T_priced, T_settled, T_quarrel], [T_steps, T_pairs, T_built, T_rest, T_beside, T_held, T_heldPrice, T_ways, T_early, T_late]), M2, M3, M4, M5, M6, M7, M8, M9, M10, M11, M12, M13]
  have LP100 : ∀ (n : Nat) (v1 : Int) (v2 : Int) (v3 : Int) (v4 : Int) (v5 : Int) (v7 : Int) (v8 : Int) (L_count : Int) (L_copiedStands : Int) (L_from : Nat → Int) (L_to : Nat → Int) (L_forms : Nat → Int) (L_costs : Nat → Int) (L_copied : Nat → Int) (T_cost : Int) (T_priced : Int) (T_settled : Int) (T_quarrel : Int) (T_steps : Nat → Int) (T_pairs : Nat → Int) (T_built : Nat → Int) (T_rest : Nat → Int) (T_beside : Nat → Int) (T_held : Nat → Int) (T_heldPrice : Nat → Int) (T_ways : Nat → Int) (T_early : Nat → Int) (T_late : Nat → Int) (y : Int), l_X8_fillSteps_100 n v1 v2 v3 v4 v5 v7 v8 L_count T_pairs = some y → S 148 [some (2, Int.ofNat 1), some (0, v1), some (0, v2), some (0, v3), some (0, v4), none, none, some (0, y), none] [] [([L_count, L_copiedStands], [L_from, L_to, L_forms, L_costs, L_copied]), ([T_cost, T_priced, T_settled, T_quarrel], [T_steps, T_pairs, T_built, T_rest, T_beside, T_held, T_heldPrice, T_ways, T_early, T_late]), M2, M3, M4, M5, M6, M7, M8, M9, M10, M11, M12, M13] → S 100 [some (2, Int.ofNat 1), some (0, v1), some (0, v2), some (0, v3), some (0, v4), some (0, v5), none, some (0, v7), some (0, v8)] [] [([L_count, L_copiedStands], [L_from, L_to, L_forms, L_costs, L_copied]), ([T_cost, T_priced, T_settled, T_quarrel], [T_steps, T_pairs, T_built, T_rest, T_beside, T_held, T_heldPrice, T_ways, T_early, T_late]), M2, M3, M4, M5, M6, M7, M8, M9, M10, M11, M12, M13] := by
    intro n
    induction n with
    | zero =>
      intro v1 v2 v3 v4 v5 v7 v8 L_count L_copiedStands L_from L_to L_forms L_costs L_copied T_cost T_priced T_settled T_quarrel T_steps T_pairs T_built T_rest T_beside T_held T_heldPrice T_ways T_early T_late y h k
      rw [l_X8_fillSteps_100] at h
      cases h
    | succ n ih =>
      intro v1 v2 v3 v4 v5 v7 v8 L_count L_copiedStands L_from L_to L_forms L_costs L_copied T_cost T_priced T_settled T_quarrel T_steps T_pairs T_built T_rest T_beside T_held T_heldPrice T_ways T_early T_late y h k
      rw [l_X8_fillSteps_100] at h
      refine ri false 11 (q := v8 < L_count) (t1 := 112) (t2 := 148) rfl rfl trivial (fun c => ?_) (fun c => ?_)
      · replace h := zif1 c h
        refine ri false 12 (q := (zand (zshr v4 v8) 1) = 0) (t1 := 142) (t2 := 122) rfl rfl trivial (fun c => ?_) (fun c => ?_)
        · replace h := zif1 c h
          obtain ⟨g10_0, h⟩ := zgd h
          refine rg false 14 (t := 100) (L2 := [some (2, Int.ofNat 1), some (0, v1), some (0, v2), some (0, v3), some (0, v4), some (0, v5), none, some (0, v7), some (0, (v8 + 1))]) rfl rfl rfl g10_0 ?_
          exact ih v1 v2 v3 v4 v5 v7 (v8 + 1) L_count L_copiedStands L_from L_to L_forms L_costs L_copied T_cost T_priced T_settled T_quarrel T_steps T_pairs T_built T_rest T_beside T_held T_heldPrice T_ways T_early T_late y h k
        · replace h := zif2 c h
          obtain ⟨g11_0, h⟩ := zgd h
          refine rb false 13 (L2 := [some (2, Int.ofNat 1), some (0, v1), some (0, v2), some (0, v3), some (0, v4), some (0, v5), none, some (0, (min v7 (T_pairs (Int.toNat ((v5 * 8) + v8))))), some (0, v8)]) rfl rfl g11_0 ?_
          obtain ⟨g12_0, h⟩ := zgd h
          refine rg false 14 (t := 100) (L2 := [some (2, Int.ofNat 1), some (0, v1), some (0, v2), some (0, v3), some (0, v4), some (0, v5), none, some (0, (min v7 (T_pairs (Int.toNat ((v5 * 8) + v8))))), some (0, (v8 + 1))]) rfl rfl rfl g12_0 ?_
          exact ih v1 v2 v3 v4 v5 (min v7 (T_pairs (Int.toNat ((v5 * 8) + v8)))) (v8 + 1) L_count L_copiedStands L_from L_to L_forms L_costs L_copied T_cost T_priced T_settled T_quarrel T_steps T_pairs T_built T_rest T_beside T_held T_heldPrice T_ways T_early T_late y h k
      · replace h := zif2 c h
        refine rmk [true, true, true, true, true, false, false, true, false] (L2 := [some (2, Int.ofNat 1), some (0, v1), some (0, v2), some (0, v3), some (0, v4), none, none, some (0, v7), none]) rfl ?_
        obtain rfl := Option.some.inj h
        exact k
  have LP33 : ∀ (n : Nat) (v1 : Int) (v2 : Int) (v3 : Int) (v4 : Int) (L_count : Int) (L_copiedStands : Int) (L_from : Nat → Int) (L_to : Nat → Int) (L_forms : Nat → Int) (L_costs : Nat → Int) (L_copied : Nat → Int) (T_cost : Int) (T_priced : Int) (T_settled : Int) (T_quarrel : Int) (T_steps : Nat → Int) (T_pairs : Nat → Int) (T_built : Nat → Int) (T_rest : Nat → Int) (T_beside : Nat → Int) (T_held : Nat → Int) (T_heldPrice : Nat → Int) (T_ways : Nat → Int) (T_early : Nat → Int) (T_late : Nat → Int) (y : Nat → Int), l_X8_fillSteps_33 n v1 v2 v3 v4 L_count L_copied T_steps T_pairs = some y → S 165 [none, none, none, none, none, none, none, none, none] [] [([L_count, L_copiedStands], [L_from, L_to, L_forms, L_costs, L_copied]), ([T_cost, T_priced, T_settled, T_quarrel], [y, T_pairs, T_built, T_rest, T_beside, T_held, T_heldPrice, T_ways, T_early, T_late]), M2, M3, M4, M5, M6, M7, M8, M9, M10, M11, M12, M13] → S 33 [some (2, Int.ofNat 1), some (0, v1), some (0, v2), some (0, v3), some (0, v4), none, none, none, none] [] [([L_count, L_copiedStands], [L_from, L_to, L_forms, L_costs, L_copied]), ([T_cost, T_priced, T_settled, T_quarrel], [T_steps, T_pairs, T_built, T_rest, T_beside, T_held, T_heldPrice, T_ways, T_early, T_late]), M2, M3, M4, M5, M6, M7, M8, M9, M10, M11, M12, M13] := by
    intro n
    induction n with
    | zero =>
      intro v1 v2 v3 v4 L_count L_copiedStands L_from L_to L_forms L_costs L_copied T_cost T_priced T_settled T_quarrel T_steps T_pairs T_built T_rest T_beside T_held T_heldPrice T_ways T_early T_late y h k
      rw [l_X8_fillSteps_33] at h
      cases h
    | succ n ih =>
      intro v1 v2 v3 v4 L_count L_copiedStands L_from L_to L_forms L_costs L_copied T_cost T_priced T_settled T_quarrel T_steps T_pairs T_built T_rest T_beside T_held T_heldPrice T_ways T_early T_late y h k
      rw [l_X8_fillSteps_33] at h
      refine ri false 4 (q := v2 < v4) (t1 := 165) (t2 := 39) rfl rfl trivial (fun c => ?_) (fun c => ?_)
      · replace h := zif1 c h
        refine rmk [false, false, false, false, false, false, false, false, false] (L2 := [none, none, none, none, none, none, none, none, none]) rfl ?_
        obtain rfl := Option.some.inj h
        exact k
      · replace h := zif2 c h
        refine ri false 5 (q := (zand (zshr v4 v1) 1) = 0) (t1 := 51) (t2 := 48) rfl rfl trivial (fun c => ?_) (fun c => ?_)
        · replace h := zif1 c h
          obtain ⟨x6, hx6, h⟩ := zbd h
          refine rv false 7 1 rfl rfl trivial rfl (m_C_X8_lowestOf l ([T_cost, T_priced, T_settled, T_quarrel], [T_steps, T_pairs, T_built, T_rest, T_beside, T_held, T_heldPrice, T_ways, T_early, T_late]) M2 M3 M4 M5 M6 M7 M8 M9 M10 M11 M12 M13 v4 L_count L_copiedStands L_from L_to L_forms L_costs L_copied x6 hx6) ⟨_, _, _, _, rfl, rfl, rfl, by decide +kernel, ⟨Nat.le_of_ble_eq_true rfl, Nat.le_of_ble_eq_true rfl⟩, uGin u_15_10 u_15_11 u_15_12 u_1_15 u_15_13⟩ ⟨rfl, _, _, _, rfl, rfl⟩ ?_
          refine rb false 8 (L2 := [some (2, Int.ofNat 1), some (0, v1), some (0, v2), some (0, v3), some (0, v4), some (0, x6), some (0, (zand v4 (zxor (zshl 1 x6) (-1)))), none, none]) rfl rfl trivial ?_
          obtain ⟨g8_0, h⟩ := zgd h
          obtain ⟨x7, hx7, h⟩ := zbd h
          refine rv false 9 2 (rest := [(0, (T_steps (Int.toNat (v3 + (zand v4 (zxor (zshl 1 x6) (-1)))))))]) rfl rfl g8_0 rfl (m_C_X4_priceCopied l ([T_cost, T_priced, T_settled, T_quarrel], [T_steps, T_pairs, T_built, T_rest, T_beside, T_held, T_heldPrice, T_ways, T_early, T_late]) M2 M3 M4 M5 M6 M7 M8 M9 M10 M11 M12 M13 v1 x6 L_count L_copiedStands L_from L_to L_forms L_costs L_copied x7 hx7) ⟨_, _, _, _, rfl, rfl, rfl, by decide +kernel, ⟨Nat.le_of_ble_eq_true rfl, Nat.le_of_ble_eq_true rfl⟩, uGin u_15_14 u_12_15 u_12_16 u_3_1 u_12_17⟩ ⟨rfl, _, _, _, rfl, rfl⟩ ?_
          obtain ⟨g9_0, h⟩ := zgd h
          refine rb false 10 (L2 := [some (2, Int.ofNat 1), some (0, v1), some (0, v2), some (0, v3), some (0, v4), some (0, x6), some (0, (zand v4 (zxor (zshl 1 x6) (-1)))), some (0, (min (T_steps (Int.toNat (v3 + (zand v4 (zxor (zshl 1 x6) (-1)))))) x7)), some (0, (x6 + 1))]) rfl rfl g9_0 ?_
          refine rmk [true, true, true, true, true, true, false, true, true] (L2 := [some (2, Int.ofNat 1), some (0, v1), some (0, v2), some (0, v3), some (0, v4), some (0, x6), none, some (0, (min (T_steps (Int.toNat (v3 + (zand v4 (zxor (zshl 1 x6) (-1)))))) x7)), some (0, (x6 + 1))]) rfl ?_
          obtain ⟨x13, hx13, h⟩ := zbd h
          refine LP100 zN v1 v2 v3 v4 x6 (min (T_steps (Int.toNat (v3 + (zand v4 (zxor (zshl 1 x6) (-1)))))) x7) (x6 + 1) L_count L_copiedStands L_from L_to L_forms L_costs L_copied T_cost T_priced T_settled T_quarrel T_steps T_pairs T_built T_rest T_beside T_held T_heldPrice T_ways T_early T_late x13 hx13 ?_
          obtain ⟨g14_0, h⟩ := zgd h
          refine rb false 15 (σ2 := [([L_count, L_copiedStands], [L_from, L_to, L_forms, L_costs, L_copied]), ([T_cost, T_priced, T_settled, T_quarrel], [(zu T_steps (Int.toNat (v3 + v4)) x13), T_pairs, T_built, T_rest, T_beside, T_held, T_heldPrice, T_ways, T_early, T_late]), M2, M3, M4, M5, M6, M7, M8, M9, M10, M11, M12, M13]) rfl rfl g14_0 ?_
          obtain ⟨g15_0, h⟩ := zgd h
          refine rg false 16 (t := 33) (L2 := [some (2, Int.ofNat 1), some (0, v1), some (0, v2), some (0, v3), some (0, (v4 + 1)), none, none, some (0, x13), none]) rfl rfl rfl g15_0 ?_
          refine rmk [true, true, true, true, true, false, false, false, false] (L2 := [some (2, Int.ofNat 1), some (0, v1), some (0, v2), some (0, v3), some (0, (v4 + 1)), none, none, none, none]) rfl ?_
          exact ih v1 v2 v3 (v4 + 1) L_count L_copiedStands L_from L_to L_forms L_costs L_copied T_cost T_priced T_settled T_quarrel (zu T_steps (Int.toNat (v3 + v4)) x13) T_pairs T_built T_rest T_beside T_held T_heldPrice T_ways T_early T_late y h k
        · replace h := zif2 c h
          refine rg false 6 (t := 159) rfl rfl rfl trivial ?_
          obtain ⟨g16_0, h⟩ := zgd h
          refine rg false 16 (t := 33) (L2 := [some (2, Int.ofNat 1), some (0, v1), some (0, v2), some (0, v3), some (0, (v4 + 1)), none, none, none, none]) rfl rfl rfl g16_0 ?_
          exact ih v1 v2 v3 (v4 + 1) L_count L_copiedStands L_from L_to L_forms L_costs L_copied T_cost T_priced T_settled T_quarrel T_steps T_pairs T_built T_rest T_beside T_held T_heldPrice T_ways T_early T_late y h k
  unfold f_X8_fillSteps at h
  obtain ⟨x1, hx1, h⟩ := zbd h
  refine rv false 0 1 rfl rfl trivial rfl (m_C_X8_fillPairs l M2 M3 M4 M5 M6 M7 M8 M9 M10 M11 M12 M13 p1 L_count L_copiedStands L_from L_to L_forms L_costs L_copied T_cost T_priced T_settled T_quarrel T_steps T_pairs T_built T_rest T_beside T_held T_heldPrice T_ways T_early T_late x1 hx1) ⟨_, _, _, _, rfl, rfl, rfl, by decide +kernel, ⟨Nat.le_of_ble_eq_true rfl, Nat.le_of_ble_eq_true rfl⟩, uGin u_14_23 u_15_0 u_15_1 u_1_15 u_15_2⟩ ⟨rfl, _, _, _, rfl, rfl⟩ ?_
  obtain ⟨x2, hx2, h⟩ := zbd h
  refine rv false 1 0 rfl rfl trivial rfl (m_C_X8_everyone l ([T_cost, T_priced, T_settled, T_quarrel], [T_steps, x1, T_built, T_rest, T_beside, T_held, T_heldPrice, T_ways, T_early, T_late]) M2 M3 M4 M5 M6 M7 M8 M9 M10 M11 M12 M13 L_count L_copiedStands L_from L_to L_forms L_costs L_copied x2 hx2) ⟨_, _, _, _, rfl, rfl, rfl, by decide +kernel, ⟨Nat.le_of_ble_eq_true rfl, Nat.le_of_ble_eq_true rfl⟩, uGin u_15_5 u_15_6 u_15_7 u_1_15 u_15_8⟩ ⟨rfl, _, _, _, rfl, rfl⟩ ?_
  obtain ⟨g4_0, h⟩ := zgd h
  obtain ⟨x3, hx3, h⟩ := zbd h
  refine rv false 2 1 (L2 := [some (2, Int.ofNat 1), some (0, p1), some (0, x2), some (0, (p1 * 256)), none, none, none, none, none]) (rest := [(0, (p1 * 256)), (2, Int.ofNat 8)]) rfl rfl g4_0 rfl (m_C_X4_priceFirst l ([T_cost, T_priced, T_settled, T_quarrel], [T_steps, x1, T_built, T_rest, T_beside, T_held, T_heldPrice, T_ways, T_early, T_late]) M2 M3 M4 M5 M6 M7 M8 M9 M10 M11 M12 M13 p1 L_count L_copiedStands L_from L_to L_forms L_costs L_copied x3 hx3) ⟨_, _, _, _, rfl, rfl, rfl, by decide +kernel, ⟨Nat.le_of_ble_eq_true rfl, Nat.le_of_ble_eq_true rfl⟩, uGin u_15_9 u_12_11 u_12_12 u_3_1 u_12_13⟩ ⟨rfl, _, _, _, rfl, rfl⟩ ?_
  obtain ⟨g5_0, h⟩ := zgd h
  refine rb false 3 (L2 := [some (2, Int.ofNat 1), some (0, p1), some (0, x2), some (0, (p1 * 256)), some (0, 1), none, none, none, none]) (σ2 := [([L_count, L_copiedStands], [L_from, L_to, L_forms, L_costs, L_copied]), ([T_cost, T_priced, T_settled, T_quarrel], [(zu T_steps (Int.toNat (p1 * 256)) x3), x1, T_built, T_rest, T_beside, T_held, T_heldPrice, T_ways, T_early, T_late]), M2, M3, M4, M5, M6, M7, M8, M9, M10, M11, M12, M13]) rfl rfl g5_0 ?_
  obtain ⟨x17, hx17, h⟩ := zbd h
  refine LP33 zN p1 x2 (p1 * 256) 1 L_count L_copiedStands L_from L_to L_forms L_costs L_copied T_cost T_priced T_settled T_quarrel (zu T_steps (Int.toNat (p1 * 256)) x3) x1 T_built T_rest T_beside T_held T_heldPrice T_ways T_early T_late x17 hx17 ?_
  obtain rfl := Option.some.inj h
  exact r0 false 17 rfl rfl rfl rfl trivial
def bX8_freeAll : zB := [(0, [(.iconst 0, 1), (.istore_n 1, 1)], 2, .nop, 0), (2, [(.iload_n 1, 1), (.aload_n 0, 1), (.getfield 34, 3), (.arraylength, 1)], 8, .if_icmp .ge 16, 3), (11, [(.aload_n 0, 1), (.getfield 34, 3), (.iload_n 1, 1), (.iconst (-1), 1), (.iastore, 1), (.iinc 1 1, 3)], 21, .goto (-19), 3), (24, [], 24, .return_, 1)]
theorem bX8_freeAll_ok : zBok cX8_freeAll 2 bX8_freeAll = true := by decide +kernel
abbrev wX8_freeAll : List Cond := Cond.code yX8_freeAll cX8_freeAll 2 none :: uU
def rX8_freeAll : Room := { frames := 0, cells := 0, slots := 0, locals := 0 }
set_option maxRecDepth 20000 in
set_option maxHeartbeats 4000000 in
theorem m_C_X8_freeAll (l : Launch) (M0 : zM) (M2 : zM) (M3 : zM) (M4 : zM) (M5 : zM) (M6 : zM) (M7 : zM) (M8 : zM) (M9 : zM) (M10 : zM) (M11 : zM) (M12 : zM) (M13 : zM) (T_cost : Int) (T_priced : Int) (T_settled : Int) (T_quarrel : Int) (T_steps : Nat → Int) (T_pairs : Nat → Int) (T_built : Nat → Int) (T_rest : Nat → Int) (T_beside : Nat → Int) (T_held : Nat → Int) (T_heldPrice : Nat → Int) (T_ways : Nat → Int) (T_early : Nat → Int) (T_late : Nat → Int) (x : Nat → Int) (h : f_X8_freeAll T_held = some x) : zD l yX8_freeAll wX8_freeAll rX8_freeAll lamC shpC [(2, Int.ofNat 1)] [M0, ([T_cost, T_priced, T_settled, T_quarrel], [T_steps, T_pairs, T_built, T_rest, T_beside, T_held, T_heldPrice, T_ways, T_early, T_late]), M2, M3, M4, M5, M6, M7, M8, M9, M10, M11, M12, M13] (none) [M0, ([T_cost, T_priced, T_settled, T_quarrel], [T_steps, T_pairs, T_built, T_rest, T_beside, x, T_heldPrice, T_ways, T_early, T_late]), M2, M3, M4, M5, M6, M7, M8, M9, M10, M11, M12, M13] := by
  refine zD_of (B := bX8_freeAll) (E := eX8n) (by decide) rfl lokC (eX8n_ok _) bX8_freeAll_ok (Or.inl rfl) rfl (fun S R => ?_)
  obtain ⟨rb, rg, ri, rv, rs, r0, r1, r2, r3, rt, rmk⟩ := R
  show S 0 [some (2, Int.ofNat 1), none] [] [M0, ([T_cost, T_priced, T_settled, T_quarrel], [T_steps, T_pairs, T_built, T_rest, T_beside, T_held, T_heldPrice, T_ways, T_early, T_late]), M2, M3, M4, M5, M6, M7, M8, M9, M10, M11, M12, M13]
  have LP2 : ∀ (n : Nat) (v1 : Int) (T_cost : Int) (T_priced : Int) (T_settled : Int) (T_quarrel : Int) (T_steps : Nat → Int) (T_pairs : Nat → Int) (T_built : Nat → Int) (T_rest : Nat → Int) (T_beside : Nat → Int) (T_held : Nat → Int) (T_heldPrice : Nat → Int) (T_ways : Nat → Int) (T_early : Nat → Int) (T_late : Nat → Int) (y : Nat → Int), l_X8_freeAll_2 n v1 T_held = some y → S 24 [none, none] [] [M0, ([T_cost, T_priced, T_settled, T_quarrel], [T_steps, T_pairs, T_built, T_rest, T_beside, y, T_heldPrice, T_ways, T_early, T_late]), M2, M3, M4, M5, M6, M7, M8, M9, M10, M11, M12, M13] → S 2 [some (2, Int.ofNat 1), some (0, v1)] [] [M0, ([T_cost, T_priced, T_settled, T_quarrel], [T_steps, T_pairs, T_built, T_rest, T_beside, T_held, T_heldPrice, T_ways, T_early, T_late]), M2, M3, M4, M5, M6, M7, M8, M9, M10, M11, M12, M13] := by
    intro n
    induction n with
    | zero =>
      intro v1 T_cost T_priced T_settled T_quarrel T_steps T_pairs T_built T_rest T_beside T_held T_heldPrice T_ways T_early T_late y h k
      rw [l_X8_freeAll_2] at h
      cases h
    | succ n ih =>
      intro v1 T_cost T_priced T_settled T_quarrel T_steps T_pairs T_built T_rest T_beside T_held T_heldPrice T_ways T_early T_late y h k
      rw [l_X8_freeAll_2] at h
      refine ri false 1 (q := v1 < (Int.ofNat 8)) (t1 := 11) (t2 := 24) rfl rfl trivial (fun c => ?_) (fun c => ?_)
      · replace h := zif1 c h
        obtain ⟨⟨g1_0, g1_1⟩, h⟩ := zgd h
        refine rg false 2 (t := 2) (L2 := [some (2, Int.ofNat 1), some (0, (v1 + 1))]) (σ2 := [M0, ([T_cost, T_priced, T_settled, T_quarrel], [T_steps, T_pairs, T_built, T_rest, T_beside, (zu T_held (Int.toNat v1) (-1)), T_heldPrice, T_ways, T_early, T_late]), M2, M3, M4, M5, M6, M7, M8, M9, M10, M11, M12, M13]) rfl rfl rfl (And.intro g1_0 g1_1) ?_
        exact ih (v1 + 1) T_cost T_priced T_settled T_quarrel T_steps T_pairs T_built T_rest T_beside (zu T_held (Int.toNat v1) (-1)) T_heldPrice T_ways T_early T_late y h k
      · replace h := zif2 c h
        refine rmk [false, false] (L2 := [none, none]) rfl ?_
        obtain rfl := Option.some.inj h
        exact k
  unfold f_X8_freeAll at h
  refine rb false 0 (L2 := [some (2, Int.ofNat 1), some (0, 0)]) rfl rfl trivial ?_
  obtain ⟨x2, hx2, h⟩ := zbd h
  refine LP2 zN 0 T_cost T_priced T_settled T_quarrel T_steps T_pairs T_built T_rest T_beside T_held T_heldPrice T_ways T_early T_late x2 hx2 ?_
  obtain rfl := Option.some.inj h
  exact r0 false 3 rfl rfl rfl rfl trivial
def bX8_stepBehind : zB := [(0, [(.aload_n 0, 1), (.getfield 34, 3), (.iload_n 1, 1), (.iaload, 1), (.iconst (-1), 1)], 7, .if_icmp .ne 16, 3), (10, [(.aload_n 0, 1), (.getfield 18, 3), (.iload_n 1, 1), (.sipush 256, 3), (.imul, 1), (.iload_n 2, 1), (.iadd, 1), (.iaload, 1)], 22, .ireturn, 1), (23, [(.aload_n 0, 1), (.getfield 34, 3), (.iload_n 1, 1), (.iaload, 1), (.iload_n 2, 1), (.iand, 1), (.aload_n 0, 1), (.getfield 34, 3), (.iload_n 1, 1), (.iaload, 1)], 37, .if_icmp .ne 12, 3), (40, [(.aload_n 0, 1), (.getfield 37, 3), (.iload_n 1, 1), (.iaload, 1)], 46, .goto 5, 3), (49, [(.ldc 115, 2)], 51, .nop, 0), (51, [], 51, .ireturn, 1)]
theorem bX8_stepBehind_ok : zBok cX8_stepBehind 3 bX8_stepBehind = true := by decide +kernel
abbrev wX8_stepBehind : List Cond := Cond.code yX8_stepBehind cX8_stepBehind 3 (some .int) :: uU
def rX8_stepBehind : Room := { frames := 0, cells := 0, slots := 0, locals := 0 }
set_option maxRecDepth 20000 in
set_option maxHeartbeats 4000000 in
theorem m_C_X8_stepBehind (l : Launch) (M0 : zM) (M2 : zM) (M3 : zM) (M4 : zM) (M5 : zM) (M6 : zM) (M7 : zM) (M8 : zM) (M9 : zM) (M10 : zM) (M11 : zM) (M12 : zM) (M13 : zM) (p1 : Int) (p2 : Int) (T_cost : Int) (T_priced : Int) (T_settled : Int) (T_quarrel : Int) (T_steps : Nat → Int) (T_pairs : Nat → Int) (T_built : Nat → Int) (T_rest : Nat → Int) (T_beside : Nat → Int) (T_held : Nat → Int) (T_heldPrice : Nat → Int) (T_ways : Nat → Int) (T_early : Nat → Int) (T_late : Nat → Int) (x : Int) (h : f_X8_stepBehind p1 p2 T_steps T_held T_heldPrice = some x) : zD l yX8_stepBehind wX8_stepBehind rX8_stepBehind lamC shpC [(2, Int.ofNat 1), (0, p1), (0, p2)] [M0, ([T_cost, T_priced, T_settled, T_quarrel], [T_steps, T_pairs, T_built, T_rest, T_beside, T_held, T_heldPrice, T_ways, T_early, T_late]), M2, M3, M4, M5, M6, M7, M8, M9, M10, M11, M12, M13] (some (0, x)) [M0, ([T_cost, T_priced, T_settled, T_quarrel], [T_steps, T_pairs, T_built, T_rest, T_beside, T_held, T_heldPrice, T_ways, T_early, T_late]), M2, M3, M4, M5, M6, M7, M8, M9, M10, M11, M12, M13] := by
  refine zD_of (B := bX8_stepBehind) (E := eX8n) (by decide) rfl lokC (eX8n_ok _) bX8_stepBehind_ok (Or.inl rfl) rfl (fun S R => ?_)
  obtain ⟨rb, rg, ri, rv, rs, r0, r1, r2, r3, rt, rmk⟩ := R
  show S 0 [some (2, Int.ofNat 1), some (0, p1), some (0, p2)] [] [M0, ([T_cost, T_priced, T_settled, T_quarrel], [T_steps, T_pairs, T_built, T_rest, T_beside, T_held, T_heldPrice, T_ways, T_early, T_late]), M2, M3, M4, M5, M6, M7, M8, M9, M10, M11, M12, M13]
  unfold f_X8_stepBehind at h
  obtain ⟨g1_0, h⟩ := zgd h
  refine ri false 0 (q := (T_held (Int.toNat p1)) = (-1)) (t1 := 10) (t2 := 23) rfl rfl g1_0 (fun c => ?_) (fun c => ?_)
  · replace h := zif1 c h
    obtain ⟨g2_0, h⟩ := zgd h
    obtain rfl := Option.some.inj h
    exact r1 false 1 rfl rfl rfl rfl rfl rfl g2_0
  · replace h := zif2 c h
    obtain ⟨⟨g3_0, g3_1⟩, h⟩ := zgd h
    refine ri false 2 (q := (zand (T_held (Int.toNat p1)) p2) = (T_held (Int.toNat p1))) (t1 := 40) (t2 := 49) rfl rfl (And.intro g3_0 g3_1) (fun c => ?_) (fun c => ?_)
    · replace h := zif1 c h
      obtain ⟨g4_0, h⟩ := zgd h
      refine rg false 3 (t := 51) (st2 := [(0, (T_heldPrice (Int.toNat p1)))]) rfl rfl rfl g4_0 ?_
      obtain rfl := Option.some.inj h
      exact r1 false 5 rfl rfl rfl rfl rfl rfl trivial
    · replace h := zif2 c h
      refine rb false 4 (st2 := [(0, 1048576)]) rfl rfl trivial ?_
      obtain rfl := Option.some.inj h
      exact r1 false 5 rfl rfl rfl rfl rfl rfl trivial
def bX8_fillBuilt : zB := [(0, [(.aload_n 0, 1)], 1, .invokevirtual 73, 3), (4, [(.istore_n 1, 1), (.aload_n 0, 1), (.getfield 25, 3), (.iconst 0, 1), (.iconst 0, 1), (.iastore, 1), (.iconst 1, 1), (.istore_n 2, 1)], 14, .nop, 0), (14, [(.iload_n 2, 1), (.iload_n 1, 1)], 16, .if_icmp .gt 78, 3), (19, [(.ldc 115, 2), (.istore_n 3, 1), (.iconst 0, 1), (.istore 4, 2)], 25, .nop, 0), (25, [(.iload 4, 2), (.aload_n 0, 1), (.getfield 12, 3), (.getfield 59, 3)], 34, .if_icmp .ge 47, 3), (37, [(.iload_n 2, 1), (.iload 4, 2), (.ishr, 1), (.iconst 1, 1), (.iand, 1)], 43, .ifCond .eq 32, 3), (46, [(.iload_n 2, 1), (.iconst 1, 1), (.iload 4, 2), (.ishl, 1), (.ixor, 1), (.istore 5, 2), (.iload_n 3, 1), (.aload_n 0, 1), (.getfield 25, 3), (.iload 5, 2), (.iaload, 1), (.aload_n 0, 1), (.iload 4, 2), (.iload 5, 2)], 67, .invokevirtual 120, 3), (70, [(.iadd, 1), (.invokestatic 110, 3), (.istore_n 3, 1)], 75, .nop, 0), (75, [(.iinc 4 1, 3)], 78, .goto (-53), 3), (81, [(.aload_n 0, 1), (.getfield 25, 3), (.iload_n 2, 1), (.iload_n 3, 1), (.iastore, 1), (.iinc 2 1, 3)], 91, .goto (-77), 3), (94, [], 94, .return_, 1)]
theorem bX8_fillBuilt_ok : zBok cX8_fillBuilt 6 bX8_fillBuilt = true := by decide +kernel
abbrev wX8_fillBuilt : List Cond := Cond.code yX8_fillBuilt cX8_fillBuilt 6 none :: uU
def rX8_fillBuilt : Room := { frames := 1, cells := 0, slots := 0, locals := 22 }
set_option maxRecDepth 20000 in
set_option maxHeartbeats 4000000 in
theorem m_C_X8_fillBuilt (l : Launch) (M2 : zM) (M3 : zM) (M4 : zM) (M5 : zM) (M6 : zM) (M7 : zM) (M8 : zM) (M9 : zM) (M10 : zM) (M11 : zM) (M12 : zM) (M13 : zM) (L_count : Int) (L_copiedStands : Int) (L_from : Nat → Int) (L_to : Nat → Int) (L_forms : Nat → Int) (L_costs : Nat → Int) (L_copied : Nat → Int) (T_cost : Int) (T_priced : Int) (T_settled : Int) (T_quarrel : Int) (T_steps : Nat → Int) (T_pairs : Nat → Int) (T_built : Nat → Int) (T_rest : Nat → Int) (T_beside : Nat → Int) (T_held : Nat → Int) (T_heldPrice : Nat → Int) (T_ways : Nat → Int) (T_early : Nat → Int) (T_late : Nat → Int) (x : Nat → Int) (h : f_X8_fillBuilt L_count T_steps T_built T_held T_heldPrice = some x) : zD l yX8_fillBuilt wX8_fillBuilt rX8_fillBuilt lamC shpC [(2, Int.ofNat 1)] [([L_count, L_copiedStands], [L_from, L_to, L_forms, L_costs, L_copied]), ([T_cost, T_priced, T_settled, T_quarrel], [T_steps, T_pairs, T_built, T_rest, T_beside, T_held, T_heldPrice, T_ways, T_early, T_late]), M2, M3, M4, M5, M6, M7, M8, M9, M10, M11, M12, M13] (none) [([L_count, L_copiedStands], [L_from, L_to, L_forms, L_costs, L_copied]), ([T_cost, T_priced, T_settled, T_quarrel], [T_steps, T_pairs, x, T_rest, T_beside, T_held, T_heldPrice, T_ways, T_early, T_late]), M2, M3, M4, M5, M6, M7, M8, M9, M10, M11, M12, M13] := by
  refine zD_of (B := bX8_fillBuilt) (E := eX8) (by decide) rfl lokC (eX8_ok _) bX8_fillBuilt_ok (Or.inr ⟨Nat.le_of_ble_eq_true rfl, Nat.le_of_ble_eq_true rfl⟩) rfl (fun S R => ?_)
  obtain ⟨rb, rg, ri, rv, rs, r0, r1, r2, r3, rt, rmk⟩ := R
  show S 0 [some (2, Int.ofNat 1), none, none, none, none, none] [] [([L_count, L_copiedStands], [L_from, L_to, L_forms, L_costs, L_copied]), ([T_cost, T_priced, T_settled, T_quarrel], [T_steps, T_pairs, T_built, T_rest, T_beside, T_held, T_heldPrice, T_ways, T_early, T_late]), M2, M3, M4, M5, M6, M7, M8, M9, M10, M11, M12, M13]
  have LP25 : ∀ (n : Nat) (v1 : Int) (v2 : Int) (v3 : Int) (v4 : Int) (L_count : Int) (L_copiedStands : Int) (L_from : Nat → Int) (L_to : Nat → Int) (L_forms : Nat → Int) (L_costs : Nat → Int) (L_copied : Nat → Int) (T_cost : Int) (T_priced : Int) (T_settled : Int) (T_quarrel : Int) (T_steps : Nat → Int) (T_pairs : Nat → Int) (T_built : Nat → Int) (T_rest : Nat → Int) (T_beside : Nat → Int) (T_held : Nat → Int) (T_heldPrice : Nat → Int) (T_ways : Nat → Int) (T_early : Nat → Int) (T_late : Nat → Int) (y : Int), l_X8_fillBuilt_25 n v1 v2 v3 v4 L_count T_steps T_built T_held T_heldPrice = some y → S 81 [some (2, Int.ofNat 1), some (0, v1), some (0, v2), some (0, y), none, none] [] [([L_count, L_copiedStands], [L_from, L_to, L_forms, L_costs, L_copied]), ([T_cost, T_priced, T_settled, T_quarrel], [T_steps, T_pairs, T_built, T_rest, T_beside, T_held, T_heldPrice, T_ways, T_early, T_late]), M2, M3, M4, M5, M6, M7, M8, M9, M10, M11, M12, M13] → S 25 [some (2, Int.ofNat 1), some (0, v1), some (0, v2), some (0, v3), some (0, v4), none] [] [([L_count, L_copiedStands], [L_from, L_to, L_forms, L_costs, L_copied]), ([T_cost, T_priced, T_settled, T_quarrel], [T_steps, T_pairs, T_built, T_rest, T_beside, T_held, T_heldPrice, T_ways, T_early, T_late]), M2, M3, M4, M5, M6, M7, M8, M9, M10, M11, M12, M13] := by
    intro n
    induction n with
    | zero =>
      intro v1 v2 v3 v4 L_count L_copiedStands L_from L_to L_forms L_costs L_copied T_cost T_priced T_settled T_quarrel T_steps T_pairs T_built T_rest T_beside T_held T_heldPrice T_ways T_early T_late y h k
      rw [l_X8_fillBuilt_25] at h
      cases h
    | succ n ih =>
      intro v1 v2 v3 v4 L_count L_copiedStands L_from L_to L_forms L_costs L_copied T_cost T_priced T_settled T_quarrel T_steps T_pairs T_built T_rest T_beside T_held T_heldPrice T_ways T_early T_late y h k
      rw [l_X8_fillBuilt_25] at h
      refine ri false 4 (q := v4 < L_count) (t1 := 37) (t2 := 81) rfl rfl trivial (fun c => ?_) (fun c => ?_)
      · replace h := zif1 c h
        refine ri false 5 (q := (zand (zshr v2 v4) 1) = 0) (t1 := 75) (t2 := 46) rfl rfl trivial (fun c => ?_) (fun c => ?_)
        · replace h := zif1 c h
          obtain ⟨g2_0, h⟩ := zgd h
          refine rg false 8 (t := 25) (L2 := [some (2, Int.ofNat 1), some (0, v1), some (0, v2), some (0, v3), some (0, (v4 + 1)), none]) rfl rfl rfl g2_0 ?_
          exact ih v1 v2 v3 (v4 + 1) L_count L_copiedStands L_from L_to L_forms L_costs L_copied T_cost T_priced T_settled T_quarrel T_steps T_pairs T_built T_rest T_beside T_held T_heldPrice T_ways T_early T_late y h k
        · replace h := zif2 c h
          obtain ⟨g4_0, h⟩ := zgd h
          obtain ⟨x3, hx3, h⟩ := zbd h
          refine rv false 6 2 (L2 := [some (2, Int.ofNat 1), some (0, v1), some (0, v2), some (0, v3), some (0, v4), some (0, (zxor v2 (zshl 1 v4)))]) (rest := [(0, (T_built (Int.toNat (zxor v2 (zshl 1 v4))))), (0, v3)]) rfl rfl g4_0 rfl (m_C_X8_stepBehind l ([L_count, L_copiedStands], [L_from, L_to, L_forms, L_costs, L_copied]) M2 M3 M4 M5 M6 M7 M8 M9 M10 M11 M12 M13 v4 (zxor v2 (zshl 1 v4)) T_cost T_priced T_settled T_quarrel T_steps T_pairs T_built T_rest T_beside T_held T_heldPrice T_ways T_early T_late x3 hx3) ⟨_, _, _, _, rfl, rfl, rfl, by decide +kernel, ⟨Nat.le_of_ble_eq_true rfl, Nat.le_of_ble_eq_true rfl⟩, uGin u_15_23 u_16_0 u_16_1 u_1_15 u_16_2⟩ ⟨rfl, _, _, _, rfl, rfl⟩ ?_
          obtain ⟨g5_0, h⟩ := zgd h
          refine rb false 7 (L2 := [some (2, Int.ofNat 1), some (0, v1), some (0, v2), some (0, (min v3 ((T_built (Int.toNat (zxor v2 (zshl 1 v4)))) + x3))), some (0, v4), some (0, (zxor v2 (zshl 1 v4)))]) rfl rfl g5_0 ?_
          obtain ⟨g6_0, h⟩ := zgd h
          refine rg false 8 (t := 25) (L2 := [some (2, Int.ofNat 1), some (0, v1), some (0, v2), some (0, (min v3 ((T_built (Int.toNat (zxor v2 (zshl 1 v4)))) + x3))), some (0, (v4 + 1)), some (0, (zxor v2 (zshl 1 v4)))]) rfl rfl rfl g6_0 ?_
          refine rmk [true, true, true, true, true, false] (L2 := [some (2, Int.ofNat 1), some (0, v1), some (0, v2), some (0, (min v3 ((T_built (Int.toNat (zxor v2 (zshl 1 v4)))) + x3))), some (0, (v4 + 1)), none]) rfl ?_
          exact ih v1 v2 (min v3 ((T_built (Int.toNat (zxor v2 (zshl 1 v4)))) + x3)) (v4 + 1) L_count L_copiedStands L_from L_to L_forms L_costs L_copied T_cost T_priced T_settled T_quarrel T_steps T_pairs T_built T_rest T_beside T_held T_heldPrice T_ways T_early T_late y h k
      · replace h := zif2 c h
        refine rmk [true, true, true, true, false, false] (L2 := [some (2, Int.ofNat 1), some (0, v1), some (0, v2), some (0, v3), none, none]) rfl ?_
        obtain rfl := Option.some.inj h
        exact k
  have LP14 : ∀ (n : Nat) (v1 : Int) (v2 : Int) (L_count : Int) (L_copiedStands : Int) (L_from : Nat → Int) (L_to : Nat → Int) (L_forms : Nat → Int) (L_costs : Nat → Int) (L_copied : Nat → Int) (T_cost : Int) (T_priced : Int) (T_settled : Int) (T_quarrel : Int) (T_steps : Nat → Int) (T_pairs : Nat → Int) (T_built : Nat → Int) (T_rest : Nat → Int) (T_beside : Nat → Int) (T_held : Nat → Int) (T_heldPrice : Nat → Int) (T_ways : Nat → Int) (T_early : Nat → Int) (T_late : Nat → Int) (y : Nat → Int), l_X8_fillBuilt_14 n v1 v2 L_count T_steps T_built T_held T_heldPrice = some y → S 94 [none, none, none, none, none, none] [] [([L_count, L_copiedStands], [L_from, L_to, L_forms, L_costs, L_copied]), ([T_cost, T_priced, T_settled, T_quarrel], [T_steps, T_pairs, y, T_rest, T_beside, T_held, T_heldPrice, T_ways, T_early, T_late]), M2, M3, M4, M5, M6, M7, M8, M9, M10, M11, M12, M13] → S 14 [some (2, Int.ofNat 1), some (0, v1), some (0, v2), none, none, none] [] [([L_count, L_copiedStands], [L_from, L_to, L_forms, L_costs, L_copied]), ([T_cost, T_priced, T_settled, T_quarrel], [T_steps, T_pairs, T_built, T_rest, T_beside, T_held, T_heldPrice, T_ways, T_early, T_late]), M2, M3, M4, M5, M6, M7, M8, M9, M10, M11, M12, M13] := by
    intro n
    induction n with
    | zero =>
      intro v1 v2 L_count L_copiedStands L_from L_to L_forms L_costs L_copied T_cost T_priced T_settled T_quarrel T_steps T_pairs T_built T_rest T_beside T_held T_heldPrice T_ways T_early T_late y h k
      rw [l_X8_fillBuilt_14] at h
      cases h
    | succ n ih =>
      intro v1 v2 L_count L_copiedStands L_from L_to L_forms L_costs L_copied T_cost T_priced T_settled T_quarrel T_steps T_pairs T_built T_rest T_beside T_held T_heldPrice T_ways T_early T_late y h k
      rw [l_X8_fillBuilt_14] at h
      refine ri false 2 (q := v1 < v2) (t1 := 94) (t2 := 19) rfl rfl trivial (fun c => ?_) (fun c => ?_)
      · replace h := zif1 c h
        refine rmk [false, false, false, false, false, false] (L2 := [none, none, none, none, none, none]) rfl ?_
        obtain rfl := Option.some.inj h
        exact k
      · replace h := zif2 c h
        refine rb false 3 (L2 := [some (2, Int.ofNat 1), some (0, v1), some (0, v2), some (0, 1048576), some (0, 0), none]) rfl rfl trivial ?_
        obtain ⟨x7, hx7, h⟩ := zbd h
        refine LP25 zN v1 v2 1048576 0 L_count L_copiedStands L_from L_to L_forms L_costs L_copied T_cost T_priced T_settled T_quarrel T_steps T_pairs T_built T_rest T_beside T_held T_heldPrice T_ways T_early T_late x7 hx7 ?_
        obtain ⟨⟨g8_0, g8_1⟩, h⟩ := zgd h
        refine rg false 9 (t := 14) (L2 := [some (2, Int.ofNat 1), some (0, v1), some (0, (v2 + 1)), some (0, x7), none, none]) (σ2 := [([L_count, L_copiedStands], [L_from, L_to, L_forms, L_costs, L_copied]), ([T_cost, T_priced, T_settled, T_quarrel], [T_steps, T_pairs, (zu T_built (Int.toNat v2) x7), T_rest, T_beside, T_held, T_heldPrice, T_ways, T_early, T_late]), M2, M3, M4, M5, M6, M7, M8, M9, M10, M11, M12, M13]) rfl rfl rfl (And.intro g8_0 g8_1) ?_
        refine rmk [true, true, true, false, false, false] (L2 := [some (2, Int.ofNat 1), some (0, v1), some (0, (v2 + 1)), none, none, none]) rfl ?_
        exact ih v1 (v2 + 1) L_count L_copiedStands L_from L_to L_forms L_costs L_copied T_cost T_priced T_settled T_quarrel T_steps T_pairs (zu T_built (Int.toNat v2) x7) T_rest T_beside T_held T_heldPrice T_ways T_early T_late y h k
  unfold f_X8_fillBuilt at h
  obtain ⟨x1, hx1, h⟩ := zbd h
  refine rv false 0 0 rfl rfl trivial rfl (m_C_X8_everyone l ([T_cost, T_priced, T_settled, T_quarrel], [T_steps, T_pairs, T_built, T_rest, T_beside, T_held, T_heldPrice, T_ways, T_early, T_late]) M2 M3 M4 M5 M6 M7 M8 M9 M10 M11 M12 M13 L_count L_copiedStands L_from L_to L_forms L_costs L_copied x1 hx1) ⟨_, _, _, _, rfl, rfl, rfl, by decide +kernel, ⟨Nat.le_of_ble_eq_true rfl, Nat.le_of_ble_eq_true rfl⟩, uGin u_15_5 u_15_6 u_15_7 u_1_15 u_15_8⟩ ⟨rfl, _, _, _, rfl, rfl⟩ ?_
  refine rb false 1 (L2 := [some (2, Int.ofNat 1), some (0, x1), some (0, 1), none, none, none]) (σ2 := [([L_count, L_copiedStands], [L_from, L_to, L_forms, L_costs, L_copied]), ([T_cost, T_priced, T_settled, T_quarrel], [T_steps, T_pairs, (zu T_built (Int.toNat 0) 0), T_rest, T_beside, T_held, T_heldPrice, T_ways, T_early, T_late]), M2, M3, M4, M5, M6, M7, M8, M9, M10, M11, M12, M13]) rfl rfl (show zin 0 256 by decide) ?_
  obtain ⟨x9, hx9, h⟩ := zbd h
  refine LP14 zN x1 1 L_count L_copiedStands L_from L_to L_forms L_costs L_copied T_cost T_priced T_settled T_quarrel T_steps T_pairs (zu T_built (Int.toNat 0) 0) T_rest T_beside T_held T_heldPrice T_ways T_early T_late x9 hx9 ?_
  obtain rfl := Option.some.inj h
  exact r0 false 10 rfl rfl rfl rfl trivial
def bX8_leastCost : zB := [(0, [(.aload_n 0, 1), (.getfield 49, 3)], 4, .ifCond .ne 60, 3), (7, [(.aload_n 0, 1), (.getfield 12, 3)], 11, .invokevirtual 56, 3), (14, [(.iconst 0, 1), (.istore_n 1, 1)], 16, .nop, 0), (16, [(.iload_n 1, 1), (.aload_n 0, 1), (.getfield 12, 3), (.getfield 59, 3)], 24, .if_icmp .ge 14, 3), (27, [(.aload_n 0, 1), (.iload_n 1, 1)], 29, .invokevirtual 63, 3), (32, [(.iinc 1 1, 3)], 35, .goto (-19), 3), (38, [(.aload_n 0, 1)], 39, .invokevirtual 67, 3), (42, [(.aload_n 0, 1)], 43, .invokevirtual 70, 3), (46, [(.aload_n 0, 1), (.aload_n 0, 1), (.getfield 25, 3), (.aload_n 0, 1)], 52, .invokevirtual 73, 3), (55, [(.iaload, 1), (.putfield 77, 3), (.aload_n 0, 1), (.iconst 1, 1), (.putfield 49, 3)], 64, .nop, 0), (64, [(.aload_n 0, 1), (.getfield 77, 3)], 68, .ireturn, 1)]
theorem bX8_leastCost_ok : zBok cX8_leastCost 2 bX8_leastCost = true := by decide +kernel
abbrev wX8_leastCost : List Cond := Cond.code yX8_leastCost cX8_leastCost 2 (some .int) :: uU
def rX8_leastCost : Room := { frames := 3, cells := 0, slots := 0, locals := 79 }
set_option maxRecDepth 20000 in
set_option maxHeartbeats 4000000 in
theorem m_C_X8_leastCost (l : Launch) (M2 : zM) (M3 : zM) (M4 : zM) (M5 : zM) (M6 : zM) (M7 : zM) (M8 : zM) (M9 : zM) (M10 : zM) (M11 : zM) (M12 : zM) (M13 : zM) (L_count : Int) (L_copiedStands : Int) (L_from : Nat → Int) (L_to : Nat → Int) (L_forms : Nat → Int) (L_costs : Nat → Int) (L_copied : Nat → Int) (T_cost : Int) (T_priced : Int) (T_settled : Int) (T_quarrel : Int) (T_steps : Nat → Int) (T_pairs : Nat → Int) (T_built : Nat → Int) (T_rest : Nat → Int) (T_beside : Nat → Int) (T_held : Nat → Int) (T_heldPrice : Nat → Int) (T_ways : Nat → Int) (T_early : Nat → Int) (T_late : Nat → Int) (x : Int × Int × Int × Int × (Nat → Int) × (Nat → Int) × (Nat → Int) × (Nat → Int) × (Nat → Int)) (h : f_X8_leastCost T_cost T_priced L_count L_copiedStands L_forms L_costs L_copied T_steps T_pairs T_built T_held T_heldPrice = some x) : zD l yX8_leastCost wX8_leastCost rX8_leastCost lamC shpC [(2, Int.ofNat 1)] [([L_count, L_copiedStands], [L_from, L_to, L_forms, L_costs, L_copied]), ([T_cost, T_priced, T_settled, T_quarrel], [T_steps, T_pairs, T_built, T_rest, T_beside, T_held, T_heldPrice, T_ways, T_early, T_late]), M2, M3, M4, M5, M6, M7, M8, M9, M10, M11, M12, M13] (some (0, x.1)) [([L_count, x.2.2.2.1], [L_from, L_to, L_forms, L_costs, x.2.2.2.2.1]), ([x.2.1, x.2.2.1, T_settled, T_quarrel], [x.2.2.2.2.2.1, x.2.2.2.2.2.2.1, x.2.2.2.2.2.2.2.1, T_rest, T_beside, x.2.2.2.2.2.2.2.2, T_heldPrice, T_ways, T_early, T_late]), M2, M3, M4, M5, M6, M7, M8, M9, M10, M11, M12, M13] := by
  refine zD_of (B := bX8_leastCost) (E := eX8n) (by decide) rfl lokC (eX8n_ok _) bX8_leastCost_ok (Or.inl rfl) rfl (fun S R => ?_)
  obtain ⟨rb, rg, ri, rv, rs, r0, r1, r2, r3, rt, rmk⟩ := R
  show S 0 [some (2, Int.ofNat 1), none] [] [([L_count, L_copiedStands], [L_from, L_to, L_forms, L_costs, L_copied]), ([T_cost, T_priced, T_settled, T_quarrel], [T_steps, T_pairs, T_built, T_rest, T_beside, T_held, T_heldPrice, T_ways, T_early, T_late]), M2, M3, M4, M5, M6, M7, M8, M9, M10, M11, M12, M13]
  have LP16 : ∀ (n : Nat) (v1 : Int) (L_count : Int) (L_copiedStands : Int) (L_from : Nat → Int) (L_to : Nat → Int) (L_forms : Nat → Int) (L_costs : Nat → Int) (L_copied : Nat → Int) (T_cost : Int) (T_priced : Int) (T_settled : Int) (T_quarrel : Int) (T_steps : Nat → Int) (T_pairs : Nat → Int) (T_built : Nat → Int) (T_rest : Nat → Int) (T_beside : Nat → Int) (T_held : Nat → Int) (T_heldPrice : Nat → Int) (T_ways : Nat → Int) (T_early : Nat → Int) (T_late : Nat → Int) (y : (Nat → Int) × (Nat → Int)), l_X8_leastCost_16 n v1 L_count L_forms L_costs L_copied T_steps T_pairs = some y → S 38 [some (2, Int.ofNat 1), none] [] [([L_count, L_copiedStands], [L_from, L_to, L_forms, L_costs, L_copied]), ([T_cost, T_priced, T_settled, T_quarrel], [y.1, y.2, T_built, T_rest, T_beside, T_held, T_heldPrice, T_ways, T_early, T_late]), M2, M3, M4, M5, M6, M7, M8, M9, M10, M11, M12, M13] → S 16 [some (2, Int.ofNat 1), some (0, v1)] [] [([L_count, L_copiedStands], [L_from, L_to, L_forms, L_costs, L_copied]), ([T_cost, T_priced, T_settled, T_quarrel], [T_steps, T_pairs, T_built, T_rest, T_beside, T_held, T_heldPrice, T_ways, T_early, T_late]), M2, M3, M4, M5, M6, M7, M8, M9, M10, M11, M12, M13] := by
    intro n
    induction n with
    | zero =>
      intro v1 L_count L_copiedStands L_from L_to L_forms L_costs L_copied T_cost T_priced T_settled T_quarrel T_steps T_pairs T_built T_rest T_beside T_held T_heldPrice T_ways T_early T_late y h k
      rw [l_X8_leastCost_16] at h
      cases h
    | succ n ih =>
      intro v1 L_count L_copiedStands L_from L_to L_forms L_costs L_copied T_cost T_priced T_settled T_quarrel T_steps T_pairs T_built T_rest T_beside T_held T_heldPrice T_ways T_early T_late y h k
      rw [l_X8_leastCost_16] at h
      refine ri false 3 (q := v1 < L_count) (t1 := 27) (t2 := 38) rfl rfl trivial (fun c => ?_) (fun c => ?_)
      · replace h := zif1 c h
        obtain ⟨x2, hx2, h⟩ := zbd h
        refine rv false 4 1 rfl rfl trivial rfl (m_C_X8_fillSteps l M2 M3 M4 M5 M6 M7 M8 M9 M10 M11 M12 M13 v1 L_count L_copiedStands L_from L_to L_forms L_costs L_copied T_cost T_priced T_settled T_quarrel T_steps T_pairs T_built T_rest T_beside T_held T_heldPrice T_ways T_early T_late x2 hx2) ⟨_, _, _, _, rfl, rfl, rfl, by decide +kernel, ⟨Nat.le_of_ble_eq_true rfl, Nat.le_of_ble_eq_true rfl⟩, uGin u_14_15 u_14_16 u_14_17 u_1_15 u_14_18⟩ ⟨rfl, _, _, _, rfl, rfl⟩ ?_
        obtain ⟨g3_0, h⟩ := zgd h
        refine rg false 5 (t := 16) (L2 := [some (2, Int.ofNat 1), some (0, (v1 + 1))]) rfl rfl rfl g3_0 ?_
        exact ih (v1 + 1) L_count L_copiedStands L_from L_to L_forms L_costs L_copied T_cost T_priced T_settled T_quarrel x2.1 x2.2 T_built T_rest T_beside T_held T_heldPrice T_ways T_early T_late y h k
      · replace h := zif2 c h
        refine rmk [true, false] (L2 := [some (2, Int.ofNat 1), none]) rfl ?_
        obtain rfl := Option.some.inj h
        exact k
  unfold f_X8_leastCost at h
  refine ri false 0 (q := T_priced = 0) (t1 := 7) (t2 := 64) rfl rfl trivial (fun c => ?_) (fun c => ?_)
  · replace h := zif1 c h
    obtain ⟨x1, hx1, h⟩ := zbd h
    refine rv false 1 0 rfl rfl trivial rfl (m_C_X4_refresh l ([T_cost, T_priced, T_settled, T_quarrel], [T_steps, T_pairs, T_built, T_rest, T_beside, T_held, T_heldPrice, T_ways, T_early, T_late]) M2 M3 M4 M5 M6 M7 M8 M9 M10 M11 M12 M13 L_count L_copiedStands L_from L_to L_forms L_costs L_copied x1 hx1) ⟨_, _, _, _, rfl, rfl, rfl, by decide +kernel, ⟨Nat.le_of_ble_eq_true rfl, Nat.le_of_ble_eq_true rfl⟩, uGin u_14_14 u_11_19 u_11_20 u_3_1 u_11_21⟩ ⟨rfl, _, _, _, rfl, rfl⟩ ?_
    refine rb false 2 (L2 := [some (2, Int.ofNat 1), some (0, 0)]) rfl rfl trivial ?_
    obtain ⟨x4, hx4, h⟩ := zbd h
    refine LP16 zN 0 L_count x1.1 L_from L_to L_forms L_costs x1.2 T_cost T_priced T_settled T_quarrel T_steps T_pairs T_built T_rest T_beside T_held T_heldPrice T_ways T_early T_late x4 hx4 ?_
    obtain ⟨x5, hx5, h⟩ := zbd h
    refine rv false 6 0 rfl rfl trivial rfl (m_C_X8_freeAll l ([L_count, x1.1], [L_from, L_to, L_forms, L_costs, x1.2]) M2 M3 M4 M5 M6 M7 M8 M9 M10 M11 M12 M13 T_cost T_priced T_settled T_quarrel x4.1 x4.2 T_built T_rest T_beside T_held T_heldPrice T_ways T_early T_late x5 hx5) ⟨_, _, _, _, rfl, rfl, rfl, by decide +kernel, ⟨Nat.le_of_ble_eq_true rfl, Nat.le_of_ble_eq_true rfl⟩, uGin u_15_15 u_15_16 u_15_17 u_1_15 u_15_18⟩ ⟨rfl, _, _, _, rfl, rfl⟩ ?_
    obtain ⟨x6, hx6, h⟩ := zbd h
    refine rv false 7 0 rfl rfl trivial rfl (m_C_X8_fillBuilt l M2 M3 M4 M5 M6 M7 M8 M9 M10 M11 M12 M13 L_count x1.1 L_from L_to L_forms L_costs x1.2 T_cost T_priced T_settled T_quarrel x4.1 x4.2 T_built T_rest T_beside x5 T_heldPrice T_ways T_early T_late x6 hx6) ⟨_, _, _, _, rfl, rfl, rfl, by decide +kernel, ⟨Nat.le_of_ble_eq_true rfl, Nat.le_of_ble_eq_true rfl⟩, uGin u_15_19 u_15_20 u_15_21 u_1_15 u_15_22⟩ ⟨rfl, _, _, _, rfl, rfl⟩ ?_
    obtain ⟨x7, hx7, h⟩ := zbd h
    refine rv false 8 0 (rest := [(2, Int.ofNat 10), (2, Int.ofNat 1)]) rfl rfl trivial rfl (m_C_X8_everyone l ([T_cost, T_priced, T_settled, T_quarrel], [x4.1, x4.2, x6, T_rest, T_beside, x5, T_heldPrice, T_ways, T_early, T_late]) M2 M3 M4 M5 M6 M7 M8 M9 M10 M11 M12 M13 L_count x1.1 L_from L_to L_forms L_costs x1.2 x7 hx7) ⟨_, _, _, _, rfl, rfl, rfl, by decide +kernel, ⟨Nat.le_of_ble_eq_true rfl, Nat.le_of_ble_eq_true rfl⟩, uGin u_15_5 u_15_6 u_15_7 u_1_15 u_15_8⟩ ⟨rfl, _, _, _, rfl, rfl⟩ ?_
    obtain ⟨g8_0, h⟩ := zgd h
    refine rb false 9 (σ2 := [([L_count, x1.1], [L_from, L_to, L_forms, L_costs, x1.2]), ([(x6 (Int.toNat x7)), 1, T_settled, T_quarrel], [x4.1, x4.2, x6, T_rest, T_beside, x5, T_heldPrice, T_ways, T_early, T_late]), M2, M3, M4, M5, M6, M7, M8, M9, M10, M11, M12, M13]) rfl rfl (And.intro g8_0 (show zbit 1 by decide)) ?_
    obtain rfl := Option.some.inj h
    exact r1 false 10 rfl rfl rfl rfl rfl rfl trivial
  · replace h := zif2 c h
    obtain rfl := Option.some.inj h
    exact r1 false 10 rfl rfl rfl rfl rfl rfl trivial
def bX8_fillRest : zB := [(0, [(.aload_n 0, 1)], 1, .invokevirtual 73, 3), (4, [(.istore_n 1, 1), (.aload_n 0, 1), (.getfield 28, 3), (.iload_n 1, 1), (.iconst 0, 1), (.iastore, 1), (.iload_n 1, 1), (.iconst 1, 1), (.isub, 1), (.istore_n 2, 1)], 16, .nop, 0), (16, [(.iload_n 2, 1)], 17, .ifCond .lt 73, 3), (20, [(.ldc 115, 2), (.istore_n 3, 1), (.iconst 0, 1), (.istore 4, 2)], 26, .nop, 0), (26, [(.iload 4, 2), (.aload_n 0, 1), (.getfield 12, 3), (.getfield 59, 3)], 35, .if_icmp .ge 42, 3), (38, [(.iload_n 2, 1), (.iload 4, 2), (.ishr, 1), (.iconst 1, 1), (.iand, 1)], 44, .ifCond .ne 27, 3), (47, [(.iload_n 3, 1), (.aload_n 0, 1), (.iload 4, 2), (.iload_n 2, 1)], 52, .invokevirtual 120, 3), (55, [(.aload_n 0, 1), (.getfield 28, 3), (.iload_n 2, 1), (.iconst 1, 1), (.iload 4, 2), (.ishl, 1), (.ior, 1), (.iaload, 1), (.iadd, 1), (.invokestatic 110, 3), (.istore_n 3, 1)], 71, .nop, 0), (71, [(.iinc 4 1, 3)], 74, .goto (-48), 3), (77, [(.aload_n 0, 1), (.getfield 28, 3), (.iload_n 2, 1), (.iload_n 3, 1), (.iastore, 1), (.iinc 2 (-1), 3)], 87, .goto (-71), 3), (90, [], 90, .return_, 1)]
theorem bX8_fillRest_ok : zBok cX8_fillRest 5 bX8_fillRest = true := by decide +kernel
abbrev wX8_fillRest : List Cond := Cond.code yX8_fillRest cX8_fillRest 5 none :: uU
def rX8_fillRest : Room := { frames := 1, cells := 0, slots := 0, locals := 22 }
set_option maxRecDepth 20000 in
set_option maxHeartbeats 4000000 in
theorem m_C_X8_fillRest (l : Launch) (M2 : zM) (M3 : zM) (M4 : zM) (M5 : zM) (M6 : zM) (M7 : zM) (M8 : zM) (M9 : zM) (M10 : zM) (M11 : zM) (M12 : zM) (M13 : zM) (L_count : Int) (L_copiedStands : Int) (L_from : Nat → Int) (L_to : Nat → Int) (L_forms : Nat → Int) (L_costs : Nat → Int) (L_copied : Nat → Int) (T_cost : Int) (T_priced : Int) (T_settled : Int) (T_quarrel : Int) (T_steps : Nat → Int) (T_pairs : Nat → Int) (T_built : Nat → Int) (T_rest : Nat → Int) (T_beside : Nat → Int) (T_held : Nat → Int) (T_heldPrice : Nat → Int) (T_ways : Nat → Int) (T_early : Nat → Int) (T_late : Nat → Int) (x : Nat → Int) (h : f_X8_fillRest L_count T_steps T_rest T_held T_heldPrice = some x) : zD l yX8_fillRest wX8_fillRest rX8_fillRest lamC shpC [(2, Int.ofNat 1)] [([L_count, L_copiedStands], [L_from, L_to, L_forms, L_costs, L_copied]), ([T_cost, T_priced, T_settled, T_quarrel], [T_steps, T_pairs, T_built, T_rest, T_beside, T_held, T_heldPrice, T_ways, T_early, T_late]), M2, M3, M4, M5, M6, M7, M8, M9, M10, M11, M12, M13] (none) [([L_count, L_copiedStands], [L_from, L_to, L_forms, L_costs, L_copied]), ([T_cost, T_priced, T_settled, T_quarrel], [T_steps, T_pairs, T_built, x, T_beside, T_held, T_heldPrice, T_ways, T_early, T_late]), M2, M3, M4, M5, M6, M7, M8, M9, M10, M11, M12, M13] := by
  refine zD_of (B := bX8_fillRest) (E := eX8) (by decide) rfl lokC (eX8_ok _) bX8_fillRest_ok (Or.inr ⟨Nat.le_of_ble_eq_true rfl, Nat.le_of_ble_eq_true rfl⟩) rfl (fun S R => ?_)
  obtain ⟨rb, rg, ri, rv, rs, r0, r1, r2, r3, rt, rmk⟩ := R
  show S 0 [some (2, Int.ofNat 1), none, none, none, none] [] [([L_count, L_copiedStands], [L_from, L_to, L_forms, L_costs, L_copied]), ([T_cost, T_priced, T_settled, T_quarrel], [T_steps, T_pairs, T_built, T_rest, T_beside, T_held, T_heldPrice, T_ways, T_early, T_late]), M2, M3, M4, M5, M6, M7, M8, M9, M10, M11, M12, M13]
  have LP26 : ∀ (n : Nat) (v2 : Int) (v3 : Int) (v4 : Int) (L_count : Int) (L_copiedStands : Int) (L_from : Nat → Int) (L_to : Nat → Int) (L_forms : Nat → Int) (L_costs : Nat → Int) (L_copied : Nat → Int) (T_cost : Int) (T_priced : Int) (T_settled : Int) (T_quarrel : Int) (T_steps : Nat → Int) (T_pairs : Nat → Int) (T_built : Nat → Int) (T_rest : Nat → Int) (T_beside : Nat → Int) (T_held : Nat → Int) (T_heldPrice : Nat → Int) (T_ways : Nat → Int) (T_early : Nat → Int) (T_late : Nat → Int) (y : Int), l_X8_fillRest_26 n v2 v3 v4 L_count T_steps T_rest T_held T_heldPrice = some y → S 77 [some (2, Int.ofNat 1), none, some (0, v2), some (0, y), none] [] [([L_count, L_copiedStands], [L_from, L_to, L_forms, L_costs, L_copied]), ([T_cost, T_priced, T_settled, T_quarrel], [T_steps, T_pairs, T_built, T_rest, T_beside, T_held, T_heldPrice, T_ways, T_early, T_late]), M2, M3, M4, M5, M6, M7, M8, M9, M10, M11, M12, M13] → S 26 [some (2, Int.ofNat 1), none, some (0, v2), some (0, v3), some (0, v4)] [] [([L_count, L_copiedStands], [L_from, L_to, L_forms, L_costs, L_copied]), ([T_cost, T_priced, T_settled, T_quarrel], [T_steps, T_pairs, T_built, T_rest, T_beside, T_held, T_heldPrice, T_ways, T_early, T_late]), M2, M3, M4, M5, M6, M7, M8, M9, M10, M11, M12, M13] := by
    intro n
    induction n with
    | zero =>
      intro v2 v3 v4 L_count L_copiedStands L_from L_to L_forms L_costs L_copied T_cost T_priced T_settled T_quarrel T_steps T_pairs T_built T_rest T_beside T_held T_heldPrice T_ways T_early T_late y h k
      rw [l_X8_fillRest_26] at h
      cases h
    | succ n ih =>
      intro v2 v3 v4 L_count L_copiedStands L_from L_to L_forms L_costs L_copied T_cost T_priced T_settled T_quarrel T_steps T_pairs T_built T_rest T_beside T_held T_heldPrice T_ways T_early T_late y h k
      rw [l_X8_fillRest_26] at h
      refine ri false 4 (q := v4 < L_count) (t1 := 38) (t2 := 77) rfl rfl trivial (fun c => ?_) (fun c => ?_)
      · replace h := zif1 c h
        refine ri false 5 (q := (zand (zshr v2 v4) 1) = 0) (t1 := 47) (t2 := 71) rfl rfl trivial (fun c => ?_) (fun c => ?_)
        · replace h := zif1 c h
          obtain ⟨x3, hx3, h⟩ := zbd h
          refine rv false 6 2 (rest := [(0, v3)]) rfl rfl trivial rfl (m_C_X8_stepBehind l ([L_count, L_copiedStands], [L_from, L_to, L_forms, L_costs, L_copied]) M2 M3 M4 M5 M6 M7 M8 M9 M10 M11 M12 M13 v4 v2 T_cost T_priced T_settled T_quarrel T_steps T_pairs T_built T_rest T_beside T_held T_heldPrice T_ways T_early T_late x3 hx3) ⟨_, _, _, _, rfl, rfl, rfl, by decide +kernel, ⟨Nat.le_of_ble_eq_true rfl, Nat.le_of_ble_eq_true rfl⟩, uGin u_15_23 u_16_0 u_16_1 u_1_15 u_16_2⟩ ⟨rfl, _, _, _, rfl, rfl⟩ ?_
          obtain ⟨⟨g4_0, g4_1⟩, h⟩ := zgd h
          refine rb false 7 (L2 := [some (2, Int.ofNat 1), none, some (0, v2), some (0, (min v3 (x3 + (T_rest (Int.toNat (zor v2 (zshl 1 v4))))))), some (0, v4)]) rfl rfl (And.intro g4_0 g4_1) ?_
          obtain ⟨g5_0, h⟩ := zgd h
          refine rg false 8 (t := 26) (L2 := [some (2, Int.ofNat 1), none, some (0, v2), some (0, (min v3 (x3 + (T_rest (Int.toNat (zor v2 (zshl 1 v4))))))), some (0, (v4 + 1))]) rfl rfl rfl g5_0 ?_
          exact ih v2 (min v3 (x3 + (T_rest (Int.toNat (zor v2 (zshl 1 v4)))))) (v4 + 1) L_count L_copiedStands L_from L_to L_forms L_costs L_copied T_cost T_priced T_settled T_quarrel T_steps T_pairs T_built T_rest T_beside T_held T_heldPrice T_ways T_early T_late y h k
        · replace h := zif2 c h
          obtain ⟨g6_0, h⟩ := zgd h
          refine rg false 8 (t := 26) (L2 := [some (2, Int.ofNat 1), none, some (0, v2), some (0, v3), some (0, (v4 + 1))]) rfl rfl rfl g6_0 ?_
          exact ih v2 v3 (v4 + 1) L_count L_copiedStands L_from L_to L_forms L_costs L_copied T_cost T_priced T_settled T_quarrel T_steps T_pairs T_built T_rest T_beside T_held T_heldPrice T_ways T_early T_late y h k
      · replace h := zif2 c h
        refine rmk [true, false, true, true, false] (L2 := [some (2, Int.ofNat 1), none, some (0, v2), some (0, v3), none]) rfl ?_
        obtain rfl := Option.some.inj h
        exact k
  have LP16 : ∀ (n : Nat) (v2 : Int) (L_count : Int) (L_copiedStands : Int) (L_from : Nat → Int) (L_to : Nat → Int) (L_forms : Nat → Int) (L_costs : Nat → Int) (L_copied : Nat → Int) (T_cost : Int) (T_priced : Int) (T_settled : Int) (T_quarrel : Int) (T_steps : Nat → Int) (T_pairs : Nat → Int) (T_built : Nat → Int) (T_rest : Nat → Int) (T_beside : Nat → Int) (T_held : Nat → Int) (T_heldPrice : Nat → Int) (T_ways : Nat → Int) (T_early : Nat → Int) (T_late : Nat → Int) (y : Nat → Int), l_X8_fillRest_16 n v2 L_count T_steps T_rest T_held T_heldPrice = some y → S 90 [none, none, none, none, none] [] [([L_count, L_copiedStands], [L_from, L_to, L_forms, L_costs, L_copied]), ([T_cost, T_priced, T_settled, T_quarrel], [T_steps, T_pairs, T_built, y, T_beside, T_held, T_heldPrice, T_ways, T_early, T_late]), M2, M3, M4, M5, M6, M7, M8, M9, M10, M11, M12, M13] → S 16 [some (2, Int.ofNat 1), none, some (0, v2), none, none] [] [([L_count, L_copiedStands], [L_from, L_to, L_forms, L_costs, L_copied]), ([T_cost, T_priced, T_settled, T_quarrel], [T_steps, T_pairs, T_built, T_rest, T_beside, T_held, T_heldPrice, T_ways, T_early, T_late]), M2, M3, M4, M5, M6, M7, M8, M9, M10, M11, M12, M13] := by
    intro n
    induction n with
    | zero =>
      intro v2 L_count L_copiedStands L_from L_to L_forms L_costs L_copied T_cost T_priced T_settled T_quarrel T_steps T_pairs T_built T_rest T_beside T_held T_heldPrice T_ways T_early T_late y h k
      rw [l_X8_fillRest_16] at h
      cases h
    | succ n ih =>
      intro v2 L_count L_copiedStands L_from L_to L_forms L_costs L_copied T_cost T_priced T_settled T_quarrel T_steps T_pairs T_built T_rest T_beside T_held T_heldPrice T_ways T_early T_late y h k
      rw [l_X8_fillRest_16] at h
      refine ri false 2 (q := v2 < 0) (t1 := 90) (t2 := 20) rfl rfl trivial (fun c => ?_) (fun c => ?_)
      · replace h := zif1 c h
        refine rmk [false, false, false, false, false] (L2 := [none, none, none, none, none]) rfl ?_
        obtain rfl := Option.some.inj h
        exact k
      · replace h := zif2 c h
        refine rb false 3 (L2 := [some (2, Int.ofNat 1), none, some (0, v2), some (0, 1048576), some (0, 0)]) rfl rfl trivial ?_
        obtain ⟨x7, hx7, h⟩ := zbd h
        refine LP26 zN v2 1048576 0 L_count L_copiedStands L_from L_to L_forms L_costs L_copied T_cost T_priced T_settled T_quarrel T_steps T_pairs T_built T_rest T_beside T_held T_heldPrice T_ways T_early T_late x7 hx7 ?_
        obtain ⟨⟨g8_0, g8_1⟩, h⟩ := zgd h
        refine rg false 9 (t := 16) (L2 := [some (2, Int.ofNat 1), none, some (0, (v2 + (-1))), some (0, x7), none]) (σ2 := [([L_count, L_copiedStands], [L_from, L_to, L_forms, L_costs, L_copied]), ([T_cost, T_priced, T_settled, T_quarrel], [T_steps, T_pairs, T_built, (zu T_rest (Int.toNat v2) x7), T_beside, T_held, T_heldPrice, T_ways, T_early, T_late]), M2, M3, M4, M5, M6, M7, M8, M9, M10, M11, M12, M13]) rfl rfl rfl (And.intro g8_0 g8_1) ?_
        refine rmk [true, false, true, false, false] (L2 := [some (2, Int.ofNat 1), none, some (0, (v2 + (-1))), none, none]) rfl ?_
        exact ih (v2 + (-1)) L_count L_copiedStands L_from L_to L_forms L_costs L_copied T_cost T_priced T_settled T_quarrel T_steps T_pairs T_built (zu T_rest (Int.toNat v2) x7) T_beside T_held T_heldPrice T_ways T_early T_late y h k
  unfold f_X8_fillRest at h
  obtain ⟨x1, hx1, h⟩ := zbd h
  refine rv false 0 0 rfl rfl trivial rfl (m_C_X8_everyone l ([T_cost, T_priced, T_settled, T_quarrel], [T_steps, T_pairs, T_built, T_rest, T_beside, T_held, T_heldPrice, T_ways, T_early, T_late]) M2 M3 M4 M5 M6 M7 M8 M9 M10 M11 M12 M13 L_count L_copiedStands L_from L_to L_forms L_costs L_copied x1 hx1) ⟨_, _, _, _, rfl, rfl, rfl, by decide +kernel, ⟨Nat.le_of_ble_eq_true rfl, Nat.le_of_ble_eq_true rfl⟩, uGin u_15_5 u_15_6 u_15_7 u_1_15 u_15_8⟩ ⟨rfl, _, _, _, rfl, rfl⟩ ?_
  obtain ⟨⟨g2_0, g2_1⟩, h⟩ := zgd h
  refine rb false 1 (L2 := [some (2, Int.ofNat 1), some (0, x1), some (0, (x1 - 1)), none, none]) (σ2 := [([L_count, L_copiedStands], [L_from, L_to, L_forms, L_costs, L_copied]), ([T_cost, T_priced, T_settled, T_quarrel], [T_steps, T_pairs, T_built, (zu T_rest (Int.toNat x1) 0), T_beside, T_held, T_heldPrice, T_ways, T_early, T_late]), M2, M3, M4, M5, M6, M7, M8, M9, M10, M11, M12, M13]) rfl rfl (And.intro g2_0 g2_1) ?_
  refine rmk [true, false, true, false, false] (L2 := [some (2, Int.ofNat 1), none, some (0, (x1 - 1)), none, none]) rfl ?_
  obtain ⟨x9, hx9, h⟩ := zbd h
  refine LP16 zN (x1 - 1) L_count L_copiedStands L_from L_to L_forms L_costs L_copied T_cost T_priced T_settled T_quarrel T_steps T_pairs T_built (zu T_rest (Int.toNat x1) 0) T_beside T_held T_heldPrice T_ways T_early T_late x9 hx9 ?_
  obtain rfl := Option.some.inj h
  exact r0 false 10 rfl rfl rfl rfl trivial
def bX8_weigh : zB := [(0, [(.aload_n 0, 1)], 1, .invokevirtual 70, 3), (4, [(.aload_n 0, 1)], 5, .invokevirtual 123, 3), (8, [(.aload_n 0, 1)], 9, .invokevirtual 73, 3), (12, [(.istore_n 2, 1), (.iconst 1, 1), (.iload_n 1, 1), (.ishl, 1), (.istore_n 3, 1), (.iconst 0, 1), (.istore 4, 2)], 20, .nop, 0), (20, [(.iload 4, 2), (.iload_n 2, 1)], 23, .if_icmp .gt 45, 3), (26, [(.aload_n 0, 1), (.getfield 31, 3), (.iload 4, 2), (.iload 4, 2), (.iload_n 3, 1), (.iand, 1)], 36, .ifCond .eq 8, 3), (39, [(.ldc 115, 2)], 41, .goto 20, 3), (44, [(.aload_n 0, 1), (.getfield 25, 3), (.iload 4, 2), (.iaload, 1), (.aload_n 0, 1), (.getfield 28, 3), (.iload 4, 2), (.iload_n 3, 1), (.ior, 1), (.iaload, 1), (.iadd, 1)], 61, .nop, 0), (61, [(.iastore, 1), (.iinc 4 1, 3)], 65, .goto (-45), 3), (68, [(.iconst 0, 1), (.istore 4, 2)], 71, .nop, 0), (71, [(.iload 4, 2), (.aload_n 0, 1), (.getfield 12, 3), (.getfield 59, 3)], 80, .if_icmp .ge 63, 3), (83, [(.iconst 0, 1), (.istore 5, 2)], 86, .nop, 0), (86, [(.iload 5, 2), (.iload_n 2, 1)], 89, .if_icmp .gt 48, 3), (92, [(.iload 5, 2), (.iload 4, 2), (.ishr, 1), (.iconst 1, 1), (.iand, 1)], 99, .ifCond .ne 32, 3), (102, [(.aload_n 0, 1), (.getfield 31, 3), (.iload 5, 2), (.aload_n 0, 1), (.getfield 31, 3), (.iload 5, 2), (.iaload, 1), (.aload_n 0, 1), (.getfield 31, 3), (.iload 5, 2), (.iconst 1, 1), (.iload 4, 2), (.ishl, 1), (.ior, 1), (.iaload, 1), (.invokestatic 110, 3), (.iastore, 1)], 131, .nop, 0), (131, [(.iinc 5 1, 3)], 134, .goto (-48), 3), (137, [(.iinc 4 1, 3)], 140, .goto (-69), 3), (143, [], 143, .return_, 1)]
theorem bX8_weigh_ok : zBok cX8_weigh 6 bX8_weigh = true := by decide +kernel
abbrev wX8_weigh : List Cond := Cond.code yX8_weigh cX8_weigh 6 none :: uU
def rX8_weigh : Room := { frames := 2, cells := 0, slots := 0, locals := 47 }
set_option maxRecDepth 20000 in
set_option maxHeartbeats 4000000 in
theorem m_C_X8_weigh (l : Launch) (M2 : zM) (M3 : zM) (M4 : zM) (M5 : zM) (M6 : zM) (M7 : zM) (M8 : zM) (M9 : zM) (M10 : zM) (M11 : zM) (M12 : zM) (M13 : zM) (p1 : Int) (L_count : Int) (L_copiedStands : Int) (L_from : Nat → Int) (L_to : Nat → Int) (L_forms : Nat → Int) (L_costs : Nat → Int) (L_copied : Nat → Int) (T_cost : Int) (T_priced : Int) (T_settled : Int) (T_quarrel : Int) (T_steps : Nat → Int) (T_pairs : Nat → Int) (T_built : Nat → Int) (T_rest : Nat → Int) (T_beside : Nat → Int) (T_held : Nat → Int) (T_heldPrice : Nat → Int) (T_ways : Nat → Int) (T_early : Nat → Int) (T_late : Nat → Int) (x : (Nat → Int) × (Nat → Int) × (Nat → Int)) (h : f_X8_weigh p1 L_count T_steps T_built T_rest T_beside T_held T_heldPrice = some x) : zD l yX8_weigh wX8_weigh rX8_weigh lamC shpC [(2, Int.ofNat 1), (0, p1)] [([L_count, L_copiedStands], [L_from, L_to, L_forms, L_costs, L_copied]), ([T_cost, T_priced, T_settled, T_quarrel], [T_steps, T_pairs, T_built, T_rest, T_beside, T_held, T_heldPrice, T_ways, T_early, T_late]), M2, M3, M4, M5, M6, M7, M8, M9, M10, M11, M12, M13] (none) [([L_count, L_copiedStands], [L_from, L_to, L_forms, L_costs, L_copied]), ([T_cost, T_priced, T_settled, T_quarrel], [T_steps, T_pairs, x.1, x.2.1, x.2.2, T_held, T_heldPrice, T_ways, T_early, T_late]), M2, M3, M4, M5, M6, M7, M8, M9, M10, M11, M12, M13] := by
  refine zD_of (B := bX8_weigh) (E := eX8) (by decide) rfl lokC (eX8_ok _) bX8_weigh_ok (Or.inr ⟨Nat.le_of_ble_eq_true rfl, Nat.le_of_ble_eq_true rfl⟩) rfl (fun S R => ?_)
  obtain ⟨rb, rg, ri, rv, rs, r0, r1, r2, r3, rt, rmk⟩ := R
  show S 0 [some (2, Int.ofNat 1), some (0, p1), none, none, none, none] [] [([L_count, L_copiedStands], [L_from, L_to, L_forms, L_costs, L_copied]), ([T_cost, T_priced, T_settled, T_quarrel], [T_steps, T_pairs, T_built, T_rest, T_beside, T_held, T_heldPrice, T_ways, T_early, T_late]), M2, M3, M4, M5, M6, M7, M8, M9, M10, M11, M12, M13]
  have LP20 : ∀ (n : Nat) (v2 : Int) (v3 : Int) (v4 : Int) (L_count : Int) (L_copiedStands : Int) (L_from : Nat → Int) (L_to : Nat → Int) (L_forms : Nat → Int) (L_costs : Nat → Int) (L_copied : Nat → Int) (T_cost : Int) (T_priced : Int) (T_settled : Int) (T_quarrel : Int) (T_steps : Nat → Int) (T_pairs : Nat → Int) (T_built : Nat → Int) (T_rest : Nat → Int) (T_beside : Nat → Int) (T_held : Nat → Int) (T_heldPrice : Nat → Int) (T_ways : Nat → Int) (T_early : Nat → Int) (T_late : Nat → Int) (y : Nat → Int), l_X8_weigh_20 n v2 v3 v4 T_built T_rest T_beside = some y → S 68 [some (2, Int.ofNat 1), none, some (0, v2), none, none, none] [] [([L_count, L_copiedStands], [L_from, L_to, L_forms, L_costs, L_copied]), ([T_cost, T_priced, T_settled, T_quarrel], [T_steps, T_pairs, T_built, T_rest, y, T_held, T_heldPrice, T_ways, T_early, T_late]), M2, M3, M4, M5, M6, M7, M8, M9, M10, M11, M12, M13] → S 20 [some (2, Int.ofNat 1), none, some (0, v2), some (0, v3), some (0, v4), none] [] [([L_count, L_copiedStands], [L_from, L_to, L_forms, L_costs, L_copied]), ([T_cost, T_priced, T_settled, T_quarrel], [T_steps, T_pairs, T_built, T_rest, T_beside, T_held, T_heldPrice, T_ways, T_early, T_late]), M2, M3, M4, M5, M6, M7, M8, M9, M10, M11, M12, M13] := by
    intro n
    induction n with
    | zero =>
      intro v2 v3 v4 L_count L_copiedStands L_from L_to L_forms L_costs L_copied T_cost T_priced T_settled T_quarrel T_steps T_pairs T_built T_rest T_beside T_held T_heldPrice T_ways T_early T_late y h k
      rw [l_X8_weigh_20] at h
      cases h
    | succ n ih =>
      intro v2 v3 v4 L_count L_copiedStands L_from L_to L_forms L_costs L_copied T_cost T_priced T_settled T_quarrel T_steps T_pairs T_built T_rest T_beside T_held T_heldPrice T_ways T_early T_late y h k
      rw [l_X8_weigh_20] at h
      refine ri false 4 (q := v2 < v4) (t1 := 68) (t2 := 26) rfl rfl trivial (fun c => ?_) (fun c => ?_)
      · replace h := zif1 c h
        refine rmk [true, false, true, false, false, false] (L2 := [some (2, Int.ofNat 1), none, some (0, v2), none, none, none]) rfl ?_
        obtain rfl := Option.some.inj h
        exact k
      · replace h := zif2 c h
        refine ri false 5 (q := (zand v4 v3) = 0) (t1 := 44) (t2 := 39) (st2 := [(0, v4), (2, Int.ofNat 12)]) rfl rfl trivial (fun c => ?_) (fun c => ?_)
        · replace h := zif1 c h
          obtain ⟨⟨g4_0, g4_1⟩, h⟩ := zgd h
          refine rb false 7 (st2 := [(3, ((T_built (Int.toNat v4)) + (T_rest (Int.toNat (zor v4 v3))))), (0, v4), (2, Int.ofNat 12)]) rfl rfl (And.intro g4_0 g4_1) ?_
          obtain ⟨⟨g5_0, g5_1, g5_2⟩, h⟩ := zgd h
          refine rg false 8 (t := 20) (L2 := [some (2, Int.ofNat 1), none, some (0, v2), some (0, v3), some (0, (v4 + 1)), none]) (σ2 := [([L_count, L_copiedStands], [L_from, L_to, L_forms, L_costs, L_copied]), ([T_cost, T_priced, T_settled, T_quarrel], [T_steps, T_pairs, T_built, T_rest, (zu T_beside (Int.toNat v4) ((T_built (Int.toNat v4)) + (T_rest (Int.toNat (zor v4 v3))))), T_held, T_heldPrice, T_ways, T_early, T_late]), M2, M3, M4, M5, M6, M7, M8, M9, M10, M11, M12, M13]) rfl rfl rfl (And.intro g5_0 (And.intro g5_1 g5_2)) ?_
          exact ih v2 v3 (v4 + 1) L_count L_copiedStands L_from L_to L_forms L_costs L_copied T_cost T_priced T_settled T_quarrel T_steps T_pairs T_built T_rest (zu T_beside (Int.toNat v4) ((T_built (Int.toNat v4)) + (T_rest (Int.toNat (zor v4 v3))))) T_held T_heldPrice T_ways T_early T_late y h k
        · replace h := zif2 c h
          refine rg false 6 (t := 61) (st2 := [(0, 1048576), (0, v4), (2, Int.ofNat 12)]) rfl rfl rfl trivial ?_
          obtain ⟨⟨g6_0, g6_1⟩, h⟩ := zgd h
          refine rg false 8 (t := 20) (L2 := [some (2, Int.ofNat 1), none, some (0, v2), some (0, v3), some (0, (v4 + 1)), none]) (σ2 := [([L_count, L_copiedStands], [L_from, L_to, L_forms, L_costs, L_copied]), ([T_cost, T_priced, T_settled, T_quarrel], [T_steps, T_pairs, T_built, T_rest, (zu T_beside (Int.toNat v4) 1048576), T_held, T_heldPrice, T_ways, T_early, T_late]), M2, M3, M4, M5, M6, M7, M8, M9, M10, M11, M12, M13]) rfl rfl rfl (And.intro g6_0 g6_1) ?_
          exact ih v2 v3 (v4 + 1) L_count L_copiedStands L_from L_to L_forms L_costs L_copied T_cost T_priced T_settled T_quarrel T_steps T_pairs T_built T_rest (zu T_beside (Int.toNat v4) 1048576) T_held T_heldPrice T_ways T_early T_late y h k
  have LP86 : ∀ (n : Nat) (v2 : Int) (v4 : Int) (v5 : Int) (L_count : Int) (L_copiedStands : Int) (L_from : Nat → Int) (L_to : Nat → Int) (L_forms : Nat → Int) (L_costs : Nat → Int) (L_copied : Nat → Int) (T_cost : Int) (T_priced : Int) (T_settled : Int) (T_quarrel : Int) (T_steps : Nat → Int) (T_pairs : Nat → Int) (T_built : Nat → Int) (T_rest : Nat → Int) (T_beside : Nat → Int) (T_held : Nat → Int) (T_heldPrice : Nat → Int) (T_ways : Nat → Int) (T_early : Nat → Int) (T_late : Nat → Int) (y : Nat → Int), l_X8_weigh_86 n v2 v4 v5 T_beside = some y → S 137 [some (2, Int.ofNat 1), none, some (0, v2), none, some (0, v4), none] [] [([L_count, L_copiedStands], [L_from, L_to, L_forms, L_costs, L_copied]), ([T_cost, T_priced, T_settled, T_quarrel], [T_steps, T_pairs, T_built, T_rest, y, T_held, T_heldPrice, T_ways, T_early, T_late]), M2, M3, M4, M5, M6, M7, M8, M9, M10, M11, M12, M13] → S 86 [some (2, Int.ofNat 1), none, some (0, v2), none, some (0, v4), some (0, v5)] [] [([L_count, L_copiedStands], [L_from, L_to, L_forms, L_costs, L_copied]), ([T_cost, T_priced, T_settled, T_quarrel], [T_steps, T_pairs, T_built, T_rest, T_beside, T_held, T_heldPrice, T_ways, T_early, T_late]), M2, M3, M4, M5, M6, M7, M8, M9, M10, M11, M12, M13] := by
    intro n
    induction n with
    | zero =>
      intro v2 v4 v5 L_count L_copiedStands L_from L_to L_forms L_costs L_copied T_cost T_priced T_settled T_quarrel T_steps T_pairs T_built T_rest T_beside T_held T_heldPrice T_ways T_early T_late y h k
      rw [l_X8_weigh_86] at h
      cases h
    | succ n ih =>
      intro v2 v4 v5 L_count L_copiedStands L_from L_to L_forms L_costs L_copied T_cost T_priced T_settled T_quarrel T_steps T_pairs T_built T_rest T_beside T_held T_heldPrice T_ways T_early T_late y h k
      rw [l_X8_weigh_86] at h
      refine ri false 12 (q := v2 < v5) (t1 := 137) (t2 := 92) rfl rfl trivial (fun c => ?_) (fun c => ?_)
      · replace h := zif1 c h
        refine rmk [true, false, true, false, true, false] (L2 := [some (2, Int.ofNat 1), none, some (0, v2), none, some (0, v4), none]) rfl ?_
        obtain rfl := Option.some.inj h
        exact k
      · replace h := zif2 c h
        refine ri false 13 (q := (zand (zshr v5 v4) 1) = 0) (t1 := 102) (t2 := 131) rfl rfl trivial (fun c => ?_) (fun c => ?_)
        · replace h := zif1 c h
          obtain ⟨⟨g8_0, g8_1, g8_2⟩, h⟩ := zgd h
          refine rb false 14 (σ2 := [([L_count, L_copiedStands], [L_from, L_to, L_forms, L_costs, L_copied]), ([T_cost, T_priced, T_settled, T_quarrel], [T_steps, T_pairs, T_built, T_rest, (zu T_beside (Int.toNat v5) (min (T_beside (Int.toNat v5)) (T_beside (Int.toNat (zor v5 (zshl 1 v4)))))), T_held, T_heldPrice, T_ways, T_early, T_late]), M2, M3, M4, M5, M6, M7, M8, M9, M10, M11, M12, M13]) rfl rfl (And.intro g8_0 (And.intro g8_1 g8_2)) ?_
          obtain ⟨g9_0, h⟩ := zgd h
          refine rg false 15 (t := 86) (L2 := [some (2, Int.ofNat 1), none, some (0, v2), none, some (0, v4), some (0, (v5 + 1))]) rfl rfl rfl g9_0 ?_
          exact ih v2 v4 (v5 + 1) L_count L_copiedStands L_from L_to L_forms L_costs L_copied T_cost T_priced T_settled T_quarrel T_steps T_pairs T_built T_rest (zu T_beside (Int.toNat v5) (min (T_beside (Int.toNat v5)) (T_beside (Int.toNat (zor v5 (zshl 1 v4)))))) T_held T_heldPrice T_ways T_early T_late y h k
        · replace h := zif2 c h
          obtain ⟨g10_0, h⟩ := zgd h
          refine rg false 15 (t := 86) (L2 := [some (2, Int.ofNat 1), none, some (0, v2), none, some (0, v4), some (0, (v5 + 1))]) rfl rfl rfl g10_0 ?_
          exact ih v2 v4 (v5 + 1) L_count L_copiedStands L_from L_to L_forms L_costs L_copied T_cost T_priced T_settled T_quarrel T_steps T_pairs T_built T_rest T_beside T_held T_heldPrice T_ways T_early T_late y h k
  have LP71 : ∀ (n : Nat) (v2 : Int) (v4 : Int) (L_count : Int) (L_copiedStands : Int) (L_from : Nat → Int) (L_to : Nat → Int) (L_forms : Nat → Int) (L_costs : Nat → Int) (L_copied : Nat → Int) (T_cost : Int) (T_priced : Int) (T_settled : Int) (T_quarrel : Int) (T_steps : Nat → Int) (T_pairs : Nat → Int) (T_built : Nat → Int) (T_rest : Nat → Int) (T_beside : Nat → Int) (T_held : Nat → Int) (T_heldPrice : Nat → Int) (T_ways : Nat → Int) (T_early : Nat → Int) (T_late : Nat → Int) (y : Nat → Int), l_X8_weigh_71 n v2 v4 L_count T_beside = some y → S 143 [none, none, none, none, none, none] [] [([L_count, L_copiedStands], [L_from, L_to, L_forms, L_costs, L_copied]), ([T_cost, T_priced, T_settled, T_quarrel], [T_steps, T_pairs, T_built, T_rest, y, T_held, T_heldPrice, T_ways, T_early, T_late]), M2, M3, M4, M5, M6, M7, M8, M9, M10, M11, M12, M13] → S 71 [some (2, Int.ofNat 1), none, some (0, v2), none, some (0, v4), none] [] [([L_count, L_copiedStands], [L_from, L_to, L_forms, L_costs, L_copied]), ([T_cost, T_priced, T_settled, T_quarrel], [T_steps, T_pairs, T_built, T_rest, T_beside, T_held, T_heldPrice, T_ways, T_early, T_late]), M2, M3, M4, M5, M6, M7, M8, M9, M10, M11, M12, M13] := by
    intro n
    induction n with
    | zero =>
      intro v2 v4 L_count L_copiedStands L_from L_to L_forms L_costs L_copied T_cost T_priced T_settled T_quarrel T_steps T_pairs T_built T_rest T_beside T_held T_heldPrice T_ways T_early T_late y h k
      rw [l_X8_weigh_71] at h
      cases h
    | succ n ih =>
      intro v2 v4 L_count L_copiedStands L_from L_to L_forms L_costs L_copied T_cost T_priced T_settled T_quarrel T_steps T_pairs T_built T_rest T_beside T_held T_heldPrice T_ways T_early T_late y h k
      rw [l_X8_weigh_71] at h
      refine ri false 10 (q := v4 < L_count) (t1 := 83) (t2 := 143) rfl rfl trivial (fun c => ?_) (fun c => ?_)
      · replace h := zif1 c h
        refine rb false 11 (L2 := [some (2, Int.ofNat 1), none, some (0, v2), none, some (0, v4), some (0, 0)]) rfl rfl trivial ?_
        obtain ⟨x11, hx11, h⟩ := zbd h
        refine LP86 zN v2 v4 0 L_count L_copiedStands L_from L_to L_forms L_costs L_copied T_cost T_priced T_settled T_quarrel T_steps T_pairs T_built T_rest T_beside T_held T_heldPrice T_ways T_early T_late x11 hx11 ?_
        obtain ⟨g12_0, h⟩ := zgd h
        refine rg false 16 (t := 71) (L2 := [some (2, Int.ofNat 1), none, some (0, v2), none, some (0, (v4 + 1)), none]) rfl rfl rfl g12_0 ?_
        exact ih v2 (v4 + 1) L_count L_copiedStands L_from L_to L_forms L_costs L_copied T_cost T_priced T_settled T_quarrel T_steps T_pairs T_built T_rest x11 T_held T_heldPrice T_ways T_early T_late y h k
      · replace h := zif2 c h
        refine rmk [false, false, false, false, false, false] (L2 := [none, none, none, none, none, none]) rfl ?_
        obtain rfl := Option.some.inj h
        exact k
  unfold f_X8_weigh at h
  obtain ⟨x1, hx1, h⟩ := zbd h
  refine rv false 0 0 rfl rfl trivial rfl (m_C_X8_fillBuilt l M2 M3 M4 M5 M6 M7 M8 M9 M10 M11 M12 M13 L_count L_copiedStands L_from L_to L_forms L_costs L_copied T_cost T_priced T_settled T_quarrel T_steps T_pairs T_built T_rest T_beside T_held T_heldPrice T_ways T_early T_late x1 hx1) ⟨_, _, _, _, rfl, rfl, rfl, by decide +kernel, ⟨Nat.le_of_ble_eq_true rfl, Nat.le_of_ble_eq_true rfl⟩, uGin u_15_19 u_15_20 u_15_21 u_1_15 u_15_22⟩ ⟨rfl, _, _, _, rfl, rfl⟩ ?_
  obtain ⟨x2, hx2, h⟩ := zbd h
  refine rv false 1 0 rfl rfl trivial rfl (m_C_X8_fillRest l M2 M3 M4 M5 M6 M7 M8 M9 M10 M11 M12 M13 L_count L_copiedStands L_from L_to L_forms L_costs L_copied T_cost T_priced T_settled T_quarrel T_steps T_pairs x1 T_rest T_beside T_held T_heldPrice T_ways T_early T_late x2 hx2) ⟨_, _, _, _, rfl, rfl, rfl, by decide +kernel, ⟨Nat.le_of_ble_eq_true rfl, Nat.le_of_ble_eq_true rfl⟩, uGin u_17_17 u_17_18 u_17_19 u_1_15 u_17_20⟩ ⟨rfl, _, _, _, rfl, rfl⟩ ?_
  obtain ⟨x3, hx3, h⟩ := zbd h
  refine rv false 2 0 rfl rfl trivial rfl (m_C_X8_everyone l ([T_cost, T_priced, T_settled, T_quarrel], [T_steps, T_pairs, x1, x2, T_beside, T_held, T_heldPrice, T_ways, T_early, T_late]) M2 M3 M4 M5 M6 M7 M8 M9 M10 M11 M12 M13 L_count L_copiedStands L_from L_to L_forms L_costs L_copied x3 hx3) ⟨_, _, _, _, rfl, rfl, rfl, by decide +kernel, ⟨Nat.le_of_ble_eq_true rfl, Nat.le_of_ble_eq_true rfl⟩, uGin u_15_5 u_15_6 u_15_7 u_1_15 u_15_8⟩ ⟨rfl, _, _, _, rfl, rfl⟩ ?_
  refine rb false 3 (L2 := [some (2, Int.ofNat 1), some (0, p1), some (0, x3), some (0, (zshl 1 p1)), some (0, 0), none]) rfl rfl trivial ?_
  refine rmk [true, false, true, true, true, false] (L2 := [some (2, Int.ofNat 1), none, some (0, x3), some (0, (zshl 1 p1)), some (0, 0), none]) rfl ?_
  obtain ⟨x7, hx7, h⟩ := zbd h
  refine LP20 zN x3 (zshl 1 p1) 0 L_count L_copiedStands L_from L_to L_forms L_costs L_copied T_cost T_priced T_settled T_quarrel T_steps T_pairs x1 x2 T_beside T_held T_heldPrice T_ways T_early T_late x7 hx7 ?_
  refine rb false 9 (L2 := [some (2, Int.ofNat 1), none, some (0, x3), none, some (0, 0), none]) rfl rfl trivial ?_
  obtain ⟨x13, hx13, h⟩ := zbd h
  refine LP71 zN x3 0 L_count L_copiedStands L_from L_to L_forms L_costs L_copied T_cost T_priced T_settled T_quarrel T_steps T_pairs x1 x2 x7 T_held T_heldPrice T_ways T_early T_late x13 hx13 ?_
  obtain rfl := Option.some.inj h
  exact r0 false 17 rfl rfl rfl rfl trivial
def bX8_fits : zB := [(0, [(.aload_n 0, 1), (.getfield 12, 3), (.iload_n 1, 1), (.iload_n 2, 1)], 6, .invokevirtual 126, 3), (9, [(.istore_n 3, 1), (.iload_n 3, 1), (.iconst (-1), 1)], 12, .if_icmp .eq 30, 3), (15, [(.aload_n 0, 1), (.getfield 31, 3), (.iload_n 3, 1), (.iaload, 1), (.aload_n 0, 1), (.getfield 12, 3), (.iload_n 1, 1), (.iload_n 2, 1)], 27, .invokevirtual 129, 3), (30, [(.iadd, 1), (.aload_n 0, 1), (.getfield 77, 3)], 35, .if_icmp .ne 7, 3), (38, [(.iconst 1, 1)], 39, .goto 4, 3), (42, [(.iconst 0, 1)], 43, .nop, 0), (43, [], 43, .ireturn, 1)]
theorem bX8_fits_ok : zBok cX8_fits 4 bX8_fits = true := by decide +kernel
abbrev wX8_fits : List Cond := Cond.code yX8_fits cX8_fits 4 (some .boolean) :: uU
def rX8_fits : Room := { frames := 2, cells := 0, slots := 0, locals := 51 }
set_option maxRecDepth 20000 in
set_option maxHeartbeats 4000000 in
theorem m_C_X8_fits (l : Launch) (M2 : zM) (M3 : zM) (M4 : zM) (M5 : zM) (M6 : zM) (M7 : zM) (M8 : zM) (M9 : zM) (M10 : zM) (M11 : zM) (M12 : zM) (M13 : zM) (p1 : Int) (p2 : Int) (L_count : Int) (L_copiedStands : Int) (L_from : Nat → Int) (L_to : Nat → Int) (L_forms : Nat → Int) (L_costs : Nat → Int) (L_copied : Nat → Int) (T_cost : Int) (T_priced : Int) (T_settled : Int) (T_quarrel : Int) (T_steps : Nat → Int) (T_pairs : Nat → Int) (T_built : Nat → Int) (T_rest : Nat → Int) (T_beside : Nat → Int) (T_held : Nat → Int) (T_heldPrice : Nat → Int) (T_ways : Nat → Int) (T_early : Nat → Int) (T_late : Nat → Int) (x : Int) (h : f_X8_fits p1 p2 T_cost L_count L_forms L_costs L_copied T_beside = some x) : zD l yX8_fits wX8_fits rX8_fits lamC shpC [(2, Int.ofNat 1), (0, p1), (0, p2)] [([L_count, L_copiedStands], [L_from, L_to, L_forms, L_costs, L_copied]), ([T_cost, T_priced, T_settled, T_quarrel], [T_steps, T_pairs, T_built, T_rest, T_beside, T_held, T_heldPrice, T_ways, T_early, T_late]), M2, M3, M4, M5, M6, M7, M8, M9, M10, M11, M12, M13] (some (0, x)) [([L_count, L_copiedStands], [L_from, L_to, L_forms, L_costs, L_copied]), ([T_cost, T_priced, T_settled, T_quarrel], [T_steps, T_pairs, T_built, T_rest, T_beside, T_held, T_heldPrice, T_ways, T_early, T_late]), M2, M3, M4, M5, M6, M7, M8, M9, M10, M11, M12, M13] := by
  refine zD_of (B := bX8_fits) (E := eX8n) (by decide) rfl lokC (eX8n_ok _) bX8_fits_ok (Or.inl rfl) rfl (fun S R => ?_)
  obtain ⟨rb, rg, ri, rv, rs, r0, r1, r2, r3, rt, rmk⟩ := R
  show S 0 [some (2, Int.ofNat 1), some (0, p1), some (0, p2), none] [] [([L_count, L_copiedStands], [L_from, L_to, L_forms, L_costs, L_copied]), ([T_cost, T_priced, T_settled, T_quarrel], [T_steps, T_pairs, T_built, T_rest, T_beside, T_held, T_heldPrice, T_ways, T_early, T_late]), M2, M3, M4, M5, M6, M7, M8, M9, M10, M11, M12, M13]
  unfold f_X8_fits at h
  obtain ⟨x1, hx1, h⟩ := zbd h
  refine rv false 0 2 rfl rfl trivial rfl (m_C_X4_sources l ([T_cost, T_priced, T_settled, T_quarrel], [T_steps, T_pairs, T_built, T_rest, T_beside, T_held, T_heldPrice, T_ways, T_early, T_late]) M2 M3 M4 M5 M6 M7 M8 M9 M10 M11 M12 M13 p1 p2 L_count L_copiedStands L_from L_to L_forms L_costs L_copied x1 hx1) ⟨_, _, _, _, rfl, rfl, rfl, by decide +kernel, ⟨Nat.le_of_ble_eq_true rfl, Nat.le_of_ble_eq_true rfl⟩, uGin u_18_5 u_11_10 u_11_11 u_3_1 u_11_12⟩ ⟨rfl, _, _, _, rfl, rfl⟩ ?_
  refine ri false 1 (q := x1 = (-1)) (t1 := 42) (t2 := 15) (L2 := [some (2, Int.ofNat 1), some (0, p1), some (0, p2), some (0, x1)]) rfl rfl trivial (fun c => ?_) (fun c => ?_)
  · replace h := zif1 c h
    refine rb false 5 (st2 := [(0, 0)]) rfl rfl trivial ?_
    obtain rfl := Option.some.inj h
    exact r2 false 6 rfl rfl rfl rfl trivial (by decide)
  · replace h := zif2 c h
    obtain ⟨g3_0, h⟩ := zgd h
    obtain ⟨x2, hx2, h⟩ := zbd h
    refine rv false 2 2 (rest := [(0, (T_beside (Int.toNat x1)))]) rfl rfl g3_0 rfl (m_C_X4_priceOf l ([T_cost, T_priced, T_settled, T_quarrel], [T_steps, T_pairs, T_built, T_rest, T_beside, T_held, T_heldPrice, T_ways, T_early, T_late]) M2 M3 M4 M5 M6 M7 M8 M9 M10 M11 M12 M13 p1 p2 L_count L_copiedStands L_from L_to L_forms L_costs L_copied x2 hx2) ⟨_, _, _, _, rfl, rfl, rfl, by decide +kernel, ⟨Nat.le_of_ble_eq_true rfl, Nat.le_of_ble_eq_true rfl⟩, uGin u_18_6 u_12_7 u_12_8 u_3_1 u_12_9⟩ ⟨rfl, _, _, _, rfl, rfl⟩ ?_
    obtain ⟨g4_0, h⟩ := zgd h
    refine ri false 3 (q := ((T_beside (Int.toNat x1)) + x2) = T_cost) (t1 := 38) (t2 := 42) rfl rfl g4_0 (fun c => ?_) (fun c => ?_)
    · replace h := zif1 c h
      refine rg false 4 (t := 43) (st2 := [(0, 1)]) rfl rfl rfl trivial ?_
      obtain rfl := Option.some.inj h
      exact r2 false 6 rfl rfl rfl rfl trivial (by decide)
    · replace h := zif2 c h
      refine rb false 5 (st2 := [(0, 0)]) rfl rfl trivial ?_
      obtain rfl := Option.some.inj h
      exact r2 false 6 rfl rfl rfl rfl trivial (by decide)
def bX8_leastWayThatFits : zB := [(0, [(.iconst 0, 1), (.istore_n 2, 1)], 2, .nop, 0), (2, [(.iload_n 2, 1), (.sipush 532, 3)], 6, .if_icmp .ge 20, 3), (9, [(.aload_n 0, 1), (.iload_n 1, 1), (.iload_n 2, 1)], 12, .invokevirtual 89, 3), (15, [], 15, .ifCond .eq 5, 3), (18, [(.iload_n 2, 1)], 19, .ireturn, 1), (20, [(.iinc 2 1, 3)], 23, .goto (-21), 3), (26, [(.iconst 0, 1)], 27, .ireturn, 1)]
theorem bX8_leastWayThatFits_ok : zBok cX8_leastWayThatFits 3 bX8_leastWayThatFits = true := by decide +kernel
abbrev wX8_leastWayThatFits : List Cond := Cond.code yX8_leastWayThatFits cX8_leastWayThatFits 3 (some .int) :: uU
def rX8_leastWayThatFits : Room := { frames := 3, cells := 0, slots := 0, locals := 74 }
set_option maxRecDepth 20000 in
set_option maxHeartbeats 4000000 in
theorem m_C_X8_leastWayThatFits (l : Launch) (M2 : zM) (M3 : zM) (M4 : zM) (M5 : zM) (M6 : zM) (M7 : zM) (M8 : zM) (M9 : zM) (M10 : zM) (M11 : zM) (M12 : zM) (M13 : zM) (p1 : Int) (L_count : Int) (L_copiedStands : Int) (L_from : Nat → Int) (L_to : Nat → Int) (L_forms : Nat → Int) (L_costs : Nat → Int) (L_copied : Nat → Int) (T_cost : Int) (T_priced : Int) (T_settled : Int) (T_quarrel : Int) (T_steps : Nat → Int) (T_pairs : Nat → Int) (T_built : Nat → Int) (T_rest : Nat → Int) (T_beside : Nat → Int) (T_held : Nat → Int) (T_heldPrice : Nat → Int) (T_ways : Nat → Int) (T_early : Nat → Int) (T_late : Nat → Int) (x : Int) (h : f_X8_leastWayThatFits p1 T_cost L_count L_forms L_costs L_copied T_beside = some x) : zD l yX8_leastWayThatFits wX8_leastWayThatFits rX8_leastWayThatFits lamC shpC [(2, Int.ofNat 1), (0, p1)] [([L_count, L_copiedStands], [L_from, L_to, L_forms, L_costs, L_copied]), ([T_cost, T_priced, T_settled, T_quarrel], [T_steps, T_pairs, T_built, T_rest, T_beside, T_held, T_heldPrice, T_ways, T_early, T_late]), M2, M3, M4, M5, M6, M7, M8, M9, M10, M11, M12, M13] (some (0, x)) [([L_count, L_copiedStands], [L_from, L_to, L_forms, L_costs, L_copied]), ([T_cost, T_priced, T_settled, T_quarrel], [T_steps, T_pairs, T_built, T_rest, T_beside, T_held, T_heldPrice, T_ways, T_early, T_late]), M2, M3, M4, M5, M6, M7, M8, M9, M10, M11, M12, M13] := by
  refine zD_of (B := bX8_leastWayThatFits) (E := eX8n) (by decide) rfl lokC (eX8n_ok _) bX8_leastWayThatFits_ok (Or.inl rfl) rfl (fun S R => ?_)
  obtain ⟨rb, rg, ri, rv, rs, r0, r1, r2, r3, rt, rmk⟩ := R
  show S 0 [some (2, Int.ofNat 1), some (0, p1), none] [] [([L_count, L_copiedStands], [L_from, L_to, L_forms, L_costs, L_copied]), ([T_cost, T_priced, T_settled, T_quarrel], [T_steps, T_pairs, T_built, T_rest, T_beside, T_held, T_heldPrice, T_ways, T_early, T_late]), M2, M3, M4, M5, M6, M7, M8, M9, M10, M11, M12, M13]
  have LP2 : ∀ (n : Nat) (v1 : Int) (v2 : Int), l_X8_leastWayThatFits_2 n v1 v2 T_cost L_count L_forms L_costs L_copied T_beside = some x → S 2 [some (2, Int.ofNat 1), some (0, v1), some (0, v2)] [] [([L_count, L_copiedStands], [L_from, L_to, L_forms, L_costs, L_copied]), ([T_cost, T_priced, T_settled, T_quarrel], [T_steps, T_pairs, T_built, T_rest, T_beside, T_held, T_heldPrice, T_ways, T_early, T_late]), M2, M3, M4, M5, M6, M7, M8, M9, M10, M11, M12, M13] := by
    intro n
    induction n with
    | zero =>
      intro v1 v2 h
      rw [l_X8_leastWayThatFits_2] at h
      cases h
    | succ n ih =>
      intro v1 v2 h
      rw [l_X8_leastWayThatFits_2] at h
      refine ri false 1 (q := v2 < 532) (t1 := 9) (t2 := 26) rfl rfl trivial (fun c => ?_) (fun c => ?_)
      · replace h := zif1 c h
        obtain ⟨x1, hx1, h⟩ := zbd h
        refine rv false 2 2 rfl rfl trivial rfl (m_C_X8_fits l M2 M3 M4 M5 M6 M7 M8 M9 M10 M11 M12 M13 v1 v2 L_count L_copiedStands L_from L_to L_forms L_costs L_copied T_cost T_priced T_settled T_quarrel T_steps T_pairs T_built T_rest T_beside T_held T_heldPrice T_ways T_early T_late x1 hx1) ⟨_, _, _, _, rfl, rfl, rfl, by decide +kernel, ⟨Nat.le_of_ble_eq_true rfl, Nat.le_of_ble_eq_true rfl⟩, uGin u_18_1 u_18_2 u_18_3 u_1_15 u_18_4⟩ ⟨rfl, _, _, _, rfl, rfl⟩ ?_
        refine ri false 3 (q := x1 = 0) (t1 := 20) (t2 := 18) rfl rfl trivial (fun c => ?_) (fun c => ?_)
        · replace h := zif1 c h
          obtain ⟨g2_0, h⟩ := zgd h
          refine rg false 5 (t := 2) (L2 := [some (2, Int.ofNat 1), some (0, v1), some (0, (v2 + 1))]) rfl rfl rfl g2_0 ?_
          exact ih v1 (v2 + 1) h
        · replace h := zif2 c h
          obtain rfl := Option.some.inj h
          exact r1 false 4 rfl rfl rfl rfl rfl rfl trivial
      · replace h := zif2 c h
        obtain rfl := Option.some.inj h
        exact r1 false 6 rfl rfl rfl rfl rfl rfl trivial
  unfold f_X8_leastWayThatFits at h
  refine rb false 0 (L2 := [some (2, Int.ofNat 1), some (0, p1), some (0, 0)]) rfl rfl trivial ?_
  exact LP2 zN p1 0 h
def bX8_pushYears : zB := [(0, [(.iconst 0, 1), (.istore_n 2, 1)], 2, .nop, 0), (2, [(.iload_n 2, 1), (.aload_n 0, 1), (.getfield 12, 3), (.getfield 59, 3)], 10, .if_icmp .ge 64, 3), (13, [(.aload_n 0, 1), (.getfield 34, 3), (.iload_n 1, 1), (.iaload, 1), (.iload_n 2, 1), (.ishr, 1), (.iconst 1, 1), (.iand, 1)], 23, .ifCond .eq 45, 3), (26, [(.aload_n 0, 1), (.getfield 43, 3), (.iload_n 1, 1), (.aload_n 0, 1), (.getfield 43, 3), (.iload_n 1, 1), (.iaload, 1), (.aload_n 0, 1), (.getfield 43, 3), (.iload_n 2, 1), (.iaload, 1), (.invokestatic 147, 3), (.iastore, 1)], 47, .nop, 0), (47, [(.aload_n 0, 1), (.getfield 46, 3), (.iload_n 2, 1), (.aload_n 0, 1), (.getfield 46, 3), (.iload_n 2, 1), (.iaload, 1), (.aload_n 0, 1), (.getfield 46, 3), (.iload_n 1, 1), (.iaload, 1), (.invokestatic 110, 3), (.iastore, 1)], 68, .nop, 0), (68, [(.iinc 2 1, 3)], 71, .goto (-69), 3), (74, [], 74, .return_, 1)]
theorem bX8_pushYears_ok : zBok cX8_pushYears 3 bX8_pushYears = true := by decide +kernel
abbrev wX8_pushYears : List Cond := Cond.code yX8_pushYears cX8_pushYears 3 none :: uU
def rX8_pushYears : Room := { frames := 1, cells := 0, slots := 0, locals := 21 }
set_option maxRecDepth 20000 in
set_option maxHeartbeats 4000000 in
theorem m_C_X8_pushYears (l : Launch) (M2 : zM) (M3 : zM) (M4 : zM) (M5 : zM) (M6 : zM) (M7 : zM) (M8 : zM) (M9 : zM) (M10 : zM) (M11 : zM) (M12 : zM) (M13 : zM) (p1 : Int) (L_count : Int) (L_copiedStands : Int) (L_from : Nat → Int) (L_to : Nat → Int) (L_forms : Nat → Int) (L_costs : Nat → Int) (L_copied : Nat → Int) (T_cost : Int) (T_priced : Int) (T_settled : Int) (T_quarrel : Int) (T_steps : Nat → Int) (T_pairs : Nat → Int) (T_built : Nat → Int) (T_rest : Nat → Int) (T_beside : Nat → Int) (T_held : Nat → Int) (T_heldPrice : Nat → Int) (T_ways : Nat → Int) (T_early : Nat → Int) (T_late : Nat → Int) (x : (Nat → Int) × (Nat → Int)) (h : f_X8_pushYears p1 L_count T_held T_early T_late = some x) : zD l yX8_pushYears wX8_pushYears rX8_pushYears lamC shpC [(2, Int.ofNat 1), (0, p1)] [([L_count, L_copiedStands], [L_from, L_to, L_forms, L_costs, L_copied]), ([T_cost, T_priced, T_settled, T_quarrel], [T_steps, T_pairs, T_built, T_rest, T_beside, T_held, T_heldPrice, T_ways, T_early, T_late]), M2, M3, M4, M5, M6, M7, M8, M9, M10, M11, M12, M13] (none) [([L_count, L_copiedStands], [L_from, L_to, L_forms, L_costs, L_copied]), ([T_cost, T_priced, T_settled, T_quarrel], [T_steps, T_pairs, T_built, T_rest, T_beside, T_held, T_heldPrice, T_ways, x.1, x.2]), M2, M3, M4, M5, M6, M7, M8, M9, M10, M11, M12, M13] := by
  refine zD_of (B := bX8_pushYears) (E := eX8) (by decide) rfl lokC (eX8_ok _) bX8_pushYears_ok (Or.inr ⟨Nat.le_of_ble_eq_true rfl, Nat.le_of_ble_eq_true rfl⟩) rfl (fun S R => ?_)
  obtain ⟨rb, rg, ri, rv, rs, r0, r1, r2, r3, rt, rmk⟩ := R
  show S 0 [some (2, Int.ofNat 1), some (0, p1), none] [] [([L_count, L_copiedStands], [L_from, L_to, L_forms, L_costs, L_copied]), ([T_cost, T_priced, T_settled, T_quarrel], [T_steps, T_pairs, T_built, T_rest, T_beside, T_held, T_heldPrice, T_ways, T_early, T_late]), M2, M3, M4, M5, M6, M7, M8, M9, M10, M11, M12, M13]
  have LP2 : ∀ (n : Nat) (v1 : Int) (v2 : Int) (L_count : Int) (L_copiedStands : Int) (L_from : Nat → Int) (L_to : Nat → Int) (L_forms : Nat → Int) (L_costs : Nat → Int) (L_copied : Nat → Int) (T_cost : Int) (T_priced : Int) (T_settled : Int) (T_quarrel : Int) (T_steps : Nat → Int) (T_pairs : Nat → Int) (T_built : Nat → Int) (T_rest : Nat → Int) (T_beside : Nat → Int) (T_held : Nat → Int) (T_heldPrice : Nat → Int) (T_ways : Nat → Int) (T_early : Nat → Int) (T_late : Nat → Int) (y : (Nat → Int) × (Nat → Int)), l_X8_pushYears_2 n v1 v2 L_count T_held T_early T_late = some y → S 74 [none, none, none] [] [([L_count, L_copiedStands], [L_from, L_to, L_forms, L_costs, L_copied]), ([T_cost, T_priced, T_settled, T_quarrel], [T_steps, T_pairs, T_built, T_rest, T_beside, T_held, T_heldPrice, T_ways, y.1, y.2]), M2, M3, M4, M5, M6, M7, M8, M9, M10, M11, M12, M13] → S 2 [some (2, Int.ofNat 1), some (0, v1), some (0, v2)] [] [([L_count, L_copiedStands], [L_from, L_to, L_forms, L_costs, L_copied]), ([T_cost, T_priced, T_settled, T_quarrel], [T_steps, T_pairs, T_built, T_rest, T_beside, T_held, T_heldPrice, T_ways, T_early, T_late]), M2, M3, M4, M5, M6, M7, M8, M9, M10, M11, M12, M13] := by
    intro n
    induction n with
    | zero =>
      intro v1 v2 L_count L_copiedStands L_from L_to L_forms L_costs L_copied T_cost T_priced T_settled T_quarrel T_steps T_pairs T_built T_rest T_beside T_held T_heldPrice T_ways T_early T_late y h k
      rw [l_X8_pushYears_2] at h
      cases h
    | succ n ih =>
      intro v1 v2 L_count L_copiedStands L_from L_to L_forms L_costs L_copied T_cost T_priced T_settled T_quarrel T_steps T_pairs T_built T_rest T_beside T_held T_heldPrice T_ways T_early T_late y h k
      rw [l_X8_pushYears_2] at h
      refine ri false 1 (q := v2 < L_count) (t1 := 13) (t2 := 74) rfl rfl trivial (fun c => ?_) (fun c => ?_)
      · replace h := zif1 c h
        obtain ⟨g1_0, h⟩ := zgd h
        refine ri false 2 (q := (zand (zshr (T_held (Int.toNat v1)) v2) 1) = 0) (t1 := 68) (t2 := 26) rfl rfl g1_0 (fun c => ?_) (fun c => ?_)
        · replace h := zif1 c h
          obtain ⟨g2_0, h⟩ := zgd h
          refine rg false 5 (t := 2) (L2 := [some (2, Int.ofNat 1), some (0, v1), some (0, (v2 + 1))]) rfl rfl rfl g2_0 ?_
          exact ih v1 (v2 + 1) L_count L_copiedStands L_from L_to L_forms L_costs L_copied T_cost T_priced T_settled T_quarrel T_steps T_pairs T_built T_rest T_beside T_held T_heldPrice T_ways T_early T_late y h k
        · replace h := zif2 c h
          obtain ⟨⟨g3_0, g3_1, g3_2⟩, h⟩ := zgd h
          refine rb false 3 (σ2 := [([L_count, L_copiedStands], [L_from, L_to, L_forms, L_costs, L_copied]), ([T_cost, T_priced, T_settled, T_quarrel], [T_steps, T_pairs, T_built, T_rest, T_beside, T_held, T_heldPrice, T_ways, (zu T_early (Int.toNat v1) (max (T_early (Int.toNat v1)) (T_early (Int.toNat v2)))), T_late]), M2, M3, M4, M5, M6, M7, M8, M9, M10, M11, M12, M13]) rfl rfl (And.intro g3_0 (And.intro g3_1 g3_2)) ?_
          obtain ⟨⟨g4_0, g4_1, g4_2⟩, h⟩ := zgd h
          refine rb false 4 (σ2 := [([L_count, L_copiedStands], [L_from, L_to, L_forms, L_costs, L_copied]), ([T_cost, T_priced, T_settled, T_quarrel], [T_steps, T_pairs, T_built, T_rest, T_beside, T_held, T_heldPrice, T_ways, (zu T_early (Int.toNat v1) (max (T_early (Int.toNat v1)) (T_early (Int.toNat v2)))), (zu T_late (Int.toNat v2) (min (T_late (Int.toNat v2)) (T_late (Int.toNat v1))))]), M2, M3, M4, M5, M6, M7, M8, M9, M10, M11, M12, M13]) rfl rfl (And.intro g4_0 (And.intro g4_1 g4_2)) ?_
          obtain ⟨g5_0, h⟩ := zgd h
          refine rg false 5 (t := 2) (L2 := [some (2, Int.ofNat 1), some (0, v1), some (0, (v2 + 1))]) rfl rfl rfl g5_0 ?_
          exact ih v1 (v2 + 1) L_count L_copiedStands L_from L_to L_forms L_costs L_copied T_cost T_priced T_settled T_quarrel T_steps T_pairs T_built T_rest T_beside T_held T_heldPrice T_ways (zu T_early (Int.toNat v1) (max (T_early (Int.toNat v1)) (T_early (Int.toNat v2)))) (zu T_late (Int.toNat v2) (min (T_late (Int.toNat v2)) (T_late (Int.toNat v1)))) y h k
      · replace h := zif2 c h
        refine rmk [false, false, false] (L2 := [none, none, none]) rfl ?_
        obtain rfl := Option.some.inj h
        exact k
  unfold f_X8_pushYears at h
  refine rb false 0 (L2 := [some (2, Int.ofNat 1), some (0, p1), some (0, 0)]) rfl rfl trivial ?_
  obtain ⟨x6, hx6, h⟩ := zbd h
  refine LP2 zN p1 0 L_count L_copiedStands L_from L_to L_forms L_costs L_copied T_cost T_priced T_settled T_quarrel T_steps T_pairs T_built T_rest T_beside T_held T_heldPrice T_ways T_early T_late x6 hx6 ?_
  obtain rfl := Option.some.inj h
  exact r0 false 6 rfl rfl rfl rfl trivial
def bX8_datesOfTheHeld : zB := [(0, [(.iconst 0, 1), (.istore_n 1, 1)], 2, .nop, 0), (2, [(.iload_n 1, 1), (.aload_n 0, 1), (.getfield 12, 3), (.getfield 59, 3)], 10, .if_icmp .ge 37, 3), (13, [(.aload_n 0, 1), (.getfield 43, 3), (.iload_n 1, 1), (.aload_n 0, 1), (.getfield 12, 3), (.iload_n 1, 1)], 23, .invokevirtual 138, 3), (26, [(.iastore, 1), (.aload_n 0, 1), (.getfield 46, 3), (.iload_n 1, 1), (.aload_n 0, 1), (.getfield 12, 3), (.iload_n 1, 1)], 37, .invokevirtual 141, 3), (40, [(.iastore, 1), (.iinc 1 1, 3)], 44, .goto (-42), 3), (47, [(.iconst 0, 1), (.istore_n 1, 1)], 49, .nop, 0), (49, [(.iload_n 1, 1), (.aload_n 0, 1), (.getfield 12, 3), (.getfield 59, 3)], 57, .if_icmp .ge 33, 3), (60, [(.iconst 0, 1), (.istore_n 2, 1)], 62, .nop, 0), (62, [(.iload_n 2, 1), (.aload_n 0, 1), (.getfield 12, 3), (.getfield 59, 3)], 70, .if_icmp .ge 14, 3), (73, [(.aload_n 0, 1), (.iload_n 2, 1)], 75, .invokevirtual 144, 3), (78, [(.iinc 2 1, 3)], 81, .goto (-19), 3), (84, [(.iinc 1 1, 3)], 87, .goto (-38), 3), (90, [(.aload_n 0, 1), (.iconst 0, 1), (.putfield 93, 3), (.iconst 0, 1), (.istore_n 1, 1)], 97, .nop, 0), (97, [(.iload_n 1, 1), (.aload_n 0, 1), (.getfield 12, 3), (.getfield 59, 3)], 105, .if_icmp .ge 40, 3), (108, [(.aload_n 0, 1), (.aload_n 0, 1), (.getfield 93, 3)], 113, .ifCond .ne 18, 3), (116, [(.aload_n 0, 1), (.getfield 43, 3), (.iload_n 1, 1), (.iaload, 1), (.aload_n 0, 1), (.getfield 46, 3), (.iload_n 1, 1), (.iaload, 1)], 128, .if_icmp .le 7, 3), (131, [(.iconst 1, 1)], 132, .goto 4, 3), (135, [(.iconst 0, 1)], 136, .nop, 0), (136, [(.putfield 93, 3), (.iinc 1 1, 3)], 142, .goto (-45), 3), (145, [], 145, .return_, 1)]
theorem bX8_datesOfTheHeld_ok : zBok cX8_datesOfTheHeld 3 bX8_datesOfTheHeld = true := by decide +kernel
abbrev wX8_datesOfTheHeld : List Cond := Cond.code yX8_datesOfTheHeld cX8_datesOfTheHeld 3 none :: uU
def rX8_datesOfTheHeld : Room := { frames := 2, cells := 0, slots := 0, locals := 43 }
set_option maxRecDepth 20000 in
set_option maxHeartbeats 4000000 in
theorem m_C_X8_datesOfTheHeld (l : Launch) (M2 : zM) (M3 : zM) (M4 : zM) (M5 : zM) (M6 : zM) (M7 : zM) (M8 : zM) (M9 : zM) (M10 : zM) (M11 : zM) (M12 : zM) (M13 : zM) (L_count : Int) (L_copiedStands : Int) (L_from : Nat → Int) (L_to : Nat → Int) (L_forms : Nat → Int) (L_costs : Nat → Int) (L_copied : Nat → Int) (T_cost : Int) (T_priced : Int) (T_settled : Int) (T_quarrel : Int) (T_steps : Nat → Int) (T_pairs : Nat → Int) (T_built : Nat → Int) (T_rest : Nat → Int) (T_beside : Nat → Int) (T_held : Nat → Int) (T_heldPrice : Nat → Int) (T_ways : Nat → Int) (T_early : Nat → Int) (T_late : Nat → Int) (x : Int × (Nat → Int) × (Nat → Int)) (h : f_X8_datesOfTheHeld T_quarrel L_count L_from L_to T_held T_early T_late = some x) : zD l yX8_datesOfTheHeld wX8_datesOfTheHeld rX8_datesOfTheHeld lamC shpC [(2, Int.ofNat 1)] [([L_count, L_copiedStands], [L_from, L_to, L_forms, L_costs, L_copied]), ([T_cost, T_priced, T_settled, T_quarrel], [T_steps, T_pairs, T_built, T_rest, T_beside, T_held, T_heldPrice, T_ways, T_early, T_late]), M2, M3, M4, M5, M6, M7, M8, M9, M10, M11, M12, M13] (none) [([L_count, L_copiedStands], [L_from, L_to, L_forms, L_costs, L_copied]), ([T_cost, T_priced, T_settled, x.1], [T_steps, T_pairs, T_built, T_rest, T_beside, T_held, T_heldPrice, T_ways, x.2.1, x.2.2]), M2, M3, M4, M5, M6, M7, M8, M9, M10, M11, M12, M13] := by
  refine zD_of (B := bX8_datesOfTheHeld) (E := eX8n) (by decide) rfl lokC (eX8n_ok _) bX8_datesOfTheHeld_ok (Or.inl rfl) rfl (fun S R => ?_)
  obtain ⟨rb, rg, ri, rv, rs, r0, r1, r2, r3, rt, rmk⟩ := R
  show S 0 [some (2, Int.ofNat 1), none, none] [] [([L_count, L_copiedStands], [L_from, L_to, L_forms, L_costs, L_copied]), ([T_cost, T_priced, T_settled, T_quarrel], [T_steps, T_pairs, T_built, T_rest, T_beside, T_held, T_heldPrice, T_ways, T_early, T_late]), M2, M3, M4, M5, M6, M7, M8, M9, M10, M11, M12, M13]
  have LP2 : ∀ (n : Nat) (v1 : Int) (L_count : Int) (L_copiedStands : Int) (L_from : Nat → Int) (L_to : Nat → Int) (L_forms : Nat → Int) (L_costs : Nat → Int) (L_copied : Nat → Int) (T_cost : Int) (T_priced : Int) (T_settled : Int) (T_quarrel : Int) (T_steps : Nat → Int) (T_pairs : Nat → Int) (T_built : Nat → Int) (T_rest : Nat → Int) (T_beside : Nat → Int) (T_held : Nat → Int) (T_heldPrice : Nat → Int) (T_ways : Nat → Int) (T_early : Nat → Int) (T_late : Nat → Int) (y : (Nat → Int) × (Nat → Int)), l_X8_datesOfTheHeld_2 n v1 L_count L_from L_to T_early T_late = some y → S 47 [some (2, Int.ofNat 1), none, none] [] [([L_count, L_copiedStands], [L_from, L_to, L_forms, L_costs, L_copied]), ([T_cost, T_priced, T_settled, T_quarrel], [T_steps, T_pairs, T_built, T_rest, T_beside, T_held, T_heldPrice, T_ways, y.1, y.2]), M2, M3, M4, M5, M6, M7, M8, M9, M10, M11, M12, M13] → S 2 [some (2, Int.ofNat 1), some (0, v1), none] [] [([L_count, L_copiedStands], [L_from, L_to, L_forms, L_costs, L_copied]), ([T_cost, T_priced, T_settled, T_quarrel], [T_steps, T_pairs, T_built, T_rest, T_beside, T_held, T_heldPrice, T_ways, T_early, T_late]), M2, M3, M4, M5, M6, M7, M8, M9, M10, M11, M12, M13] := by
    intro n
    induction n with
    | zero =>
      intro v1 L_count L_copiedStands L_from L_to L_forms L_costs L_copied T_cost T_priced T_settled T_quarrel T_steps T_pairs T_built T_rest T_beside T_held T_heldPrice T_ways T_early T_late y h k
      rw [l_X8_datesOfTheHeld_2] at h
      cases h
    | succ n ih =>
      intro v1 L_count L_copiedStands L_from L_to L_forms L_costs L_copied T_cost T_priced T_settled T_quarrel T_steps T_pairs T_built T_rest T_beside T_held T_heldPrice T_ways T_early T_late y h k
      rw [l_X8_datesOfTheHeld_2] at h
      refine ri false 1 (q := v1 < L_count) (t1 := 13) (t2 := 47) rfl rfl trivial (fun c => ?_) (fun c => ?_)
      · replace h := zif1 c h
        obtain ⟨x1, hx1, h⟩ := zbd h
        refine rv false 2 1 (rest := [(0, v1), (2, Int.ofNat 16)]) rfl rfl trivial rfl (m_C_X4_firstYear l ([T_cost, T_priced, T_settled, T_quarrel], [T_steps, T_pairs, T_built, T_rest, T_beside, T_held, T_heldPrice, T_ways, T_early, T_late]) M2 M3 M4 M5 M6 M7 M8 M9 M10 M11 M12 M13 v1 L_count L_copiedStands L_from L_to L_forms L_costs L_copied x1 hx1) ⟨_, _, _, _, rfl, rfl, rfl, by decide +kernel, ⟨Nat.le_of_ble_eq_true rfl, Nat.le_of_ble_eq_true rfl⟩, uGin u_18_12 u_18_13 u_18_14 u_3_1 u_18_15⟩ ⟨rfl, _, _, _, rfl, rfl⟩ ?_
        obtain ⟨g3_0, h⟩ := zgd h
        obtain ⟨x2, hx2, h⟩ := zbd h
        refine rv false 3 1 (σ2 := [([L_count, L_copiedStands], [L_from, L_to, L_forms, L_costs, L_copied]), ([T_cost, T_priced, T_settled, T_quarrel], [T_steps, T_pairs, T_built, T_rest, T_beside, T_held, T_heldPrice, T_ways, (zu T_early (Int.toNat v1) x1), T_late]), M2, M3, M4, M5, M6, M7, M8, M9, M10, M11, M12, M13]) (rest := [(0, v1), (2, Int.ofNat 17)]) rfl rfl g3_0 rfl (m_C_X4_lastYear l ([T_cost, T_priced, T_settled, T_quarrel], [T_steps, T_pairs, T_built, T_rest, T_beside, T_held, T_heldPrice, T_ways, (zu T_early (Int.toNat v1) x1), T_late]) M2 M3 M4 M5 M6 M7 M8 M9 M10 M11 M12 M13 v1 L_count L_copiedStands L_from L_to L_forms L_costs L_copied x2 hx2) ⟨_, _, _, _, rfl, rfl, rfl, by decide +kernel, ⟨Nat.le_of_ble_eq_true rfl, Nat.le_of_ble_eq_true rfl⟩, uGin u_18_16 u_18_17 u_18_18 u_3_1 u_18_19⟩ ⟨rfl, _, _, _, rfl, rfl⟩ ?_
        obtain ⟨⟨g4_0, g4_1⟩, h⟩ := zgd h
        refine rg false 4 (t := 2) (L2 := [some (2, Int.ofNat 1), some (0, (v1 + 1)), none]) (σ2 := [([L_count, L_copiedStands], [L_from, L_to, L_forms, L_costs, L_copied]), ([T_cost, T_priced, T_settled, T_quarrel], [T_steps, T_pairs, T_built, T_rest, T_beside, T_held, T_heldPrice, T_ways, (zu T_early (Int.toNat v1) x1), (zu T_late (Int.toNat v1) x2)]), M2, M3, M4, M5, M6, M7, M8, M9, M10, M11, M12, M13]) rfl rfl rfl (And.intro g4_0 g4_1) ?_
        exact ih (v1 + 1) L_count L_copiedStands L_from L_to L_forms L_costs L_copied T_cost T_priced T_settled T_quarrel T_steps T_pairs T_built T_rest T_beside T_held T_heldPrice T_ways (zu T_early (Int.toNat v1) x1) (zu T_late (Int.toNat v1) x2) y h k
      · replace h := zif2 c h
        refine rmk [true, false, false] (L2 := [some (2, Int.ofNat 1), none, none]) rfl ?_
        obtain rfl := Option.some.inj h
        exact k
  have LP62 : ∀ (n : Nat) (v1 : Int) (v2 : Int) (L_count : Int) (L_copiedStands : Int) (L_from : Nat → Int) (L_to : Nat → Int) (L_forms : Nat → Int) (L_costs : Nat → Int) (L_copied : Nat → Int) (T_cost : Int) (T_priced : Int) (T_settled : Int) (T_quarrel : Int) (T_steps : Nat → Int) (T_pairs : Nat → Int) (T_built : Nat → Int) (T_rest : Nat → Int) (T_beside : Nat → Int) (T_held : Nat → Int) (T_heldPrice : Nat → Int) (T_ways : Nat → Int) (T_early : Nat → Int) (T_late : Nat → Int) (y : (Nat → Int) × (Nat → Int)), l_X8_datesOfTheHeld_62 n v1 v2 L_count T_held T_early T_late = some y → S 84 [some (2, Int.ofNat 1), some (0, v1), none] [] [([L_count, L_copiedStands], [L_from, L_to, L_forms, L_costs, L_copied]), ([T_cost, T_priced, T_settled, T_quarrel], [T_steps, T_pairs, T_built, T_rest, T_beside, T_held, T_heldPrice, T_ways, y.1, y.2]), M2, M3, M4, M5, M6, M7, M8, M9, M10, M11, M12, M13] → S 62 [some (2, Int.ofNat 1), some (0, v1), some (0, v2)] [] [([L_count, L_copiedStands], [L_from, L_to, L_forms, L_costs, L_copied]), ([T_cost, T_priced, T_settled, T_quarrel], [T_steps, T_pairs, T_built, T_rest, T_beside, T_held, T_heldPrice, T_ways, T_early, T_late]), M2, M3, M4, M5, M6, M7, M8, M9, M10, M11, M12, M13] := by
    intro n
    induction n with
    | zero =>
      intro v1 v2 L_count L_copiedStands L_from L_to L_forms L_costs L_copied T_cost T_priced T_settled T_quarrel T_steps T_pairs T_built T_rest T_beside T_held T_heldPrice T_ways T_early T_late y h k
      rw [l_X8_datesOfTheHeld_62] at h
      cases h
    | succ n ih =>
      intro v1 v2 L_count L_copiedStands L_from L_to L_forms L_costs L_copied T_cost T_priced T_settled T_quarrel T_steps T_pairs T_built T_rest T_beside T_held T_heldPrice T_ways T_early T_late y h k
      rw [l_X8_datesOfTheHeld_62] at h
      refine ri false 8 (q := v2 < L_count) (t1 := 73) (t2 := 84) rfl rfl trivial (fun c => ?_) (fun c => ?_)
      · replace h := zif1 c h
        obtain ⟨x6, hx6, h⟩ := zbd h
        refine rv false 9 1 rfl rfl trivial rfl (m_C_X8_pushYears l M2 M3 M4 M5 M6 M7 M8 M9 M10 M11 M12 M13 v2 L_count L_copiedStands L_from L_to L_forms L_costs L_copied T_cost T_priced T_settled T_quarrel T_steps T_pairs T_built T_rest T_beside T_held T_heldPrice T_ways T_early T_late x6 hx6) ⟨_, _, _, _, rfl, rfl, rfl, by decide +kernel, ⟨Nat.le_of_ble_eq_true rfl, Nat.le_of_ble_eq_true rfl⟩, uGin u_18_20 u_18_21 u_18_22 u_1_15 u_18_23⟩ ⟨rfl, _, _, _, rfl, rfl⟩ ?_
        obtain ⟨g7_0, h⟩ := zgd h
        refine rg false 10 (t := 62) (L2 := [some (2, Int.ofNat 1), some (0, v1), some (0, (v2 + 1))]) rfl rfl rfl g7_0 ?_
        exact ih v1 (v2 + 1) L_count L_copiedStands L_from L_to L_forms L_costs L_copied T_cost T_priced T_settled T_quarrel T_steps T_pairs T_built T_rest T_beside T_held T_heldPrice T_ways x6.1 x6.2 y h k
      · replace h := zif2 c h
        refine rmk [true, true, false] (L2 := [some (2, Int.ofNat 1), some (0, v1), none]) rfl ?_
        obtain rfl := Option.some.inj h
        exact k
  have LP49 : ∀ (n : Nat) (v1 : Int) (L_count : Int) (L_copiedStands : Int) (L_from : Nat → Int) (L_to : Nat → Int) (L_forms : Nat → Int) (L_costs : Nat → Int) (L_copied : Nat → Int) (T_cost : Int) (T_priced : Int) (T_settled : Int) (T_quarrel : Int) (T_steps : Nat → Int) (T_pairs : Nat → Int) (T_built : Nat → Int) (T_rest : Nat → Int) (T_beside : Nat → Int) (T_held : Nat → Int) (T_heldPrice : Nat → Int) (T_ways : Nat → Int) (T_early : Nat → Int) (T_late : Nat → Int) (y : (Nat → Int) × (Nat → Int)), l_X8_datesOfTheHeld_49 n v1 L_count T_held T_early T_late = some y → S 90 [some (2, Int.ofNat 1), none, none] [] [([L_count, L_copiedStands], [L_from, L_to, L_forms, L_costs, L_copied]), ([T_cost, T_priced, T_settled, T_quarrel], [T_steps, T_pairs, T_built, T_rest, T_beside, T_held, T_heldPrice, T_ways, y.1, y.2]), M2, M3, M4, M5, M6, M7, M8, M9, M10, M11, M12, M13] → S 49 [some (2, Int.ofNat 1), some (0, v1), none] [] [([L_count, L_copiedStands], [L_from, L_to, L_forms, L_costs, L_copied]), ([T_cost, T_priced, T_settled, T_quarrel], [T_steps, T_pairs, T_built, T_rest, T_beside, T_held, T_heldPrice, T_ways, T_early, T_late]), M2, M3, M4, M5, M6, M7, M8, M9, M10, M11, M12, M13] := by
    intro n
    induction n with
    | zero =>
      intro v1 L_count L_copiedStands L_from L_to L_forms L_costs L_copied T_cost T_priced T_settled T_quarrel T_steps T_pairs T_built T_rest T_beside T_held T_heldPrice T_ways T_early T_late y h k
      rw [l_X8_datesOfTheHeld_49] at h
      cases h
    | succ n ih =>
      intro v1 L_count L_copiedStands L_from L_to L_forms L_costs L_copied T_cost T_priced T_settled T_quarrel T_steps T_pairs T_built T_rest T_beside T_held T_heldPrice T_ways T_early T_late y h k
      rw [l_X8_datesOfTheHeld_49] at h
      refine ri false 6 (q := v1 < L_count) (t1 := 60) (t2 := 90) rfl rfl trivial (fun c => ?_) (fun c => ?_)
      · replace h := zif1 c h
        refine rb false 7 (L2 := [some (2, Int.ofNat 1), some (0, v1), some (0, 0)]) rfl rfl trivial ?_
        obtain ⟨x8, hx8, h⟩ := zbd h
        refine LP62 zN v1 0 L_count L_copiedStands L_from L_to L_forms L_costs L_copied T_cost T_priced T_settled T_quarrel T_steps T_pairs T_built T_rest T_beside T_held T_heldPrice T_ways T_early T_late x8 hx8 ?_
        obtain ⟨g9_0, h⟩ := zgd h
        refine rg false 11 (t := 49) (L2 := [some (2, Int.ofNat 1), some (0, (v1 + 1)), none]) rfl rfl rfl g9_0 ?_
        exact ih (v1 + 1) L_count L_copiedStands L_from L_to L_forms L_costs L_copied T_cost T_priced T_settled T_quarrel T_steps T_pairs T_built T_rest T_beside T_held T_heldPrice T_ways x8.1 x8.2 y h k
      · replace h := zif2 c h
        refine rmk [true, false, false] (L2 := [some (2, Int.ofNat 1), none, none]) rfl ?_
        obtain rfl := Option.some.inj h
        exact k
  have LP97 : ∀ (n : Nat) (v1 : Int) (L_count : Int) (L_copiedStands : Int) (L_from : Nat → Int) (L_to : Nat → Int) (L_forms : Nat → Int) (L_costs : Nat → Int) (L_copied : Nat → Int) (T_cost : Int) (T_priced : Int) (T_settled : Int) (T_quarrel : Int) (T_steps : Nat → Int) (T_pairs : Nat → Int) (T_built : Nat → Int) (T_rest : Nat → Int) (T_beside : Nat → Int) (T_held : Nat → Int) (T_heldPrice : Nat → Int) (T_ways : Nat → Int) (T_early : Nat → Int) (T_late : Nat → Int) (y : Int), l_X8_datesOfTheHeld_97 n v1 T_quarrel L_count T_early T_late = some y → S 145 [none, none, none] [] [([L_count, L_copiedStands], [L_from, L_to, L_forms, L_costs, L_copied]), ([T_cost, T_priced, T_settled, y], [T_steps, T_pairs, T_built, T_rest, T_beside, T_held, T_heldPrice, T_ways, T_early, T_late]), M2, M3, M4, M5, M6, M7, M8, M9, M10, M11, M12, M13] → S 97 [some (2, Int.ofNat 1), some (0, v1), none] [] [([L_count, L_copiedStands], [L_from, L_to, L_forms, L_costs, L_copied]), ([T_cost, T_priced, T_settled, T_quarrel], [T_steps, T_pairs, T_built, T_rest, T_beside, T_held, T_heldPrice, T_ways, T_early, T_late]), M2, M3, M4, M5, M6, M7, M8, M9, M10, M11, M12, M13] := by
    intro n
    induction n with
    | zero =>
      intro v1 L_count L_copiedStands L_from L_to L_forms L_costs L_copied T_cost T_priced T_settled T_quarrel T_steps T_pairs T_built T_rest T_beside T_held T_heldPrice T_ways T_early T_late y h k
      rw [l_X8_datesOfTheHeld_97] at h
      cases h
    | succ n ih =>
      intro v1 L_count L_copiedStands L_from L_to L_forms L_costs L_copied T_cost T_priced T_settled T_quarrel T_steps T_pairs T_built T_rest T_beside T_held T_heldPrice T_ways T_early T_late y h k
      rw [l_X8_datesOfTheHeld_97] at h
      refine ri false 13 (q := v1 < L_count) (t1 := 108) (t2 := 145) rfl rfl trivial (fun c => ?_) (fun c => ?_)
      · replace h := zif1 c h
        refine ri false 14 (q := T_quarrel = 0) (t1 := 116) (t2 := 131) (st2 := [(2, Int.ofNat 1)]) rfl rfl trivial (fun c => ?_) (fun c => ?_)
        · replace h := zif1 c h
          obtain ⟨⟨g11_0, g11_1⟩, h⟩ := zgd h
          refine ri false 15 (q := (T_late (Int.toNat v1)) < (T_early (Int.toNat v1))) (t1 := 131) (t2 := 135) (st2 := [(2, Int.ofNat 1)]) rfl rfl (And.intro g11_0 g11_1) (fun c => ?_) (fun c => ?_)
          · replace h := zif1 c h
            refine rg false 16 (t := 136) (st2 := [(0, 1), (2, Int.ofNat 1)]) rfl rfl rfl trivial ?_
            obtain ⟨g12_0, h⟩ := zgd h
            refine rg false 18 (t := 97) (L2 := [some (2, Int.ofNat 1), some (0, (v1 + 1)), none]) (σ2 := [([L_count, L_copiedStands], [L_from, L_to, L_forms, L_costs, L_copied]), ([T_cost, T_priced, T_settled, 1], [T_steps, T_pairs, T_built, T_rest, T_beside, T_held, T_heldPrice, T_ways, T_early, T_late]), M2, M3, M4, M5, M6, M7, M8, M9, M10, M11, M12, M13]) rfl rfl rfl (And.intro (show zbit 1 by decide) g12_0) ?_
            exact ih (v1 + 1) L_count L_copiedStands L_from L_to L_forms L_costs L_copied T_cost T_priced T_settled 1 T_steps T_pairs T_built T_rest T_beside T_held T_heldPrice T_ways T_early T_late y h k
          · replace h := zif2 c h
            refine rb false 17 (st2 := [(0, 0), (2, Int.ofNat 1)]) rfl rfl trivial ?_
            obtain ⟨g13_0, h⟩ := zgd h
            refine rg false 18 (t := 97) (L2 := [some (2, Int.ofNat 1), some (0, (v1 + 1)), none]) (σ2 := [([L_count, L_copiedStands], [L_from, L_to, L_forms, L_costs, L_copied]), ([T_cost, T_priced, T_settled, 0], [T_steps, T_pairs, T_built, T_rest, T_beside, T_held, T_heldPrice, T_ways, T_early, T_late]), M2, M3, M4, M5, M6, M7, M8, M9, M10, M11, M12, M13]) rfl rfl rfl (And.intro (show zbit 0 by decide) g13_0) ?_
            exact ih (v1 + 1) L_count L_copiedStands L_from L_to L_forms L_costs L_copied T_cost T_priced T_settled 0 T_steps T_pairs T_built T_rest T_beside T_held T_heldPrice T_ways T_early T_late y h k
        · replace h := zif2 c h
          refine rg false 16 (t := 136) (st2 := [(0, 1), (2, Int.ofNat 1)]) rfl rfl rfl trivial ?_
          obtain ⟨g14_0, h⟩ := zgd h
          refine rg false 18 (t := 97) (L2 := [some (2, Int.ofNat 1), some (0, (v1 + 1)), none]) (σ2 := [([L_count, L_copiedStands], [L_from, L_to, L_forms, L_costs, L_copied]), ([T_cost, T_priced, T_settled, 1], [T_steps, T_pairs, T_built, T_rest, T_beside, T_held, T_heldPrice, T_ways, T_early, T_late]), M2, M3, M4, M5, M6, M7, M8, M9, M10, M11, M12, M13]) rfl rfl rfl (And.intro (show zbit 1 by decide) g14_0) ?_
          exact ih (v1 + 1) L_count L_copiedStands L_from L_to L_forms L_costs L_copied T_cost T_priced T_settled 1 T_steps T_pairs T_built T_rest T_beside T_held T_heldPrice T_ways T_early T_late y h k
      · replace h := zif2 c h
        refine rmk [false, false, false] (L2 := [none, none, none]) rfl ?_
        obtain rfl := Option.some.inj h
        exact k
  unfold f_X8_datesOfTheHeld at h
  refine rb false 0 (L2 := [some (2, Int.ofNat 1), some (0, 0), none]) rfl rfl trivial ?_
  obtain ⟨x5, hx5, h⟩ := zbd h
  refine LP2 zN 0 L_count L_copiedStands L_from L_to L_forms L_costs L_copied T_cost T_priced T_settled T_quarrel T_steps T_pairs T_built T_rest T_beside T_held T_heldPrice T_ways T_early T_late x5 hx5 ?_
  refine rb false 5 (L2 := [some (2, Int.ofNat 1), some (0, 0), none]) rfl rfl trivial ?_
  obtain ⟨x10, hx10, h⟩ := zbd h
  refine LP49 zN 0 L_count L_copiedStands L_from L_to L_forms L_costs L_copied T_cost T_priced T_settled T_quarrel T_steps T_pairs T_built T_rest T_beside T_held T_heldPrice T_ways x5.1 x5.2 x10 hx10 ?_
  refine rb false 12 (L2 := [some (2, Int.ofNat 1), some (0, 0), none]) (σ2 := [([L_count, L_copiedStands], [L_from, L_to, L_forms, L_costs, L_copied]), ([T_cost, T_priced, T_settled, 0], [T_steps, T_pairs, T_built, T_rest, T_beside, T_held, T_heldPrice, T_ways, x10.1, x10.2]), M2, M3, M4, M5, M6, M7, M8, M9, M10, M11, M12, M13]) rfl rfl (show zbit 0 by decide) ?_
  obtain ⟨x15, hx15, h⟩ := zbd h
  refine LP97 zN 0 L_count L_copiedStands L_from L_to L_forms L_costs L_copied T_cost T_priced T_settled 0 T_steps T_pairs T_built T_rest T_beside T_held T_heldPrice T_ways x10.1 x10.2 x15 hx15 ?_
  obtain rfl := Option.some.inj h
  exact r0 false 19 rfl rfl rfl rfl trivial
def bX8_settle : zB := [(0, [(.aload_n 0, 1), (.getfield 53, 3)], 4, .ifCond .eq 4, 3), (7, [], 7, .return_, 1), (8, [(.aload_n 0, 1)], 9, .invokevirtual 83, 3), (12, [(.pop, 1), (.aload_n 0, 1)], 14, .invokevirtual 67, 3), (17, [(.iconst 0, 1), (.istore_n 1, 1)], 19, .nop, 0), (19, [(.iload_n 1, 1), (.aload_n 0, 1), (.getfield 12, 3), (.getfield 59, 3)], 27, .if_icmp .ge 57, 3), (30, [(.aload_n 0, 1), (.iload_n 1, 1)], 32, .invokevirtual 86, 3), (35, [(.aload_n 0, 1), (.iload_n 1, 1)], 37, .invokevirtual 132, 3), (40, [(.istore_n 2, 1), (.aload_n 0, 1), (.getfield 40, 3), (.iload_n 1, 1), (.iload_n 2, 1), (.iastore, 1), (.aload_n 0, 1), (.getfield 34, 3), (.iload_n 1, 1), (.aload_n 0, 1), (.getfield 12, 3), (.iload_n 1, 1), (.iload_n 2, 1)], 59, .invokevirtual 126, 3), (62, [(.iastore, 1), (.aload_n 0, 1), (.getfield 37, 3), (.iload_n 1, 1), (.aload_n 0, 1), (.getfield 12, 3), (.iload_n 1, 1), (.iload_n 2, 1)], 74, .invokevirtual 129, 3), (77, [(.iastore, 1), (.iinc 1 1, 3)], 81, .goto (-62), 3), (84, [(.aload_n 0, 1)], 85, .invokevirtual 135, 3), (88, [(.aload_n 0, 1), (.iconst 1, 1), (.putfield 53, 3)], 93, .return_, 1)]
theorem bX8_settle_ok : zBok cX8_settle 3 bX8_settle = true := by decide +kernel
abbrev wX8_settle : List Cond := Cond.code yX8_settle cX8_settle 3 none :: uU
def rX8_settle : Room := { frames := 4, cells := 0, slots := 0, locals := 100 }
set_option maxRecDepth 20000 in
set_option maxHeartbeats 4000000 in
theorem m_C_X8_settle (l : Launch) (M2 : zM) (M3 : zM) (M4 : zM) (M5 : zM) (M6 : zM) (M7 : zM) (M8 : zM) (M9 : zM) (M10 : zM) (M11 : zM) (M12 : zM) (M13 : zM) (L_count : Int) (L_copiedStands : Int) (L_from : Nat → Int) (L_to : Nat → Int) (L_forms : Nat → Int) (L_costs : Nat → Int) (L_copied : Nat → Int) (T_cost : Int) (T_priced : Int) (T_settled : Int) (T_quarrel : Int) (T_steps : Nat → Int) (T_pairs : Nat → Int) (T_built : Nat → Int) (T_rest : Nat → Int) (T_beside : Nat → Int) (T_held : Nat → Int) (T_heldPrice : Nat → Int) (T_ways : Nat → Int) (T_early : Nat → Int) (T_late : Nat → Int) (x : Int × Int × Int × Int × Int × (Nat → Int) × (Nat → Int) × (Nat → Int) × (Nat → Int) × (Nat → Int) × (Nat → Int) × (Nat → Int) × (Nat → Int) × (Nat → Int) × (Nat → Int) × (Nat → Int)) (h : f_X8_settle T_cost T_priced T_settled T_quarrel L_count L_copiedStands L_from L_to L_forms L_costs L_copied T_steps T_pairs T_built T_rest T_beside T_held T_heldPrice T_ways T_early T_late = some x) : zD l yX8_settle wX8_settle rX8_settle lamC shpC [(2, Int.ofNat 1)] [([L_count, L_copiedStands], [L_from, L_to, L_forms, L_costs, L_copied]), ([T_cost, T_priced, T_settled, T_quarrel], [T_steps, T_pairs, T_built, T_rest, T_beside, T_held, T_heldPrice, T_ways, T_early, T_late]), M2, M3, M4, M5, M6, M7, M8, M9, M10, M11, M12, M13] (none) [([L_count, x.2.2.2.2.1], [L_from, L_to, L_forms, L_costs, x.2.2.2.2.2.1]), ([x.1, x.2.1, x.2.2.1, x.2.2.2.1], [x.2.2.2.2.2.2.1, x.2.2.2.2.2.2.2.1, x.2.2.2.2.2.2.2.2.1, x.2.2.2.2.2.2.2.2.2.1, x.2.2.2.2.2.2.2.2.2.2.1, x.2.2.2.2.2.2.2.2.2.2.2.1, x.2.2.2.2.2.2.2.2.2.2.2.2.1, x.2.2.2.2.2.2.2.2.2.2.2.2.2.1, x.2.2.2.2.2.2.2.2.2.2.2.2.2.2.1, x.2.2.2.2.2.2.2.2.2.2.2.2.2.2.2]), M2, M3, M4, M5, M6, M7, M8, M9, M10, M11, M12, M13] := by
  refine zD_of (B := bX8_settle) (E := eX8n) (by decide) rfl lokC (eX8n_ok _) bX8_settle_ok (Or.inl rfl) rfl (fun S R => ?_)
  obtain ⟨rb, rg, ri, rv, rs, r0, r1, r2, r3, rt, rmk⟩ := R
  show S 0 [some (2, Int.ofNat 1), none, none] [] [([L_count, L_copiedStands], [L_from, L_to, L_forms, L_costs, L_copied]), ([T_cost, T_priced, T_settled, T_quarrel], [T_steps, T_pairs, T_built, T_rest, T_beside, T_held, T_heldPrice, T_ways, T_early, T_late]), M2, M3, M4, M5, M6, M7, M8, M9, M10, M11, M12, M13]
  have LP19 : ∀ (n : Nat) (v1 : Int) (L_count : Int) (L_copiedStands : Int) (L_from : Nat → Int) (L_to : Nat → Int) (L_forms : Nat → Int) (L_costs : Nat → Int) (L_copied : Nat → Int) (T_cost : Int) (T_priced : Int) (T_settled : Int) (T_quarrel : Int) (T_steps : Nat → Int) (T_pairs : Nat → Int) (T_built : Nat → Int) (T_rest : Nat → Int) (T_beside : Nat → Int) (T_held : Nat → Int) (T_heldPrice : Nat → Int) (T_ways : Nat → Int) (T_early : Nat → Int) (T_late : Nat → Int) (y : (Nat → Int) × (Nat → Int) × (Nat → Int) × (Nat → Int) × (Nat → Int) × (Nat → Int)), l_X8_settle_19 n v1 T_cost L_count L_forms L_costs L_copied T_steps T_built T_rest T_beside T_held T_heldPrice T_ways = some y → S 84 [some (2, Int.ofNat 1), none, none] [] [([L_count, L_copiedStands], [L_from, L_to, L_forms, L_costs, L_copied]), ([T_cost, T_priced, T_settled, T_quarrel], [T_steps, T_pairs, y.1, y.2.1, y.2.2.1, y.2.2.2.1, y.2.2.2.2.1, y.2.2.2.2.2, T_early, T_late]), M2, M3, M4, M5, M6, M7, M8, M9, M10, M11, M12, M13] → S 19 [some (2, Int.ofNat 1), some (0, v1), none] [] [([L_count, L_copiedStands], [L_from, L_to, L_forms, L_costs, L_copied]), ([T_cost, T_priced, T_settled, T_quarrel], [T_steps, T_pairs, T_built, T_rest, T_beside, T_held, T_heldPrice, T_ways, T_early, T_late]), M2, M3, M4, M5, M6, M7, M8, M9, M10, M11, M12, M13] := by
    intro n
    induction n with
    | zero =>
      intro v1 L_count L_copiedStands L_from L_to L_forms L_costs L_copied T_cost T_priced T_settled T_quarrel T_steps T_pairs T_built T_rest T_beside T_held T_heldPrice T_ways T_early T_late y h k
      rw [l_X8_settle_19] at h
      cases h
    | succ n ih =>
      intro v1 L_count L_copiedStands L_from L_to L_forms L_costs L_copied T_cost T_priced T_settled T_quarrel T_steps T_pairs T_built T_rest T_beside T_held T_heldPrice T_ways T_early T_late y h k
      rw [l_X8_settle_19] at h
      refine ri false 5 (q := v1 < L_count) (t1 := 30) (t2 := 84) rfl rfl trivial (fun c => ?_) (fun c => ?_)
      · replace h := zif1 c h
        obtain ⟨x3, hx3, h⟩ := zbd h
        refine rv false 6 1 rfl rfl trivial rfl (m_C_X8_weigh l M2 M3 M4 M5 M6 M7 M8 M9 M10 M11 M12 M13 v1 L_count L_copiedStands L_from L_to L_forms L_costs L_copied T_cost T_priced T_settled T_quarrel T_steps T_pairs T_built T_rest T_beside T_held T_heldPrice T_ways T_early T_late x3 hx3) ⟨_, _, _, _, rfl, rfl, rfl, by decide +kernel, ⟨Nat.le_of_ble_eq_true rfl, Nat.le_of_ble_eq_true rfl⟩, uGin u_17_13 u_17_14 u_17_15 u_1_15 u_17_16⟩ ⟨rfl, _, _, _, rfl, rfl⟩ ?_
        obtain ⟨x4, hx4, h⟩ := zbd h
        refine rv false 7 1 rfl rfl trivial rfl (m_C_X8_leastWayThatFits l M2 M3 M4 M5 M6 M7 M8 M9 M10 M11 M12 M13 v1 L_count L_copiedStands L_from L_to L_forms L_costs L_copied T_cost T_priced T_settled T_quarrel T_steps T_pairs x3.1 x3.2.1 x3.2.2 T_held T_heldPrice T_ways T_early T_late x4 hx4) ⟨_, _, _, _, rfl, rfl, rfl, by decide +kernel, ⟨Nat.le_of_ble_eq_true rfl, Nat.le_of_ble_eq_true rfl⟩, uGin u_17_21 u_17_22 u_17_23 u_1_15 u_18_0⟩ ⟨rfl, _, _, _, rfl, rfl⟩ ?_
        obtain ⟨g6_0, h⟩ := zgd h
        obtain ⟨x5, hx5, h⟩ := zbd h
        refine rv false 8 2 (L2 := [some (2, Int.ofNat 1), some (0, v1), some (0, x4)]) (σ2 := [([L_count, L_copiedStands], [L_from, L_to, L_forms, L_costs, L_copied]), ([T_cost, T_priced, T_settled, T_quarrel], [T_steps, T_pairs, x3.1, x3.2.1, x3.2.2, T_held, T_heldPrice, (zu T_ways (Int.toNat v1) x4), T_early, T_late]), M2, M3, M4, M5, M6, M7, M8, M9, M10, M11, M12, M13]) (rest := [(0, v1), (2, Int.ofNat 13)]) rfl rfl g6_0 rfl (m_C_X4_sources l ([T_cost, T_priced, T_settled, T_quarrel], [T_steps, T_pairs, x3.1, x3.2.1, x3.2.2, T_held, T_heldPrice, (zu T_ways (Int.toNat v1) x4), T_early, T_late]) M2 M3 M4 M5 M6 M7 M8 M9 M10 M11 M12 M13 v1 x4 L_count L_copiedStands L_from L_to L_forms L_costs L_copied x5 hx5) ⟨_, _, _, _, rfl, rfl, rfl, by decide +kernel, ⟨Nat.le_of_ble_eq_true rfl, Nat.le_of_ble_eq_true rfl⟩, uGin u_18_5 u_11_10 u_11_11 u_3_1 u_11_12⟩ ⟨rfl, _, _, _, rfl, rfl⟩ ?_
        obtain ⟨g8_0, h⟩ := zgd h
        obtain ⟨x7, hx7, h⟩ := zbd h
        refine rv false 9 2 (σ2 := [([L_count, L_copiedStands], [L_from, L_to, L_forms, L_costs, L_copied]), ([T_cost, T_priced, T_settled, T_quarrel], [T_steps, T_pairs, x3.1, x3.2.1, x3.2.2, (zu T_held (Int.toNat v1) x5), T_heldPrice, (zu T_ways (Int.toNat v1) x4), T_early, T_late]), M2, M3, M4, M5, M6, M7, M8, M9, M10, M11, M12, M13]) (rest := [(0, v1), (2, Int.ofNat 14)]) rfl rfl g8_0 rfl (m_C_X4_priceOf l ([T_cost, T_priced, T_settled, T_quarrel], [T_steps, T_pairs, x3.1, x3.2.1, x3.2.2, (zu T_held (Int.toNat v1) x5), T_heldPrice, (zu T_ways (Int.toNat v1) x4), T_early, T_late]) M2 M3 M4 M5 M6 M7 M8 M9 M10 M11 M12 M13 v1 x4 L_count L_copiedStands L_from L_to L_forms L_costs L_copied x7 hx7) ⟨_, _, _, _, rfl, rfl, rfl, by decide +kernel, ⟨Nat.le_of_ble_eq_true rfl, Nat.le_of_ble_eq_true rfl⟩, uGin u_18_6 u_12_7 u_12_8 u_3_1 u_12_9⟩ ⟨rfl, _, _, _, rfl, rfl⟩ ?_
        obtain ⟨⟨g9_0, g9_1⟩, h⟩ := zgd h
        refine rg false 10 (t := 19) (L2 := [some (2, Int.ofNat 1), some (0, (v1 + 1)), some (0, x4)]) (σ2 := [([L_count, L_copiedStands], [L_from, L_to, L_forms, L_costs, L_copied]), ([T_cost, T_priced, T_settled, T_quarrel], [T_steps, T_pairs, x3.1, x3.2.1, x3.2.2, (zu T_held (Int.toNat v1) x5), (zu T_heldPrice (Int.toNat v1) x7), (zu T_ways (Int.toNat v1) x4), T_early, T_late]), M2, M3, M4, M5, M6, M7, M8, M9, M10, M11, M12, M13]) rfl rfl rfl (And.intro g9_0 g9_1) ?_
        refine rmk [true, true, false] (L2 := [some (2, Int.ofNat 1), some (0, (v1 + 1)), none]) rfl ?_
        exact ih (v1 + 1) L_count L_copiedStands L_from L_to L_forms L_costs L_copied T_cost T_priced T_settled T_quarrel T_steps T_pairs x3.1 x3.2.1 x3.2.2 (zu T_held (Int.toNat v1) x5) (zu T_heldPrice (Int.toNat v1) x7) (zu T_ways (Int.toNat v1) x4) T_early T_late y h k
      · replace h := zif2 c h
        refine rmk [true, false, false] (L2 := [some (2, Int.ofNat 1), none, none]) rfl ?_
        obtain rfl := Option.some.inj h
        exact k
  unfold f_X8_settle at h
  refine ri false 0 (q := T_settled = 0) (t1 := 8) (t2 := 7) rfl rfl trivial (fun c => ?_) (fun c => ?_)
  · replace h := zif1 c h
    obtain ⟨x1, hx1, h⟩ := zbd h
    refine rv false 2 0 rfl rfl trivial rfl (m_C_X8_leastCost l M2 M3 M4 M5 M6 M7 M8 M9 M10 M11 M12 M13 L_count L_copiedStands L_from L_to L_forms L_costs L_copied T_cost T_priced T_settled T_quarrel T_steps T_pairs T_built T_rest T_beside T_held T_heldPrice T_ways T_early T_late x1 hx1) ⟨_, _, _, _, rfl, rfl, rfl, by decide +kernel, ⟨Nat.le_of_ble_eq_true rfl, Nat.le_of_ble_eq_true rfl⟩, uGin u_17_12 u_14_9 u_14_10 u_1_15 u_14_11⟩ ⟨rfl, _, _, _, rfl, rfl⟩ ?_
    obtain ⟨x2, hx2, h⟩ := zbd h
    refine rv false 3 0 rfl rfl trivial rfl (m_C_X8_freeAll l ([L_count, x1.2.2.2.1], [L_from, L_to, L_forms, L_costs, x1.2.2.2.2.1]) M2 M3 M4 M5 M6 M7 M8 M9 M10 M11 M12 M13 x1.2.1 x1.2.2.1 T_settled T_quarrel x1.2.2.2.2.2.1 x1.2.2.2.2.2.2.1 x1.2.2.2.2.2.2.2.1 T_rest T_beside x1.2.2.2.2.2.2.2.2 T_heldPrice T_ways T_early T_late x2 hx2) ⟨_, _, _, _, rfl, rfl, rfl, by decide +kernel, ⟨Nat.le_of_ble_eq_true rfl, Nat.le_of_ble_eq_true rfl⟩, uGin u_15_15 u_15_16 u_15_17 u_1_15 u_15_18⟩ ⟨rfl, _, _, _, rfl, rfl⟩ ?_
    refine rb false 4 (L2 := [some (2, Int.ofNat 1), some (0, 0), none]) rfl rfl trivial ?_
    obtain ⟨x10, hx10, h⟩ := zbd h
    refine LP19 zN 0 L_count x1.2.2.2.1 L_from L_to L_forms L_costs x1.2.2.2.2.1 x1.2.1 x1.2.2.1 T_settled T_quarrel x1.2.2.2.2.2.1 x1.2.2.2.2.2.2.1 x1.2.2.2.2.2.2.2.1 T_rest T_beside x2 T_heldPrice T_ways T_early T_late x10 hx10 ?_
    obtain ⟨x11, hx11, h⟩ := zbd h
    refine rv false 11 0 rfl rfl trivial rfl (m_C_X8_datesOfTheHeld l M2 M3 M4 M5 M6 M7 M8 M9 M10 M11 M12 M13 L_count x1.2.2.2.1 L_from L_to L_forms L_costs x1.2.2.2.2.1 x1.2.1 x1.2.2.1 T_settled T_quarrel x1.2.2.2.2.2.1 x1.2.2.2.2.2.2.1 x10.1 x10.2.1 x10.2.2.1 x10.2.2.2.1 x10.2.2.2.2.1 x10.2.2.2.2.2 T_early T_late x11 hx11) ⟨_, _, _, _, rfl, rfl, rfl, by decide +kernel, ⟨Nat.le_of_ble_eq_true rfl, Nat.le_of_ble_eq_true rfl⟩, uGin u_18_7 u_18_8 u_18_9 u_1_15 u_18_10⟩ ⟨rfl, _, _, _, rfl, rfl⟩ ?_
    obtain rfl := Option.some.inj h
    exact r0 false 12 rfl rfl rfl rfl (show zbit 1 by decide)
  · replace h := zif2 c h
    obtain rfl := Option.some.inj h
    exact r0 false 1 rfl rfl rfl rfl trivial
def bX8_wayOf : zB := [(0, [(.aload_n 0, 1)], 1, .invokevirtual 80, 3), (4, [(.aload_n 0, 1), (.getfield 40, 3), (.iload_n 1, 1), (.iaload, 1)], 10, .ireturn, 1)]
theorem bX8_wayOf_ok : zBok cX8_wayOf 2 bX8_wayOf = true := by decide +kernel
abbrev wX8_wayOf : List Cond := Cond.code yX8_wayOf cX8_wayOf 2 (some .int) :: uU
def rX8_wayOf : Room := { frames := 5, cells := 0, slots := 0, locals := 122 }
set_option maxRecDepth 20000 in
set_option maxHeartbeats 4000000 in
theorem m_C_X8_wayOf (l : Launch) (M2 : zM) (M3 : zM) (M4 : zM) (M5 : zM) (M6 : zM) (M7 : zM) (M8 : zM) (M9 : zM) (M10 : zM) (M11 : zM) (M12 : zM) (M13 : zM) (p1 : Int) (L_count : Int) (L_copiedStands : Int) (L_from : Nat → Int) (L_to : Nat → Int) (L_forms : Nat → Int) (L_costs : Nat → Int) (L_copied : Nat → Int) (T_cost : Int) (T_priced : Int) (T_settled : Int) (T_quarrel : Int) (T_steps : Nat → Int) (T_pairs : Nat → Int) (T_built : Nat → Int) (T_rest : Nat → Int) (T_beside : Nat → Int) (T_held : Nat → Int) (T_heldPrice : Nat → Int) (T_ways : Nat → Int) (T_early : Nat → Int) (T_late : Nat → Int) (x : Int × Int × Int × Int × Int × Int × (Nat → Int) × (Nat → Int) × (Nat → Int) × (Nat → Int) × (Nat → Int) × (Nat → Int) × (Nat → Int) × (Nat → Int) × (Nat → Int) × (Nat → Int) × (Nat → Int)) (h : f_X8_wayOf p1 T_cost T_priced T_settled T_quarrel L_count L_copiedStands L_from L_to L_forms L_costs L_copied T_steps T_pairs T_built T_rest T_beside T_held T_heldPrice T_ways T_early T_late = some x) : zD l yX8_wayOf wX8_wayOf rX8_wayOf lamC shpC [(2, Int.ofNat 1), (0, p1)] [([L_count, L_copiedStands], [L_from, L_to, L_forms, L_costs, L_copied]), ([T_cost, T_priced, T_settled, T_quarrel], [T_steps, T_pairs, T_built, T_rest, T_beside, T_held, T_heldPrice, T_ways, T_early, T_late]), M2, M3, M4, M5, M6, M7, M8, M9, M10, M11, M12, M13] (some (0, x.1)) [([L_count, x.2.2.2.2.2.1], [L_from, L_to, L_forms, L_costs, x.2.2.2.2.2.2.1]), ([x.2.1, x.2.2.1, x.2.2.2.1, x.2.2.2.2.1], [x.2.2.2.2.2.2.2.1, x.2.2.2.2.2.2.2.2.1, x.2.2.2.2.2.2.2.2.2.1, x.2.2.2.2.2.2.2.2.2.2.1, x.2.2.2.2.2.2.2.2.2.2.2.1, x.2.2.2.2.2.2.2.2.2.2.2.2.1, x.2.2.2.2.2.2.2.2.2.2.2.2.2.1, x.2.2.2.2.2.2.2.2.2.2.2.2.2.2.1, x.2.2.2.2.2.2.2.2.2.2.2.2.2.2.2.1, x.2.2.2.2.2.2.2.2.2.2.2.2.2.2.2.2]), M2, M3, M4, M5, M6, M7, M8, M9, M10, M11, M12, M13] := by
  refine zD_of (B := bX8_wayOf) (E := eX8n) (by decide) rfl lokC (eX8n_ok _) bX8_wayOf_ok (Or.inl rfl) rfl (fun S R => ?_)
  obtain ⟨rb, rg, ri, rv, rs, r0, r1, r2, r3, rt, rmk⟩ := R
  show S 0 [some (2, Int.ofNat 1), some (0, p1)] [] [([L_count, L_copiedStands], [L_from, L_to, L_forms, L_costs, L_copied]), ([T_cost, T_priced, T_settled, T_quarrel], [T_steps, T_pairs, T_built, T_rest, T_beside, T_held, T_heldPrice, T_ways, T_early, T_late]), M2, M3, M4, M5, M6, M7, M8, M9, M10, M11, M12, M13]
  unfold f_X8_wayOf at h
  obtain ⟨x1, hx1, h⟩ := zbd h
  refine rv false 0 0 rfl rfl trivial rfl (m_C_X8_settle l M2 M3 M4 M5 M6 M7 M8 M9 M10 M11 M12 M13 L_count L_copiedStands L_from L_to L_forms L_costs L_copied T_cost T_priced T_settled T_quarrel T_steps T_pairs T_built T_rest T_beside T_held T_heldPrice T_ways T_early T_late x1 hx1) ⟨_, _, _, _, rfl, rfl, rfl, by decide +kernel, ⟨Nat.le_of_ble_eq_true rfl, Nat.le_of_ble_eq_true rfl⟩, uGin u_17_8 u_17_9 u_17_10 u_1_15 u_17_11⟩ ⟨rfl, _, _, _, rfl, rfl⟩ ?_
  obtain ⟨g2_0, h⟩ := zgd h
  obtain rfl := Option.some.inj h
  exact r1 false 1 rfl rfl rfl rfl rfl rfl g2_0
def bX8_mayHave : zB := [(0, [(.aload_n 0, 1)], 1, .invokevirtual 83, 3), (4, [(.pop, 1), (.aload_n 0, 1)], 6, .invokevirtual 67, 3), (9, [(.aload_n 0, 1), (.iload_n 1, 1)], 11, .invokevirtual 86, 3), (14, [(.aload_n 0, 1), (.iload_n 1, 1), (.iload_n 2, 1)], 17, .invokevirtual 89, 3), (20, [], 20, .ireturn, 1)]
theorem bX8_mayHave_ok : zBok cX8_mayHave 3 bX8_mayHave = true := by decide +kernel
abbrev wX8_mayHave : List Cond := Cond.code yX8_mayHave cX8_mayHave 3 (some .boolean) :: uU
def rX8_mayHave : Room := { frames := 4, cells := 0, slots := 0, locals := 100 }
set_option maxRecDepth 20000 in
set_option maxHeartbeats 4000000 in
theorem m_C_X8_mayHave (l : Launch) (M2 : zM) (M3 : zM) (M4 : zM) (M5 : zM) (M6 : zM) (M7 : zM) (M8 : zM) (M9 : zM) (M10 : zM) (M11 : zM) (M12 : zM) (M13 : zM) (p1 : Int) (p2 : Int) (L_count : Int) (L_copiedStands : Int) (L_from : Nat → Int) (L_to : Nat → Int) (L_forms : Nat → Int) (L_costs : Nat → Int) (L_copied : Nat → Int) (T_cost : Int) (T_priced : Int) (T_settled : Int) (T_quarrel : Int) (T_steps : Nat → Int) (T_pairs : Nat → Int) (T_built : Nat → Int) (T_rest : Nat → Int) (T_beside : Nat → Int) (T_held : Nat → Int) (T_heldPrice : Nat → Int) (T_ways : Nat → Int) (T_early : Nat → Int) (T_late : Nat → Int) (x : Int × Int × Int × Int × (Nat → Int) × (Nat → Int) × (Nat → Int) × (Nat → Int) × (Nat → Int) × (Nat → Int) × (Nat → Int)) (h : f_X8_mayHave p1 p2 T_cost T_priced L_count L_copiedStands L_forms L_costs L_copied T_steps T_pairs T_built T_rest T_beside T_held T_heldPrice = some x) : zD l yX8_mayHave wX8_mayHave rX8_mayHave lamC shpC [(2, Int.ofNat 1), (0, p1), (0, p2)] [([L_count, L_copiedStands], [L_from, L_to, L_forms, L_costs, L_copied]), ([T_cost, T_priced, T_settled, T_quarrel], [T_steps, T_pairs, T_built, T_rest, T_beside, T_held, T_heldPrice, T_ways, T_early, T_late]), M2, M3, M4, M5, M6, M7, M8, M9, M10, M11, M12, M13] (some (0, x.1)) [([L_count, x.2.2.2.1], [L_from, L_to, L_forms, L_costs, x.2.2.2.2.1]), ([x.2.1, x.2.2.1, T_settled, T_quarrel], [x.2.2.2.2.2.1, x.2.2.2.2.2.2.1, x.2.2.2.2.2.2.2.1, x.2.2.2.2.2.2.2.2.1, x.2.2.2.2.2.2.2.2.2.1, x.2.2.2.2.2.2.2.2.2.2, T_heldPrice, T_ways, T_early, T_late]), M2, M3, M4, M5, M6, M7, M8, M9, M10, M11, M12, M13] := by
  refine zD_of (B := bX8_mayHave) (E := eX8n) (by decide) rfl lokC (eX8n_ok _) bX8_mayHave_ok (Or.inl rfl) rfl (fun S R => ?_)
  obtain ⟨rb, rg, ri, rv, rs, r0, r1, r2, r3, rt, rmk⟩ := R
  show S 0 [some (2, Int.ofNat 1), some (0, p1), some (0, p2)] [] [([L_count, L_copiedStands], [L_from, L_to, L_forms, L_costs, L_copied]), ([T_cost, T_priced, T_settled, T_quarrel], [T_steps, T_pairs, T_built, T_rest, T_beside, T_held, T_heldPrice, T_ways, T_early, T_late]), M2, M3, M4, M5, M6, M7, M8, M9, M10, M11, M12, M13]
  unfold f_X8_mayHave at h
  obtain ⟨x1, hx1, h⟩ := zbd h
  refine rv false 0 0 rfl rfl trivial rfl (m_C_X8_leastCost l M2 M3 M4 M5 M6 M7 M8 M9 M10 M11 M12 M13 L_count L_copiedStands L_from L_to L_forms L_costs L_copied T_cost T_priced T_settled T_quarrel T_steps T_pairs T_built T_rest T_beside T_held T_heldPrice T_ways T_early T_late x1 hx1) ⟨_, _, _, _, rfl, rfl, rfl, by decide +kernel, ⟨Nat.le_of_ble_eq_true rfl, Nat.le_of_ble_eq_true rfl⟩, uGin u_17_12 u_14_9 u_14_10 u_1_15 u_14_11⟩ ⟨rfl, _, _, _, rfl, rfl⟩ ?_
  obtain ⟨x2, hx2, h⟩ := zbd h
  refine rv false 1 0 rfl rfl trivial rfl (m_C_X8_freeAll l ([L_count, x1.2.2.2.1], [L_from, L_to, L_forms, L_costs, x1.2.2.2.2.1]) M2 M3 M4 M5 M6 M7 M8 M9 M10 M11 M12 M13 x1.2.1 x1.2.2.1 T_settled T_quarrel x1.2.2.2.2.2.1 x1.2.2.2.2.2.2.1 x1.2.2.2.2.2.2.2.1 T_rest T_beside x1.2.2.2.2.2.2.2.2 T_heldPrice T_ways T_early T_late x2 hx2) ⟨_, _, _, _, rfl, rfl, rfl, by decide +kernel, ⟨Nat.le_of_ble_eq_true rfl, Nat.le_of_ble_eq_true rfl⟩, uGin u_15_15 u_15_16 u_15_17 u_1_15 u_15_18⟩ ⟨rfl, _, _, _, rfl, rfl⟩ ?_
  obtain ⟨x3, hx3, h⟩ := zbd h
  refine rv false 2 1 rfl rfl trivial rfl (m_C_X8_weigh l M2 M3 M4 M5 M6 M7 M8 M9 M10 M11 M12 M13 p1 L_count x1.2.2.2.1 L_from L_to L_forms L_costs x1.2.2.2.2.1 x1.2.1 x1.2.2.1 T_settled T_quarrel x1.2.2.2.2.2.1 x1.2.2.2.2.2.2.1 x1.2.2.2.2.2.2.2.1 T_rest T_beside x2 T_heldPrice T_ways T_early T_late x3 hx3) ⟨_, _, _, _, rfl, rfl, rfl, by decide +kernel, ⟨Nat.le_of_ble_eq_true rfl, Nat.le_of_ble_eq_true rfl⟩, uGin u_17_13 u_17_14 u_17_15 u_1_15 u_17_16⟩ ⟨rfl, _, _, _, rfl, rfl⟩ ?_
  obtain ⟨x4, hx4, h⟩ := zbd h
  refine rv false 3 2 rfl rfl trivial rfl (m_C_X8_fits l M2 M3 M4 M5 M6 M7 M8 M9 M10 M11 M12 M13 p1 p2 L_count x1.2.2.2.1 L_from L_to L_forms L_costs x1.2.2.2.2.1 x1.2.1 x1.2.2.1 T_settled T_quarrel x1.2.2.2.2.2.1 x1.2.2.2.2.2.2.1 x3.1 x3.2.1 x3.2.2 x2 T_heldPrice T_ways T_early T_late x4 hx4) ⟨_, _, _, _, rfl, rfl, rfl, by decide +kernel, ⟨Nat.le_of_ble_eq_true rfl, Nat.le_of_ble_eq_true rfl⟩, uGin u_18_1 u_18_2 u_18_3 u_1_15 u_18_4⟩ ⟨rfl, _, _, _, rfl, rfl⟩ ?_
  obtain ⟨gb5, h⟩ := zgd h
  obtain rfl := Option.some.inj h
  exact r2 false 4 rfl rfl rfl rfl trivial gb5
def bX8_waysThatMayBe : zB := [(0, [(.aload_n 0, 1)], 1, .invokevirtual 83, 3), (4, [(.pop, 1), (.aload_n 0, 1)], 6, .invokevirtual 67, 3), (9, [(.aload_n 0, 1), (.iload_n 1, 1)], 11, .invokevirtual 86, 3), (14, [(.iconst 0, 1), (.istore_n 2, 1), (.iconst 0, 1), (.istore_n 3, 1)], 18, .nop, 0), (18, [(.iload_n 3, 1), (.sipush 532, 3)], 22, .if_icmp .ge 21, 3), (25, [(.aload_n 0, 1), (.iload_n 1, 1), (.iload_n 3, 1)], 28, .invokevirtual 89, 3), (31, [], 31, .ifCond .eq 6, 3), (34, [(.iinc 2 1, 3)], 37, .nop, 0), (37, [(.iinc 3 1, 3)], 40, .goto (-22), 3), (43, [(.iload_n 2, 1)], 44, .ireturn, 1)]
theorem bX8_waysThatMayBe_ok : zBok cX8_waysThatMayBe 4 bX8_waysThatMayBe = true := by decide +kernel
abbrev wX8_waysThatMayBe : List Cond := Cond.code yX8_waysThatMayBe cX8_waysThatMayBe 4 (some .int) :: uU
def rX8_waysThatMayBe : Room := { frames := 4, cells := 0, slots := 0, locals := 100 }
set_option maxRecDepth 20000 in
set_option maxHeartbeats 4000000 in
theorem m_C_X8_waysThatMayBe (l : Launch) (M2 : zM) (M3 : zM) (M4 : zM) (M5 : zM) (M6 : zM) (M7 : zM) (M8 : zM) (M9 : zM) (M10 : zM) (M11 : zM) (M12 : zM) (M13 : zM) (p1 : Int) (L_count : Int) (L_copiedStands : Int) (L_from : Nat → Int) (L_to : Nat → Int) (L_forms : Nat → Int) (L_costs : Nat → Int) (L_copied : Nat → Int) (T_cost : Int) (T_priced : Int) (T_settled : Int) (T_quarrel : Int) (T_steps : Nat → Int) (T_pairs : Nat → Int) (T_built : Nat → Int) (T_rest : Nat → Int) (T_beside : Nat → Int) (T_held : Nat → Int) (T_heldPrice : Nat → Int) (T_ways : Nat → Int) (T_early : Nat → Int) (T_late : Nat → Int) (x : Int × Int × Int × Int × (Nat → Int) × (Nat → Int) × (Nat → Int) × (Nat → Int) × (Nat → Int) × (Nat → Int) × (Nat → Int)) (h : f_X8_waysThatMayBe p1 T_cost T_priced L_count L_copiedStands L_forms L_costs L_copied T_steps T_pairs T_built T_rest T_beside T_held T_heldPrice = some x) : zD l yX8_waysThatMayBe wX8_waysThatMayBe rX8_waysThatMayBe lamC shpC [(2, Int.ofNat 1), (0, p1)] [([L_count, L_copiedStands], [L_from, L_to, L_forms, L_costs, L_copied]), ([T_cost, T_priced, T_settled, T_quarrel], [T_steps, T_pairs, T_built, T_rest, T_beside, T_held, T_heldPrice, T_ways, T_early, T_late]), M2, M3, M4, M5, M6, M7, M8, M9, M10, M11, M12, M13] (some (0, x.1)) [([L_count, x.2.2.2.1], [L_from, L_to, L_forms, L_costs, x.2.2.2.2.1]), ([x.2.1, x.2.2.1, T_settled, T_quarrel], [x.2.2.2.2.2.1, x.2.2.2.2.2.2.1, x.2.2.2.2.2.2.2.1, x.2.2.2.2.2.2.2.2.1, x.2.2.2.2.2.2.2.2.2.1, x.2.2.2.2.2.2.2.2.2.2, T_heldPrice, T_ways, T_early, T_late]), M2, M3, M4, M5, M6, M7, M8, M9, M10, M11, M12, M13] := by
  refine zD_of (B := bX8_waysThatMayBe) (E := eX8n) (by decide) rfl lokC (eX8n_ok _) bX8_waysThatMayBe_ok (Or.inl rfl) rfl (fun S R => ?_)
  obtain ⟨rb, rg, ri, rv, rs, r0, r1, r2, r3, rt, rmk⟩ := R
  show S 0 [some (2, Int.ofNat 1), some (0, p1), none, none] [] [([L_count, L_copiedStands], [L_from, L_to, L_forms, L_costs, L_copied]), ([T_cost, T_priced, T_settled, T_quarrel], [T_steps, T_pairs, T_built, T_rest, T_beside, T_held, T_heldPrice, T_ways, T_early, T_late]), M2, M3, M4, M5, M6, M7, M8, M9, M10, M11, M12, M13]
  have LP18 : ∀ (n : Nat) (v1 : Int) (v2 : Int) (v3 : Int) (L_count : Int) (L_copiedStands : Int) (L_from : Nat → Int) (L_to : Nat → Int) (L_forms : Nat → Int) (L_costs : Nat → Int) (L_copied : Nat → Int) (T_cost : Int) (T_priced : Int) (T_settled : Int) (T_quarrel : Int) (T_steps : Nat → Int) (T_pairs : Nat → Int) (T_built : Nat → Int) (T_rest : Nat → Int) (T_beside : Nat → Int) (T_held : Nat → Int) (T_heldPrice : Nat → Int) (T_ways : Nat → Int) (T_early : Nat → Int) (T_late : Nat → Int) (y : Int), l_X8_waysThatMayBe_18 n v1 v2 v3 T_cost L_count L_forms L_costs L_copied T_beside = some y → S 43 [none, none, some (0, y), none] [] [([L_count, L_copiedStands], [L_from, L_to, L_forms, L_costs, L_copied]), ([T_cost, T_priced, T_settled, T_quarrel], [T_steps, T_pairs, T_built, T_rest, T_beside, T_held, T_heldPrice, T_ways, T_early, T_late]), M2, M3, M4, M5, M6, M7, M8, M9, M10, M11, M12, M13] → S 18 [some (2, Int.ofNat 1), some (0, v1), some (0, v2), some (0, v3)] [] [([L_count, L_copiedStands], [L_from, L_to, L_forms, L_costs, L_copied]), ([T_cost, T_priced, T_settled, T_quarrel], [T_steps, T_pairs, T_built, T_rest, T_beside, T_held, T_heldPrice, T_ways, T_early, T_late]), M2, M3, M4, M5, M6, M7, M8, M9, M10, M11, M12, M13] := by
    intro n
    induction n with
    | zero =>
      intro v1 v2 v3 L_count L_copiedStands L_from L_to L_forms L_costs L_copied T_cost T_priced T_settled T_quarrel T_steps T_pairs T_built T_rest T_beside T_held T_heldPrice T_ways T_early T_late y h k
      rw [l_X8_waysThatMayBe_18] at h
      cases h
    | succ n ih =>
      intro v1 v2 v3 L_count L_copiedStands L_from L_to L_forms L_costs L_copied T_cost T_priced T_settled T_quarrel T_steps T_pairs T_built T_rest T_beside T_held T_heldPrice T_ways T_early T_late y h k
      rw [l_X8_waysThatMayBe_18] at h
      refine ri false 4 (q := v3 < 532) (t1 := 25) (t2 := 43) rfl rfl trivial (fun c => ?_) (fun c => ?_)
      · replace h := zif1 c h
        obtain ⟨x4, hx4, h⟩ := zbd h
        refine rv false 5 2 rfl rfl trivial rfl (m_C_X8_fits l M2 M3 M4 M5 M6 M7 M8 M9 M10 M11 M12 M13 v1 v3 L_count L_copiedStands L_from L_to L_forms L_costs L_copied T_cost T_priced T_settled T_quarrel T_steps T_pairs T_built T_rest T_beside T_held T_heldPrice T_ways T_early T_late x4 hx4) ⟨_, _, _, _, rfl, rfl, rfl, by decide +kernel, ⟨Nat.le_of_ble_eq_true rfl, Nat.le_of_ble_eq_true rfl⟩, uGin u_18_1 u_18_2 u_18_3 u_1_15 u_18_4⟩ ⟨rfl, _, _, _, rfl, rfl⟩ ?_
        refine ri false 6 (q := x4 = 0) (t1 := 37) (t2 := 34) rfl rfl trivial (fun c => ?_) (fun c => ?_)
        · replace h := zif1 c h
          obtain ⟨g5_0, h⟩ := zgd h
          refine rg false 8 (t := 18) (L2 := [some (2, Int.ofNat 1), some (0, v1), some (0, v2), some (0, (v3 + 1))]) rfl rfl rfl g5_0 ?_
          exact ih v1 v2 (v3 + 1) L_count L_copiedStands L_from L_to L_forms L_costs L_copied T_cost T_priced T_settled T_quarrel T_steps T_pairs T_built T_rest T_beside T_held T_heldPrice T_ways T_early T_late y h k
        · replace h := zif2 c h
          obtain ⟨g6_0, h⟩ := zgd h
          refine rb false 7 (L2 := [some (2, Int.ofNat 1), some (0, v1), some (0, (v2 + 1)), some (0, v3)]) rfl rfl g6_0 ?_
          obtain ⟨g7_0, h⟩ := zgd h
          refine rg false 8 (t := 18) (L2 := [some (2, Int.ofNat 1), some (0, v1), some (0, (v2 + 1)), some (0, (v3 + 1))]) rfl rfl rfl g7_0 ?_
          exact ih v1 (v2 + 1) (v3 + 1) L_count L_copiedStands L_from L_to L_forms L_costs L_copied T_cost T_priced T_settled T_quarrel T_steps T_pairs T_built T_rest T_beside T_held T_heldPrice T_ways T_early T_late y h k
      · replace h := zif2 c h
        refine rmk [false, false, true, false] (L2 := [none, none, some (0, v2), none]) rfl ?_
        obtain rfl := Option.some.inj h
        exact k
  unfold f_X8_waysThatMayBe at h
  obtain ⟨x1, hx1, h⟩ := zbd h
  refine rv false 0 0 rfl rfl trivial rfl (m_C_X8_leastCost l M2 M3 M4 M5 M6 M7 M8 M9 M10 M11 M12 M13 L_count L_copiedStands L_from L_to L_forms L_costs L_copied T_cost T_priced T_settled T_quarrel T_steps T_pairs T_built T_rest T_beside T_held T_heldPrice T_ways T_early T_late x1 hx1) ⟨_, _, _, _, rfl, rfl, rfl, by decide +kernel, ⟨Nat.le_of_ble_eq_true rfl, Nat.le_of_ble_eq_true rfl⟩, uGin u_17_12 u_14_9 u_14_10 u_1_15 u_14_11⟩ ⟨rfl, _, _, _, rfl, rfl⟩ ?_
  obtain ⟨x2, hx2, h⟩ := zbd h
  refine rv false 1 0 rfl rfl trivial rfl (m_C_X8_freeAll l ([L_count, x1.2.2.2.1], [L_from, L_to, L_forms, L_costs, x1.2.2.2.2.1]) M2 M3 M4 M5 M6 M7 M8 M9 M10 M11 M12 M13 x1.2.1 x1.2.2.1 T_settled T_quarrel x1.2.2.2.2.2.1 x1.2.2.2.2.2.2.1 x1.2.2.2.2.2.2.2.1 T_rest T_beside x1.2.2.2.2.2.2.2.2 T_heldPrice T_ways T_early T_late x2 hx2) ⟨_, _, _, _, rfl, rfl, rfl, by decide +kernel, ⟨Nat.le_of_ble_eq_true rfl, Nat.le_of_ble_eq_true rfl⟩, uGin u_15_15 u_15_16 u_15_17 u_1_15 u_15_18⟩ ⟨rfl, _, _, _, rfl, rfl⟩ ?_
  obtain ⟨x3, hx3, h⟩ := zbd h
  refine rv false 2 1 rfl rfl trivial rfl (m_C_X8_weigh l M2 M3 M4 M5 M6 M7 M8 M9 M10 M11 M12 M13 p1 L_count x1.2.2.2.1 L_from L_to L_forms L_costs x1.2.2.2.2.1 x1.2.1 x1.2.2.1 T_settled T_quarrel x1.2.2.2.2.2.1 x1.2.2.2.2.2.2.1 x1.2.2.2.2.2.2.2.1 T_rest T_beside x2 T_heldPrice T_ways T_early T_late x3 hx3) ⟨_, _, _, _, rfl, rfl, rfl, by decide +kernel, ⟨Nat.le_of_ble_eq_true rfl, Nat.le_of_ble_eq_true rfl⟩, uGin u_17_13 u_17_14 u_17_15 u_1_15 u_17_16⟩ ⟨rfl, _, _, _, rfl, rfl⟩ ?_
  refine rb false 3 (L2 := [some (2, Int.ofNat 1), some (0, p1), some (0, 0), some (0, 0)]) rfl rfl trivial ?_
  obtain ⟨x8, hx8, h⟩ := zbd h
  refine LP18 zN p1 0 0 L_count x1.2.2.2.1 L_from L_to L_forms L_costs x1.2.2.2.2.1 x1.2.1 x1.2.2.1 T_settled T_quarrel x1.2.2.2.2.2.1 x1.2.2.2.2.2.2.1 x3.1 x3.2.1 x3.2.2 x2 T_heldPrice T_ways T_early T_late x8 hx8 ?_
  obtain rfl := Option.some.inj h
  exact r1 false 9 rfl rfl rfl rfl rfl rfl trivial
def bX8_yearOf : zB := [(0, [(.aload_n 0, 1)], 1, .invokevirtual 80, 3), (4, [(.aload_n 0, 1), (.getfield 93, 3)], 8, .ifCond .eq 5, 3), (11, [(.iconst (-1), 1)], 12, .ireturn, 1), (13, [(.iload_n 2, 1)], 14, .ifCond .eq 12, 3), (17, [(.aload_n 0, 1), (.getfield 46, 3), (.iload_n 1, 1), (.iaload, 1)], 23, .goto 9, 3), (26, [(.aload_n 0, 1), (.getfield 43, 3), (.iload_n 1, 1), (.iaload, 1)], 32, .nop, 0), (32, [], 32, .ireturn, 1)]
theorem bX8_yearOf_ok : zBok cX8_yearOf 3 bX8_yearOf = true := by decide +kernel
abbrev wX8_yearOf : List Cond := Cond.code yX8_yearOf cX8_yearOf 3 (some .int) :: uU
def rX8_yearOf : Room := { frames := 5, cells := 0, slots := 0, locals := 122 }
set_option maxRecDepth 20000 in
set_option maxHeartbeats 4000000 in
theorem m_C_X8_yearOf (l : Launch) (M2 : zM) (M3 : zM) (M4 : zM) (M5 : zM) (M6 : zM) (M7 : zM) (M8 : zM) (M9 : zM) (M10 : zM) (M11 : zM) (M12 : zM) (M13 : zM) (p1 : Int) (p2 : Int) (L_count : Int) (L_copiedStands : Int) (L_from : Nat → Int) (L_to : Nat → Int) (L_forms : Nat → Int) (L_costs : Nat → Int) (L_copied : Nat → Int) (T_cost : Int) (T_priced : Int) (T_settled : Int) (T_quarrel : Int) (T_steps : Nat → Int) (T_pairs : Nat → Int) (T_built : Nat → Int) (T_rest : Nat → Int) (T_beside : Nat → Int) (T_held : Nat → Int) (T_heldPrice : Nat → Int) (T_ways : Nat → Int) (T_early : Nat → Int) (T_late : Nat → Int) (x : Int × Int × Int × Int × Int × Int × (Nat → Int) × (Nat → Int) × (Nat → Int) × (Nat → Int) × (Nat → Int) × (Nat → Int) × (Nat → Int) × (Nat → Int) × (Nat → Int) × (Nat → Int) × (Nat → Int)) (h : f_X8_yearOf p1 p2 T_cost T_priced T_settled T_quarrel L_count L_copiedStands L_from L_to L_forms L_costs L_copied T_steps T_pairs T_built T_rest T_beside T_held T_heldPrice T_ways T_early T_late = some x) : zD l yX8_yearOf wX8_yearOf rX8_yearOf lamC shpC [(2, Int.ofNat 1), (0, p1), (0, p2)] [([L_count, L_copiedStands], [L_from, L_to, L_forms, L_costs, L_copied]), ([T_cost, T_priced, T_settled, T_quarrel], [T_steps, T_pairs, T_built, T_rest, T_beside, T_held, T_heldPrice, T_ways, T_early, T_late]), M2, M3, M4, M5, M6, M7, M8, M9, M10, M11, M12, M13] (some (0, x.1)) [([L_count, x.2.2.2.2.2.1], [L_from, L_to, L_forms, L_costs, x.2.2.2.2.2.2.1]), ([x.2.1, x.2.2.1, x.2.2.2.1, x.2.2.2.2.1], [x.2.2.2.2.2.2.2.1, x.2.2.2.2.2.2.2.2.1, x.2.2.2.2.2.2.2.2.2.1, x.2.2.2.2.2.2.2.2.2.2.1, x.2.2.2.2.2.2.2.2.2.2.2.1, x.2.2.2.2.2.2.2.2.2.2.2.2.1, x.2.2.2.2.2.2.2.2.2.2.2.2.2.1, x.2.2.2.2.2.2.2.2.2.2.2.2.2.2.1, x.2.2.2.2.2.2.2.2.2.2.2.2.2.2.2.1, x.2.2.2.2.2.2.2.2.2.2.2.2.2.2.2.2]), M2, M3, M4, M5, M6, M7, M8, M9, M10, M11, M12, M13] := by
  refine zD_of (B := bX8_yearOf) (E := eX8n) (by decide) rfl lokC (eX8n_ok _) bX8_yearOf_ok (Or.inl rfl) rfl (fun S R => ?_)
  obtain ⟨rb, rg, ri, rv, rs, r0, r1, r2, r3, rt, rmk⟩ := R
  show S 0 [some (2, Int.ofNat 1), some (0, p1), some (0, p2)] [] [([L_count, L_copiedStands], [L_from, L_to, L_forms, L_costs, L_copied]), ([T_cost, T_priced, T_settled, T_quarrel], [T_steps, T_pairs, T_built, T_rest, T_beside, T_held, T_heldPrice, T_ways, T_early, T_late]), M2, M3, M4, M5, M6, M7, M8, M9, M10, M11, M12, M13]
  unfold f_X8_yearOf at h
  obtain ⟨x1, hx1, h⟩ := zbd h
  refine rv false 0 0 rfl rfl trivial rfl (m_C_X8_settle l M2 M3 M4 M5 M6 M7 M8 M9 M10 M11 M12 M13 L_count L_copiedStands L_from L_to L_forms L_costs L_copied T_cost T_priced T_settled T_quarrel T_steps T_pairs T_built T_rest T_beside T_held T_heldPrice T_ways T_early T_late x1 hx1) ⟨_, _, _, _, rfl, rfl, rfl, by decide +kernel, ⟨Nat.le_of_ble_eq_true rfl, Nat.le_of_ble_eq_true rfl⟩, uGin u_17_8 u_17_9 u_17_10 u_1_15 u_17_11⟩ ⟨rfl, _, _, _, rfl, rfl⟩ ?_
  refine ri false 1 (q := x1.2.2.2.1 = 0) (t1 := 13) (t2 := 11) rfl rfl trivial (fun c => ?_) (fun c => ?_)
  · replace h := zif1 c h
    refine ri false 3 (q := p2 = 0) (t1 := 26) (t2 := 17) rfl rfl trivial (fun c => ?_) (fun c => ?_)
    · replace h := zif1 c h
      obtain ⟨g2_0, h⟩ := zgd h
      refine rb false 5 (st2 := [(0, (x1.2.2.2.2.2.2.2.2.2.2.2.2.2.2.1 (Int.toNat p1)))]) rfl rfl g2_0 ?_
      obtain rfl := Option.some.inj h
      exact r1 false 6 rfl rfl rfl rfl rfl rfl trivial
    · replace h := zif2 c h
      obtain ⟨g3_0, h⟩ := zgd h
      refine rg false 4 (t := 32) (st2 := [(0, (x1.2.2.2.2.2.2.2.2.2.2.2.2.2.2.2 (Int.toNat p1)))]) rfl rfl rfl g3_0 ?_
      obtain rfl := Option.some.inj h
      exact r1 false 6 rfl rfl rfl rfl rfl rfl trivial
  · replace h := zif2 c h
    obtain rfl := Option.some.inj h
    exact r1 false 2 rfl rfl rfl rfl rfl rfl trivial
