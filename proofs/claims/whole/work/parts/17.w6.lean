def bX9_within : zB := [(0, [(.iload_n 0, 1), (.iload_n 1, 1)], 2, .if_icmp .lt 12, 3), (5, [(.iload_n 0, 1), (.iload_n 2, 1)], 7, .if_icmp .gt 7, 3), (10, [(.iconst 1, 1)], 11, .goto 4, 3), (14, [(.iconst 0, 1)], 15, .nop, 0), (15, [], 15, .ireturn, 1)]
theorem bX9_within_ok : zBok cX9_within 3 bX9_within = true := by decide +kernel
abbrev wX9_within : List Cond := Cond.code yX9_within cX9_within 3 (some .boolean) :: uU
def rX9_within : Room := { frames := 0, cells := 0, slots := 0, locals := 0 }
set_option maxRecDepth 20000 in
set_option maxHeartbeats 4000000 in
theorem m_C_X9_within (l : Launch) (M0 : zM) (M1 : zM) (M2 : zM) (M3 : zM) (M4 : zM) (M5 : zM) (M6 : zM) (M7 : zM) (M8 : zM) (M9 : zM) (M10 : zM) (M11 : zM) (M12 : zM) (M13 : zM) (p0 : Int) (p1 : Int) (p2 : Int) (x : Int) (h : f_X9_within p0 p1 p2 = some x) : zD l yX9_within wX9_within rX9_within lamC shpC [(0, p0), (0, p1), (0, p2)] [M0, M1, M2, M3, M4, M5, M6, M7, M8, M9, M10, M11, M12, M13] (some (0, x)) [M0, M1, M2, M3, M4, M5, M6, M7, M8, M9, M10, M11, M12, M13] := by
  refine zD_of (B := bX9_within) (E := eX9) (by decide) rfl lokC (eX9_ok _) bX9_within_ok (Or.inl rfl) rfl (fun S R => ?_)
  obtain ⟨rb, rg, ri, rv, rs, r0, r1, r2, r3, rt, rmk⟩ := R
  show S 0 [some (0, p0), some (0, p1), some (0, p2)] [] [M0, M1, M2, M3, M4, M5, M6, M7, M8, M9, M10, M11, M12, M13]
  unfold f_X9_within at h
  refine ri false 0 (q := p0 < p1) (t1 := 14) (t2 := 5) rfl rfl trivial (fun c => ?_) (fun c => ?_)
  · replace h := zif1 c h
    refine rb false 3 (st2 := [(0, 0)]) rfl rfl trivial ?_
    obtain rfl := Option.some.inj h
    exact r2 false 4 rfl rfl rfl rfl trivial (by decide)
  · replace h := zif2 c h
    refine ri false 1 (q := p2 < p0) (t1 := 14) (t2 := 10) rfl rfl trivial (fun c => ?_) (fun c => ?_)
    · replace h := zif1 c h
      refine rb false 3 (st2 := [(0, 0)]) rfl rfl trivial ?_
      obtain rfl := Option.some.inj h
      exact r2 false 4 rfl rfl rfl rfl trivial (by decide)
    · replace h := zif2 c h
      refine rg false 2 (t := 15) (st2 := [(0, 1)]) rfl rfl rfl trivial ?_
      obtain rfl := Option.some.inj h
      exact r2 false 4 rfl rfl rfl rfl trivial (by decide)
def bX9_letter : zB := [(0, [(.iload_n 1, 1), (.iconst 0, 1), (.bipush 99, 2)], 4, .invokestatic 63, 3), (7, [], 7, .ifCond .eq 13, 3), (10, [(.iload_n 2, 1), (.iload_n 1, 1), (.bipush 99, 2)], 14, .invokestatic 63, 3), (17, [], 17, .ifCond .ne 6, 3), (20, [(.bipush (-2), 2)], 22, .ireturn, 1), (23, [(.aload_n 0, 1), (.getfield 20, 3), (.getfield 67, 3), (.bipush 8, 2)], 32, .if_icmp .lt 6, 3), (35, [(.bipush (-4), 2)], 37, .ireturn, 1), (38, [(.aload_n 0, 1), (.getfield 10, 3)], 42, .invokevirtual 73, 3), (45, [(.aload_n 0, 1), (.getfield 20, 3), (.iload_n 1, 1), (.iload_n 2, 1)], 51, .invokevirtual 76, 3), (54, [], 54, .ireturn, 1)]
theorem bX9_letter_ok : zBok cX9_letter 3 bX9_letter = true := by decide +kernel
abbrev wX9_letter : List Cond := Cond.code yX9_letter cX9_letter 3 (some .int) :: uU
def rX9_letter : Room := { frames := 1, cells := 0, slots := 0, locals := 23 }
set_option maxRecDepth 20000 in
set_option maxHeartbeats 4000000 in
theorem m_C_X9_letter (l : Launch) (M2 : zM) (M3 : zM) (M4 : zM) (M5 : zM) (M6 : zM) (M7 : zM) (M8 : zM) (M9 : zM) (M10 : zM) (M11 : zM) (M12 : zM) (M13 : zM) (p1 : Int) (p2 : Int) (L_count : Int) (L_copiedStands : Int) (L_from : Nat → Int) (L_to : Nat → Int) (L_forms : Nat → Int) (L_costs : Nat → Int) (L_copied : Nat → Int) (T_cost : Int) (T_priced : Int) (T_settled : Int) (T_quarrel : Int) (T_steps : Nat → Int) (T_pairs : Nat → Int) (T_built : Nat → Int) (T_rest : Nat → Int) (T_beside : Nat → Int) (T_held : Nat → Int) (T_heldPrice : Nat → Int) (T_ways : Nat → Int) (T_early : Nat → Int) (T_late : Nat → Int) (x : Int × Int × Int × (Nat → Int) × (Nat → Int) × (Nat → Int) × Int × Int) (h : f_X9_letter p1 p2 L_count L_copiedStands L_from L_to L_forms T_priced T_settled = some x) : zD l yX9_letter wX9_letter rX9_letter lamC shpC [(2, Int.ofNat 0), (0, p1), (0, p2)] [([L_count, L_copiedStands], [L_from, L_to, L_forms, L_costs, L_copied]), ([T_cost, T_priced, T_settled, T_quarrel], [T_steps, T_pairs, T_built, T_rest, T_beside, T_held, T_heldPrice, T_ways, T_early, T_late]), M2, M3, M4, M5, M6, M7, M8, M9, M10, M11, M12, M13] (some (0, x.1)) [([x.2.1, x.2.2.1], [x.2.2.2.1, x.2.2.2.2.1, x.2.2.2.2.2.1, L_costs, L_copied]), ([T_cost, x.2.2.2.2.2.2.1, x.2.2.2.2.2.2.2, T_quarrel], [T_steps, T_pairs, T_built, T_rest, T_beside, T_held, T_heldPrice, T_ways, T_early, T_late]), M2, M3, M4, M5, M6, M7, M8, M9, M10, M11, M12, M13] := by
  refine zD_of (B := bX9_letter) (E := eX9) (by decide) rfl lokC (eX9_ok _) bX9_letter_ok (Or.inl rfl) rfl (fun S R => ?_)
  obtain ⟨rb, rg, ri, rv, rs, r0, r1, r2, r3, rt, rmk⟩ := R
  show S 0 [some (2, Int.ofNat 0), some (0, p1), some (0, p2)] [] [([L_count, L_copiedStands], [L_from, L_to, L_forms, L_costs, L_copied]), ([T_cost, T_priced, T_settled, T_quarrel], [T_steps, T_pairs, T_built, T_rest, T_beside, T_held, T_heldPrice, T_ways, T_early, T_late]), M2, M3, M4, M5, M6, M7, M8, M9, M10, M11, M12, M13]
  unfold f_X9_letter at h
  obtain ⟨x1, hx1, h⟩ := zbd h
  refine rs false 0 3 rfl rfl trivial rfl (m_C_X9_within l ([L_count, L_copiedStands], [L_from, L_to, L_forms, L_costs, L_copied]) ([T_cost, T_priced, T_settled, T_quarrel], [T_steps, T_pairs, T_built, T_rest, T_beside, T_held, T_heldPrice, T_ways, T_early, T_late]) M2 M3 M4 M5 M6 M7 M8 M9 M10 M11 M12 M13 p1 0 99 x1 hx1) ⟨_, _, _, _, rfl, rfl, rfl, by decide +kernel, ⟨Nat.le_of_ble_eq_true rfl, Nat.le_of_ble_eq_true rfl⟩, uGinS u_8_17 u_8_18 u_1_2 u_8_19⟩ ?_
  refine ri false 1 (q := x1 = 0) (t1 := 20) (t2 := 10) rfl rfl trivial (fun c => ?_) (fun c => ?_)
  · replace h := zif1 c h
    obtain rfl := Option.some.inj h
    exact r1 false 4 rfl rfl rfl rfl rfl rfl trivial
  · replace h := zif2 c h
    obtain ⟨x2, hx2, h⟩ := zbd h
    refine rs false 2 3 rfl rfl trivial rfl (m_C_X9_within l ([L_count, L_copiedStands], [L_from, L_to, L_forms, L_costs, L_copied]) ([T_cost, T_priced, T_settled, T_quarrel], [T_steps, T_pairs, T_built, T_rest, T_beside, T_held, T_heldPrice, T_ways, T_early, T_late]) M2 M3 M4 M5 M6 M7 M8 M9 M10 M11 M12 M13 p2 p1 99 x2 hx2) ⟨_, _, _, _, rfl, rfl, rfl, by decide +kernel, ⟨Nat.le_of_ble_eq_true rfl, Nat.le_of_ble_eq_true rfl⟩, uGinS u_8_17 u_8_18 u_1_2 u_8_19⟩ ?_
    refine ri false 3 (q := x2 = 0) (t1 := 20) (t2 := 23) rfl rfl trivial (fun c => ?_) (fun c => ?_)
    · replace h := zif1 c h
      obtain rfl := Option.some.inj h
      exact r1 false 4 rfl rfl rfl rfl rfl rfl trivial
    · replace h := zif2 c h
      refine ri false 5 (q := L_count < 8) (t1 := 38) (t2 := 35) rfl rfl trivial (fun c => ?_) (fun c => ?_)
      · replace h := zif1 c h
        obtain ⟨x3, hx3, h⟩ := zbd h
        refine rv false 7 0 rfl rfl trivial rfl (m_C_X8_forget l ([L_count, L_copiedStands], [L_from, L_to, L_forms, L_costs, L_copied]) M2 M3 M4 M5 M6 M7 M8 M9 M10 M11 M12 M13 T_cost T_priced T_settled T_quarrel T_steps T_pairs T_built T_rest T_beside T_held T_heldPrice T_ways T_early T_late x3 hx3) ⟨_, _, _, _, rfl, rfl, rfl, by decide +kernel, ⟨Nat.le_of_ble_eq_true rfl, Nat.le_of_ble_eq_true rfl⟩, uGin u_8_20 u_8_21 u_8_22 u_1_15 u_8_23⟩ ⟨rfl, _, _, _, rfl, rfl⟩ ?_
        obtain ⟨x4, hx4, h⟩ := zbd h
        refine rv false 8 2 rfl rfl trivial rfl (m_C_X4_add l ([T_cost, x3.1, x3.2, T_quarrel], [T_steps, T_pairs, T_built, T_rest, T_beside, T_held, T_heldPrice, T_ways, T_early, T_late]) M2 M3 M4 M5 M6 M7 M8 M9 M10 M11 M12 M13 p1 p2 L_count L_copiedStands L_from L_to L_forms L_costs L_copied x4 hx4) ⟨_, _, _, _, rfl, rfl, rfl, by decide +kernel, ⟨Nat.le_of_ble_eq_true rfl, Nat.le_of_ble_eq_true rfl⟩, uGin u_9_2 u_9_3 u_9_4 u_3_1 u_9_5⟩ ⟨rfl, _, _, _, rfl, rfl⟩ ?_
        obtain rfl := Option.some.inj h
        exact r1 false 9 rfl rfl rfl rfl rfl rfl trivial
      · replace h := zif2 c h
        obtain rfl := Option.some.inj h
        exact r1 false 6 rfl rfl rfl rfl rfl rfl trivial
def bX9_form : zB := [(0, [(.aload_n 0, 1), (.getfield 20, 3), (.iload_n 1, 1)], 5, .invokevirtual 80, 3), (8, [], 8, .ifCond .eq 23, 3), (11, [(.iload_n 2, 1), (.iconst 0, 1), (.bipush 7, 2)], 15, .invokestatic 63, 3), (18, [], 18, .ifCond .eq 13, 3), (21, [(.iload_n 3, 1), (.iconst (-1), 1), (.bipush 9, 2)], 25, .invokestatic 63, 3), (28, [], 28, .ifCond .ne 6, 3), (31, [(.bipush (-10), 2)], 33, .ireturn, 1), (34, [(.aload_n 0, 1), (.getfield 10, 3)], 38, .invokevirtual 73, 3), (41, [(.aload_n 0, 1), (.getfield 20, 3), (.iload_n 1, 1), (.iload_n 2, 1), (.iload_n 3, 1)], 48, .invokevirtual 84, 3), (51, [], 51, .ireturn, 1)]
theorem bX9_form_ok : zBok cX9_form 4 bX9_form = true := by decide +kernel
abbrev wX9_form : List Cond := Cond.code yX9_form cX9_form 4 (some .int) :: uU
def rX9_form : Room := { frames := 1, cells := 0, slots := 0, locals := 24 }
set_option maxRecDepth 20000 in
set_option maxHeartbeats 4000000 in
theorem m_C_X9_form (l : Launch) (M2 : zM) (M3 : zM) (M4 : zM) (M5 : zM) (M6 : zM) (M7 : zM) (M8 : zM) (M9 : zM) (M10 : zM) (M11 : zM) (M12 : zM) (M13 : zM) (p1 : Int) (p2 : Int) (p3 : Int) (L_count : Int) (L_copiedStands : Int) (L_from : Nat → Int) (L_to : Nat → Int) (L_forms : Nat → Int) (L_costs : Nat → Int) (L_copied : Nat → Int) (T_cost : Int) (T_priced : Int) (T_settled : Int) (T_quarrel : Int) (T_steps : Nat → Int) (T_pairs : Nat → Int) (T_built : Nat → Int) (T_rest : Nat → Int) (T_beside : Nat → Int) (T_held : Nat → Int) (T_heldPrice : Nat → Int) (T_ways : Nat → Int) (T_early : Nat → Int) (T_late : Nat → Int) (x : Int × Int × (Nat → Int) × Int × Int) (h : f_X9_form p1 p2 p3 L_count L_copiedStands L_forms T_priced T_settled = some x) : zD l yX9_form wX9_form rX9_form lamC shpC [(2, Int.ofNat 0), (0, p1), (0, p2), (0, p3)] [([L_count, L_copiedStands], [L_from, L_to, L_forms, L_costs, L_copied]), ([T_cost, T_priced, T_settled, T_quarrel], [T_steps, T_pairs, T_built, T_rest, T_beside, T_held, T_heldPrice, T_ways, T_early, T_late]), M2, M3, M4, M5, M6, M7, M8, M9, M10, M11, M12, M13] (some (0, x.1)) [([L_count, x.2.1], [L_from, L_to, x.2.2.1, L_costs, L_copied]), ([T_cost, x.2.2.2.1, x.2.2.2.2, T_quarrel], [T_steps, T_pairs, T_built, T_rest, T_beside, T_held, T_heldPrice, T_ways, T_early, T_late]), M2, M3, M4, M5, M6, M7, M8, M9, M10, M11, M12, M13] := by
  refine zD_of (B := bX9_form) (E := eX9) (by decide) rfl lokC (eX9_ok _) bX9_form_ok (Or.inl rfl) rfl (fun S R => ?_)
  obtain ⟨rb, rg, ri, rv, rs, r0, r1, r2, r3, rt, rmk⟩ := R
  show S 0 [some (2, Int.ofNat 0), some (0, p1), some (0, p2), some (0, p3)] [] [([L_count, L_copiedStands], [L_from, L_to, L_forms, L_costs, L_copied]), ([T_cost, T_priced, T_settled, T_quarrel], [T_steps, T_pairs, T_built, T_rest, T_beside, T_held, T_heldPrice, T_ways, T_early, T_late]), M2, M3, M4, M5, M6, M7, M8, M9, M10, M11, M12, M13]
  unfold f_X9_form at h
  obtain ⟨x1, hx1, h⟩ := zbd h
  refine rv false 0 1 rfl rfl trivial rfl (m_C_X4_has l ([T_cost, T_priced, T_settled, T_quarrel], [T_steps, T_pairs, T_built, T_rest, T_beside, T_held, T_heldPrice, T_ways, T_early, T_late]) M2 M3 M4 M5 M6 M7 M8 M9 M10 M11 M12 M13 p1 L_count L_copiedStands L_from L_to L_forms L_costs L_copied x1 hx1) ⟨_, _, _, _, rfl, rfl, rfl, by decide +kernel, ⟨Nat.le_of_ble_eq_true rfl, Nat.le_of_ble_eq_true rfl⟩, uGin u_9_21 u_9_22 u_9_23 u_3_1 u_10_0⟩ ⟨rfl, _, _, _, rfl, rfl⟩ ?_
  refine ri false 1 (q := x1 = 0) (t1 := 31) (t2 := 11) rfl rfl trivial (fun c => ?_) (fun c => ?_)
  · replace h := zif1 c h
    obtain rfl := Option.some.inj h
    exact r1 false 6 rfl rfl rfl rfl rfl rfl trivial
  · replace h := zif2 c h
    obtain ⟨x2, hx2, h⟩ := zbd h
    refine rs false 2 3 rfl rfl trivial rfl (m_C_X9_within l ([L_count, L_copiedStands], [L_from, L_to, L_forms, L_costs, L_copied]) ([T_cost, T_priced, T_settled, T_quarrel], [T_steps, T_pairs, T_built, T_rest, T_beside, T_held, T_heldPrice, T_ways, T_early, T_late]) M2 M3 M4 M5 M6 M7 M8 M9 M10 M11 M12 M13 p2 0 7 x2 hx2) ⟨_, _, _, _, rfl, rfl, rfl, by decide +kernel, ⟨Nat.le_of_ble_eq_true rfl, Nat.le_of_ble_eq_true rfl⟩, uGinS u_8_17 u_8_18 u_1_2 u_8_19⟩ ?_
    refine ri false 3 (q := x2 = 0) (t1 := 31) (t2 := 21) rfl rfl trivial (fun c => ?_) (fun c => ?_)
    · replace h := zif1 c h
      obtain rfl := Option.some.inj h
      exact r1 false 6 rfl rfl rfl rfl rfl rfl trivial
    · replace h := zif2 c h
      obtain ⟨x3, hx3, h⟩ := zbd h
      refine rs false 4 3 rfl rfl trivial rfl (m_C_X9_within l ([L_count, L_copiedStands], [L_from, L_to, L_forms, L_costs, L_copied]) ([T_cost, T_priced, T_settled, T_quarrel], [T_steps, T_pairs, T_built, T_rest, T_beside, T_held, T_heldPrice, T_ways, T_early, T_late]) M2 M3 M4 M5 M6 M7 M8 M9 M10 M11 M12 M13 p3 (-1) 9 x3 hx3) ⟨_, _, _, _, rfl, rfl, rfl, by decide +kernel, ⟨Nat.le_of_ble_eq_true rfl, Nat.le_of_ble_eq_true rfl⟩, uGinS u_8_17 u_8_18 u_1_2 u_8_19⟩ ?_
      refine ri false 5 (q := x3 = 0) (t1 := 31) (t2 := 34) rfl rfl trivial (fun c => ?_) (fun c => ?_)
      · replace h := zif1 c h
        obtain rfl := Option.some.inj h
        exact r1 false 6 rfl rfl rfl rfl rfl rfl trivial
      · replace h := zif2 c h
        obtain ⟨x4, hx4, h⟩ := zbd h
        refine rv false 7 0 rfl rfl trivial rfl (m_C_X8_forget l ([L_count, L_copiedStands], [L_from, L_to, L_forms, L_costs, L_copied]) M2 M3 M4 M5 M6 M7 M8 M9 M10 M11 M12 M13 T_cost T_priced T_settled T_quarrel T_steps T_pairs T_built T_rest T_beside T_held T_heldPrice T_ways T_early T_late x4 hx4) ⟨_, _, _, _, rfl, rfl, rfl, by decide +kernel, ⟨Nat.le_of_ble_eq_true rfl, Nat.le_of_ble_eq_true rfl⟩, uGin u_8_20 u_8_21 u_8_22 u_1_15 u_8_23⟩ ⟨rfl, _, _, _, rfl, rfl⟩ ?_
        obtain ⟨x5, hx5, h⟩ := zbd h
        refine rv false 8 3 rfl rfl trivial rfl (m_C_X4_tellForm l ([T_cost, x4.1, x4.2, T_quarrel], [T_steps, T_pairs, T_built, T_rest, T_beside, T_held, T_heldPrice, T_ways, T_early, T_late]) M2 M3 M4 M5 M6 M7 M8 M9 M10 M11 M12 M13 p1 p2 p3 L_count L_copiedStands L_from L_to L_forms L_costs L_copied x5 hx5) ⟨_, _, _, _, rfl, rfl, rfl, by decide +kernel, ⟨Nat.le_of_ble_eq_true rfl, Nat.le_of_ble_eq_true rfl⟩, uGin u_10_1 u_10_2 u_10_3 u_3_1 u_10_4⟩ ⟨rfl, _, _, _, rfl, rfl⟩ ?_
        obtain rfl := Option.some.inj h
        exact r1 false 9 rfl rfl rfl rfl rfl rfl trivial
def bX9_cost : zB := [(0, [(.iload_n 1, 1), (.iconst 0, 1), (.iconst 4, 1)], 3, .invokestatic 63, 3), (6, [], 6, .ifCond .eq 13, 3), (9, [(.iload_n 2, 1), (.iconst 0, 1), (.bipush 9, 2)], 13, .invokestatic 63, 3), (16, [], 16, .ifCond .ne 6, 3), (19, [(.bipush (-2), 2)], 21, .ireturn, 1), (22, [(.aload_n 0, 1), (.getfield 10, 3)], 26, .invokevirtual 73, 3), (29, [(.aload_n 0, 1), (.getfield 20, 3), (.iload_n 1, 1), (.iload_n 2, 1)], 35, .invokevirtual 88, 3), (38, [], 38, .ireturn, 1)]
theorem bX9_cost_ok : zBok cX9_cost 3 bX9_cost = true := by decide +kernel
abbrev wX9_cost : List Cond := Cond.code yX9_cost cX9_cost 3 (some .int) :: uU
def rX9_cost : Room := { frames := 1, cells := 0, slots := 0, locals := 23 }
set_option maxRecDepth 20000 in
set_option maxHeartbeats 4000000 in
theorem m_C_X9_cost (l : Launch) (M2 : zM) (M3 : zM) (M4 : zM) (M5 : zM) (M6 : zM) (M7 : zM) (M8 : zM) (M9 : zM) (M10 : zM) (M11 : zM) (M12 : zM) (M13 : zM) (p1 : Int) (p2 : Int) (L_count : Int) (L_copiedStands : Int) (L_from : Nat → Int) (L_to : Nat → Int) (L_forms : Nat → Int) (L_costs : Nat → Int) (L_copied : Nat → Int) (T_cost : Int) (T_priced : Int) (T_settled : Int) (T_quarrel : Int) (T_steps : Nat → Int) (T_pairs : Nat → Int) (T_built : Nat → Int) (T_rest : Nat → Int) (T_beside : Nat → Int) (T_held : Nat → Int) (T_heldPrice : Nat → Int) (T_ways : Nat → Int) (T_early : Nat → Int) (T_late : Nat → Int) (x : Int × Int × (Nat → Int) × Int × Int) (h : f_X9_cost p1 p2 L_copiedStands L_costs T_priced T_settled = some x) : zD l yX9_cost wX9_cost rX9_cost lamC shpC [(2, Int.ofNat 0), (0, p1), (0, p2)] [([L_count, L_copiedStands], [L_from, L_to, L_forms, L_costs, L_copied]), ([T_cost, T_priced, T_settled, T_quarrel], [T_steps, T_pairs, T_built, T_rest, T_beside, T_held, T_heldPrice, T_ways, T_early, T_late]), M2, M3, M4, M5, M6, M7, M8, M9, M10, M11, M12, M13] (some (0, x.1)) [([L_count, x.2.1], [L_from, L_to, L_forms, x.2.2.1, L_copied]), ([T_cost, x.2.2.2.1, x.2.2.2.2, T_quarrel], [T_steps, T_pairs, T_built, T_rest, T_beside, T_held, T_heldPrice, T_ways, T_early, T_late]), M2, M3, M4, M5, M6, M7, M8, M9, M10, M11, M12, M13] := by
  refine zD_of (B := bX9_cost) (E := eX9) (by decide) rfl lokC (eX9_ok _) bX9_cost_ok (Or.inl rfl) rfl (fun S R => ?_)
  obtain ⟨rb, rg, ri, rv, rs, r0, r1, r2, r3, rt, rmk⟩ := R
  show S 0 [some (2, Int.ofNat 0), some (0, p1), some (0, p2)] [] [([L_count, L_copiedStands], [L_from, L_to, L_forms, L_costs, L_copied]), ([T_cost, T_priced, T_settled, T_quarrel], [T_steps, T_pairs, T_built, T_rest, T_beside, T_held, T_heldPrice, T_ways, T_early, T_late]), M2, M3, M4, M5, M6, M7, M8, M9, M10, M11, M12, M13]
  unfold f_X9_cost at h
  obtain ⟨x1, hx1, h⟩ := zbd h
  refine rs false 0 3 rfl rfl trivial rfl (m_C_X9_within l ([L_count, L_copiedStands], [L_from, L_to, L_forms, L_costs, L_copied]) ([T_cost, T_priced, T_settled, T_quarrel], [T_steps, T_pairs, T_built, T_rest, T_beside, T_held, T_heldPrice, T_ways, T_early, T_late]) M2 M3 M4 M5 M6 M7 M8 M9 M10 M11 M12 M13 p1 0 4 x1 hx1) ⟨_, _, _, _, rfl, rfl, rfl, by decide +kernel, ⟨Nat.le_of_ble_eq_true rfl, Nat.le_of_ble_eq_true rfl⟩, uGinS u_8_17 u_8_18 u_1_2 u_8_19⟩ ?_
  refine ri false 1 (q := x1 = 0) (t1 := 19) (t2 := 9) rfl rfl trivial (fun c => ?_) (fun c => ?_)
  · replace h := zif1 c h
    obtain rfl := Option.some.inj h
    exact r1 false 4 rfl rfl rfl rfl rfl rfl trivial
  · replace h := zif2 c h
    obtain ⟨x2, hx2, h⟩ := zbd h
    refine rs false 2 3 rfl rfl trivial rfl (m_C_X9_within l ([L_count, L_copiedStands], [L_from, L_to, L_forms, L_costs, L_copied]) ([T_cost, T_priced, T_settled, T_quarrel], [T_steps, T_pairs, T_built, T_rest, T_beside, T_held, T_heldPrice, T_ways, T_early, T_late]) M2 M3 M4 M5 M6 M7 M8 M9 M10 M11 M12 M13 p2 0 9 x2 hx2) ⟨_, _, _, _, rfl, rfl, rfl, by decide +kernel, ⟨Nat.le_of_ble_eq_true rfl, Nat.le_of_ble_eq_true rfl⟩, uGinS u_8_17 u_8_18 u_1_2 u_8_19⟩ ?_
    refine ri false 3 (q := x2 = 0) (t1 := 19) (t2 := 22) rfl rfl trivial (fun c => ?_) (fun c => ?_)
    · replace h := zif1 c h
      obtain rfl := Option.some.inj h
      exact r1 false 4 rfl rfl rfl rfl rfl rfl trivial
    · replace h := zif2 c h
      obtain ⟨x3, hx3, h⟩ := zbd h
      refine rv false 5 0 rfl rfl trivial rfl (m_C_X8_forget l ([L_count, L_copiedStands], [L_from, L_to, L_forms, L_costs, L_copied]) M2 M3 M4 M5 M6 M7 M8 M9 M10 M11 M12 M13 T_cost T_priced T_settled T_quarrel T_steps T_pairs T_built T_rest T_beside T_held T_heldPrice T_ways T_early T_late x3 hx3) ⟨_, _, _, _, rfl, rfl, rfl, by decide +kernel, ⟨Nat.le_of_ble_eq_true rfl, Nat.le_of_ble_eq_true rfl⟩, uGin u_8_20 u_8_21 u_8_22 u_1_15 u_8_23⟩ ⟨rfl, _, _, _, rfl, rfl⟩ ?_
      obtain ⟨x4, hx4, h⟩ := zbd h
      refine rv false 6 2 rfl rfl trivial rfl (m_C_X4_tellCost l ([T_cost, x3.1, x3.2, T_quarrel], [T_steps, T_pairs, T_built, T_rest, T_beside, T_held, T_heldPrice, T_ways, T_early, T_late]) M2 M3 M4 M5 M6 M7 M8 M9 M10 M11 M12 M13 p1 p2 L_count L_copiedStands L_from L_to L_forms L_costs L_copied x4 hx4) ⟨_, _, _, _, rfl, rfl, rfl, by decide +kernel, ⟨Nat.le_of_ble_eq_true rfl, Nat.le_of_ble_eq_true rfl⟩, uGin u_10_20 u_10_21 u_10_22 u_3_1 u_10_23⟩ ⟨rfl, _, _, _, rfl, rfl⟩ ?_
      obtain rfl := Option.some.inj h
      exact r1 false 7 rfl rfl rfl rfl rfl rfl trivial
def bX9_price : zB := [(0, [(.aload_n 0, 1), (.getfield 20, 3), (.iload_n 1, 1), (.iload_n 2, 1)], 6, .invokevirtual 91, 3), (9, [(.iconst (-1), 1)], 10, .if_icmp .ne 5, 3), (13, [(.iconst (-1), 1)], 14, .ireturn, 1), (15, [(.aload_n 0, 1), (.getfield 20, 3)], 19, .invokevirtual 94, 3), (22, [(.aload_n 0, 1), (.getfield 20, 3), (.iload_n 1, 1), (.iload_n 2, 1)], 28, .invokevirtual 97, 3), (31, [], 31, .ireturn, 1)]
theorem bX9_price_ok : zBok cX9_price 3 bX9_price = true := by decide +kernel
abbrev wX9_price : List Cond := Cond.code yX9_price cX9_price 3 (some .int) :: uU
def rX9_price : Room := { frames := 3, cells := 0, slots := 0, locals := 69 }
set_option maxRecDepth 20000 in
set_option maxHeartbeats 4000000 in
theorem m_C_X9_price (l : Launch) (M1 : zM) (M2 : zM) (M3 : zM) (M4 : zM) (M5 : zM) (M6 : zM) (M7 : zM) (M8 : zM) (M9 : zM) (M10 : zM) (M11 : zM) (M12 : zM) (M13 : zM) (p1 : Int) (p2 : Int) (L_count : Int) (L_copiedStands : Int) (L_from : Nat → Int) (L_to : Nat → Int) (L_forms : Nat → Int) (L_costs : Nat → Int) (L_copied : Nat → Int) (x : Int × Int × (Nat → Int)) (h : f_X9_price p1 p2 L_count L_copiedStands L_forms L_costs L_copied = some x) : zD l yX9_price wX9_price rX9_price lamC shpC [(2, Int.ofNat 0), (0, p1), (0, p2)] [([L_count, L_copiedStands], [L_from, L_to, L_forms, L_costs, L_copied]), M1, M2, M3, M4, M5, M6, M7, M8, M9, M10, M11, M12, M13] (some (0, x.1)) [([L_count, x.2.1], [L_from, L_to, L_forms, L_costs, x.2.2]), M1, M2, M3, M4, M5, M6, M7, M8, M9, M10, M11, M12, M13] := by
  refine zD_of (B := bX9_price) (E := eX9) (by decide) rfl lokC (eX9_ok _) bX9_price_ok (Or.inl rfl) rfl (fun S R => ?_)
  obtain ⟨rb, rg, ri, rv, rs, r0, r1, r2, r3, rt, rmk⟩ := R
  show S 0 [some (2, Int.ofNat 0), some (0, p1), some (0, p2)] [] [([L_count, L_copiedStands], [L_from, L_to, L_forms, L_costs, L_copied]), M1, M2, M3, M4, M5, M6, M7, M8, M9, M10, M11, M12, M13]
  unfold f_X9_price at h
  obtain ⟨x1, hx1, h⟩ := zbd h
  refine rv false 0 2 rfl rfl trivial rfl (m_C_X4_sources l M1 M2 M3 M4 M5 M6 M7 M8 M9 M10 M11 M12 M13 p1 p2 L_count L_copiedStands L_from L_to L_forms L_costs L_copied x1 hx1) ⟨_, _, _, _, rfl, rfl, rfl, by decide +kernel, ⟨Nat.le_of_ble_eq_true rfl, Nat.le_of_ble_eq_true rfl⟩, uGin u_11_9 u_11_10 u_11_11 u_3_1 u_11_12⟩ ⟨rfl, _, _, _, rfl, rfl⟩ ?_
  refine ri false 1 (q := x1 = (-1)) (t1 := 13) (t2 := 15) rfl rfl trivial (fun c => ?_) (fun c => ?_)
  · replace h := zif1 c h
    obtain rfl := Option.some.inj h
    exact r1 false 2 rfl rfl rfl rfl rfl rfl trivial
  · replace h := zif2 c h
    obtain ⟨x2, hx2, h⟩ := zbd h
    refine rv false 3 0 rfl rfl trivial rfl (m_C_X4_refresh l M1 M2 M3 M4 M5 M6 M7 M8 M9 M10 M11 M12 M13 L_count L_copiedStands L_from L_to L_forms L_costs L_copied x2 hx2) ⟨_, _, _, _, rfl, rfl, rfl, by decide +kernel, ⟨Nat.le_of_ble_eq_true rfl, Nat.le_of_ble_eq_true rfl⟩, uGin u_11_18 u_11_19 u_11_20 u_3_1 u_11_21⟩ ⟨rfl, _, _, _, rfl, rfl⟩ ?_
    obtain ⟨x3, hx3, h⟩ := zbd h
    refine rv false 4 2 rfl rfl trivial rfl (m_C_X4_priceOf l M1 M2 M3 M4 M5 M6 M7 M8 M9 M10 M11 M12 M13 p1 p2 L_count x2.1 L_from L_to L_forms L_costs x2.2 x3 hx3) ⟨_, _, _, _, rfl, rfl, rfl, by decide +kernel, ⟨Nat.le_of_ble_eq_true rfl, Nat.le_of_ble_eq_true rfl⟩, uGin u_12_6 u_12_7 u_12_8 u_3_1 u_12_9⟩ ⟨rfl, _, _, _, rfl, rfl⟩ ?_
    obtain rfl := Option.some.inj h
    exact r1 false 5 rfl rfl rfl rfl rfl rfl trivial
def bX9_least : zB := [(0, [(.aload_n 0, 1), (.getfield 10, 3)], 4, .invokevirtual 100, 3), (7, [], 7, .ireturn, 1)]
theorem bX9_least_ok : zBok cX9_least 1 bX9_least = true := by decide +kernel
abbrev wX9_least : List Cond := Cond.code yX9_least cX9_least 1 (some .int) :: uU
def rX9_least : Room := { frames := 4, cells := 0, slots := 0, locals := 100 }
set_option maxRecDepth 20000 in
set_option maxHeartbeats 4000000 in
theorem m_C_X9_least (l : Launch) (M2 : zM) (M3 : zM) (M4 : zM) (M5 : zM) (M6 : zM) (M7 : zM) (M8 : zM) (M9 : zM) (M10 : zM) (M11 : zM) (M12 : zM) (M13 : zM) (L_count : Int) (L_copiedStands : Int) (L_from : Nat → Int) (L_to : Nat → Int) (L_forms : Nat → Int) (L_costs : Nat → Int) (L_copied : Nat → Int) (T_cost : Int) (T_priced : Int) (T_settled : Int) (T_quarrel : Int) (T_steps : Nat → Int) (T_pairs : Nat → Int) (T_built : Nat → Int) (T_rest : Nat → Int) (T_beside : Nat → Int) (T_held : Nat → Int) (T_heldPrice : Nat → Int) (T_ways : Nat → Int) (T_early : Nat → Int) (T_late : Nat → Int) (x : Int × Int × (Nat → Int) × Int × Int × (Nat → Int) × (Nat → Int) × (Nat → Int) × (Nat → Int)) (h : f_X9_least L_count L_copiedStands L_forms L_costs L_copied T_cost T_priced T_steps T_pairs T_built T_held T_heldPrice = some x) : zD l yX9_least wX9_least rX9_least lamC shpC [(2, Int.ofNat 0)] [([L_count, L_copiedStands], [L_from, L_to, L_forms, L_costs, L_copied]), ([T_cost, T_priced, T_settled, T_quarrel], [T_steps, T_pairs, T_built, T_rest, T_beside, T_held, T_heldPrice, T_ways, T_early, T_late]), M2, M3, M4, M5, M6, M7, M8, M9, M10, M11, M12, M13] (some (0, x.1)) [([L_count, x.2.1], [L_from, L_to, L_forms, L_costs, x.2.2.1]), ([x.2.2.2.1, x.2.2.2.2.1, T_settled, T_quarrel], [x.2.2.2.2.2.1, x.2.2.2.2.2.2.1, x.2.2.2.2.2.2.2.1, T_rest, T_beside, x.2.2.2.2.2.2.2.2, T_heldPrice, T_ways, T_early, T_late]), M2, M3, M4, M5, M6, M7, M8, M9, M10, M11, M12, M13] := by
  refine zD_of (B := bX9_least) (E := eX9) (by decide) rfl lokC (eX9_ok _) bX9_least_ok (Or.inl rfl) rfl (fun S R => ?_)
  obtain ⟨rb, rg, ri, rv, rs, r0, r1, r2, r3, rt, rmk⟩ := R
  show S 0 [some (2, Int.ofNat 0)] [] [([L_count, L_copiedStands], [L_from, L_to, L_forms, L_costs, L_copied]), ([T_cost, T_priced, T_settled, T_quarrel], [T_steps, T_pairs, T_built, T_rest, T_beside, T_held, T_heldPrice, T_ways, T_early, T_late]), M2, M3, M4, M5, M6, M7, M8, M9, M10, M11, M12, M13]
  unfold f_X9_least at h
  obtain ⟨x1, hx1, h⟩ := zbd h
  refine rv false 0 0 rfl rfl trivial rfl (m_C_X8_leastCost l M2 M3 M4 M5 M6 M7 M8 M9 M10 M11 M12 M13 L_count L_copiedStands L_from L_to L_forms L_costs L_copied T_cost T_priced T_settled T_quarrel T_steps T_pairs T_built T_rest T_beside T_held T_heldPrice T_ways T_early T_late x1 hx1) ⟨_, _, _, _, rfl, rfl, rfl, by decide +kernel, ⟨Nat.le_of_ble_eq_true rfl, Nat.le_of_ble_eq_true rfl⟩, uGin u_14_8 u_14_9 u_14_10 u_1_15 u_14_11⟩ ⟨rfl, _, _, _, rfl, rfl⟩ ?_
  obtain rfl := Option.some.inj h
  exact r1 false 1 rfl rfl rfl rfl rfl rfl trivial
def bX9_way : zB := [(0, [(.aload_n 0, 1), (.getfield 20, 3), (.iload_n 1, 1)], 5, .invokevirtual 80, 3), (8, [], 8, .ifCond .ne 5, 3), (11, [(.iconst (-1), 1)], 12, .ireturn, 1), (13, [(.aload_n 0, 1), (.getfield 10, 3), (.iload_n 1, 1)], 18, .invokevirtual 104, 3), (21, [], 21, .ireturn, 1)]
theorem bX9_way_ok : zBok cX9_way 2 bX9_way = true := by decide +kernel
abbrev wX9_way : List Cond := Cond.code yX9_way cX9_way 2 (some .int) :: uU
def rX9_way : Room := { frames := 6, cells := 0, slots := 0, locals := 143 }
set_option maxRecDepth 20000 in
set_option maxHeartbeats 4000000 in
theorem m_C_X9_way (l : Launch) (M2 : zM) (M3 : zM) (M4 : zM) (M5 : zM) (M6 : zM) (M7 : zM) (M8 : zM) (M9 : zM) (M10 : zM) (M11 : zM) (M12 : zM) (M13 : zM) (p1 : Int) (L_count : Int) (L_copiedStands : Int) (L_from : Nat → Int) (L_to : Nat → Int) (L_forms : Nat → Int) (L_costs : Nat → Int) (L_copied : Nat → Int) (T_cost : Int) (T_priced : Int) (T_settled : Int) (T_quarrel : Int) (T_steps : Nat → Int) (T_pairs : Nat → Int) (T_built : Nat → Int) (T_rest : Nat → Int) (T_beside : Nat → Int) (T_held : Nat → Int) (T_heldPrice : Nat → Int) (T_ways : Nat → Int) (T_early : Nat → Int) (T_late : Nat → Int) (x : Int × Int × (Nat → Int) × Int × Int × Int × Int × (Nat → Int) × (Nat → Int) × (Nat → Int) × (Nat → Int) × (Nat → Int) × (Nat → Int) × (Nat → Int) × (Nat → Int) × (Nat → Int) × (Nat → Int)) (h : f_X9_way p1 L_count L_copiedStands L_from L_to L_forms L_costs L_copied T_cost T_priced T_settled T_quarrel T_steps T_pairs T_built T_rest T_beside T_held T_heldPrice T_ways T_early T_late = some x) : zD l yX9_way wX9_way rX9_way lamC shpC [(2, Int.ofNat 0), (0, p1)] [([L_count, L_copiedStands], [L_from, L_to, L_forms, L_costs, L_copied]), ([T_cost, T_priced, T_settled, T_quarrel], [T_steps, T_pairs, T_built, T_rest, T_beside, T_held, T_heldPrice, T_ways, T_early, T_late]), M2, M3, M4, M5, M6, M7, M8, M9, M10, M11, M12, M13] (some (0, x.1)) [([L_count, x.2.1], [L_from, L_to, L_forms, L_costs, x.2.2.1]), ([x.2.2.2.1, x.2.2.2.2.1, x.2.2.2.2.2.1, x.2.2.2.2.2.2.1], [x.2.2.2.2.2.2.2.1, x.2.2.2.2.2.2.2.2.1, x.2.2.2.2.2.2.2.2.2.1, x.2.2.2.2.2.2.2.2.2.2.1, x.2.2.2.2.2.2.2.2.2.2.2.1, x.2.2.2.2.2.2.2.2.2.2.2.2.1, x.2.2.2.2.2.2.2.2.2.2.2.2.2.1, x.2.2.2.2.2.2.2.2.2.2.2.2.2.2.1, x.2.2.2.2.2.2.2.2.2.2.2.2.2.2.2.1, x.2.2.2.2.2.2.2.2.2.2.2.2.2.2.2.2]), M2, M3, M4, M5, M6, M7, M8, M9, M10, M11, M12, M13] := by
  refine zD_of (B := bX9_way) (E := eX9) (by decide) rfl lokC (eX9_ok _) bX9_way_ok (Or.inl rfl) rfl (fun S R => ?_)
  obtain ⟨rb, rg, ri, rv, rs, r0, r1, r2, r3, rt, rmk⟩ := R
  show S 0 [some (2, Int.ofNat 0), some (0, p1)] [] [([L_count, L_copiedStands], [L_from, L_to, L_forms, L_costs, L_copied]), ([T_cost, T_priced, T_settled, T_quarrel], [T_steps, T_pairs, T_built, T_rest, T_beside, T_held, T_heldPrice, T_ways, T_early, T_late]), M2, M3, M4, M5, M6, M7, M8, M9, M10, M11, M12, M13]
  unfold f_X9_way at h
  obtain ⟨x1, hx1, h⟩ := zbd h
  refine rv false 0 1 rfl rfl trivial rfl (m_C_X4_has l ([T_cost, T_priced, T_settled, T_quarrel], [T_steps, T_pairs, T_built, T_rest, T_beside, T_held, T_heldPrice, T_ways, T_early, T_late]) M2 M3 M4 M5 M6 M7 M8 M9 M10 M11 M12 M13 p1 L_count L_copiedStands L_from L_to L_forms L_costs L_copied x1 hx1) ⟨_, _, _, _, rfl, rfl, rfl, by decide +kernel, ⟨Nat.le_of_ble_eq_true rfl, Nat.le_of_ble_eq_true rfl⟩, uGin u_9_21 u_9_22 u_9_23 u_3_1 u_10_0⟩ ⟨rfl, _, _, _, rfl, rfl⟩ ?_
  refine ri false 1 (q := x1 = 0) (t1 := 11) (t2 := 13) rfl rfl trivial (fun c => ?_) (fun c => ?_)
  · replace h := zif1 c h
    obtain rfl := Option.some.inj h
    exact r1 false 2 rfl rfl rfl rfl rfl rfl trivial
  · replace h := zif2 c h
    obtain ⟨x2, hx2, h⟩ := zbd h
    refine rv false 3 1 rfl rfl trivial rfl (m_C_X8_wayOf l M2 M3 M4 M5 M6 M7 M8 M9 M10 M11 M12 M13 p1 L_count L_copiedStands L_from L_to L_forms L_costs L_copied T_cost T_priced T_settled T_quarrel T_steps T_pairs T_built T_rest T_beside T_held T_heldPrice T_ways T_early T_late x2 hx2) ⟨_, _, _, _, rfl, rfl, rfl, by decide +kernel, ⟨Nat.le_of_ble_eq_true rfl, Nat.le_of_ble_eq_true rfl⟩, uGin u_17_4 u_17_5 u_17_6 u_1_15 u_17_7⟩ ⟨rfl, _, _, _, rfl, rfl⟩ ?_
    obtain rfl := Option.some.inj h
    exact r1 false 4 rfl rfl rfl rfl rfl rfl trivial
def bX9_may : zB := [(0, [(.aload_n 0, 1), (.getfield 20, 3), (.iload_n 1, 1), (.iload_n 2, 1)], 6, .invokevirtual 91, 3), (9, [(.iconst (-1), 1)], 10, .if_icmp .ne 6, 3), (13, [(.bipush (-2), 2)], 15, .ireturn, 1), (16, [(.aload_n 0, 1), (.getfield 10, 3), (.iload_n 1, 1), (.iload_n 2, 1)], 22, .invokevirtual 108, 3), (25, [], 25, .ifCond .eq 7, 3), (28, [(.iconst 1, 1)], 29, .goto 4, 3), (32, [(.iconst 0, 1)], 33, .nop, 0), (33, [], 33, .ireturn, 1)]
theorem bX9_may_ok : zBok cX9_may 3 bX9_may = true := by decide +kernel
abbrev wX9_may : List Cond := Cond.code yX9_may cX9_may 3 (some .int) :: uU
def rX9_may : Room := { frames := 5, cells := 0, slots := 0, locals := 122 }
set_option maxRecDepth 20000 in
set_option maxHeartbeats 4000000 in
theorem m_C_X9_may (l : Launch) (M2 : zM) (M3 : zM) (M4 : zM) (M5 : zM) (M6 : zM) (M7 : zM) (M8 : zM) (M9 : zM) (M10 : zM) (M11 : zM) (M12 : zM) (M13 : zM) (p1 : Int) (p2 : Int) (L_count : Int) (L_copiedStands : Int) (L_from : Nat → Int) (L_to : Nat → Int) (L_forms : Nat → Int) (L_costs : Nat → Int) (L_copied : Nat → Int) (T_cost : Int) (T_priced : Int) (T_settled : Int) (T_quarrel : Int) (T_steps : Nat → Int) (T_pairs : Nat → Int) (T_built : Nat → Int) (T_rest : Nat → Int) (T_beside : Nat → Int) (T_held : Nat → Int) (T_heldPrice : Nat → Int) (T_ways : Nat → Int) (T_early : Nat → Int) (T_late : Nat → Int) (x : Int × Int × (Nat → Int) × Int × Int × (Nat → Int) × (Nat → Int) × (Nat → Int) × (Nat → Int) × (Nat → Int) × (Nat → Int)) (h : f_X9_may p1 p2 L_count L_copiedStands L_forms L_costs L_copied T_cost T_priced T_steps T_pairs T_built T_rest T_beside T_held T_heldPrice = some x) : zD l yX9_may wX9_may rX9_may lamC shpC [(2, Int.ofNat 0), (0, p1), (0, p2)] [([L_count, L_copiedStands], [L_from, L_to, L_forms, L_costs, L_copied]), ([T_cost, T_priced, T_settled, T_quarrel], [T_steps, T_pairs, T_built, T_rest, T_beside, T_held, T_heldPrice, T_ways, T_early, T_late]), M2, M3, M4, M5, M6, M7, M8, M9, M10, M11, M12, M13] (some (0, x.1)) [([L_count, x.2.1], [L_from, L_to, L_forms, L_costs, x.2.2.1]), ([x.2.2.2.1, x.2.2.2.2.1, T_settled, T_quarrel], [x.2.2.2.2.2.1, x.2.2.2.2.2.2.1, x.2.2.2.2.2.2.2.1, x.2.2.2.2.2.2.2.2.1, x.2.2.2.2.2.2.2.2.2.1, x.2.2.2.2.2.2.2.2.2.2, T_heldPrice, T_ways, T_early, T_late]), M2, M3, M4, M5, M6, M7, M8, M9, M10, M11, M12, M13] := by
  refine zD_of (B := bX9_may) (E := eX9) (by decide) rfl lokC (eX9_ok _) bX9_may_ok (Or.inl rfl) rfl (fun S R => ?_)
  obtain ⟨rb, rg, ri, rv, rs, r0, r1, r2, r3, rt, rmk⟩ := R
  show S 0 [some (2, Int.ofNat 0), some (0, p1), some (0, p2)] [] [([L_count, L_copiedStands], [L_from, L_to, L_forms, L_costs, L_copied]), ([T_cost, T_priced, T_settled, T_quarrel], [T_steps, T_pairs, T_built, T_rest, T_beside, T_held, T_heldPrice, T_ways, T_early, T_late]), M2, M3, M4, M5, M6, M7, M8, M9, M10, M11, M12, M13]
  unfold f_X9_may at h
  obtain ⟨x1, hx1, h⟩ := zbd h
  refine rv false 0 2 rfl rfl trivial rfl (m_C_X4_sources l ([T_cost, T_priced, T_settled, T_quarrel], [T_steps, T_pairs, T_built, T_rest, T_beside, T_held, T_heldPrice, T_ways, T_early, T_late]) M2 M3 M4 M5 M6 M7 M8 M9 M10 M11 M12 M13 p1 p2 L_count L_copiedStands L_from L_to L_forms L_costs L_copied x1 hx1) ⟨_, _, _, _, rfl, rfl, rfl, by decide +kernel, ⟨Nat.le_of_ble_eq_true rfl, Nat.le_of_ble_eq_true rfl⟩, uGin u_11_9 u_11_10 u_11_11 u_3_1 u_11_12⟩ ⟨rfl, _, _, _, rfl, rfl⟩ ?_
  refine ri false 1 (q := x1 = (-1)) (t1 := 13) (t2 := 16) rfl rfl trivial (fun c => ?_) (fun c => ?_)
  · replace h := zif1 c h
    obtain rfl := Option.some.inj h
    exact r1 false 2 rfl rfl rfl rfl rfl rfl trivial
  · replace h := zif2 c h
    obtain ⟨x2, hx2, h⟩ := zbd h
    refine rv false 3 2 rfl rfl trivial rfl (m_C_X8_mayHave l M2 M3 M4 M5 M6 M7 M8 M9 M10 M11 M12 M13 p1 p2 L_count L_copiedStands L_from L_to L_forms L_costs L_copied T_cost T_priced T_settled T_quarrel T_steps T_pairs T_built T_rest T_beside T_held T_heldPrice T_ways T_early T_late x2 hx2) ⟨_, _, _, _, rfl, rfl, rfl, by decide +kernel, ⟨Nat.le_of_ble_eq_true rfl, Nat.le_of_ble_eq_true rfl⟩, uGin u_19_15 u_19_16 u_19_17 u_1_15 u_19_18⟩ ⟨rfl, _, _, _, rfl, rfl⟩ ?_
    refine ri false 4 (q := x2.1 = 0) (t1 := 32) (t2 := 28) rfl rfl trivial (fun c => ?_) (fun c => ?_)
    · replace h := zif1 c h
      refine rb false 6 (st2 := [(0, 0)]) rfl rfl trivial ?_
      obtain rfl := Option.some.inj h
      exact r1 false 7 rfl rfl rfl rfl rfl rfl trivial
    · replace h := zif2 c h
      refine rg false 5 (t := 33) (st2 := [(0, 1)]) rfl rfl rfl trivial ?_
      obtain rfl := Option.some.inj h
      exact r1 false 7 rfl rfl rfl rfl rfl rfl trivial
def bX9_sure : zB := [(0, [(.aload_n 0, 1), (.getfield 20, 3), (.iload_n 1, 1)], 5, .invokevirtual 80, 3), (8, [], 8, .ifCond .ne 6, 3), (11, [(.bipush (-2), 2)], 13, .ireturn, 1), (14, [(.aload_n 0, 1), (.getfield 10, 3), (.iload_n 1, 1)], 19, .invokevirtual 112, 3), (22, [(.iconst 1, 1)], 23, .if_icmp .ne 7, 3), (26, [(.iconst 1, 1)], 27, .goto 4, 3), (30, [(.iconst 0, 1)], 31, .nop, 0), (31, [], 31, .ireturn, 1)]
theorem bX9_sure_ok : zBok cX9_sure 2 bX9_sure = true := by decide +kernel
abbrev wX9_sure : List Cond := Cond.code yX9_sure cX9_sure 2 (some .int) :: uU
def rX9_sure : Room := { frames := 5, cells := 0, slots := 0, locals := 123 }
set_option maxRecDepth 20000 in
set_option maxHeartbeats 4000000 in
theorem m_C_X9_sure (l : Launch) (M2 : zM) (M3 : zM) (M4 : zM) (M5 : zM) (M6 : zM) (M7 : zM) (M8 : zM) (M9 : zM) (M10 : zM) (M11 : zM) (M12 : zM) (M13 : zM) (p1 : Int) (L_count : Int) (L_copiedStands : Int) (L_from : Nat → Int) (L_to : Nat → Int) (L_forms : Nat → Int) (L_costs : Nat → Int) (L_copied : Nat → Int) (T_cost : Int) (T_priced : Int) (T_settled : Int) (T_quarrel : Int) (T_steps : Nat → Int) (T_pairs : Nat → Int) (T_built : Nat → Int) (T_rest : Nat → Int) (T_beside : Nat → Int) (T_held : Nat → Int) (T_heldPrice : Nat → Int) (T_ways : Nat → Int) (T_early : Nat → Int) (T_late : Nat → Int) (x : Int × Int × (Nat → Int) × Int × Int × (Nat → Int) × (Nat → Int) × (Nat → Int) × (Nat → Int) × (Nat → Int) × (Nat → Int)) (h : f_X9_sure p1 L_count L_copiedStands L_forms L_costs L_copied T_cost T_priced T_steps T_pairs T_built T_rest T_beside T_held T_heldPrice = some x) : zD l yX9_sure wX9_sure rX9_sure lamC shpC [(2, Int.ofNat 0), (0, p1)] [([L_count, L_copiedStands], [L_from, L_to, L_forms, L_costs, L_copied]), ([T_cost, T_priced, T_settled, T_quarrel], [T_steps, T_pairs, T_built, T_rest, T_beside, T_held, T_heldPrice, T_ways, T_early, T_late]), M2, M3, M4, M5, M6, M7, M8, M9, M10, M11, M12, M13] (some (0, x.1)) [([L_count, x.2.1], [L_from, L_to, L_forms, L_costs, x.2.2.1]), ([x.2.2.2.1, x.2.2.2.2.1, T_settled, T_quarrel], [x.2.2.2.2.2.1, x.2.2.2.2.2.2.1, x.2.2.2.2.2.2.2.1, x.2.2.2.2.2.2.2.2.1, x.2.2.2.2.2.2.2.2.2.1, x.2.2.2.2.2.2.2.2.2.2, T_heldPrice, T_ways, T_early, T_late]), M2, M3, M4, M5, M6, M7, M8, M9, M10, M11, M12, M13] := by
  refine zD_of (B := bX9_sure) (E := eX9) (by decide) rfl lokC (eX9_ok _) bX9_sure_ok (Or.inl rfl) rfl (fun S R => ?_)
  obtain ⟨rb, rg, ri, rv, rs, r0, r1, r2, r3, rt, rmk⟩ := R
  show S 0 [some (2, Int.ofNat 0), some (0, p1)] [] [([L_count, L_copiedStands], [L_from, L_to, L_forms, L_costs, L_copied]), ([T_cost, T_priced, T_settled, T_quarrel], [T_steps, T_pairs, T_built, T_rest, T_beside, T_held, T_heldPrice, T_ways, T_early, T_late]), M2, M3, M4, M5, M6, M7, M8, M9, M10, M11, M12, M13]
  unfold f_X9_sure at h
  obtain ⟨x1, hx1, h⟩ := zbd h
  refine rv false 0 1 rfl rfl trivial rfl (m_C_X4_has l ([T_cost, T_priced, T_settled, T_quarrel], [T_steps, T_pairs, T_built, T_rest, T_beside, T_held, T_heldPrice, T_ways, T_early, T_late]) M2 M3 M4 M5 M6 M7 M8 M9 M10 M11 M12 M13 p1 L_count L_copiedStands L_from L_to L_forms L_costs L_copied x1 hx1) ⟨_, _, _, _, rfl, rfl, rfl, by decide +kernel, ⟨Nat.le_of_ble_eq_true rfl, Nat.le_of_ble_eq_true rfl⟩, uGin u_9_21 u_9_22 u_9_23 u_3_1 u_10_0⟩ ⟨rfl, _, _, _, rfl, rfl⟩ ?_
  refine ri false 1 (q := x1 = 0) (t1 := 11) (t2 := 14) rfl rfl trivial (fun c => ?_) (fun c => ?_)
  · replace h := zif1 c h
    obtain rfl := Option.some.inj h
    exact r1 false 2 rfl rfl rfl rfl rfl rfl trivial
  · replace h := zif2 c h
    obtain ⟨x2, hx2, h⟩ := zbd h
    refine rv false 3 1 rfl rfl trivial rfl (m_C_X8_waysThatMayBe l M2 M3 M4 M5 M6 M7 M8 M9 M10 M11 M12 M13 p1 L_count L_copiedStands L_from L_to L_forms L_costs L_copied T_cost T_priced T_settled T_quarrel T_steps T_pairs T_built T_rest T_beside T_held T_heldPrice T_ways T_early T_late x2 hx2) ⟨_, _, _, _, rfl, rfl, rfl, by decide +kernel, ⟨Nat.le_of_ble_eq_true rfl, Nat.le_of_ble_eq_true rfl⟩, uGin u_20_3 u_20_4 u_20_5 u_1_15 u_20_6⟩ ⟨rfl, _, _, _, rfl, rfl⟩ ?_
    refine ri false 4 (q := x2.1 = 1) (t1 := 26) (t2 := 30) rfl rfl trivial (fun c => ?_) (fun c => ?_)
    · replace h := zif1 c h
      refine rg false 5 (t := 31) (st2 := [(0, 1)]) rfl rfl rfl trivial ?_
      obtain rfl := Option.some.inj h
      exact r1 false 7 rfl rfl rfl rfl rfl rfl trivial
    · replace h := zif2 c h
      refine rb false 6 (st2 := [(0, 0)]) rfl rfl trivial ?_
      obtain rfl := Option.some.inj h
      exact r1 false 7 rfl rfl rfl rfl rfl rfl trivial
def bX9_date : zB := [(0, [(.aload_n 0, 1), (.getfield 20, 3), (.iload_n 1, 1)], 5, .invokevirtual 80, 3), (8, [], 8, .ifCond .eq 12, 3), (11, [(.iload_n 2, 1), (.iconst 0, 1), (.iconst 1, 1)], 14, .invokestatic 63, 3), (17, [], 17, .ifCond .ne 6, 3), (20, [(.bipush (-2), 2)], 22, .ireturn, 1), (23, [(.aload_n 0, 1), (.getfield 10, 3), (.iload_n 1, 1), (.iload_n 2, 1), (.iconst 1, 1)], 30, .if_icmp .ne 7, 3), (33, [(.iconst 1, 1)], 34, .goto 4, 3), (37, [(.iconst 0, 1)], 38, .nop, 0), (38, [], 38, .invokevirtual 115, 3), (41, [], 41, .ireturn, 1)]
theorem bX9_date_ok : zBok cX9_date 3 bX9_date = true := by decide +kernel
abbrev wX9_date : List Cond := Cond.code yX9_date cX9_date 3 (some .int) :: uU
def rX9_date : Room := { frames := 6, cells := 0, slots := 0, locals := 144 }
set_option maxRecDepth 20000 in
set_option maxHeartbeats 4000000 in
theorem m_C_X9_date (l : Launch) (M2 : zM) (M3 : zM) (M4 : zM) (M5 : zM) (M6 : zM) (M7 : zM) (M8 : zM) (M9 : zM) (M10 : zM) (M11 : zM) (M12 : zM) (M13 : zM) (p1 : Int) (p2 : Int) (L_count : Int) (L_copiedStands : Int) (L_from : Nat → Int) (L_to : Nat → Int) (L_forms : Nat → Int) (L_costs : Nat → Int) (L_copied : Nat → Int) (T_cost : Int) (T_priced : Int) (T_settled : Int) (T_quarrel : Int) (T_steps : Nat → Int) (T_pairs : Nat → Int) (T_built : Nat → Int) (T_rest : Nat → Int) (T_beside : Nat → Int) (T_held : Nat → Int) (T_heldPrice : Nat → Int) (T_ways : Nat → Int) (T_early : Nat → Int) (T_late : Nat → Int) (x : Int × Int × (Nat → Int) × Int × Int × Int × Int × (Nat → Int) × (Nat → Int) × (Nat → Int) × (Nat → Int) × (Nat → Int) × (Nat → Int) × (Nat → Int) × (Nat → Int) × (Nat → Int) × (Nat → Int)) (h : f_X9_date p1 p2 L_count L_copiedStands L_from L_to L_forms L_costs L_copied T_cost T_priced T_settled T_quarrel T_steps T_pairs T_built T_rest T_beside T_held T_heldPrice T_ways T_early T_late = some x) : zD l yX9_date wX9_date rX9_date lamC shpC [(2, Int.ofNat 0), (0, p1), (0, p2)] [([L_count, L_copiedStands], [L_from, L_to, L_forms, L_costs, L_copied]), ([T_cost, T_priced, T_settled, T_quarrel], [T_steps, T_pairs, T_built, T_rest, T_beside, T_held, T_heldPrice, T_ways, T_early, T_late]), M2, M3, M4, M5, M6, M7, M8, M9, M10, M11, M12, M13] (some (0, x.1)) [([L_count, x.2.1], [L_from, L_to, L_forms, L_costs, x.2.2.1]), ([x.2.2.2.1, x.2.2.2.2.1, x.2.2.2.2.2.1, x.2.2.2.2.2.2.1], [x.2.2.2.2.2.2.2.1, x.2.2.2.2.2.2.2.2.1, x.2.2.2.2.2.2.2.2.2.1, x.2.2.2.2.2.2.2.2.2.2.1, x.2.2.2.2.2.2.2.2.2.2.2.1, x.2.2.2.2.2.2.2.2.2.2.2.2.1, x.2.2.2.2.2.2.2.2.2.2.2.2.2.1, x.2.2.2.2.2.2.2.2.2.2.2.2.2.2.1, x.2.2.2.2.2.2.2.2.2.2.2.2.2.2.2.1, x.2.2.2.2.2.2.2.2.2.2.2.2.2.2.2.2]), M2, M3, M4, M5, M6, M7, M8, M9, M10, M11, M12, M13] := by
  refine zD_of (B := bX9_date) (E := eX9) (by decide) rfl lokC (eX9_ok _) bX9_date_ok (Or.inl rfl) rfl (fun S R => ?_)
  obtain ⟨rb, rg, ri, rv, rs, r0, r1, r2, r3, rt, rmk⟩ := R
  show S 0 [some (2, Int.ofNat 0), some (0, p1), some (0, p2)] [] [([L_count, L_copiedStands], [L_from, L_to, L_forms, L_costs, L_copied]), ([T_cost, T_priced, T_settled, T_quarrel], [T_steps, T_pairs, T_built, T_rest, T_beside, T_held, T_heldPrice, T_ways, T_early, T_late]), M2, M3, M4, M5, M6, M7, M8, M9, M10, M11, M12, M13]
  unfold f_X9_date at h
  obtain ⟨x1, hx1, h⟩ := zbd h
  refine rv false 0 1 rfl rfl trivial rfl (m_C_X4_has l ([T_cost, T_priced, T_settled, T_quarrel], [T_steps, T_pairs, T_built, T_rest, T_beside, T_held, T_heldPrice, T_ways, T_early, T_late]) M2 M3 M4 M5 M6 M7 M8 M9 M10 M11 M12 M13 p1 L_count L_copiedStands L_from L_to L_forms L_costs L_copied x1 hx1) ⟨_, _, _, _, rfl, rfl, rfl, by decide +kernel, ⟨Nat.le_of_ble_eq_true rfl, Nat.le_of_ble_eq_true rfl⟩, uGin u_9_21 u_9_22 u_9_23 u_3_1 u_10_0⟩ ⟨rfl, _, _, _, rfl, rfl⟩ ?_
  refine ri false 1 (q := x1 = 0) (t1 := 20) (t2 := 11) rfl rfl trivial (fun c => ?_) (fun c => ?_)
  · replace h := zif1 c h
    obtain rfl := Option.some.inj h
    exact r1 false 4 rfl rfl rfl rfl rfl rfl trivial
  · replace h := zif2 c h
    obtain ⟨x2, hx2, h⟩ := zbd h
    refine rs false 2 3 rfl rfl trivial rfl (m_C_X9_within l ([L_count, L_copiedStands], [L_from, L_to, L_forms, L_costs, L_copied]) ([T_cost, T_priced, T_settled, T_quarrel], [T_steps, T_pairs, T_built, T_rest, T_beside, T_held, T_heldPrice, T_ways, T_early, T_late]) M2 M3 M4 M5 M6 M7 M8 M9 M10 M11 M12 M13 p2 0 1 x2 hx2) ⟨_, _, _, _, rfl, rfl, rfl, by decide +kernel, ⟨Nat.le_of_ble_eq_true rfl, Nat.le_of_ble_eq_true rfl⟩, uGinS u_8_17 u_8_18 u_1_2 u_8_19⟩ ?_
    refine ri false 3 (q := x2 = 0) (t1 := 20) (t2 := 23) rfl rfl trivial (fun c => ?_) (fun c => ?_)
    · replace h := zif1 c h
      obtain rfl := Option.some.inj h
      exact r1 false 4 rfl rfl rfl rfl rfl rfl trivial
    · replace h := zif2 c h
      refine ri false 5 (q := p2 = 1) (t1 := 33) (t2 := 37) (st2 := [(0, p1), (2, Int.ofNat 1)]) rfl rfl trivial (fun c => ?_) (fun c => ?_)
      · replace h := zif1 c h
        refine rg false 6 (t := 38) (st2 := [(0, 1), (0, p1), (2, Int.ofNat 1)]) rfl rfl rfl trivial ?_
        obtain ⟨x3, hx3, h⟩ := zbd h
        refine rv false 8 2 rfl rfl trivial rfl (m_C_X8_yearOf l M2 M3 M4 M5 M6 M7 M8 M9 M10 M11 M12 M13 p1 1 L_count L_copiedStands L_from L_to L_forms L_costs L_copied T_cost T_priced T_settled T_quarrel T_steps T_pairs T_built T_rest T_beside T_held T_heldPrice T_ways T_early T_late x3 hx3) ⟨_, _, _, _, rfl, rfl, rfl, by decide +kernel, ⟨Nat.le_of_ble_eq_true rfl, Nat.le_of_ble_eq_true rfl⟩, uGin u_20_15 u_20_16 u_20_17 u_1_15 u_20_18⟩ ⟨rfl, _, _, _, rfl, rfl⟩ ?_
        obtain rfl := Option.some.inj h
        exact r1 false 9 rfl rfl rfl rfl rfl rfl trivial
      · replace h := zif2 c h
        refine rb false 7 (st2 := [(0, 0), (0, p1), (2, Int.ofNat 1)]) rfl rfl trivial ?_
        obtain ⟨x4, hx4, h⟩ := zbd h
        refine rv false 8 2 rfl rfl trivial rfl (m_C_X8_yearOf l M2 M3 M4 M5 M6 M7 M8 M9 M10 M11 M12 M13 p1 0 L_count L_copiedStands L_from L_to L_forms L_costs L_copied T_cost T_priced T_settled T_quarrel T_steps T_pairs T_built T_rest T_beside T_held T_heldPrice T_ways T_early T_late x4 hx4) ⟨_, _, _, _, rfl, rfl, rfl, by decide +kernel, ⟨Nat.le_of_ble_eq_true rfl, Nat.le_of_ble_eq_true rfl⟩, uGin u_20_15 u_20_16 u_20_17 u_1_15 u_20_18⟩ ⟨rfl, _, _, _, rfl, rfl⟩ ?_
        obtain rfl := Option.some.inj h
        exact r1 false 9 rfl rfl rfl rfl rfl rfl trivial
def bX9_name : zB := [(0, [(.iload_n 1, 1), (.iload_n 2, 1)], 2, .invokestatic 119, 3), (5, [], 5, .ifCond .ne 6, 3), (8, [(.bipush (-2), 2)], 10, .ireturn, 1), (11, [(.aload_n 0, 1), (.getfield 24, 3), (.getfield 122, 3), (.bipush 10, 2)], 20, .if_icmp .lt 6, 3), (23, [(.bipush (-4), 2)], 25, .ireturn, 1), (26, [(.aload_n 0, 1), (.getfield 24, 3), (.iload_n 1, 1), (.iload_n 2, 1)], 32, .invokevirtual 123, 3), (35, [], 35, .ireturn, 1)]
theorem bX9_name_ok : zBok cX9_name 3 bX9_name = true := by decide +kernel
abbrev wX9_name : List Cond := Cond.code yX9_name cX9_name 3 (some .int) :: uU
def rX9_name : Room := { frames := 3, cells := 0, slots := 0, locals := 74 }
set_option maxRecDepth 20000 in
set_option maxHeartbeats 4000000 in
theorem m_C_X9_name (l : Launch) (M0 : zM) (M1 : zM) (M3 : zM) (M4 : zM) (M5 : zM) (M6 : zM) (M7 : zM) (M8 : zM) (M9 : zM) (M10 : zM) (M11 : zM) (M12 : zM) (M13 : zM) (p1 : Int) (p2 : Int) (N_count : Int) (N_lengths : Nat → Int) (N_told : Nat → Int) (N_digits : Nat → Int) (N_slipped : Nat → Int) (N_weights : Nat → Int) (N_ahead : Nat → Int) (N_row : Nat → Int) (x : Int × Int × (Nat → Int) × (Nat → Int) × (Nat → Int) × (Nat → Int) × (Nat → Int) × (Nat → Int)) (h : f_X9_name p1 p2 N_count N_lengths N_told N_digits N_slipped N_ahead N_row = some x) : zD l yX9_name wX9_name rX9_name lamC shpC [(2, Int.ofNat 0), (0, p1), (0, p2)] [M0, M1, ([N_count], [N_lengths, N_told, N_digits, N_slipped, N_weights, N_ahead, N_row]), M3, M4, M5, M6, M7, M8, M9, M10, M11, M12, M13] (some (0, x.1)) [M0, M1, ([x.2.1], [x.2.2.1, x.2.2.2.1, x.2.2.2.2.1, x.2.2.2.2.2.1, N_weights, x.2.2.2.2.2.2.1, x.2.2.2.2.2.2.2]), M3, M4, M5, M6, M7, M8, M9, M10, M11, M12, M13] := by
  refine zD_of (B := bX9_name) (E := eX9) (by decide) rfl lokC (eX9_ok _) bX9_name_ok (Or.inl rfl) rfl (fun S R => ?_)
  obtain ⟨rb, rg, ri, rv, rs, r0, r1, r2, r3, rt, rmk⟩ := R
  show S 0 [some (2, Int.ofNat 0), some (0, p1), some (0, p2)] [] [M0, M1, ([N_count], [N_lengths, N_told, N_digits, N_slipped, N_weights, N_ahead, N_row]), M3, M4, M5, M6, M7, M8, M9, M10, M11, M12, M13]
  unfold f_X9_name at h
  obtain ⟨x1, hx1, h⟩ := zbd h
  refine rs false 0 2 rfl rfl trivial rfl (m_C_X5_isName l M0 M1 ([N_count], [N_lengths, N_told, N_digits, N_slipped, N_weights, N_ahead, N_row]) M3 M4 M5 M6 M7 M8 M9 M10 M11 M12 M13 p1 p2 x1 hx1) ⟨_, _, _, _, rfl, rfl, rfl, by decide +kernel, ⟨Nat.le_of_ble_eq_true rfl, Nat.le_of_ble_eq_true rfl⟩, uGinS u_21_4 u_21_5 u_1_21 u_21_6⟩ ?_
  refine ri false 1 (q := x1 = 0) (t1 := 8) (t2 := 11) rfl rfl trivial (fun c => ?_) (fun c => ?_)
  · replace h := zif1 c h
    obtain rfl := Option.some.inj h
    exact r1 false 2 rfl rfl rfl rfl rfl rfl trivial
  · replace h := zif2 c h
    refine ri false 3 (q := N_count < 10) (t1 := 26) (t2 := 23) rfl rfl trivial (fun c => ?_) (fun c => ?_)
    · replace h := zif1 c h
      obtain ⟨x2, hx2, h⟩ := zbd h
      refine rv false 5 2 rfl rfl trivial rfl (m_C_X5_add l M0 M1 M3 M4 M5 M6 M7 M8 M9 M10 M11 M12 M13 p1 p2 N_count N_lengths N_told N_digits N_slipped N_weights N_ahead N_row x2 hx2) ⟨_, _, _, _, rfl, rfl, rfl, by decide +kernel, ⟨Nat.le_of_ble_eq_true rfl, Nat.le_of_ble_eq_true rfl⟩, uGin u_21_7 u_21_8 u_21_9 u_1_21 u_21_10⟩ ⟨rfl, _, _, _, rfl, rfl⟩ ?_
      obtain rfl := Option.some.inj h
      exact r1 false 6 rfl rfl rfl rfl rfl rfl trivial
    · replace h := zif2 c h
      obtain rfl := Option.some.inj h
      exact r1 false 4 rfl rfl rfl rfl rfl rfl trivial
def bX9_slips : zB := [(0, [(.aload_n 0, 1), (.getfield 24, 3), (.iload_n 1, 1)], 5, .invokevirtual 124, 3), (8, [], 8, .ifCond .eq 14, 3), (11, [(.aload_n 0, 1), (.getfield 24, 3), (.iload_n 2, 1)], 16, .invokevirtual 124, 3), (19, [], 19, .ifCond .ne 6, 3), (22, [(.bipush (-2), 2)], 24, .ireturn, 1), (25, [(.aload_n 0, 1), (.getfield 24, 3), (.iload_n 1, 1), (.iload_n 2, 1)], 31, .invokevirtual 125, 3), (34, [], 34, .ireturn, 1)]
theorem bX9_slips_ok : zBok cX9_slips 3 bX9_slips = true := by decide +kernel
abbrev wX9_slips : List Cond := Cond.code yX9_slips cX9_slips 3 (some .int) :: uU
def rX9_slips : Room := { frames := 1, cells := 0, slots := 0, locals := 22 }
set_option maxRecDepth 20000 in
set_option maxHeartbeats 4000000 in
theorem m_C_X9_slips (l : Launch) (M0 : zM) (M1 : zM) (M3 : zM) (M4 : zM) (M5 : zM) (M6 : zM) (M7 : zM) (M8 : zM) (M9 : zM) (M10 : zM) (M11 : zM) (M12 : zM) (M13 : zM) (p1 : Int) (p2 : Int) (N_count : Int) (N_lengths : Nat → Int) (N_told : Nat → Int) (N_digits : Nat → Int) (N_slipped : Nat → Int) (N_weights : Nat → Int) (N_ahead : Nat → Int) (N_row : Nat → Int) (x : Int) (h : f_X9_slips p1 p2 N_count N_slipped = some x) : zD l yX9_slips wX9_slips rX9_slips lamC shpC [(2, Int.ofNat 0), (0, p1), (0, p2)] [M0, M1, ([N_count], [N_lengths, N_told, N_digits, N_slipped, N_weights, N_ahead, N_row]), M3, M4, M5, M6, M7, M8, M9, M10, M11, M12, M13] (some (0, x)) [M0, M1, ([N_count], [N_lengths, N_told, N_digits, N_slipped, N_weights, N_ahead, N_row]), M3, M4, M5, M6, M7, M8, M9, M10, M11, M12, M13] := by
  refine zD_of (B := bX9_slips) (E := eX9) (by decide) rfl lokC (eX9_ok _) bX9_slips_ok (Or.inl rfl) rfl (fun S R => ?_)
  obtain ⟨rb, rg, ri, rv, rs, r0, r1, r2, r3, rt, rmk⟩ := R
  show S 0 [some (2, Int.ofNat 0), some (0, p1), some (0, p2)] [] [M0, M1, ([N_count], [N_lengths, N_told, N_digits, N_slipped, N_weights, N_ahead, N_row]), M3, M4, M5, M6, M7, M8, M9, M10, M11, M12, M13]
  unfold f_X9_slips at h
  obtain ⟨x1, hx1, h⟩ := zbd h
  refine rv false 0 1 rfl rfl trivial rfl (m_C_X5_has l M0 M1 M3 M4 M5 M6 M7 M8 M9 M10 M11 M12 M13 p1 N_count N_lengths N_told N_digits N_slipped N_weights N_ahead N_row x1 hx1) ⟨_, _, _, _, rfl, rfl, rfl, by decide +kernel, ⟨Nat.le_of_ble_eq_true rfl, Nat.le_of_ble_eq_true rfl⟩, uGin u_22_3 u_22_4 u_22_5 u_1_21 u_22_6⟩ ⟨rfl, _, _, _, rfl, rfl⟩ ?_
  refine ri false 1 (q := x1 = 0) (t1 := 22) (t2 := 11) rfl rfl trivial (fun c => ?_) (fun c => ?_)
  · replace h := zif1 c h
    obtain rfl := Option.some.inj h
    exact r1 false 4 rfl rfl rfl rfl rfl rfl trivial
  · replace h := zif2 c h
    obtain ⟨x2, hx2, h⟩ := zbd h
    refine rv false 2 1 rfl rfl trivial rfl (m_C_X5_has l M0 M1 M3 M4 M5 M6 M7 M8 M9 M10 M11 M12 M13 p2 N_count N_lengths N_told N_digits N_slipped N_weights N_ahead N_row x2 hx2) ⟨_, _, _, _, rfl, rfl, rfl, by decide +kernel, ⟨Nat.le_of_ble_eq_true rfl, Nat.le_of_ble_eq_true rfl⟩, uGin u_22_3 u_22_4 u_22_5 u_1_21 u_22_6⟩ ⟨rfl, _, _, _, rfl, rfl⟩ ?_
    refine ri false 3 (q := x2 = 0) (t1 := 22) (t2 := 25) rfl rfl trivial (fun c => ?_) (fun c => ?_)
    · replace h := zif1 c h
      obtain rfl := Option.some.inj h
      exact r1 false 4 rfl rfl rfl rfl rfl rfl trivial
    · replace h := zif2 c h
      obtain ⟨x3, hx3, h⟩ := zbd h
      refine rv false 5 2 rfl rfl trivial rfl (m_C_X5_slipsBetween l M0 M1 M3 M4 M5 M6 M7 M8 M9 M10 M11 M12 M13 p1 p2 N_count N_lengths N_told N_digits N_slipped N_weights N_ahead N_row x3 hx3) ⟨_, _, _, _, rfl, rfl, rfl, by decide +kernel, ⟨Nat.le_of_ble_eq_true rfl, Nat.le_of_ble_eq_true rfl⟩, uGin u_22_7 u_22_8 u_22_9 u_1_21 u_22_10⟩ ⟨rfl, _, _, _, rfl, rfl⟩ ?_
      obtain rfl := Option.some.inj h
      exact r1 false 6 rfl rfl rfl rfl rfl rfl trivial
def bX9_worn : zB := [(0, [(.aload_n 0, 1), (.getfield 24, 3), (.iload_n 1, 1)], 5, .invokevirtual 124, 3), (8, [], 8, .ifCond .eq 19, 3), (11, [(.aload_n 0, 1), (.getfield 24, 3), (.iload_n 2, 1)], 16, .invokevirtual 124, 3), (19, [], 19, .ifCond .eq 8, 3), (22, [(.iload_n 3, 1), (.iconst (-1), 1)], 24, .if_icmp .ge 6, 3), (27, [(.bipush (-10), 2)], 29, .ireturn, 1), (30, [(.iload_n 3, 1), (.iconst (-1), 1)], 32, .if_icmp .ne 15, 3), (35, [(.aload_n 0, 1), (.getfield 24, 3), (.iload_n 1, 1), (.iload_n 2, 1)], 41, .invokevirtual 128, 3), (44, [], 44, .goto 13, 3), (47, [(.aload_n 0, 1), (.getfield 24, 3), (.iload_n 1, 1), (.iload_n 2, 1), (.iload_n 3, 1)], 54, .invokevirtual 131, 3), (57, [], 57, .ireturn, 1)]
theorem bX9_worn_ok : zBok cX9_worn 4 bX9_worn = true := by decide +kernel
abbrev wX9_worn : List Cond := Cond.code yX9_worn cX9_worn 4 (some .int) :: uU
def rX9_worn : Room := { frames := 3, cells := 0, slots := 0, locals := 73 }
set_option maxRecDepth 20000 in
set_option maxHeartbeats 4000000 in
theorem m_C_X9_worn (l : Launch) (M0 : zM) (M1 : zM) (M3 : zM) (M4 : zM) (M5 : zM) (M6 : zM) (M7 : zM) (M8 : zM) (M9 : zM) (M10 : zM) (M11 : zM) (M12 : zM) (M13 : zM) (p1 : Int) (p2 : Int) (p3 : Int) (N_count : Int) (N_lengths : Nat → Int) (N_told : Nat → Int) (N_digits : Nat → Int) (N_slipped : Nat → Int) (N_weights : Nat → Int) (N_ahead : Nat → Int) (N_row : Nat → Int) (x : Int × (Nat → Int)) (h : f_X9_worn p1 p2 p3 N_count N_slipped N_weights = some x) : zD l yX9_worn wX9_worn rX9_worn lamC shpC [(2, Int.ofNat 0), (0, p1), (0, p2), (0, p3)] [M0, M1, ([N_count], [N_lengths, N_told, N_digits, N_slipped, N_weights, N_ahead, N_row]), M3, M4, M5, M6, M7, M8, M9, M10, M11, M12, M13] (some (0, x.1)) [M0, M1, ([N_count], [N_lengths, N_told, N_digits, N_slipped, x.2, N_ahead, N_row]), M3, M4, M5, M6, M7, M8, M9, M10, M11, M12, M13] := by
  refine zD_of (B := bX9_worn) (E := eX9) (by decide) rfl lokC (eX9_ok _) bX9_worn_ok (Or.inl rfl) rfl (fun S R => ?_)
  obtain ⟨rb, rg, ri, rv, rs, r0, r1, r2, r3, rt, rmk⟩ := R
  show S 0 [some (2, Int.ofNat 0), some (0, p1), some (0, p2), some (0, p3)] [] [M0, M1, ([N_count], [N_lengths, N_told, N_digits, N_slipped, N_weights, N_ahead, N_row]), M3, M4, M5, M6, M7, M8, M9, M10, M11, M12, M13]
  unfold f_X9_worn at h
  obtain ⟨x1, hx1, h⟩ := zbd h
  refine rv false 0 1 rfl rfl trivial rfl (m_C_X5_has l M0 M1 M3 M4 M5 M6 M7 M8 M9 M10 M11 M12 M13 p1 N_count N_lengths N_told N_digits N_slipped N_weights N_ahead N_row x1 hx1) ⟨_, _, _, _, rfl, rfl, rfl, by decide +kernel, ⟨Nat.le_of_ble_eq_true rfl, Nat.le_of_ble_eq_true rfl⟩, uGin u_22_3 u_22_4 u_22_5 u_1_21 u_22_6⟩ ⟨rfl, _, _, _, rfl, rfl⟩ ?_
  refine ri false 1 (q := x1 = 0) (t1 := 27) (t2 := 11) rfl rfl trivial (fun c => ?_) (fun c => ?_)
  · replace h := zif1 c h
    obtain rfl := Option.some.inj h
    exact r1 false 5 rfl rfl rfl rfl rfl rfl trivial
  · replace h := zif2 c h
    obtain ⟨x2, hx2, h⟩ := zbd h
    refine rv false 2 1 rfl rfl trivial rfl (m_C_X5_has l M0 M1 M3 M4 M5 M6 M7 M8 M9 M10 M11 M12 M13 p2 N_count N_lengths N_told N_digits N_slipped N_weights N_ahead N_row x2 hx2) ⟨_, _, _, _, rfl, rfl, rfl, by decide +kernel, ⟨Nat.le_of_ble_eq_true rfl, Nat.le_of_ble_eq_true rfl⟩, uGin u_22_3 u_22_4 u_22_5 u_1_21 u_22_6⟩ ⟨rfl, _, _, _, rfl, rfl⟩ ?_
    refine ri false 3 (q := x2 = 0) (t1 := 27) (t2 := 22) rfl rfl trivial (fun c => ?_) (fun c => ?_)
    · replace h := zif1 c h
      obtain rfl := Option.some.inj h
      exact r1 false 5 rfl rfl rfl rfl rfl rfl trivial
    · replace h := zif2 c h
      refine ri false 4 (q := p3 < (-1)) (t1 := 27) (t2 := 30) rfl rfl trivial (fun c => ?_) (fun c => ?_)
      · replace h := zif1 c h
        obtain rfl := Option.some.inj h
        exact r1 false 5 rfl rfl rfl rfl rfl rfl trivial
      · replace h := zif2 c h
        refine ri false 6 (q := p3 = (-1)) (t1 := 35) (t2 := 47) rfl rfl trivial (fun c => ?_) (fun c => ?_)
        · replace h := zif1 c h
          obtain ⟨x3, hx3, h⟩ := zbd h
          refine rv false 7 2 rfl rfl trivial rfl (m_C_X5_wornCost l M0 M1 M3 M4 M5 M6 M7 M8 M9 M10 M11 M12 M13 p1 p2 N_count N_lengths N_told N_digits N_slipped N_weights N_ahead N_row x3 hx3) ⟨_, _, _, _, rfl, rfl, rfl, by decide +kernel, ⟨Nat.le_of_ble_eq_true rfl, Nat.le_of_ble_eq_true rfl⟩, uGin u_23_6 u_23_7 u_23_8 u_1_21 u_23_9⟩ ⟨rfl, _, _, _, rfl, rfl⟩ ?_
          refine rg false 8 (t := 57) (st2 := [(0, x3.1)]) rfl rfl rfl trivial ?_
          obtain rfl := Option.some.inj h
          exact r1 false 10 rfl rfl rfl rfl rfl rfl trivial
        · replace h := zif2 c h
          obtain ⟨x4, hx4, h⟩ := zbd h
          refine rv false 9 3 rfl rfl trivial rfl (m_C_X5_wornName l M0 M1 M3 M4 M5 M6 M7 M8 M9 M10 M11 M12 M13 p1 p2 p3 N_count N_lengths N_told N_digits N_slipped N_weights N_ahead N_row x4 hx4) ⟨_, _, _, _, rfl, rfl, rfl, by decide +kernel, ⟨Nat.le_of_ble_eq_true rfl, Nat.le_of_ble_eq_true rfl⟩, uGin u_23_18 u_23_19 u_23_20 u_1_21 u_23_21⟩ ⟨rfl, _, _, _, rfl, rfl⟩ ?_
          obtain rfl := Option.some.inj h
          exact r1 false 10 rfl rfl rfl rfl rfl rfl trivial
def bX9_habit : zB := [(0, [(.iload_n 1, 1), (.iconst 0, 1), (.bipush 9, 2)], 4, .invokestatic 63, 3), (7, [], 7, .ifCond .eq 13, 3), (10, [(.iload_n 2, 1), (.iconst 0, 1), (.bipush 100, 2)], 14, .invokestatic 63, 3), (17, [], 17, .ifCond .ne 6, 3), (20, [(.bipush (-2), 2)], 22, .ireturn, 1), (23, [(.aload_n 0, 1), (.getfield 31, 3), (.iload_n 1, 1), (.iload_n 2, 1)], 29, .invokevirtual 134, 3), (32, [], 32, .ireturn, 1)]
theorem bX9_habit_ok : zBok cX9_habit 3 bX9_habit = true := by decide +kernel
abbrev wX9_habit : List Cond := Cond.code yX9_habit cX9_habit 3 (some .int) :: uU
def rX9_habit : Room := { frames := 1, cells := 0, slots := 0, locals := 23 }
set_option maxRecDepth 20000 in
set_option maxHeartbeats 4000000 in
theorem m_C_X9_habit (l : Launch) (M0 : zM) (M1 : zM) (M2 : zM) (M4 : zM) (M5 : zM) (M6 : zM) (M7 : zM) (M8 : zM) (M9 : zM) (M10 : zM) (M11 : zM) (M12 : zM) (M13 : zM) (p1 : Int) (p2 : Int) (H_weights : Nat → Int) (x : Int × (Nat → Int)) (h : f_X9_habit p1 p2 H_weights = some x) : zD l yX9_habit wX9_habit rX9_habit lamC shpC [(2, Int.ofNat 0), (0, p1), (0, p2)] [M0, M1, M2, ([], [H_weights]), M4, M5, M6, M7, M8, M9, M10, M11, M12, M13] (some (0, x.1)) [M0, M1, M2, ([], [x.2]), M4, M5, M6, M7, M8, M9, M10, M11, M12, M13] := by
  refine zD_of (B := bX9_habit) (E := eX9) (by decide) rfl lokC (eX9_ok _) bX9_habit_ok (Or.inl rfl) rfl (fun S R => ?_)
  obtain ⟨rb, rg, ri, rv, rs, r0, r1, r2, r3, rt, rmk⟩ := R
  show S 0 [some (2, Int.ofNat 0), some (0, p1), some (0, p2)] [] [M0, M1, M2, ([], [H_weights]), M4, M5, M6, M7, M8, M9, M10, M11, M12, M13]
  unfold f_X9_habit at h
  obtain ⟨x1, hx1, h⟩ := zbd h
  refine rs false 0 3 rfl rfl trivial rfl (m_C_X9_within l M0 M1 M2 ([], [H_weights]) M4 M5 M6 M7 M8 M9 M10 M11 M12 M13 p1 0 9 x1 hx1) ⟨_, _, _, _, rfl, rfl, rfl, by decide +kernel, ⟨Nat.le_of_ble_eq_true rfl, Nat.le_of_ble_eq_true rfl⟩, uGinS u_8_17 u_8_18 u_1_2 u_8_19⟩ ?_
  refine ri false 1 (q := x1 = 0) (t1 := 20) (t2 := 10) rfl rfl trivial (fun c => ?_) (fun c => ?_)
  · replace h := zif1 c h
    obtain rfl := Option.some.inj h
    exact r1 false 4 rfl rfl rfl rfl rfl rfl trivial
  · replace h := zif2 c h
    obtain ⟨x2, hx2, h⟩ := zbd h
    refine rs false 2 3 rfl rfl trivial rfl (m_C_X9_within l M0 M1 M2 ([], [H_weights]) M4 M5 M6 M7 M8 M9 M10 M11 M12 M13 p2 0 100 x2 hx2) ⟨_, _, _, _, rfl, rfl, rfl, by decide +kernel, ⟨Nat.le_of_ble_eq_true rfl, Nat.le_of_ble_eq_true rfl⟩, uGinS u_8_17 u_8_18 u_1_2 u_8_19⟩ ?_
    refine ri false 3 (q := x2 = 0) (t1 := 20) (t2 := 23) rfl rfl trivial (fun c => ?_) (fun c => ?_)
    · replace h := zif1 c h
      obtain rfl := Option.some.inj h
      exact r1 false 4 rfl rfl rfl rfl rfl rfl trivial
    · replace h := zif2 c h
      obtain ⟨x3, hx3, h⟩ := zbd h
      refine rv false 5 2 rfl rfl trivial rfl (m_C_X3_tell l M0 M1 M2 M4 M5 M6 M7 M8 M9 M10 M11 M12 M13 p1 p2 H_weights x3 hx3) ⟨_, _, _, _, rfl, rfl, rfl, by decide +kernel, ⟨Nat.le_of_ble_eq_true rfl, Nat.le_of_ble_eq_true rfl⟩, uGin u_24_14 u_24_15 u_24_16 u_2_1 u_24_17⟩ ⟨rfl, _, _, _, rfl, rfl⟩ ?_
      obtain rfl := Option.some.inj h
      exact r1 false 6 rfl rfl rfl rfl rfl rfl trivial
def bX9_lives : zB := [(0, [(.aload_n 0, 1), (.getfield 31, 3)], 4, .invokevirtual 137, 3), (7, [(.istore_n 1, 1), (.aload_n 0, 1), (.getfield 31, 3)], 12, .invokevirtual 140, 3), (15, [(.istore_n 2, 1), (.iload_n 1, 1)], 17, .ifCond .eq 8, 3), (20, [(.iload_n 2, 1), (.iload_n 1, 1)], 22, .if_icmp .ge 5, 3), (25, [(.iconst 0, 1)], 26, .ireturn, 1), (27, [(.iload_n 2, 1), (.iload_n 1, 1)], 29, .if_icmp .le 7, 3), (32, [(.iconst 2, 1)], 33, .goto 4, 3), (36, [(.iconst 1, 1)], 37, .nop, 0), (37, [], 37, .ireturn, 1)]
theorem bX9_lives_ok : zBok cX9_lives 3 bX9_lives = true := by decide +kernel
abbrev wX9_lives : List Cond := Cond.code yX9_lives cX9_lives 3 (some .int) :: uU
def rX9_lives : Room := { frames := 1, cells := 0, slots := 0, locals := 22 }
set_option maxRecDepth 20000 in
set_option maxHeartbeats 4000000 in
theorem m_C_X9_lives (l : Launch) (M0 : zM) (M1 : zM) (M2 : zM) (M4 : zM) (M5 : zM) (M6 : zM) (M7 : zM) (M8 : zM) (M9 : zM) (M10 : zM) (M11 : zM) (M12 : zM) (M13 : zM) (H_weights : Nat → Int) (x : Int) (h : f_X9_lives H_weights = some x) : zD l yX9_lives wX9_lives rX9_lives lamC shpC [(2, Int.ofNat 0)] [M0, M1, M2, ([], [H_weights]), M4, M5, M6, M7, M8, M9, M10, M11, M12, M13] (some (0, x)) [M0, M1, M2, ([], [H_weights]), M4, M5, M6, M7, M8, M9, M10, M11, M12, M13] := by
  refine zD_of (B := bX9_lives) (E := eX9) (by decide) rfl lokC (eX9_ok _) bX9_lives_ok (Or.inl rfl) rfl (fun S R => ?_)
  obtain ⟨rb, rg, ri, rv, rs, r0, r1, r2, r3, rt, rmk⟩ := R
  show S 0 [some (2, Int.ofNat 0), none, none] [] [M0, M1, M2, ([], [H_weights]), M4, M5, M6, M7, M8, M9, M10, M11, M12, M13]
  unfold f_X9_lives at h
  obtain ⟨x1, hx1, h⟩ := zbd h
  refine rv false 0 0 rfl rfl trivial rfl (m_C_X3_sumOfWeights l M0 M1 M2 M4 M5 M6 M7 M8 M9 M10 M11 M12 M13 H_weights x1 hx1) ⟨_, _, _, _, rfl, rfl, rfl, by decide +kernel, ⟨Nat.le_of_ble_eq_true rfl, Nat.le_of_ble_eq_true rfl⟩, uGin u_25_3 u_25_4 u_25_5 u_2_1 u_25_6⟩ ⟨rfl, _, _, _, rfl, rfl⟩ ?_
  obtain ⟨x2, hx2, h⟩ := zbd h
  refine rv false 1 0 (L2 := [some (2, Int.ofNat 0), some (0, x1), none]) rfl rfl trivial rfl (m_C_X3_sumOfCopies l M0 M1 M2 M4 M5 M6 M7 M8 M9 M10 M11 M12 M13 H_weights x2 hx2) ⟨_, _, _, _, rfl, rfl, rfl, by decide +kernel, ⟨Nat.le_of_ble_eq_true rfl, Nat.le_of_ble_eq_true rfl⟩, uGin u_25_7 u_25_8 u_25_9 u_2_1 u_25_10⟩ ⟨rfl, _, _, _, rfl, rfl⟩ ?_
  refine ri false 2 (q := x1 = 0) (t1 := 25) (t2 := 20) (L2 := [some (2, Int.ofNat 0), some (0, x1), some (0, x2)]) rfl rfl trivial (fun c => ?_) (fun c => ?_)
  · replace h := zif1 c h
    obtain rfl := Option.some.inj h
    exact r1 false 4 rfl rfl rfl rfl rfl rfl trivial
  · replace h := zif2 c h
    refine ri false 3 (q := x2 < x1) (t1 := 25) (t2 := 27) rfl rfl trivial (fun c => ?_) (fun c => ?_)
    · replace h := zif1 c h
      obtain rfl := Option.some.inj h
      exact r1 false 4 rfl rfl rfl rfl rfl rfl trivial
    · replace h := zif2 c h
      refine ri false 5 (q := x1 < x2) (t1 := 32) (t2 := 36) rfl rfl trivial (fun c => ?_) (fun c => ?_)
      · replace h := zif1 c h
        refine rg false 6 (t := 37) (st2 := [(0, 2)]) rfl rfl rfl trivial ?_
        obtain rfl := Option.some.inj h
        exact r1 false 8 rfl rfl rfl rfl rfl rfl trivial
      · replace h := zif2 c h
        refine rb false 7 (st2 := [(0, 1)]) rfl rfl trivial ?_
        obtain rfl := Option.some.inj h
        exact r1 false 8 rfl rfl rfl rfl rfl rfl trivial
def bX9_mean : zB := [(0, [(.aload_n 0, 1), (.getfield 31, 3)], 4, .invokevirtual 137, 3), (7, [(.istore_n 1, 1), (.iload_n 1, 1)], 9, .ifCond .ne 6, 3), (12, [(.bipush (-3), 2)], 14, .ireturn, 1), (15, [(.aload_n 0, 1), (.getfield 59, 3), (.aload_n 0, 1), (.getfield 31, 3)], 23, .invokevirtual 140, 3), (26, [(.i2l, 1), (.iload_n 1, 1), (.i2l, 1)], 29, .invokevirtual 143, 3), (32, [(.iconst 1, 1)], 33, .ireturn, 1)]
theorem bX9_mean_ok : zBok cX9_mean 2 bX9_mean = true := by decide +kernel
abbrev wX9_mean : List Cond := Cond.code yX9_mean cX9_mean 2 (some .int) :: uU
def rX9_mean : Room := { frames := 3, cells := 0, slots := 0, locals := 72 }
set_option maxRecDepth 20000 in
set_option maxHeartbeats 4000000 in
theorem m_C_X9_mean (l : Launch) (M0 : zM) (M1 : zM) (M2 : zM) (M4 : zM) (M5 : zM) (M6 : zM) (M7 : zM) (M8 : zM) (M9 : zM) (M10 : zM) (M11 : zM) (H_weights : Nat → Int) (Fa_size : Int) (Fa_digits : Nat → Int) (Fb_size : Int) (Fb_digits : Nat → Int) (x : Int × Int × (Nat → Int) × Int × (Nat → Int)) (h : f_X9_mean H_weights Fa_size Fa_digits Fb_size Fb_digits = some x) : zD l yX9_mean wX9_mean rX9_mean lamC shpC [(2, Int.ofNat 0)] [M0, M1, M2, ([], [H_weights]), M4, M5, M6, M7, M8, M9, M10, M11, ([Fa_size], [Fa_digits]), ([Fb_size], [Fb_digits])] (some (0, x.1)) [M0, M1, M2, ([], [H_weights]), M4, M5, M6, M7, M8, M9, M10, M11, ([x.2.1], [x.2.2.1]), ([x.2.2.2.1], [x.2.2.2.2])] := by
  refine zD_of (B := bX9_mean) (E := eX9) (by decide) rfl lokC (eX9_ok _) bX9_mean_ok (Or.inl rfl) rfl (fun S R => ?_)
  obtain ⟨rb, rg, ri, rv, rs, r0, r1, r2, r3, rt, rmk⟩ := R
  show S 0 [some (2, Int.ofNat 0), none] [] [M0, M1, M2, ([], [H_weights]), M4, M5, M6, M7, M8, M9, M10, M11, ([Fa_size], [Fa_digits]), ([Fb_size], [Fb_digits])]
  unfold f_X9_mean at h
  obtain ⟨x1, hx1, h⟩ := zbd h
  refine rv false 0 0 rfl rfl trivial rfl (m_C_X3_sumOfWeights l M0 M1 M2 M4 M5 M6 M7 M8 M9 M10 M11 ([Fa_size], [Fa_digits]) ([Fb_size], [Fb_digits]) H_weights x1 hx1) ⟨_, _, _, _, rfl, rfl, rfl, by decide +kernel, ⟨Nat.le_of_ble_eq_true rfl, Nat.le_of_ble_eq_true rfl⟩, uGin u_25_3 u_25_4 u_25_5 u_2_1 u_25_6⟩ ⟨rfl, _, _, _, rfl, rfl⟩ ?_
  refine ri false 1 (q := x1 = 0) (t1 := 12) (t2 := 15) (L2 := [some (2, Int.ofNat 0), some (0, x1)]) rfl rfl trivial (fun c => ?_) (fun c => ?_)
  · replace h := zif1 c h
    obtain rfl := Option.some.inj h
    exact r1 false 2 rfl rfl rfl rfl rfl rfl trivial
  · replace h := zif2 c h
    obtain ⟨x2, hx2, h⟩ := zbd h
    refine rv false 3 0 (rest := [(2, Int.ofNat 52)]) rfl rfl trivial rfl (m_C_X3_sumOfCopies l M0 M1 M2 M4 M5 M6 M7 M8 M9 M10 M11 ([Fa_size], [Fa_digits]) ([Fb_size], [Fb_digits]) H_weights x2 hx2) ⟨_, _, _, _, rfl, rfl, rfl, by decide +kernel, ⟨Nat.le_of_ble_eq_true rfl, Nat.le_of_ble_eq_true rfl⟩, uGin u_25_7 u_25_8 u_25_9 u_2_1 u_25_10⟩ ⟨rfl, _, _, _, rfl, rfl⟩ ?_
    obtain ⟨x3, hx3, h⟩ := zbd h
    refine rv false 4 2 rfl rfl trivial rfl (m_C_X2_become l M0 M1 M2 ([], [H_weights]) M4 M5 M6 M7 M8 M9 M10 M11 x2 x1 Fa_size Fa_digits Fb_size Fb_digits x3 hx3) ⟨_, _, _, _, rfl, rfl, rfl, by decide +kernel, ⟨Nat.le_of_ble_eq_true rfl, Nat.le_of_ble_eq_true rfl⟩, uGin u_26_3 u_26_4 u_26_5 u_2_17 u_26_6⟩ ⟨rfl, _, _, _, rfl, rfl⟩ ?_
    obtain rfl := Option.some.inj h
    exact r1 false 5 rfl rfl rfl rfl rfl rfl trivial
def bX9_gone : zB := [(0, [(.iload_n 1, 1), (.iconst 0, 1), (.iconst 3, 1)], 3, .invokestatic 63, 3), (6, [], 6, .ifCond .ne 6, 3), (9, [(.bipush (-2), 2)], 11, .ireturn, 1), (12, [(.aload_n 0, 1), (.getfield 31, 3)], 16, .invokevirtual 137, 3), (19, [], 19, .ifCond .ne 6, 3), (22, [(.bipush (-3), 2)], 24, .ireturn, 1), (25, [(.aload_n 0, 1), (.getfield 31, 3), (.iload_n 1, 1), (.aload_n 0, 1), (.getfield 59, 3)], 34, .invokevirtual 147, 3), (37, [(.iconst 1, 1)], 38, .ireturn, 1)]
theorem bX9_gone_ok : zBok cX9_gone 2 bX9_gone = true := by decide +kernel
abbrev wX9_gone : List Cond := Cond.code yX9_gone cX9_gone 2 (some .int) :: uU
def rX9_gone : Room := { frames := 4, cells := 0, slots := 0, locals := 97 }
set_option maxRecDepth 20000 in
set_option maxHeartbeats 4000000 in
theorem m_C_X9_gone (l : Launch) (M0 : zM) (M1 : zM) (M2 : zM) (M9 : zM) (M10 : zM) (M11 : zM) (p1 : Int) (H_weights : Nat → Int) (Ha_size : Int) (Ha_digits : Nat → Int) (Hb_size : Int) (Hb_digits : Nat → Int) (Hs_size : Int) (Hs_digits : Nat → Int) (Hp_size : Int) (Hp_digits : Nat → Int) (Hq_size : Int) (Hq_digits : Nat → Int) (Fa_size : Int) (Fa_digits : Nat → Int) (Fb_size : Int) (Fb_digits : Nat → Int) (x : Int × Int × (Nat → Int) × Int × (Nat → Int) × Int × (Nat → Int) × Int × (Nat → Int) × Int × (Nat → Int) × Int × (Nat → Int) × Int × (Nat → Int)) (h : f_X9_gone p1 H_weights Ha_size Ha_digits Hb_size Hb_digits Hs_size Hs_digits Hp_size Hp_digits Hq_size Hq_digits Fa_size Fa_digits Fb_size Fb_digits = some x) : zD l yX9_gone wX9_gone rX9_gone lamC shpC [(2, Int.ofNat 0), (0, p1)] [M0, M1, M2, ([], [H_weights]), ([Ha_size], [Ha_digits]), ([Hb_size], [Hb_digits]), ([Hs_size], [Hs_digits]), ([Hp_size], [Hp_digits]), ([Hq_size], [Hq_digits]), M9, M10, M11, ([Fa_size], [Fa_digits]), ([Fb_size], [Fb_digits])] (some (0, x.1)) [M0, M1, M2, ([], [H_weights]), ([x.2.1], [x.2.2.1]), ([x.2.2.2.1], [x.2.2.2.2.1]), ([x.2.2.2.2.2.1], [x.2.2.2.2.2.2.1]), ([x.2.2.2.2.2.2.2.1], [x.2.2.2.2.2.2.2.2.1]), ([x.2.2.2.2.2.2.2.2.2.1], [x.2.2.2.2.2.2.2.2.2.2.1]), M9, M10, M11, ([x.2.2.2.2.2.2.2.2.2.2.2.1], [x.2.2.2.2.2.2.2.2.2.2.2.2.1]), ([x.2.2.2.2.2.2.2.2.2.2.2.2.2.1], [x.2.2.2.2.2.2.2.2.2.2.2.2.2.2])] := by
  refine zD_of (B := bX9_gone) (E := eX9) (by decide) rfl lokC (eX9_ok _) bX9_gone_ok (Or.inl rfl) rfl (fun S R => ?_)
  obtain ⟨rb, rg, ri, rv, rs, r0, r1, r2, r3, rt, rmk⟩ := R
  show S 0 [some (2, Int.ofNat 0), some (0, p1)] [] [M0, M1, M2, ([], [H_weights]), ([Ha_size], [Ha_digits]), ([Hb_size], [Hb_digits]), ([Hs_size], [Hs_digits]), ([Hp_size], [Hp_digits]), ([Hq_size], [Hq_digits]), M9, M10, M11, ([Fa_size], [Fa_digits]), ([Fb_size], [Fb_digits])]
  unfold f_X9_gone at h
  obtain ⟨x1, hx1, h⟩ := zbd h
  refine rs false 0 3 rfl rfl trivial rfl (m_C_X9_within l M0 M1 M2 ([], [H_weights]) ([Ha_size], [Ha_digits]) ([Hb_size], [Hb_digits]) ([Hs_size], [Hs_digits]) ([Hp_size], [Hp_digits]) ([Hq_size], [Hq_digits]) M9 M10 M11 ([Fa_size], [Fa_digits]) ([Fb_size], [Fb_digits]) p1 0 3 x1 hx1) ⟨_, _, _, _, rfl, rfl, rfl, by decide +kernel, ⟨Nat.le_of_ble_eq_true rfl, Nat.le_of_ble_eq_true rfl⟩, uGinS u_8_17 u_8_18 u_1_2 u_8_19⟩ ?_
  refine ri false 1 (q := x1 = 0) (t1 := 9) (t2 := 12) rfl rfl trivial (fun c => ?_) (fun c => ?_)
  · replace h := zif1 c h
    obtain rfl := Option.some.inj h
    exact r1 false 2 rfl rfl rfl rfl rfl rfl trivial
  · replace h := zif2 c h
    obtain ⟨x2, hx2, h⟩ := zbd h
    refine rv false 3 0 rfl rfl trivial rfl (m_C_X3_sumOfWeights l M0 M1 M2 ([Ha_size], [Ha_digits]) ([Hb_size], [Hb_digits]) ([Hs_size], [Hs_digits]) ([Hp_size], [Hp_digits]) ([Hq_size], [Hq_digits]) M9 M10 M11 ([Fa_size], [Fa_digits]) ([Fb_size], [Fb_digits]) H_weights x2 hx2) ⟨_, _, _, _, rfl, rfl, rfl, by decide +kernel, ⟨Nat.le_of_ble_eq_true rfl, Nat.le_of_ble_eq_true rfl⟩, uGin u_25_3 u_25_4 u_25_5 u_2_1 u_25_6⟩ ⟨rfl, _, _, _, rfl, rfl⟩ ?_
    refine ri false 4 (q := x2 = 0) (t1 := 22) (t2 := 25) rfl rfl trivial (fun c => ?_) (fun c => ?_)
    · replace h := zif1 c h
      obtain rfl := Option.some.inj h
      exact r1 false 5 rfl rfl rfl rfl rfl rfl trivial
    · replace h := zif2 c h
      obtain ⟨x3, hx3, h⟩ := zbd h
      refine rv false 6 2 rfl rfl trivial rfl (m_C_X3_chanceGone l M0 M1 M2 M9 M10 M11 p1 H_weights Ha_size Ha_digits Hb_size Hb_digits Hs_size Hs_digits Hp_size Hp_digits Hq_size Hq_digits Fa_size Fa_digits Fb_size Fb_digits x3 hx3) ⟨_, _, _, _, rfl, rfl, rfl, by decide +kernel, ⟨Nat.le_of_ble_eq_true rfl, Nat.le_of_ble_eq_true rfl⟩, uGin u_28_3 u_28_4 u_28_5 u_2_1 u_28_6⟩ ⟨rfl, _, _, _, rfl, rfl⟩ ?_
      obtain rfl := Option.some.inj h
      exact r1 false 7 rfl rfl rfl rfl rfl rfl trivial
def bX9_asking : zB := [(0, [(.iload_n 1, 1), (.iconst 1, 1), (.bipush 9, 2)], 4, .invokestatic 63, 3), (7, [], 7, .ifCond .eq 22, 3), (10, [(.iload_n 3, 1), (.iconst 1, 1), (.bipush 100, 2)], 14, .invokestatic 63, 3), (17, [], 17, .ifCond .eq 12, 3), (20, [(.iload_n 2, 1), (.iconst 0, 1), (.iload_n 3, 1)], 23, .invokestatic 63, 3), (26, [], 26, .ifCond .ne 6, 3), (29, [(.bipush (-2), 2)], 31, .ireturn, 1), (32, [(.aload_n 0, 1), (.getfield 38, 3), (.iload_n 1, 1), (.iload_n 2, 1), (.iload_n 3, 1)], 39, .invokevirtual 151, 3), (42, [(.iconst 1, 1)], 43, .ireturn, 1)]
theorem bX9_asking_ok : zBok cX9_asking 4 bX9_asking = true := by decide +kernel
abbrev wX9_asking : List Cond := Cond.code yX9_asking cX9_asking 4 (some .int) :: uU
def rX9_asking : Room := { frames := 1, cells := 0, slots := 0, locals := 23 }
set_option maxRecDepth 20000 in
set_option maxHeartbeats 4000000 in
theorem m_C_X9_asking (l : Launch) (M0 : zM) (M1 : zM) (M2 : zM) (M3 : zM) (M4 : zM) (M5 : zM) (M6 : zM) (M7 : zM) (M8 : zM) (M10 : zM) (M11 : zM) (M12 : zM) (M13 : zM) (p1 : Int) (p2 : Int) (p3 : Int) (A_doing : Nat → Int) (A_asked : Nat → Int) (x : Int × (Nat → Int) × (Nat → Int)) (h : f_X9_asking p1 p2 p3 A_doing A_asked = some x) : zD l yX9_asking wX9_asking rX9_asking lamC shpC [(2, Int.ofNat 0), (0, p1), (0, p2), (0, p3)] [M0, M1, M2, M3, M4, M5, M6, M7, M8, ([], [A_doing, A_asked]), M10, M11, M12, M13] (some (0, x.1)) [M0, M1, M2, M3, M4, M5, M6, M7, M8, ([], [x.2.1, x.2.2]), M10, M11, M12, M13] := by
  refine zD_of (B := bX9_asking) (E := eX9) (by decide) rfl lokC (eX9_ok _) bX9_asking_ok (Or.inl rfl) rfl (fun S R => ?_)
  obtain ⟨rb, rg, ri, rv, rs, r0, r1, r2, r3, rt, rmk⟩ := R
  show S 0 [some (2, Int.ofNat 0), some (0, p1), some (0, p2), some (0, p3)] [] [M0, M1, M2, M3, M4, M5, M6, M7, M8, ([], [A_doing, A_asked]), M10, M11, M12, M13]
  unfold f_X9_asking at h
  obtain ⟨x1, hx1, h⟩ := zbd h
  refine rs false 0 3 rfl rfl trivial rfl (m_C_X9_within l M0 M1 M2 M3 M4 M5 M6 M7 M8 ([], [A_doing, A_asked]) M10 M11 M12 M13 p1 1 9 x1 hx1) ⟨_, _, _, _, rfl, rfl, rfl, by decide +kernel, ⟨Nat.le_of_ble_eq_true rfl, Nat.le_of_ble_eq_true rfl⟩, uGinS u_8_17 u_8_18 u_1_2 u_8_19⟩ ?_
  refine ri false 1 (q := x1 = 0) (t1 := 29) (t2 := 10) rfl rfl trivial (fun c => ?_) (fun c => ?_)
  · replace h := zif1 c h
    obtain rfl := Option.some.inj h
    exact r1 false 6 rfl rfl rfl rfl rfl rfl trivial
  · replace h := zif2 c h
    obtain ⟨x2, hx2, h⟩ := zbd h
    refine rs false 2 3 rfl rfl trivial rfl (m_C_X9_within l M0 M1 M2 M3 M4 M5 M6 M7 M8 ([], [A_doing, A_asked]) M10 M11 M12 M13 p3 1 100 x2 hx2) ⟨_, _, _, _, rfl, rfl, rfl, by decide +kernel, ⟨Nat.le_of_ble_eq_true rfl, Nat.le_of_ble_eq_true rfl⟩, uGinS u_8_17 u_8_18 u_1_2 u_8_19⟩ ?_
    refine ri false 3 (q := x2 = 0) (t1 := 29) (t2 := 20) rfl rfl trivial (fun c => ?_) (fun c => ?_)
    · replace h := zif1 c h
      obtain rfl := Option.some.inj h
      exact r1 false 6 rfl rfl rfl rfl rfl rfl trivial
    · replace h := zif2 c h
      obtain ⟨x3, hx3, h⟩ := zbd h
      refine rs false 4 3 rfl rfl trivial rfl (m_C_X9_within l M0 M1 M2 M3 M4 M5 M6 M7 M8 ([], [A_doing, A_asked]) M10 M11 M12 M13 p2 0 p3 x3 hx3) ⟨_, _, _, _, rfl, rfl, rfl, by decide +kernel, ⟨Nat.le_of_ble_eq_true rfl, Nat.le_of_ble_eq_true rfl⟩, uGinS u_8_17 u_8_18 u_1_2 u_8_19⟩ ?_
      refine ri false 5 (q := x3 = 0) (t1 := 29) (t2 := 32) rfl rfl trivial (fun c => ?_) (fun c => ?_)
      · replace h := zif1 c h
        obtain rfl := Option.some.inj h
        exact r1 false 6 rfl rfl rfl rfl rfl rfl trivial
      · replace h := zif2 c h
        obtain ⟨x4, hx4, h⟩ := zbd h
        refine rv false 7 3 rfl rfl trivial rfl (m_C_X0_tell l M0 M1 M2 M3 M4 M5 M6 M7 M8 M10 M11 M12 M13 p1 p2 p3 A_doing A_asked x4 hx4) ⟨_, _, _, _, rfl, rfl, rfl, by decide +kernel, ⟨Nat.le_of_ble_eq_true rfl, Nat.le_of_ble_eq_true rfl⟩, uGin u_30_18 u_30_19 u_30_20 u_2_5 u_30_21⟩ ⟨rfl, _, _, _, rfl, rfl⟩ ?_
        obtain rfl := Option.some.inj h
        exact r1 false 8 rfl rfl rfl rfl rfl rfl trivial
def bX9_best : zB := [(0, [(.iload_n 1, 1), (.iconst 0, 1), (.iconst 1, 1)], 3, .invokestatic 63, 3), (6, [], 6, .ifCond .ne 6, 3), (9, [(.bipush (-2), 2)], 11, .ireturn, 1), (12, [(.aload_n 0, 1), (.getfield 38, 3)], 16, .invokevirtual 154, 3), (19, [(.istore_n 2, 1), (.iload_n 1, 1)], 21, .ifCond .ne 5, 3), (24, [(.iload_n 2, 1)], 25, .ireturn, 1), (26, [(.aload_n 0, 1), (.getfield 59, 3), (.iload_n 2, 1), (.aload_n 0, 1), (.getfield 38, 3), (.iload_n 2, 1)], 36, .invokevirtual 157, 3), (39, [(.imul, 1), (.i2l, 1), (.aload_n 0, 1), (.getfield 38, 3), (.iload_n 2, 1)], 46, .invokevirtual 160, 3), (49, [(.i2l, 1)], 50, .invokevirtual 143, 3), (53, [(.iconst 1, 1)], 54, .ireturn, 1)]
theorem bX9_best_ok : zBok cX9_best 3 bX9_best = true := by decide +kernel
abbrev wX9_best : List Cond := Cond.code yX9_best cX9_best 3 (some .int) :: uU
def rX9_best : Room := { frames := 3, cells := 0, slots := 0, locals := 72 }
set_option maxRecDepth 20000 in
set_option maxHeartbeats 4000000 in
theorem m_C_X9_best (l : Launch) (M0 : zM) (M1 : zM) (M2 : zM) (M3 : zM) (M4 : zM) (M5 : zM) (M6 : zM) (M7 : zM) (M8 : zM) (M10 : zM) (M11 : zM) (p1 : Int) (A_doing : Nat → Int) (A_asked : Nat → Int) (Fa_size : Int) (Fa_digits : Nat → Int) (Fb_size : Int) (Fb_digits : Nat → Int) (x : Int × Int × (Nat → Int) × Int × (Nat → Int)) (h : f_X9_best p1 A_doing A_asked Fa_size Fa_digits Fb_size Fb_digits = some x) : zD l yX9_best wX9_best rX9_best lamC shpC [(2, Int.ofNat 0), (0, p1)] [M0, M1, M2, M3, M4, M5, M6, M7, M8, ([], [A_doing, A_asked]), M10, M11, ([Fa_size], [Fa_digits]), ([Fb_size], [Fb_digits])] (some (0, x.1)) [M0, M1, M2, M3, M4, M5, M6, M7, M8, ([], [A_doing, A_asked]), M10, M11, ([x.2.1], [x.2.2.1]), ([x.2.2.2.1], [x.2.2.2.2])] := by
  refine zD_of (B := bX9_best) (E := eX9) (by decide) rfl lokC (eX9_ok _) bX9_best_ok (Or.inl rfl) rfl (fun S R => ?_)
  obtain ⟨rb, rg, ri, rv, rs, r0, r1, r2, r3, rt, rmk⟩ := R
  show S 0 [some (2, Int.ofNat 0), some (0, p1), none] [] [M0, M1, M2, M3, M4, M5, M6, M7, M8, ([], [A_doing, A_asked]), M10, M11, ([Fa_size], [Fa_digits]), ([Fb_size], [Fb_digits])]
  unfold f_X9_best at h
  obtain ⟨x1, hx1, h⟩ := zbd h
  refine rs false 0 3 rfl rfl trivial rfl (m_C_X9_within l M0 M1 M2 M3 M4 M5 M6 M7 M8 ([], [A_doing, A_asked]) M10 M11 ([Fa_size], [Fa_digits]) ([Fb_size], [Fb_digits]) p1 0 1 x1 hx1) ⟨_, _, _, _, rfl, rfl, rfl, by decide +kernel, ⟨Nat.le_of_ble_eq_true rfl, Nat.le_of_ble_eq_true rfl⟩, uGinS u_8_17 u_8_18 u_1_2 u_8_19⟩ ?_
  refine ri false 1 (q := x1 = 0) (t1 := 9) (t2 := 12) rfl rfl trivial (fun c => ?_) (fun c => ?_)
  · replace h := zif1 c h
    obtain rfl := Option.some.inj h
    exact r1 false 2 rfl rfl rfl rfl rfl rfl trivial
  · replace h := zif2 c h
    obtain ⟨x2, hx2, h⟩ := zbd h
    refine rv false 3 0 rfl rfl trivial rfl (m_C_X0_bestCopies l M0 M1 M2 M3 M4 M5 M6 M7 M8 M10 M11 ([Fa_size], [Fa_digits]) ([Fb_size], [Fb_digits]) A_doing A_asked x2 hx2) ⟨_, _, _, _, rfl, rfl, rfl, by decide +kernel, ⟨Nat.le_of_ble_eq_true rfl, Nat.le_of_ble_eq_true rfl⟩, uGin u_31_6 u_31_7 u_31_8 u_2_5 u_31_9⟩ ⟨rfl, _, _, _, rfl, rfl⟩ ?_
    refine ri false 4 (q := p1 = 0) (t1 := 24) (t2 := 26) (L2 := [some (2, Int.ofNat 0), some (0, p1), some (0, x2)]) rfl rfl trivial (fun c => ?_) (fun c => ?_)
    · replace h := zif1 c h
      obtain rfl := Option.some.inj h
      exact r1 false 5 rfl rfl rfl rfl rfl rfl trivial
    · replace h := zif2 c h
      obtain ⟨x3, hx3, h⟩ := zbd h
      refine rv false 6 1 (rest := [(0, x2), (2, Int.ofNat 52)]) rfl rfl trivial rfl (m_C_X0_doing l M0 M1 M2 M3 M4 M5 M6 M7 M8 M10 M11 ([Fa_size], [Fa_digits]) ([Fb_size], [Fb_digits]) x2 A_doing A_asked x3 hx3) ⟨_, _, _, _, rfl, rfl, rfl, by decide +kernel, ⟨Nat.le_of_ble_eq_true rfl, Nat.le_of_ble_eq_true rfl⟩, uGin u_31_10 u_31_11 u_31_12 u_2_5 u_31_13⟩ ⟨rfl, _, _, _, rfl, rfl⟩ ?_
      obtain ⟨g5_0, h⟩ := zgd h
      obtain ⟨x4, hx4, h⟩ := zbd h
      refine rv false 7 1 (rest := [(1, (x2 * x3)), (2, Int.ofNat 52)]) rfl rfl g5_0 rfl (m_C_X0_asked l M0 M1 M2 M3 M4 M5 M6 M7 M8 M10 M11 ([Fa_size], [Fa_digits]) ([Fb_size], [Fb_digits]) x2 A_doing A_asked x4 hx4) ⟨_, _, _, _, rfl, rfl, rfl, by decide +kernel, ⟨Nat.le_of_ble_eq_true rfl, Nat.le_of_ble_eq_true rfl⟩, uGin u_31_14 u_31_15 u_31_16 u_2_5 u_31_17⟩ ⟨rfl, _, _, _, rfl, rfl⟩ ?_
      obtain ⟨x6, hx6, h⟩ := zbd h
      refine rv false 8 2 rfl rfl trivial rfl (m_C_X2_become l M0 M1 M2 M3 M4 M5 M6 M7 M8 ([], [A_doing, A_asked]) M10 M11 (x2 * x3) x4 Fa_size Fa_digits Fb_size Fb_digits x6 hx6) ⟨_, _, _, _, rfl, rfl, rfl, by decide +kernel, ⟨Nat.le_of_ble_eq_true rfl, Nat.le_of_ble_eq_true rfl⟩, uGin u_26_3 u_26_4 u_26_5 u_2_17 u_26_6⟩ ⟨rfl, _, _, _, rfl, rfl⟩ ?_
      obtain rfl := Option.some.inj h
      exact r1 false 9 rfl rfl rfl rfl rfl rfl trivial
def bX9_round : zB := [(0, [(.iload_n 1, 1), (.iconst 1, 1), (.bipush 9, 2)], 4, .invokestatic 63, 3), (7, [], 7, .ifCond .eq 13, 3), (10, [(.iload_n 2, 1), (.iconst 0, 1), (.bipush 18, 2)], 14, .invokestatic 63, 3), (17, [], 17, .ifCond .ne 7, 3), (20, [(.ldc2_w 163, 3)], 23, .lreturn, 1), (24, [(.lconst 1, 1), (.lstore_n 3, 1), (.iconst 0, 1), (.istore 5, 2)], 29, .nop, 0), (29, [(.iload 5, 2), (.iload_n 2, 1)], 32, .if_icmp .ge 14, 3), (35, [(.lload_n 3, 1), (.iload_n 1, 1), (.i2l, 1), (.lmul, 1), (.lstore_n 3, 1), (.iinc 5 1, 3)], 43, .goto (-14), 3), (46, [(.lload_n 3, 1)], 47, .lreturn, 1)]
theorem bX9_round_ok : zBok cX9_round 6 bX9_round = true := by decide +kernel
abbrev wX9_round : List Cond := Cond.code yX9_round cX9_round 6 (some .long) :: uU
def rX9_round : Room := { frames := 1, cells := 0, slots := 0, locals := 22 }
set_option maxRecDepth 20000 in
set_option maxHeartbeats 4000000 in
theorem m_C_X9_round (l : Launch) (M0 : zM) (M1 : zM) (M2 : zM) (M3 : zM) (M4 : zM) (M5 : zM) (M6 : zM) (M7 : zM) (M8 : zM) (M9 : zM) (M10 : zM) (M11 : zM) (M12 : zM) (M13 : zM) (p1 : Int) (p2 : Int) (x : Int) (h : f_X9_round p1 p2 = some x) : zD l yX9_round wX9_round rX9_round lamC shpC [(2, Int.ofNat 0), (0, p1), (0, p2)] [M0, M1, M2, M3, M4, M5, M6, M7, M8, M9, M10, M11, M12, M13] (some (1, x)) [M0, M1, M2, M3, M4, M5, M6, M7, M8, M9, M10, M11, M12, M13] := by
  refine zD_of (B := bX9_round) (E := eX9) (by decide) rfl lokC (eX9_ok _) bX9_round_ok (Or.inl rfl) rfl (fun S R => ?_)
  obtain ⟨rb, rg, ri, rv, rs, r0, r1, r2, r3, rt, rmk⟩ := R
  show S 0 [some (2, Int.ofNat 0), some (0, p1), some (0, p2), none, none, none] [] [M0, M1, M2, M3, M4, M5, M6, M7, M8, M9, M10, M11, M12, M13]
  have LP29 : ∀ (n : Nat) (v1 : Int) (v2 : Int) (v3 : Int) (v5 : Int) (y : Int), l_X9_round_29 n v1 v2 v3 v5 = some y → S 46 [none, none, none, some (1, y), none, none] [] [M0, M1, M2, M3, M4, M5, M6, M7, M8, M9, M10, M11, M12, M13] → S 29 [none, some (0, v1), some (0, v2), some (1, v3), none, some (0, v5)] [] [M0, M1, M2, M3, M4, M5, M6, M7, M8, M9, M10, M11, M12, M13] := by
    intro n
    induction n with
    | zero =>
      intro v1 v2 v3 v5 y h k
      rw [l_X9_round_29] at h
      cases h
    | succ n ih =>
      intro v1 v2 v3 v5 y h k
      rw [l_X9_round_29] at h
      refine ri false 6 (q := v5 < v2) (t1 := 35) (t2 := 46) rfl rfl trivial (fun c => ?_) (fun c => ?_)
      · replace h := zif1 c h
        obtain ⟨⟨g3_0, g3_1⟩, h⟩ := zgd h
        refine rg false 7 (t := 29) (L2 := [none, some (0, v1), some (0, v2), some (1, (v3 * v1)), none, some (0, (v5 + 1))]) rfl rfl rfl (And.intro g3_0 g3_1) ?_
        exact ih v1 v2 (v3 * v1) (v5 + 1) y h k
      · replace h := zif2 c h
        refine rmk [false, false, false, true, false, false] (L2 := [none, none, none, some (1, v3), none, none]) rfl ?_
        obtain rfl := Option.some.inj h
        exact k
  unfold f_X9_round at h
  obtain ⟨x1, hx1, h⟩ := zbd h
  refine rs false 0 3 rfl rfl trivial rfl (m_C_X9_within l M0 M1 M2 M3 M4 M5 M6 M7 M8 M9 M10 M11 M12 M13 p1 1 9 x1 hx1) ⟨_, _, _, _, rfl, rfl, rfl, by decide +kernel, ⟨Nat.le_of_ble_eq_true rfl, Nat.le_of_ble_eq_true rfl⟩, uGinS u_8_17 u_8_18 u_1_2 u_8_19⟩ ?_
  refine ri false 1 (q := x1 = 0) (t1 := 20) (t2 := 10) rfl rfl trivial (fun c => ?_) (fun c => ?_)
  · replace h := zif1 c h
    obtain rfl := Option.some.inj h
    exact r3 false 4 rfl rfl rfl rfl rfl rfl trivial
  · replace h := zif2 c h
    obtain ⟨x2, hx2, h⟩ := zbd h
    refine rs false 2 3 rfl rfl trivial rfl (m_C_X9_within l M0 M1 M2 M3 M4 M5 M6 M7 M8 M9 M10 M11 M12 M13 p2 0 18 x2 hx2) ⟨_, _, _, _, rfl, rfl, rfl, by decide +kernel, ⟨Nat.le_of_ble_eq_true rfl, Nat.le_of_ble_eq_true rfl⟩, uGinS u_8_17 u_8_18 u_1_2 u_8_19⟩ ?_
    refine ri false 3 (q := x2 = 0) (t1 := 20) (t2 := 24) rfl rfl trivial (fun c => ?_) (fun c => ?_)
    · replace h := zif1 c h
      obtain rfl := Option.some.inj h
      exact r3 false 4 rfl rfl rfl rfl rfl rfl trivial
    · replace h := zif2 c h
      refine rb false 5 (L2 := [some (2, Int.ofNat 0), some (0, p1), some (0, p2), some (1, 1), none, some (0, 0)]) rfl rfl trivial ?_
      refine rmk [false, true, true, true, false, true] (L2 := [none, some (0, p1), some (0, p2), some (1, 1), none, some (0, 0)]) rfl ?_
      obtain ⟨x4, hx4, h⟩ := zbd h
      refine LP29 zN p1 p2 1 0 x4 hx4 ?_
      obtain rfl := Option.some.inj h
      exact r3 false 8 rfl rfl rfl rfl rfl rfl trivial
def bX9_outrun : zB := [(0, [(.iload_n 1, 1), (.iconst 1, 1), (.bipush 9, 2)], 4, .invokestatic 63, 3), (7, [], 7, .ifCond .eq 17, 3), (10, [(.lload_n 2, 1), (.lconst 1, 1), (.lcmp, 1)], 13, .ifCond .lt 11, 3), (16, [(.lload_n 2, 1), (.ldc2_w 165, 3), (.lcmp, 1)], 21, .ifCond .le 6, 3), (24, [(.bipush (-2), 2)], 26, .ireturn, 1), (27, [(.lconst 1, 1), (.lstore 4, 2), (.lconst 0, 1), (.lstore 6, 2), (.iconst 0, 1), (.istore 8, 2)], 36, .nop, 0), (36, [(.iload 8, 2), (.bipush 18, 2)], 40, .if_icmp .gt 33, 3), (43, [(.lload 6, 2), (.lload 4, 2), (.ladd, 1), (.lstore 6, 2), (.lload 6, 2), (.lload_n 2, 1), (.lcmp, 1)], 54, .ifCond .le 6, 3), (57, [(.iload 8, 2)], 59, .ireturn, 1), (60, [(.lload 4, 2), (.iload_n 1, 1), (.i2l, 1), (.lmul, 1), (.lstore 4, 2), (.iinc 8 1, 3)], 70, .goto (-34), 3), (73, [(.iconst (-1), 1)], 74, .ireturn, 1)]
theorem bX9_outrun_ok : zBok cX9_outrun 9 bX9_outrun = true := by decide +kernel
abbrev wX9_outrun : List Cond := Cond.code yX9_outrun cX9_outrun 9 (some .int) :: uU
def rX9_outrun : Room := { frames := 1, cells := 0, slots := 0, locals := 22 }
set_option maxRecDepth 20000 in
set_option maxHeartbeats 4000000 in
theorem m_C_X9_outrun (l : Launch) (M0 : zM) (M1 : zM) (M2 : zM) (M3 : zM) (M4 : zM) (M5 : zM) (M6 : zM) (M7 : zM) (M8 : zM) (M9 : zM) (M10 : zM) (M11 : zM) (M12 : zM) (M13 : zM) (p1 : Int) (p2 : Int) (x : Int) (h : f_X9_outrun p1 p2 = some x) : zD l yX9_outrun wX9_outrun rX9_outrun lamC shpC [(2, Int.ofNat 0), (0, p1), (1, p2)] [M0, M1, M2, M3, M4, M5, M6, M7, M8, M9, M10, M11, M12, M13] (some (0, x)) [M0, M1, M2, M3, M4, M5, M6, M7, M8, M9, M10, M11, M12, M13] := by
  refine zD_of (B := bX9_outrun) (E := eX9) (by decide) rfl lokC (eX9_ok _) bX9_outrun_ok (Or.inl rfl) rfl (fun S R => ?_)
  obtain ⟨rb, rg, ri, rv, rs, r0, r1, r2, r3, rt, rmk⟩ := R
  show S 0 [some (2, Int.ofNat 0), some (0, p1), some (1, p2), none, none, none, none, none, none] [] [M0, M1, M2, M3, M4, M5, M6, M7, M8, M9, M10, M11, M12, M13]
  have LP36 : ∀ (n : Nat) (v1 : Int) (v2 : Int) (v4 : Int) (v6 : Int) (v8 : Int), l_X9_outrun_36 n v1 v2 v4 v6 v8 = some x → S 36 [none, some (0, v1), some (1, v2), none, some (1, v4), none, some (1, v6), none, some (0, v8)] [] [M0, M1, M2, M3, M4, M5, M6, M7, M8, M9, M10, M11, M12, M13] := by
    intro n
    induction n with
    | zero =>
      intro v1 v2 v4 v6 v8 h
      rw [l_X9_outrun_36] at h
      cases h
    | succ n ih =>
      intro v1 v2 v4 v6 v8 h
      rw [l_X9_outrun_36] at h
      refine ri false 6 (q := (18 : Int) < v8) (t1 := 73) (t2 := 43) rfl rfl trivial (fun c => ?_) (fun c => ?_)
      · replace h := zif1 c h
        obtain rfl := Option.some.inj h
        exact r1 false 10 rfl rfl rfl rfl rfl rfl trivial
      · replace h := zif2 c h
        obtain ⟨g2_0, h⟩ := zgd h
        refine ri false 7 (q := (0 : Int) < (zlc (v6 + v4) v2)) (t1 := 57) (t2 := 60) (L2 := [none, some (0, v1), some (1, v2), none, some (1, v4), none, some (1, (v6 + v4)), none, some (0, v8)]) rfl rfl g2_0 (fun c => ?_) (fun c => ?_)
        · replace h := zif1 c h
          obtain rfl := Option.some.inj h
          exact r1 false 8 rfl rfl rfl rfl rfl rfl trivial
        · replace h := zif2 c h
          obtain ⟨⟨g3_0, g3_1⟩, h⟩ := zgd h
          refine rg false 9 (t := 36) (L2 := [none, some (0, v1), some (1, v2), none, some (1, (v4 * v1)), none, some (1, (v6 + v4)), none, some (0, (v8 + 1))]) rfl rfl rfl (And.intro g3_0 g3_1) ?_
          exact ih v1 v2 (v4 * v1) (v6 + v4) (v8 + 1) h
  unfold f_X9_outrun at h
  obtain ⟨x1, hx1, h⟩ := zbd h
  refine rs false 0 3 rfl rfl trivial rfl (m_C_X9_within l M0 M1 M2 M3 M4 M5 M6 M7 M8 M9 M10 M11 M12 M13 p1 1 9 x1 hx1) ⟨_, _, _, _, rfl, rfl, rfl, by decide +kernel, ⟨Nat.le_of_ble_eq_true rfl, Nat.le_of_ble_eq_true rfl⟩, uGinS u_8_17 u_8_18 u_1_2 u_8_19⟩ ?_
  refine ri false 1 (q := x1 = 0) (t1 := 24) (t2 := 10) rfl rfl trivial (fun c => ?_) (fun c => ?_)
  · replace h := zif1 c h
    obtain rfl := Option.some.inj h
    exact r1 false 4 rfl rfl rfl rfl rfl rfl trivial
  · replace h := zif2 c h
    refine ri false 2 (q := (zlc p2 1) < 0) (t1 := 24) (t2 := 16) rfl rfl trivial (fun c => ?_) (fun c => ?_)
    · replace h := zif1 c h
      obtain rfl := Option.some.inj h
      exact r1 false 4 rfl rfl rfl rfl rfl rfl trivial
    · replace h := zif2 c h
      refine ri false 3 (q := (0 : Int) < (zlc p2 10000000000)) (t1 := 24) (t2 := 27) rfl rfl trivial (fun c => ?_) (fun c => ?_)
      · replace h := zif1 c h
        obtain rfl := Option.some.inj h
        exact r1 false 4 rfl rfl rfl rfl rfl rfl trivial
      · replace h := zif2 c h
        refine rb false 5 (L2 := [some (2, Int.ofNat 0), some (0, p1), some (1, p2), none, some (1, 1), none, some (1, 0), none, some (0, 0)]) rfl rfl trivial ?_
        refine rmk [false, true, true, false, true, false, true, false, true] (L2 := [none, some (0, p1), some (1, p2), none, some (1, 1), none, some (1, 0), none, some (0, 0)]) rfl ?_
        exact LP36 zN p1 p2 1 0 0 h
def bX9_sends : zB := [(0, [(.iload_n 1, 1)], 1, .invokestatic 167, 3), (4, [], 4, .ifCond .eq 14, 3), (7, [(.iload_n 2, 1), (.iconst 0, 1), (.sipush 1023, 3)], 12, .invokestatic 63, 3), (15, [], 15, .ifCond .ne 6, 3), (18, [(.bipush (-2), 2)], 20, .ireturn, 1), (21, [(.aload_n 0, 1), (.getfield 45, 3), (.iload_n 1, 1), (.iload_n 2, 1)], 27, .invokevirtual 168, 3), (30, [], 30, .ireturn, 1)]
theorem bX9_sends_ok : zBok cX9_sends 3 bX9_sends = true := by decide +kernel
abbrev wX9_sends : List Cond := Cond.code yX9_sends cX9_sends 3 (some .int) :: uU
def rX9_sends : Room := { frames := 1, cells := 0, slots := 0, locals := 23 }
set_option maxRecDepth 20000 in
set_option maxHeartbeats 4000000 in
theorem m_C_X9_sends (l : Launch) (M0 : zM) (M1 : zM) (M2 : zM) (M3 : zM) (M4 : zM) (M5 : zM) (M6 : zM) (M7 : zM) (M8 : zM) (M9 : zM) (M11 : zM) (M12 : zM) (M13 : zM) (p1 : Int) (p2 : Int) (E_others : Nat → Int) (E_copies : Nat → Int) (E_odds : Nat → Int) (E_often : Nat → Int) (E_days : Nat → Int) (E_times : Nat → Int) (E_next : Nat → Int) (x : Int × (Nat → Int)) (h : f_X9_sends p1 p2 E_others = some x) : zD l yX9_sends wX9_sends rX9_sends lamC shpC [(2, Int.ofNat 0), (0, p1), (0, p2)] [M0, M1, M2, M3, M4, M5, M6, M7, M8, M9, ([], [E_others, E_copies, E_odds, E_often, E_days, E_times, E_next]), M11, M12, M13] (some (0, x.1)) [M0, M1, M2, M3, M4, M5, M6, M7, M8, M9, ([], [x.2, E_copies, E_odds, E_often, E_days, E_times, E_next]), M11, M12, M13] := by
  refine zD_of (B := bX9_sends) (E := eX9) (by decide) rfl lokC (eX9_ok _) bX9_sends_ok (Or.inl rfl) rfl (fun S R => ?_)
  obtain ⟨rb, rg, ri, rv, rs, r0, r1, r2, r3, rt, rmk⟩ := R
  show S 0 [some (2, Int.ofNat 0), some (0, p1), some (0, p2)] [] [M0, M1, M2, M3, M4, M5, M6, M7, M8, M9, ([], [E_others, E_copies, E_odds, E_often, E_days, E_times, E_next]), M11, M12, M13]
  unfold f_X9_sends at h
  obtain ⟨x1, hx1, h⟩ := zbd h
  refine rs false 0 1 rfl rfl trivial rfl (m_C_X7_has l M0 M1 M2 M3 M4 M5 M6 M7 M8 M9 ([], [E_others, E_copies, E_odds, E_often, E_days, E_times, E_next]) M11 M12 M13 p1 x1 hx1) ⟨_, _, _, _, rfl, rfl, rfl, by decide +kernel, ⟨Nat.le_of_ble_eq_true rfl, Nat.le_of_ble_eq_true rfl⟩, uGinS u_33_1 u_33_2 u_2_9 u_33_3⟩ ?_
  refine ri false 1 (q := x1 = 0) (t1 := 18) (t2 := 7) rfl rfl trivial (fun c => ?_) (fun c => ?_)
  · replace h := zif1 c h
    obtain rfl := Option.some.inj h
    exact r1 false 4 rfl rfl rfl rfl rfl rfl trivial
  · replace h := zif2 c h
    obtain ⟨x2, hx2, h⟩ := zbd h
    refine rs false 2 3 rfl rfl trivial rfl (m_C_X9_within l M0 M1 M2 M3 M4 M5 M6 M7 M8 M9 ([], [E_others, E_copies, E_odds, E_often, E_days, E_times, E_next]) M11 M12 M13 p2 0 1023 x2 hx2) ⟨_, _, _, _, rfl, rfl, rfl, by decide +kernel, ⟨Nat.le_of_ble_eq_true rfl, Nat.le_of_ble_eq_true rfl⟩, uGinS u_8_17 u_8_18 u_1_2 u_8_19⟩ ?_
    refine ri false 3 (q := x2 = 0) (t1 := 18) (t2 := 21) rfl rfl trivial (fun c => ?_) (fun c => ?_)
    · replace h := zif1 c h
      obtain rfl := Option.some.inj h
      exact r1 false 4 rfl rfl rfl rfl rfl rfl trivial
    · replace h := zif2 c h
      obtain ⟨x3, hx3, h⟩ := zbd h
      refine rv false 5 2 rfl rfl trivial rfl (m_C_X7_tellSends l M0 M1 M2 M3 M4 M5 M6 M7 M8 M9 M11 M12 M13 p1 p2 E_others E_copies E_odds E_often E_days E_times E_next x3 hx3) ⟨_, _, _, _, rfl, rfl, rfl, by decide +kernel, ⟨Nat.le_of_ble_eq_true rfl, Nat.le_of_ble_eq_true rfl⟩, uGin u_33_4 u_33_5 u_33_6 u_2_9 u_33_7⟩ ⟨rfl, _, _, _, rfl, rfl⟩ ?_
      obtain rfl := Option.some.inj h
      exact r1 false 6 rfl rfl rfl rfl rfl rfl trivial
def bX9_copies : zB := [(0, [(.iload_n 1, 1)], 1, .invokestatic 167, 3), (4, [], 4, .ifCond .eq 34, 3), (7, [(.iload_n 2, 1), (.iconst 0, 1), (.bipush 9, 2)], 11, .invokestatic 63, 3), (14, [], 14, .ifCond .eq 24, 3), (17, [(.iload_n 3, 1), (.iconst 0, 1), (.bipush 100, 2)], 21, .invokestatic 63, 3), (24, [], 24, .ifCond .eq 14, 3), (27, [(.iload 4, 2), (.iconst 1, 1), (.bipush 9, 2)], 32, .invokestatic 63, 3), (35, [], 35, .ifCond .ne 6, 3), (38, [(.bipush (-2), 2)], 40, .ireturn, 1), (41, [(.aload_n 0, 1), (.getfield 45, 3), (.iload_n 1, 1), (.iload_n 2, 1), (.iload_n 3, 1), (.iload 4, 2)], 50, .invokevirtual 171, 3), (53, [(.iconst 1, 1)], 54, .ireturn, 1)]
theorem bX9_copies_ok : zBok cX9_copies 5 bX9_copies = true := by decide +kernel
abbrev wX9_copies : List Cond := Cond.code yX9_copies cX9_copies 5 (some .int) :: uU
def rX9_copies : Room := { frames := 1, cells := 0, slots := 0, locals := 24 }
set_option maxRecDepth 20000 in
set_option maxHeartbeats 4000000 in
theorem m_C_X9_copies (l : Launch) (M0 : zM) (M1 : zM) (M2 : zM) (M3 : zM) (M4 : zM) (M5 : zM) (M6 : zM) (M7 : zM) (M8 : zM) (M9 : zM) (M11 : zM) (M12 : zM) (M13 : zM) (p1 : Int) (p2 : Int) (p3 : Int) (p4 : Int) (E_others : Nat → Int) (E_copies : Nat → Int) (E_odds : Nat → Int) (E_often : Nat → Int) (E_days : Nat → Int) (E_times : Nat → Int) (E_next : Nat → Int) (x : Int × (Nat → Int) × (Nat → Int) × (Nat → Int)) (h : f_X9_copies p1 p2 p3 p4 E_copies E_odds E_often = some x) : zD l yX9_copies wX9_copies rX9_copies lamC shpC [(2, Int.ofNat 0), (0, p1), (0, p2), (0, p3), (0, p4)] [M0, M1, M2, M3, M4, M5, M6, M7, M8, M9, ([], [E_others, E_copies, E_odds, E_often, E_days, E_times, E_next]), M11, M12, M13] (some (0, x.1)) [M0, M1, M2, M3, M4, M5, M6, M7, M8, M9, ([], [E_others, x.2.1, x.2.2.1, x.2.2.2, E_days, E_times, E_next]), M11, M12, M13] := by
  refine zD_of (B := bX9_copies) (E := eX9) (by decide) rfl lokC (eX9_ok _) bX9_copies_ok (Or.inl rfl) rfl (fun S R => ?_)
  obtain ⟨rb, rg, ri, rv, rs, r0, r1, r2, r3, rt, rmk⟩ := R
  show S 0 [some (2, Int.ofNat 0), some (0, p1), some (0, p2), some (0, p3), some (0, p4)] [] [M0, M1, M2, M3, M4, M5, M6, M7, M8, M9, ([], [E_others, E_copies, E_odds, E_often, E_days, E_times, E_next]), M11, M12, M13]
  unfold f_X9_copies at h
  obtain ⟨x1, hx1, h⟩ := zbd h
  refine rs false 0 1 rfl rfl trivial rfl (m_C_X7_has l M0 M1 M2 M3 M4 M5 M6 M7 M8 M9 ([], [E_others, E_copies, E_odds, E_often, E_days, E_times, E_next]) M11 M12 M13 p1 x1 hx1) ⟨_, _, _, _, rfl, rfl, rfl, by decide +kernel, ⟨Nat.le_of_ble_eq_true rfl, Nat.le_of_ble_eq_true rfl⟩, uGinS u_33_1 u_33_2 u_2_9 u_33_3⟩ ?_
  refine ri false 1 (q := x1 = 0) (t1 := 38) (t2 := 7) rfl rfl trivial (fun c => ?_) (fun c => ?_)
  · replace h := zif1 c h
    obtain rfl := Option.some.inj h
    exact r1 false 8 rfl rfl rfl rfl rfl rfl trivial
  · replace h := zif2 c h
    obtain ⟨x2, hx2, h⟩ := zbd h
    refine rs false 2 3 rfl rfl trivial rfl (m_C_X9_within l M0 M1 M2 M3 M4 M5 M6 M7 M8 M9 ([], [E_others, E_copies, E_odds, E_often, E_days, E_times, E_next]) M11 M12 M13 p2 0 9 x2 hx2) ⟨_, _, _, _, rfl, rfl, rfl, by decide +kernel, ⟨Nat.le_of_ble_eq_true rfl, Nat.le_of_ble_eq_true rfl⟩, uGinS u_8_17 u_8_18 u_1_2 u_8_19⟩ ?_
    refine ri false 3 (q := x2 = 0) (t1 := 38) (t2 := 17) rfl rfl trivial (fun c => ?_) (fun c => ?_)
    · replace h := zif1 c h
      obtain rfl := Option.some.inj h
      exact r1 false 8 rfl rfl rfl rfl rfl rfl trivial
    · replace h := zif2 c h
      obtain ⟨x3, hx3, h⟩ := zbd h
      refine rs false 4 3 rfl rfl trivial rfl (m_C_X9_within l M0 M1 M2 M3 M4 M5 M6 M7 M8 M9 ([], [E_others, E_copies, E_odds, E_often, E_days, E_times, E_next]) M11 M12 M13 p3 0 100 x3 hx3) ⟨_, _, _, _, rfl, rfl, rfl, by decide +kernel, ⟨Nat.le_of_ble_eq_true rfl, Nat.le_of_ble_eq_true rfl⟩, uGinS u_8_17 u_8_18 u_1_2 u_8_19⟩ ?_
      refine ri false 5 (q := x3 = 0) (t1 := 38) (t2 := 27) rfl rfl trivial (fun c => ?_) (fun c => ?_)
      · replace h := zif1 c h
        obtain rfl := Option.some.inj h
        exact r1 false 8 rfl rfl rfl rfl rfl rfl trivial
      · replace h := zif2 c h
        obtain ⟨x4, hx4, h⟩ := zbd h
        refine rs false 6 3 rfl rfl trivial rfl (m_C_X9_within l M0 M1 M2 M3 M4 M5 M6 M7 M8 M9 ([], [E_others, E_copies, E_odds, E_often, E_days, E_times, E_next]) M11 M12 M13 p4 1 9 x4 hx4) ⟨_, _, _, _, rfl, rfl, rfl, by decide +kernel, ⟨Nat.le_of_ble_eq_true rfl, Nat.le_of_ble_eq_true rfl⟩, uGinS u_8_17 u_8_18 u_1_2 u_8_19⟩ ?_
        refine ri false 7 (q := x4 = 0) (t1 := 38) (t2 := 41) rfl rfl trivial (fun c => ?_) (fun c => ?_)
        · replace h := zif1 c h
          obtain rfl := Option.some.inj h
          exact r1 false 8 rfl rfl rfl rfl rfl rfl trivial
        · replace h := zif2 c h
          obtain ⟨x5, hx5, h⟩ := zbd h
          refine rv false 9 4 rfl rfl trivial rfl (m_C_X7_tellCopies l M0 M1 M2 M3 M4 M5 M6 M7 M8 M9 M11 M12 M13 p1 p2 p3 p4 E_others E_copies E_odds E_often E_days E_times E_next x5 hx5) ⟨_, _, _, _, rfl, rfl, rfl, by decide +kernel, ⟨Nat.le_of_ble_eq_true rfl, Nat.le_of_ble_eq_true rfl⟩, uGin u_33_20 u_33_21 u_33_22 u_2_9 u_33_23⟩ ⟨rfl, _, _, _, rfl, rfl⟩ ?_
          obtain rfl := Option.some.inj h
          exact r1 false 10 rfl rfl rfl rfl rfl rfl trivial
def bX9_run : zB := [(0, [(.iload_n 1, 1)], 1, .invokestatic 167, 3), (4, [], 4, .ifCond .eq 15, 3), (7, [(.iload_n 3, 1), (.iconst (-1), 1)], 9, .if_icmp .eq 13, 3), (12, [(.iload_n 3, 1)], 13, .invokestatic 167, 3), (16, [], 16, .ifCond .ne 6, 3), (19, [(.bipush (-2), 2)], 21, .ireturn, 1), (22, [(.aload_n 0, 1), (.getfield 45, 3), (.iload_n 1, 1), (.iload_n 2, 1)], 28, .invokevirtual 175, 3), (31, [(.istore 4, 2), (.iload_n 3, 1), (.iconst (-1), 1)], 35, .if_icmp .ne 8, 3), (38, [(.iload 4, 2)], 40, .goto 11, 3), (43, [(.aload_n 0, 1), (.getfield 45, 3), (.iload_n 3, 1)], 48, .invokevirtual 178, 3), (51, [], 51, .ireturn, 1)]
theorem bX9_run_ok : zBok cX9_run 5 bX9_run = true := by decide +kernel
abbrev wX9_run : List Cond := Cond.code yX9_run cX9_run 5 (some .int) :: uU
def rX9_run : Room := { frames := 2, cells := 0, slots := 0, locals := 53 }
set_option maxRecDepth 20000 in
set_option maxHeartbeats 4000000 in
theorem m_C_X9_run (l : Launch) (M0 : zM) (M1 : zM) (M2 : zM) (M3 : zM) (M4 : zM) (M5 : zM) (M6 : zM) (M7 : zM) (M8 : zM) (M9 : zM) (M11 : zM) (M12 : zM) (M13 : zM) (p1 : Int) (p2 : Int) (p3 : Int) (E_others : Nat → Int) (E_copies : Nat → Int) (E_odds : Nat → Int) (E_often : Nat → Int) (E_days : Nat → Int) (E_times : Nat → Int) (E_next : Nat → Int) (x : Int × (Nat → Int) × (Nat → Int)) (h : f_X9_run p1 p2 p3 E_others E_copies E_odds E_often E_days E_times = some x) : zD l yX9_run wX9_run rX9_run lamC shpC [(2, Int.ofNat 0), (0, p1), (0, p2), (0, p3)] [M0, M1, M2, M3, M4, M5, M6, M7, M8, M9, ([], [E_others, E_copies, E_odds, E_often, E_days, E_times, E_next]), M11, M12, M13] (some (0, x.1)) [M0, M1, M2, M3, M4, M5, M6, M7, M8, M9, ([], [E_others, E_copies, E_odds, E_often, x.2.1, x.2.2, E_next]), M11, M12, M13] := by
  refine zD_of (B := bX9_run) (E := eX9) (by decide) rfl lokC (eX9_ok _) bX9_run_ok (Or.inl rfl) rfl (fun S R => ?_)
  obtain ⟨rb, rg, ri, rv, rs, r0, r1, r2, r3, rt, rmk⟩ := R
  show S 0 [some (2, Int.ofNat 0), some (0, p1), some (0, p2), some (0, p3), none] [] [M0, M1, M2, M3, M4, M5, M6, M7, M8, M9, ([], [E_others, E_copies, E_odds, E_often, E_days, E_times, E_next]), M11, M12, M13]
  unfold f_X9_run at h
  obtain ⟨x1, hx1, h⟩ := zbd h
  refine rs false 0 1 rfl rfl trivial rfl (m_C_X7_has l M0 M1 M2 M3 M4 M5 M6 M7 M8 M9 ([], [E_others, E_copies, E_odds, E_often, E_days, E_times, E_next]) M11 M12 M13 p1 x1 hx1) ⟨_, _, _, _, rfl, rfl, rfl, by decide +kernel, ⟨Nat.le_of_ble_eq_true rfl, Nat.le_of_ble_eq_true rfl⟩, uGinS u_33_1 u_33_2 u_2_9 u_33_3⟩ ?_
  refine ri false 1 (q := x1 = 0) (t1 := 19) (t2 := 7) rfl rfl trivial (fun c => ?_) (fun c => ?_)
  · replace h := zif1 c h
    obtain rfl := Option.some.inj h
    exact r1 false 5 rfl rfl rfl rfl rfl rfl trivial
  · replace h := zif2 c h
    refine ri false 2 (q := p3 = (-1)) (t1 := 22) (t2 := 12) rfl rfl trivial (fun c => ?_) (fun c => ?_)
    · replace h := zif1 c h
      obtain ⟨x2, hx2, h⟩ := zbd h
      refine rv false 6 2 rfl rfl trivial rfl (m_C_X7_goThrough l M0 M1 M2 M3 M4 M5 M6 M7 M8 M9 M11 M12 M13 p1 p2 E_others E_copies E_odds E_often E_days E_times E_next x2 hx2) ⟨_, _, _, _, rfl, rfl, rfl, by decide +kernel, ⟨Nat.le_of_ble_eq_true rfl, Nat.le_of_ble_eq_true rfl⟩, uGin u_34_8 u_34_9 u_34_10 u_2_9 u_34_11⟩ ⟨rfl, _, _, _, rfl, rfl⟩ ?_
      refine ri false 7 (q := p3 = (-1)) (t1 := 38) (t2 := 43) (L2 := [some (2, Int.ofNat 0), some (0, p1), some (0, p2), some (0, p3), some (0, x2.1)]) rfl rfl trivial (fun c => ?_) (fun c => ?_)
      · replace h := zif1 c h
        refine rg false 8 (t := 51) (st2 := [(0, x2.1)]) rfl rfl rfl trivial ?_
        obtain rfl := Option.some.inj h
        exact r1 false 10 rfl rfl rfl rfl rfl rfl trivial
      · replace h := zif2 c h
        obtain ⟨x3, hx3, h⟩ := zbd h
        refine rv false 9 1 rfl rfl trivial rfl (m_C_X7_daysOf l M0 M1 M2 M3 M4 M5 M6 M7 M8 M9 M11 M12 M13 p3 E_others E_copies E_odds E_often x2.2.1 x2.2.2 E_next x3 hx3) ⟨_, _, _, _, rfl, rfl, rfl, by decide +kernel, ⟨Nat.le_of_ble_eq_true rfl, Nat.le_of_ble_eq_true rfl⟩, uGin u_34_21 u_34_22 u_34_23 u_2_9 u_35_0⟩ ⟨rfl, _, _, _, rfl, rfl⟩ ?_
        obtain rfl := Option.some.inj h
        exact r1 false 10 rfl rfl rfl rfl rfl rfl trivial
    · replace h := zif2 c h
      obtain ⟨x4, hx4, h⟩ := zbd h
      refine rs false 3 1 rfl rfl trivial rfl (m_C_X7_has l M0 M1 M2 M3 M4 M5 M6 M7 M8 M9 ([], [E_others, E_copies, E_odds, E_often, E_days, E_times, E_next]) M11 M12 M13 p3 x4 hx4) ⟨_, _, _, _, rfl, rfl, rfl, by decide +kernel, ⟨Nat.le_of_ble_eq_true rfl, Nat.le_of_ble_eq_true rfl⟩, uGinS u_33_1 u_33_2 u_2_9 u_33_3⟩ ?_
      refine ri false 4 (q := x4 = 0) (t1 := 19) (t2 := 22) rfl rfl trivial (fun c => ?_) (fun c => ?_)
      · replace h := zif1 c h
        obtain rfl := Option.some.inj h
        exact r1 false 5 rfl rfl rfl rfl rfl rfl trivial
      · replace h := zif2 c h
        obtain ⟨x5, hx5, h⟩ := zbd h
        refine rv false 6 2 rfl rfl trivial rfl (m_C_X7_goThrough l M0 M1 M2 M3 M4 M5 M6 M7 M8 M9 M11 M12 M13 p1 p2 E_others E_copies E_odds E_often E_days E_times E_next x5 hx5) ⟨_, _, _, _, rfl, rfl, rfl, by decide +kernel, ⟨Nat.le_of_ble_eq_true rfl, Nat.le_of_ble_eq_true rfl⟩, uGin u_34_8 u_34_9 u_34_10 u_2_9 u_34_11⟩ ⟨rfl, _, _, _, rfl, rfl⟩ ?_
        refine ri false 7 (q := p3 = (-1)) (t1 := 38) (t2 := 43) (L2 := [some (2, Int.ofNat 0), some (0, p1), some (0, p2), some (0, p3), some (0, x5.1)]) rfl rfl trivial (fun c => ?_) (fun c => ?_)
        · replace h := zif1 c h
          refine rg false 8 (t := 51) (st2 := [(0, x5.1)]) rfl rfl rfl trivial ?_
          obtain rfl := Option.some.inj h
          exact r1 false 10 rfl rfl rfl rfl rfl rfl trivial
        · replace h := zif2 c h
          obtain ⟨x6, hx6, h⟩ := zbd h
          refine rv false 9 1 rfl rfl trivial rfl (m_C_X7_daysOf l M0 M1 M2 M3 M4 M5 M6 M7 M8 M9 M11 M12 M13 p3 E_others E_copies E_odds E_often x5.2.1 x5.2.2 E_next x6 hx6) ⟨_, _, _, _, rfl, rfl, rfl, by decide +kernel, ⟨Nat.le_of_ble_eq_true rfl, Nat.le_of_ble_eq_true rfl⟩, uGin u_34_21 u_34_22 u_34_23 u_2_9 u_35_0⟩ ⟨rfl, _, _, _, rfl, rfl⟩ ?_
          obtain rfl := Option.some.inj h
          exact r1 false 10 rfl rfl rfl rfl rfl rfl trivial
def bX9_reach : zB := [(0, [(.iload_n 1, 1)], 1, .invokestatic 167, 3), (4, [], 4, .ifCond .eq 14, 3), (7, [(.iload_n 2, 1), (.iconst 0, 1), (.sipush 1023, 3)], 12, .invokestatic 63, 3), (15, [], 15, .ifCond .ne 6, 3), (18, [(.bipush (-2), 2)], 20, .ireturn, 1), (21, [(.aload_n 0, 1), (.getfield 45, 3)], 25, .invokevirtual 181, 3), (28, [(.aload_n 0, 1), (.getfield 45, 3), (.iload_n 1, 1), (.iload_n 2, 1)], 34, .invokevirtual 184, 3), (37, [], 37, .ireturn, 1)]
theorem bX9_reach_ok : zBok cX9_reach 3 bX9_reach = true := by decide +kernel
abbrev wX9_reach : List Cond := Cond.code yX9_reach cX9_reach 3 (some .int) :: uU
def rX9_reach : Room := { frames := 2, cells := 0, slots := 0, locals := 46 }
set_option maxRecDepth 20000 in
set_option maxHeartbeats 4000000 in
theorem m_C_X9_reach (l : Launch) (M0 : zM) (M1 : zM) (M2 : zM) (M3 : zM) (M4 : zM) (M5 : zM) (M6 : zM) (M7 : zM) (M8 : zM) (M9 : zM) (M11 : zM) (M12 : zM) (M13 : zM) (p1 : Int) (p2 : Int) (E_others : Nat → Int) (E_copies : Nat → Int) (E_odds : Nat → Int) (E_often : Nat → Int) (E_days : Nat → Int) (E_times : Nat → Int) (E_next : Nat → Int) (x : Int × (Nat → Int)) (h : f_X9_reach p1 p2 E_others E_copies E_odds E_next = some x) : zD l yX9_reach wX9_reach rX9_reach lamC shpC [(2, Int.ofNat 0), (0, p1), (0, p2)] [M0, M1, M2, M3, M4, M5, M6, M7, M8, M9, ([], [E_others, E_copies, E_odds, E_often, E_days, E_times, E_next]), M11, M12, M13] (some (0, x.1)) [M0, M1, M2, M3, M4, M5, M6, M7, M8, M9, ([], [E_others, E_copies, E_odds, E_often, E_days, E_times, x.2]), M11, M12, M13] := by
  refine zD_of (B := bX9_reach) (E := eX9) (by decide) rfl lokC (eX9_ok _) bX9_reach_ok (Or.inl rfl) rfl (fun S R => ?_)
  obtain ⟨rb, rg, ri, rv, rs, r0, r1, r2, r3, rt, rmk⟩ := R
  show S 0 [some (2, Int.ofNat 0), some (0, p1), some (0, p2)] [] [M0, M1, M2, M3, M4, M5, M6, M7, M8, M9, ([], [E_others, E_copies, E_odds, E_often, E_days, E_times, E_next]), M11, M12, M13]
  unfold f_X9_reach at h
  obtain ⟨x1, hx1, h⟩ := zbd h
  refine rs false 0 1 rfl rfl trivial rfl (m_C_X7_has l M0 M1 M2 M3 M4 M5 M6 M7 M8 M9 ([], [E_others, E_copies, E_odds, E_often, E_days, E_times, E_next]) M11 M12 M13 p1 x1 hx1) ⟨_, _, _, _, rfl, rfl, rfl, by decide +kernel, ⟨Nat.le_of_ble_eq_true rfl, Nat.le_of_ble_eq_true rfl⟩, uGinS u_33_1 u_33_2 u_2_9 u_33_3⟩ ?_
  refine ri false 1 (q := x1 = 0) (t1 := 18) (t2 := 7) rfl rfl trivial (fun c => ?_) (fun c => ?_)
  · replace h := zif1 c h
    obtain rfl := Option.some.inj h
    exact r1 false 4 rfl rfl rfl rfl rfl rfl trivial
  · replace h := zif2 c h
    obtain ⟨x2, hx2, h⟩ := zbd h
    refine rs false 2 3 rfl rfl trivial rfl (m_C_X9_within l M0 M1 M2 M3 M4 M5 M6 M7 M8 M9 ([], [E_others, E_copies, E_odds, E_often, E_days, E_times, E_next]) M11 M12 M13 p2 0 1023 x2 hx2) ⟨_, _, _, _, rfl, rfl, rfl, by decide +kernel, ⟨Nat.le_of_ble_eq_true rfl, Nat.le_of_ble_eq_true rfl⟩, uGinS u_8_17 u_8_18 u_1_2 u_8_19⟩ ?_
    refine ri false 3 (q := x2 = 0) (t1 := 18) (t2 := 21) rfl rfl trivial (fun c => ?_) (fun c => ?_)
    · replace h := zif1 c h
      obtain rfl := Option.some.inj h
      exact r1 false 4 rfl rfl rfl rfl rfl rfl trivial
    · replace h := zif2 c h
      obtain ⟨x3, hx3, h⟩ := zbd h
      refine rv false 5 0 rfl rfl trivial rfl (m_C_X7_lookAhead l M0 M1 M2 M3 M4 M5 M6 M7 M8 M9 M11 M12 M13 E_others E_copies E_odds E_often E_days E_times E_next x3 hx3) ⟨_, _, _, _, rfl, rfl, rfl, by decide +kernel, ⟨Nat.le_of_ble_eq_true rfl, Nat.le_of_ble_eq_true rfl⟩, uGin u_35_14 u_35_15 u_35_16 u_2_9 u_35_17⟩ ⟨rfl, _, _, _, rfl, rfl⟩ ?_
      obtain ⟨x4, hx4, h⟩ := zbd h
      refine rv false 6 2 rfl rfl trivial rfl (m_C_X7_reached l M0 M1 M2 M3 M4 M5 M6 M7 M8 M9 M11 M12 M13 p1 p2 E_others E_copies E_odds E_often E_days E_times x3 x4 hx4) ⟨_, _, _, _, rfl, rfl, rfl, by decide +kernel, ⟨Nat.le_of_ble_eq_true rfl, Nat.le_of_ble_eq_true rfl⟩, uGin u_35_18 u_35_19 u_35_20 u_2_9 u_35_21⟩ ⟨rfl, _, _, _, rfl, rfl⟩ ?_
      obtain rfl := Option.some.inj h
      exact r1 false 7 rfl rfl rfl rfl rfl rfl trivial
def bX9_stop : zB := [(0, [(.iload_n 1, 1)], 1, .invokestatic 167, 3), (4, [], 4, .ifCond .eq 13, 3), (7, [(.iload_n 2, 1), (.iconst 1, 1), (.bipush 10, 2)], 11, .invokestatic 63, 3), (14, [], 14, .ifCond .ne 6, 3), (17, [(.bipush (-2), 2)], 19, .ireturn, 1), (20, [(.aload_n 0, 1), (.getfield 45, 3)], 24, .invokevirtual 181, 3), (27, [(.aload_n 0, 1), (.getfield 45, 3), (.iload_n 1, 1), (.iload_n 2, 1)], 33, .invokevirtual 187, 3), (36, [], 36, .ireturn, 1)]
theorem bX9_stop_ok : zBok cX9_stop 3 bX9_stop = true := by decide +kernel
abbrev wX9_stop : List Cond := Cond.code yX9_stop cX9_stop 3 (some .int) :: uU
def rX9_stop : Room := { frames := 2, cells := 0, slots := 0, locals := 53 }
set_option maxRecDepth 20000 in
set_option maxHeartbeats 4000000 in
theorem m_C_X9_stop (l : Launch) (M0 : zM) (M1 : zM) (M2 : zM) (M3 : zM) (M4 : zM) (M5 : zM) (M6 : zM) (M7 : zM) (M8 : zM) (M9 : zM) (M11 : zM) (M12 : zM) (M13 : zM) (p1 : Int) (p2 : Int) (E_others : Nat → Int) (E_copies : Nat → Int) (E_odds : Nat → Int) (E_often : Nat → Int) (E_days : Nat → Int) (E_times : Nat → Int) (E_next : Nat → Int) (x : Int × (Nat → Int)) (h : f_X9_stop p1 p2 E_others E_copies E_odds E_next = some x) : zD l yX9_stop wX9_stop rX9_stop lamC shpC [(2, Int.ofNat 0), (0, p1), (0, p2)] [M0, M1, M2, M3, M4, M5, M6, M7, M8, M9, ([], [E_others, E_copies, E_odds, E_often, E_days, E_times, E_next]), M11, M12, M13] (some (0, x.1)) [M0, M1, M2, M3, M4, M5, M6, M7, M8, M9, ([], [E_others, E_copies, E_odds, E_often, E_days, E_times, x.2]), M11, M12, M13] := by
  refine zD_of (B := bX9_stop) (E := eX9) (by decide) rfl lokC (eX9_ok _) bX9_stop_ok (Or.inl rfl) rfl (fun S R => ?_)
  obtain ⟨rb, rg, ri, rv, rs, r0, r1, r2, r3, rt, rmk⟩ := R
  show S 0 [some (2, Int.ofNat 0), some (0, p1), some (0, p2)] [] [M0, M1, M2, M3, M4, M5, M6, M7, M8, M9, ([], [E_others, E_copies, E_odds, E_often, E_days, E_times, E_next]), M11, M12, M13]
  unfold f_X9_stop at h
  obtain ⟨x1, hx1, h⟩ := zbd h
  refine rs false 0 1 rfl rfl trivial rfl (m_C_X7_has l M0 M1 M2 M3 M4 M5 M6 M7 M8 M9 ([], [E_others, E_copies, E_odds, E_often, E_days, E_times, E_next]) M11 M12 M13 p1 x1 hx1) ⟨_, _, _, _, rfl, rfl, rfl, by decide +kernel, ⟨Nat.le_of_ble_eq_true rfl, Nat.le_of_ble_eq_true rfl⟩, uGinS u_33_1 u_33_2 u_2_9 u_33_3⟩ ?_
  refine ri false 1 (q := x1 = 0) (t1 := 17) (t2 := 7) rfl rfl trivial (fun c => ?_) (fun c => ?_)
  · replace h := zif1 c h
    obtain rfl := Option.some.inj h
    exact r1 false 4 rfl rfl rfl rfl rfl rfl trivial
  · replace h := zif2 c h
    obtain ⟨x2, hx2, h⟩ := zbd h
    refine rs false 2 3 rfl rfl trivial rfl (m_C_X9_within l M0 M1 M2 M3 M4 M5 M6 M7 M8 M9 ([], [E_others, E_copies, E_odds, E_often, E_days, E_times, E_next]) M11 M12 M13 p2 1 10 x2 hx2) ⟨_, _, _, _, rfl, rfl, rfl, by decide +kernel, ⟨Nat.le_of_ble_eq_true rfl, Nat.le_of_ble_eq_true rfl⟩, uGinS u_8_17 u_8_18 u_1_2 u_8_19⟩ ?_
    refine ri false 3 (q := x2 = 0) (t1 := 17) (t2 := 20) rfl rfl trivial (fun c => ?_) (fun c => ?_)
    · replace h := zif1 c h
      obtain rfl := Option.some.inj h
      exact r1 false 4 rfl rfl rfl rfl rfl rfl trivial
    · replace h := zif2 c h
      obtain ⟨x3, hx3, h⟩ := zbd h
      refine rv false 5 0 rfl rfl trivial rfl (m_C_X7_lookAhead l M0 M1 M2 M3 M4 M5 M6 M7 M8 M9 M11 M12 M13 E_others E_copies E_odds E_often E_days E_times E_next x3 hx3) ⟨_, _, _, _, rfl, rfl, rfl, by decide +kernel, ⟨Nat.le_of_ble_eq_true rfl, Nat.le_of_ble_eq_true rfl⟩, uGin u_35_14 u_35_15 u_35_16 u_2_9 u_35_17⟩ ⟨rfl, _, _, _, rfl, rfl⟩ ?_
      obtain ⟨x4, hx4, h⟩ := zbd h
      refine rv false 6 2 rfl rfl trivial rfl (m_C_X7_fewestTold l M0 M1 M2 M3 M4 M5 M6 M7 M8 M9 M11 M12 M13 p1 p2 E_others E_copies E_odds E_often E_days E_times x3 x4 hx4) ⟨_, _, _, _, rfl, rfl, rfl, by decide +kernel, ⟨Nat.le_of_ble_eq_true rfl, Nat.le_of_ble_eq_true rfl⟩, uGin u_36_10 u_36_11 u_36_12 u_2_9 u_36_13⟩ ⟨rfl, _, _, _, rfl, rfl⟩ ?_
      obtain rfl := Option.some.inj h
      exact r1 false 7 rfl rfl rfl rfl rfl rfl trivial
def bX9_keep : zB := [(0, [(.iload_n 1, 1), (.iconst 0, 1), (.bipush 99, 2)], 4, .invokestatic 63, 3), (7, [], 7, .ifCond .ne 6, 3), (10, [(.bipush (-2), 2)], 12, .ireturn, 1), (13, [(.aload_n 0, 1), (.getfield 52, 3), (.getfield 190, 3), (.bipush 40, 2)], 22, .if_icmp .lt 6, 3), (25, [(.bipush (-4), 2)], 27, .ireturn, 1), (28, [(.aload_n 0, 1), (.getfield 52, 3), (.iload_n 1, 1)], 33, .invokevirtual 191, 3), (36, [], 36, .ireturn, 1)]
theorem bX9_keep_ok : zBok cX9_keep 2 bX9_keep = true := by decide +kernel
abbrev wX9_keep : List Cond := Cond.code yX9_keep cX9_keep 2 (some .int) :: uU
def rX9_keep : Room := { frames := 1, cells := 0, slots := 0, locals := 22 }
set_option maxRecDepth 20000 in
set_option maxHeartbeats 4000000 in
theorem m_C_X9_keep (l : Launch) (M0 : zM) (M1 : zM) (M2 : zM) (M3 : zM) (M4 : zM) (M5 : zM) (M6 : zM) (M7 : zM) (M8 : zM) (M9 : zM) (M10 : zM) (M12 : zM) (M13 : zM) (p1 : Int) (B_count : Int) (B_keptAtAll : Int) (B_keptOnce : Int) (B_keptTwice : Int) (B_kinds : Nat → Int) (B_times : Nat → Int) (x : Int × Int × (Nat → Int) × (Nat → Int)) (h : f_X9_keep p1 B_count B_kinds B_times = some x) : zD l yX9_keep wX9_keep rX9_keep lamC shpC [(2, Int.ofNat 0), (0, p1)] [M0, M1, M2, M3, M4, M5, M6, M7, M8, M9, M10, ([B_count, B_keptAtAll, B_keptOnce, B_keptTwice], [B_kinds, B_times]), M12, M13] (some (0, x.1)) [M0, M1, M2, M3, M4, M5, M6, M7, M8, M9, M10, ([x.2.1, B_keptAtAll, B_keptOnce, B_keptTwice], [x.2.2.1, x.2.2.2]), M12, M13] := by
  refine zD_of (B := bX9_keep) (E := eX9) (by decide) rfl lokC (eX9_ok _) bX9_keep_ok (Or.inl rfl) rfl (fun S R => ?_)
  obtain ⟨rb, rg, ri, rv, rs, r0, r1, r2, r3, rt, rmk⟩ := R
  show S 0 [some (2, Int.ofNat 0), some (0, p1)] [] [M0, M1, M2, M3, M4, M5, M6, M7, M8, M9, M10, ([B_count, B_keptAtAll, B_keptOnce, B_keptTwice], [B_kinds, B_times]), M12, M13]
  unfold f_X9_keep at h
  obtain ⟨x1, hx1, h⟩ := zbd h
  refine rs false 0 3 rfl rfl trivial rfl (m_C_X9_within l M0 M1 M2 M3 M4 M5 M6 M7 M8 M9 M10 ([B_count, B_keptAtAll, B_keptOnce, B_keptTwice], [B_kinds, B_times]) M12 M13 p1 0 99 x1 hx1) ⟨_, _, _, _, rfl, rfl, rfl, by decide +kernel, ⟨Nat.le_of_ble_eq_true rfl, Nat.le_of_ble_eq_true rfl⟩, uGinS u_8_17 u_8_18 u_1_2 u_8_19⟩ ?_
  refine ri false 1 (q := x1 = 0) (t1 := 10) (t2 := 13) rfl rfl trivial (fun c => ?_) (fun c => ?_)
  · replace h := zif1 c h
    obtain rfl := Option.some.inj h
    exact r1 false 2 rfl rfl rfl rfl rfl rfl trivial
  · replace h := zif2 c h
    refine ri false 3 (q := B_count < 40) (t1 := 28) (t2 := 25) rfl rfl trivial (fun c => ?_) (fun c => ?_)
    · replace h := zif1 c h
      obtain ⟨x2, hx2, h⟩ := zbd h
      refine rv false 5 1 rfl rfl trivial rfl (m_C_X1_add l M0 M1 M2 M3 M4 M5 M6 M7 M8 M9 M10 M12 M13 p1 B_count B_keptAtAll B_keptOnce B_keptTwice B_kinds B_times x2 hx2) ⟨_, _, _, _, rfl, rfl, rfl, by decide +kernel, ⟨Nat.le_of_ble_eq_true rfl, Nat.le_of_ble_eq_true rfl⟩, uGin u_37_11 u_37_12 u_37_13 u_2_13 u_37_14⟩ ⟨rfl, _, _, _, rfl, rfl⟩ ?_
      obtain rfl := Option.some.inj h
      exact r1 false 6 rfl rfl rfl rfl rfl rfl trivial
    · replace h := zif2 c h
      obtain rfl := Option.some.inj h
      exact r1 false 4 rfl rfl rfl rfl rfl rfl trivial
def bX9_burn : zB := [(0, [(.aload_n 0, 1), (.getfield 52, 3)], 4, .invokevirtual 193, 3), (7, [], 7, .ireturn, 1)]
theorem bX9_burn_ok : zBok cX9_burn 1 bX9_burn = true := by decide +kernel
abbrev wX9_burn : List Cond := Cond.code yX9_burn cX9_burn 1 (some .int) :: uU
def rX9_burn : Room := { frames := 1, cells := 0, slots := 0, locals := 22 }
set_option maxRecDepth 20000 in
set_option maxHeartbeats 4000000 in
theorem m_C_X9_burn (l : Launch) (M0 : zM) (M1 : zM) (M2 : zM) (M3 : zM) (M4 : zM) (M5 : zM) (M6 : zM) (M7 : zM) (M8 : zM) (M9 : zM) (M10 : zM) (M12 : zM) (M13 : zM) (B_count : Int) (B_keptAtAll : Int) (B_keptOnce : Int) (B_keptTwice : Int) (B_kinds : Nat → Int) (B_times : Nat → Int) (x : Int × Int × (Nat → Int)) (h : f_X9_burn B_count B_times = some x) : zD l yX9_burn wX9_burn rX9_burn lamC shpC [(2, Int.ofNat 0)] [M0, M1, M2, M3, M4, M5, M6, M7, M8, M9, M10, ([B_count, B_keptAtAll, B_keptOnce, B_keptTwice], [B_kinds, B_times]), M12, M13] (some (0, x.1)) [M0, M1, M2, M3, M4, M5, M6, M7, M8, M9, M10, ([x.2.1, B_keptAtAll, B_keptOnce, B_keptTwice], [B_kinds, x.2.2]), M12, M13] := by
  refine zD_of (B := bX9_burn) (E := eX9) (by decide) rfl lokC (eX9_ok _) bX9_burn_ok (Or.inl rfl) rfl (fun S R => ?_)
  obtain ⟨rb, rg, ri, rv, rs, r0, r1, r2, r3, rt, rmk⟩ := R
  show S 0 [some (2, Int.ofNat 0)] [] [M0, M1, M2, M3, M4, M5, M6, M7, M8, M9, M10, ([B_count, B_keptAtAll, B_keptOnce, B_keptTwice], [B_kinds, B_times]), M12, M13]
  unfold f_X9_burn at h
  obtain ⟨x1, hx1, h⟩ := zbd h
  refine rv false 0 0 rfl rfl trivial rfl (m_C_X1_empty l M0 M1 M2 M3 M4 M5 M6 M7 M8 M9 M10 M12 M13 B_count B_keptAtAll B_keptOnce B_keptTwice B_kinds B_times x1 hx1) ⟨_, _, _, _, rfl, rfl, rfl, by decide +kernel, ⟨Nat.le_of_ble_eq_true rfl, Nat.le_of_ble_eq_true rfl⟩, uGin u_38_1 u_38_2 u_38_3 u_2_13 u_38_4⟩ ⟨rfl, _, _, _, rfl, rfl⟩ ?_
  obtain rfl := Option.some.inj h
  exact r1 false 1 rfl rfl rfl rfl rfl rfl trivial
def bX9_hidden : zB := [(0, [(.aload_n 0, 1), (.getfield 52, 3)], 4, .invokevirtual 196, 3), (7, [(.aload_n 0, 1), (.getfield 52, 3), (.getfield 199, 3), (.i2l, 1), (.lstore_n 1, 1), (.aload_n 0, 1), (.getfield 52, 3), (.getfield 202, 3), (.i2l, 1), (.lstore_n 3, 1)], 25, .nop, 0), (25, [(.aload_n 0, 1), (.getfield 52, 3), (.getfield 205, 3), (.i2l, 1), (.lstore 5, 2), (.lload_n 3, 1), (.lconst 0, 1), (.lcmp, 1)], 38, .ifCond .ne 28, 3), (41, [(.aload_n 0, 1), (.getfield 59, 3), (.ldc2_w 208, 3), (.lload 5, 2), (.lmul, 1), (.lload_n 1, 1), (.lload_n 1, 1), (.lconst 1, 1), (.lsub, 1), (.lmul, 1), (.ladd, 1), (.ldc2_w 208, 3)], 60, .invokevirtual 143, 3), (63, [], 63, .goto 27, 3), (66, [(.aload_n 0, 1), (.getfield 59, 3), (.ldc2_w 208, 3), (.lload_n 3, 1), (.lmul, 1), (.lload 5, 2), (.lmul, 1), (.lload_n 1, 1), (.lload_n 1, 1), (.lmul, 1), (.ladd, 1), (.ldc2_w 208, 3), (.lload_n 3, 1), (.lmul, 1)], 87, .invokevirtual 143, 3), (90, [(.iconst 1, 1)], 91, .ireturn, 1)]
theorem bX9_hidden_ok : zBok cX9_hidden 7 bX9_hidden = true := by decide +kernel
abbrev wX9_hidden : List Cond := Cond.code yX9_hidden cX9_hidden 7 (some .int) :: uU
def rX9_hidden : Room := { frames := 3, cells := 0, slots := 0, locals := 72 }
set_option maxRecDepth 20000 in
set_option maxHeartbeats 4000000 in
theorem m_C_X9_hidden (l : Launch) (M0 : zM) (M1 : zM) (M2 : zM) (M3 : zM) (M4 : zM) (M5 : zM) (M6 : zM) (M7 : zM) (M8 : zM) (M9 : zM) (M10 : zM) (B_count : Int) (B_keptAtAll : Int) (B_keptOnce : Int) (B_keptTwice : Int) (B_kinds : Nat → Int) (B_times : Nat → Int) (Fa_size : Int) (Fa_digits : Nat → Int) (Fb_size : Int) (Fb_digits : Nat → Int) (x : Int × Int × Int × Int × Int × (Nat → Int) × Int × (Nat → Int)) (h : f_X9_hidden B_keptAtAll B_keptOnce B_keptTwice B_times Fa_size Fa_digits Fb_size Fb_digits = some x) : zD l yX9_hidden wX9_hidden rX9_hidden lamC shpC [(2, Int.ofNat 0)] [M0, M1, M2, M3, M4, M5, M6, M7, M8, M9, M10, ([B_count, B_keptAtAll, B_keptOnce, B_keptTwice], [B_kinds, B_times]), ([Fa_size], [Fa_digits]), ([Fb_size], [Fb_digits])] (some (0, x.1)) [M0, M1, M2, M3, M4, M5, M6, M7, M8, M9, M10, ([B_count, x.2.1, x.2.2.1, x.2.2.2.1], [B_kinds, B_times]), ([x.2.2.2.2.1], [x.2.2.2.2.2.1]), ([x.2.2.2.2.2.2.1], [x.2.2.2.2.2.2.2])] := by
  refine zD_of (B := bX9_hidden) (E := eX9) (by decide) rfl lokC (eX9_ok _) bX9_hidden_ok (Or.inl rfl) rfl (fun S R => ?_)
  obtain ⟨rb, rg, ri, rv, rs, r0, r1, r2, r3, rt, rmk⟩ := R
  show S 0 [some (2, Int.ofNat 0), none, none, none, none, none, none] [] [M0, M1, M2, M3, M4, M5, M6, M7, M8, M9, M10, ([B_count, B_keptAtAll, B_keptOnce, B_keptTwice], [B_kinds, B_times]), ([Fa_size], [Fa_digits]), ([Fb_size], [Fb_digits])]
  unfold f_X9_hidden at h
  obtain ⟨x1, hx1, h⟩ := zbd h
  refine rv false 0 0 rfl rfl trivial rfl (m_C_X1_tally l M0 M1 M2 M3 M4 M5 M6 M7 M8 M9 M10 ([Fa_size], [Fa_digits]) ([Fb_size], [Fb_digits]) B_count B_keptAtAll B_keptOnce B_keptTwice B_kinds B_times x1 hx1) ⟨_, _, _, _, rfl, rfl, rfl, by decide +kernel, ⟨Nat.le_of_ble_eq_true rfl, Nat.le_of_ble_eq_true rfl⟩, uGin u_38_17 u_38_18 u_38_19 u_2_13 u_38_20⟩ ⟨rfl, _, _, _, rfl, rfl⟩ ?_
  refine rb false 1 (L2 := [some (2, Int.ofNat 0), some (1, x1.2.1), none, some (1, x1.2.2), none, none, none]) rfl rfl trivial ?_
  refine ri false 2 (q := (zlc x1.2.2 0) = 0) (t1 := 41) (t2 := 66) (L2 := [some (2, Int.ofNat 0), some (1, x1.2.1), none, some (1, x1.2.2), none, some (1, x1.1), none]) rfl rfl trivial (fun c => ?_) (fun c => ?_)
  · replace h := zif1 c h
    obtain ⟨g3_0, h⟩ := zgd h
    obtain ⟨x2, hx2, h⟩ := zbd h
    refine rv false 3 2 rfl rfl g3_0 rfl (m_C_X2_become l M0 M1 M2 M3 M4 M5 M6 M7 M8 M9 M10 ([B_count, x1.1, x1.2.1, x1.2.2], [B_kinds, B_times]) ((2 * x1.1) + (x1.2.1 * (x1.2.1 - 1))) 2 Fa_size Fa_digits Fb_size Fb_digits x2 hx2) ⟨_, _, _, _, rfl, rfl, rfl, by decide +kernel, ⟨Nat.le_of_ble_eq_true rfl, Nat.le_of_ble_eq_true rfl⟩, uGin u_26_3 u_26_4 u_26_5 u_2_17 u_26_6⟩ ⟨rfl, _, _, _, rfl, rfl⟩ ?_
    refine rg false 4 (t := 90) rfl rfl rfl trivial ?_
    obtain rfl := Option.some.inj h
    exact r1 false 6 rfl rfl rfl rfl rfl rfl trivial
  · replace h := zif2 c h
    obtain ⟨⟨g5_0, g5_1⟩, h⟩ := zgd h
    obtain ⟨x4, hx4, h⟩ := zbd h
    refine rv false 5 2 rfl rfl (And.intro g5_0 g5_1) rfl (m_C_X2_become l M0 M1 M2 M3 M4 M5 M6 M7 M8 M9 M10 ([B_count, x1.1, x1.2.1, x1.2.2], [B_kinds, B_times]) (((2 * x1.2.2) * x1.1) + (x1.2.1 * x1.2.1)) (2 * x1.2.2) Fa_size Fa_digits Fb_size Fb_digits x4 hx4) ⟨_, _, _, _, rfl, rfl, rfl, by decide +kernel, ⟨Nat.le_of_ble_eq_true rfl, Nat.le_of_ble_eq_true rfl⟩, uGin u_26_3 u_26_4 u_26_5 u_2_17 u_26_6⟩ ⟨rfl, _, _, _, rfl, rfl⟩ ?_
    obtain rfl := Option.some.inj h
    exact r1 false 6 rfl rfl rfl rfl rfl rfl trivial
def bX9_sign : zB := [(0, [(.iload_n 1, 1)], 1, .tableswitch 68 0 2 #[27, 46, 57], 27), (28, [(.aload_n 0, 1), (.getfield 59, 3), (.getfield 210, 3), (.getfield 214, 3)], 38, .ifCond .le 7, 3), (41, [(.iconst 1, 1)], 42, .goto 4, 3), (45, [(.iconst 0, 1)], 46, .nop, 0), (46, [], 46, .ireturn, 1), (47, [(.aload_n 0, 1), (.getfield 59, 3), (.getfield 210, 3), (.getfield 214, 3)], 57, .ireturn, 1), (58, [(.aload_n 0, 1), (.getfield 59, 3), (.getfield 219, 3), (.getfield 214, 3)], 68, .ireturn, 1), (69, [(.bipush (-2), 2)], 71, .ireturn, 1)]
theorem bX9_sign_ok : zBok cX9_sign 2 bX9_sign = true := by decide +kernel
abbrev wX9_sign : List Cond := Cond.code yX9_sign cX9_sign 2 (some .int) :: uU
def rX9_sign : Room := { frames := 0, cells := 0, slots := 0, locals := 0 }
set_option maxRecDepth 20000 in
set_option maxHeartbeats 4000000 in
theorem m_C_X9_sign (l : Launch) (M0 : zM) (M1 : zM) (M2 : zM) (M3 : zM) (M4 : zM) (M5 : zM) (M6 : zM) (M7 : zM) (M8 : zM) (M9 : zM) (M10 : zM) (M11 : zM) (p1 : Int) (Fa_size : Int) (Fa_digits : Nat → Int) (Fb_size : Int) (Fb_digits : Nat → Int) (x : Int) (h : f_X9_sign p1 Fa_size Fb_size = some x) : zD l yX9_sign wX9_sign rX9_sign lamC shpC [(2, Int.ofNat 0), (0, p1)] [M0, M1, M2, M3, M4, M5, M6, M7, M8, M9, M10, M11, ([Fa_size], [Fa_digits]), ([Fb_size], [Fb_digits])] (some (0, x)) [M0, M1, M2, M3, M4, M5, M6, M7, M8, M9, M10, M11, ([Fa_size], [Fa_digits]), ([Fb_size], [Fb_digits])] := by
  refine zD_of (B := bX9_sign) (E := eX9) (by decide) rfl lokC (eX9_ok _) bX9_sign_ok (Or.inl rfl) rfl (fun S R => ?_)
  obtain ⟨rb, rg, ri, rv, rs, r0, r1, r2, r3, rt, rmk⟩ := R
  show S 0 [some (2, Int.ofNat 0), some (0, p1)] [] [M0, M1, M2, M3, M4, M5, M6, M7, M8, M9, M10, M11, ([Fa_size], [Fa_digits]), ([Fb_size], [Fb_digits])]
  unfold f_X9_sign at h
  refine rt false 0 rfl rfl rfl rfl trivial rfl (fun q off hq hv => ?_) (fun ho => ?_)
  · match q, hq with
      | 0, hq =>
        cases hq
        refine ⟨28, rfl, ?_⟩
        replace h := zif1 (by show p1 = 0; have hv : p1 = 0 + 0 := hv; omega) h
        refine ri false 1 (q := (0 : Int) < Fa_size) (t1 := 41) (t2 := 45) rfl rfl trivial (fun c => ?_) (fun c => ?_)
        · replace h := zif1 c h
          refine rg false 2 (t := 46) (st2 := [(0, 1)]) rfl rfl rfl trivial ?_
          obtain rfl := Option.some.inj h
          exact r1 false 4 rfl rfl rfl rfl rfl rfl trivial
        · replace h := zif2 c h
          refine rb false 3 (st2 := [(0, 0)]) rfl rfl trivial ?_
          obtain rfl := Option.some.inj h
          exact r1 false 4 rfl rfl rfl rfl rfl rfl trivial
      | 1, hq =>
        cases hq
        refine ⟨47, rfl, ?_⟩
        replace h := zif2 (by show ¬ p1 = 0; have hv : p1 = 0 + 1 := hv; omega) h
        replace h := zif1 (by show p1 = 1; have hv : p1 = 0 + 1 := hv; omega) h
        obtain rfl := Option.some.inj h
        exact r1 false 5 rfl rfl rfl rfl rfl rfl trivial
      | 2, hq =>
        cases hq
        refine ⟨58, rfl, ?_⟩
        replace h := zif2 (by show ¬ p1 = 0; have hv : p1 = 0 + 2 := hv; omega) h
        replace h := zif2 (by show ¬ p1 = 1; have hv : p1 = 0 + 2 := hv; omega) h
        replace h := zif1 (by show p1 = 2; have hv : p1 = 0 + 2 := hv; omega) h
        obtain rfl := Option.some.inj h
        exact r1 false 6 rfl rfl rfl rfl rfl rfl trivial
      | q + 3, hq => cases hq
  · refine ⟨69, rfl, ?_⟩
    replace h := zif2 (by show ¬ p1 = 0; have ho : p1 < 0 ∨ 2 < p1 := ho; omega) h
    replace h := zif2 (by show ¬ p1 = 1; have ho : p1 < 0 ∨ 2 < p1 := ho; omega) h
    replace h := zif2 (by show ¬ p1 = 2; have ho : p1 < 0 ∨ 2 < p1 := ho; omega) h
    obtain rfl := Option.some.inj h
    exact r1 false 7 rfl rfl rfl rfl rfl rfl trivial
def bX9_limb : zB := [(0, [(.iload_n 1, 1), (.iconst 0, 1), (.iconst 1, 1)], 3, .invokestatic 63, 3), (6, [], 6, .ifCond .eq 7, 3), (9, [(.iload_n 2, 1)], 10, .ifCond .ge 6, 3), (13, [(.bipush (-2), 2)], 15, .ireturn, 1), (16, [(.iload_n 1, 1)], 17, .ifCond .ne 17, 3), (20, [(.aload_n 0, 1), (.getfield 59, 3), (.getfield 210, 3), (.iload_n 2, 1)], 28, .invokevirtual 222, 3), (31, [], 31, .goto 14, 3), (34, [(.aload_n 0, 1), (.getfield 59, 3), (.getfield 219, 3), (.iload_n 2, 1)], 42, .invokevirtual 222, 3), (45, [], 45, .ireturn, 1)]
theorem bX9_limb_ok : zBok cX9_limb 3 bX9_limb = true := by decide +kernel
abbrev wX9_limb : List Cond := Cond.code yX9_limb cX9_limb 3 (some .int) :: uU
def rX9_limb : Room := { frames := 1, cells := 0, slots := 0, locals := 22 }
set_option maxRecDepth 20000 in
set_option maxHeartbeats 4000000 in
theorem m_C_X9_limb (l : Launch) (M0 : zM) (M1 : zM) (M2 : zM) (M3 : zM) (M4 : zM) (M5 : zM) (M6 : zM) (M7 : zM) (M8 : zM) (M9 : zM) (M10 : zM) (M11 : zM) (p1 : Int) (p2 : Int) (Fa_size : Int) (Fa_digits : Nat → Int) (Fb_size : Int) (Fb_digits : Nat → Int) (x : Int) (h : f_X9_limb p1 p2 Fa_size Fa_digits Fb_size Fb_digits = some x) : zD l yX9_limb wX9_limb rX9_limb lamC shpC [(2, Int.ofNat 0), (0, p1), (0, p2)] [M0, M1, M2, M3, M4, M5, M6, M7, M8, M9, M10, M11, ([Fa_size], [Fa_digits]), ([Fb_size], [Fb_digits])] (some (0, x)) [M0, M1, M2, M3, M4, M5, M6, M7, M8, M9, M10, M11, ([Fa_size], [Fa_digits]), ([Fb_size], [Fb_digits])] := by
  refine zD_of (B := bX9_limb) (E := eX9) (by decide) rfl lokC (eX9_ok _) bX9_limb_ok (Or.inl rfl) rfl (fun S R => ?_)
  obtain ⟨rb, rg, ri, rv, rs, r0, r1, r2, r3, rt, rmk⟩ := R
  show S 0 [some (2, Int.ofNat 0), some (0, p1), some (0, p2)] [] [M0, M1, M2, M3, M4, M5, M6, M7, M8, M9, M10, M11, ([Fa_size], [Fa_digits]), ([Fb_size], [Fb_digits])]
  unfold f_X9_limb at h
  obtain ⟨x1, hx1, h⟩ := zbd h
  refine rs false 0 3 rfl rfl trivial rfl (m_C_X9_within l M0 M1 M2 M3 M4 M5 M6 M7 M8 M9 M10 M11 ([Fa_size], [Fa_digits]) ([Fb_size], [Fb_digits]) p1 0 1 x1 hx1) ⟨_, _, _, _, rfl, rfl, rfl, by decide +kernel, ⟨Nat.le_of_ble_eq_true rfl, Nat.le_of_ble_eq_true rfl⟩, uGinS u_8_17 u_8_18 u_1_2 u_8_19⟩ ?_
  refine ri false 1 (q := x1 = 0) (t1 := 13) (t2 := 9) rfl rfl trivial (fun c => ?_) (fun c => ?_)
  · replace h := zif1 c h
    obtain rfl := Option.some.inj h
    exact r1 false 3 rfl rfl rfl rfl rfl rfl trivial
  · replace h := zif2 c h
    refine ri false 2 (q := p2 < 0) (t1 := 13) (t2 := 16) rfl rfl trivial (fun c => ?_) (fun c => ?_)
    · replace h := zif1 c h
      obtain rfl := Option.some.inj h
      exact r1 false 3 rfl rfl rfl rfl rfl rfl trivial
    · replace h := zif2 c h
      refine ri false 4 (q := p1 = 0) (t1 := 20) (t2 := 34) rfl rfl trivial (fun c => ?_) (fun c => ?_)
      · replace h := zif1 c h
        obtain ⟨x2, hx2, h⟩ := zbd h
        refine rv false 5 1 rfl rfl trivial rfl (m_C_X6_digit_53 l M0 M1 M2 M3 M4 M5 M6 M7 M8 M9 M10 M11 ([Fb_size], [Fb_digits]) p2 Fa_size Fa_digits x2 hx2) ⟨_, _, _, _, rfl, rfl, rfl, by decide +kernel, ⟨Nat.le_of_ble_eq_true rfl, Nat.le_of_ble_eq_true rfl⟩, uGin u_39_20 u_39_21 u_39_22 u_4_17 u_39_23⟩ ⟨rfl, _, _, _, rfl, rfl⟩ ?_
        refine rg false 6 (t := 45) (st2 := [(0, x2)]) rfl rfl rfl trivial ?_
        obtain rfl := Option.some.inj h
        exact r1 false 8 rfl rfl rfl rfl rfl rfl trivial
      · replace h := zif2 c h
        obtain ⟨x3, hx3, h⟩ := zbd h
        refine rv false 7 1 rfl rfl trivial rfl (m_C_X6_digit_55 l M0 M1 M2 M3 M4 M5 M6 M7 M8 M9 M10 M11 ([Fa_size], [Fa_digits]) p2 Fb_size Fb_digits x3 hx3) ⟨_, _, _, _, rfl, rfl, rfl, by decide +kernel, ⟨Nat.le_of_ble_eq_true rfl, Nat.le_of_ble_eq_true rfl⟩, uGin u_39_20 u_39_21 u_39_22 u_4_17 u_39_23⟩ ⟨rfl, _, _, _, rfl, rfl⟩ ?_
        obtain rfl := Option.some.inj h
        exact r1 false 8 rfl rfl rfl rfl rfl rfl trivial
def bX9_count : zB := [(0, [(.iload_n 1, 1)], 1, .tableswitch 63 0 3 #[31, 39, 47, 55], 31), (32, [(.aload_n 0, 1), (.getfield 20, 3), (.getfield 67, 3)], 39, .ireturn, 1), (40, [(.aload_n 0, 1), (.getfield 20, 3)], 44, .invokevirtual 225, 3), (47, [], 47, .ireturn, 1), (48, [(.aload_n 0, 1), (.getfield 24, 3), (.getfield 122, 3)], 55, .ireturn, 1), (56, [(.aload_n 0, 1), (.getfield 52, 3), (.getfield 190, 3)], 63, .ireturn, 1), (64, [(.bipush (-2), 2)], 66, .ireturn, 1)]
theorem bX9_count_ok : zBok cX9_count 2 bX9_count = true := by decide +kernel
abbrev wX9_count : List Cond := Cond.code yX9_count cX9_count 2 (some .int) :: uU
def rX9_count : Room := { frames := 1, cells := 0, slots := 0, locals := 22 }
set_option maxRecDepth 20000 in
set_option maxHeartbeats 4000000 in
theorem m_C_X9_count (l : Launch) (M1 : zM) (M3 : zM) (M4 : zM) (M5 : zM) (M6 : zM) (M7 : zM) (M8 : zM) (M9 : zM) (M10 : zM) (M12 : zM) (M13 : zM) (p1 : Int) (L_count : Int) (L_copiedStands : Int) (L_from : Nat → Int) (L_to : Nat → Int) (L_forms : Nat → Int) (L_costs : Nat → Int) (L_copied : Nat → Int) (N_count : Int) (N_lengths : Nat → Int) (N_told : Nat → Int) (N_digits : Nat → Int) (N_slipped : Nat → Int) (N_weights : Nat → Int) (N_ahead : Nat → Int) (N_row : Nat → Int) (B_count : Int) (B_keptAtAll : Int) (B_keptOnce : Int) (B_keptTwice : Int) (B_kinds : Nat → Int) (B_times : Nat → Int) (x : Int) (h : f_X9_count p1 L_count L_forms N_count B_count = some x) : zD l yX9_count wX9_count rX9_count lamC shpC [(2, Int.ofNat 0), (0, p1)] [([L_count, L_copiedStands], [L_from, L_to, L_forms, L_costs, L_copied]), M1, ([N_count], [N_lengths, N_told, N_digits, N_slipped, N_weights, N_ahead, N_row]), M3, M4, M5, M6, M7, M8, M9, M10, ([B_count, B_keptAtAll, B_keptOnce, B_keptTwice], [B_kinds, B_times]), M12, M13] (some (0, x)) [([L_count, L_copiedStands], [L_from, L_to, L_forms, L_costs, L_copied]), M1, ([N_count], [N_lengths, N_told, N_digits, N_slipped, N_weights, N_ahead, N_row]), M3, M4, M5, M6, M7, M8, M9, M10, ([B_count, B_keptAtAll, B_keptOnce, B_keptTwice], [B_kinds, B_times]), M12, M13] := by
  refine zD_of (B := bX9_count) (E := eX9) (by decide) rfl lokC (eX9_ok _) bX9_count_ok (Or.inl rfl) rfl (fun S R => ?_)
  obtain ⟨rb, rg, ri, rv, rs, r0, r1, r2, r3, rt, rmk⟩ := R
  show S 0 [some (2, Int.ofNat 0), some (0, p1)] [] [([L_count, L_copiedStands], [L_from, L_to, L_forms, L_costs, L_copied]), M1, ([N_count], [N_lengths, N_told, N_digits, N_slipped, N_weights, N_ahead, N_row]), M3, M4, M5, M6, M7, M8, M9, M10, ([B_count, B_keptAtAll, B_keptOnce, B_keptTwice], [B_kinds, B_times]), M12, M13]
  unfold f_X9_count at h
  refine rt false 0 rfl rfl rfl rfl trivial rfl (fun q off hq hv => ?_) (fun ho => ?_)
  · match q, hq with
      | 0, hq =>
        cases hq
        refine ⟨32, rfl, ?_⟩
        replace h := zif1 (by show p1 = 0; have hv : p1 = 0 + 0 := hv; omega) h
        obtain rfl := Option.some.inj h
        exact r1 false 1 rfl rfl rfl rfl rfl rfl trivial
      | 1, hq =>
        cases hq
        refine ⟨40, rfl, ?_⟩
        replace h := zif2 (by show ¬ p1 = 0; have hv : p1 = 0 + 1 := hv; omega) h
        replace h := zif1 (by show p1 = 1; have hv : p1 = 0 + 1 := hv; omega) h
        obtain ⟨x1, hx1, h⟩ := zbd h
        refine rv false 2 0 rfl rfl trivial rfl (m_C_X4_sentencesOfAll l M1 ([N_count], [N_lengths, N_told, N_digits, N_slipped, N_weights, N_ahead, N_row]) M3 M4 M5 M6 M7 M8 M9 M10 ([B_count, B_keptAtAll, B_keptOnce, B_keptTwice], [B_kinds, B_times]) M12 M13 L_count L_copiedStands L_from L_to L_forms L_costs L_copied x1 hx1) ⟨_, _, _, _, rfl, rfl, rfl, by decide +kernel, ⟨Nat.le_of_ble_eq_true rfl, Nat.le_of_ble_eq_true rfl⟩, uGin u_40_8 u_40_9 u_40_10 u_3_1 u_40_11⟩ ⟨rfl, _, _, _, rfl, rfl⟩ ?_
        obtain rfl := Option.some.inj h
        exact r1 false 3 rfl rfl rfl rfl rfl rfl trivial
      | 2, hq =>
        cases hq
        refine ⟨48, rfl, ?_⟩
        replace h := zif2 (by show ¬ p1 = 0; have hv : p1 = 0 + 2 := hv; omega) h
        replace h := zif2 (by show ¬ p1 = 1; have hv : p1 = 0 + 2 := hv; omega) h
        replace h := zif1 (by show p1 = 2; have hv : p1 = 0 + 2 := hv; omega) h
        obtain rfl := Option.some.inj h
        exact r1 false 4 rfl rfl rfl rfl rfl rfl trivial
      | 3, hq =>
        cases hq
        refine ⟨56, rfl, ?_⟩
        replace h := zif2 (by show ¬ p1 = 0; have hv : p1 = 0 + 3 := hv; omega) h
        replace h := zif2 (by show ¬ p1 = 1; have hv : p1 = 0 + 3 := hv; omega) h
        replace h := zif2 (by show ¬ p1 = 2; have hv : p1 = 0 + 3 := hv; omega) h
        replace h := zif1 (by show p1 = 3; have hv : p1 = 0 + 3 := hv; omega) h
        obtain rfl := Option.some.inj h
        exact r1 false 5 rfl rfl rfl rfl rfl rfl trivial
      | q + 4, hq => cases hq
  · refine ⟨64, rfl, ?_⟩
    replace h := zif2 (by show ¬ p1 = 0; have ho : p1 < 0 ∨ 3 < p1 := ho; omega) h
    replace h := zif2 (by show ¬ p1 = 1; have ho : p1 < 0 ∨ 3 < p1 := ho; omega) h
    replace h := zif2 (by show ¬ p1 = 2; have ho : p1 < 0 ∨ 3 < p1 := ho; omega) h
    replace h := zif2 (by show ¬ p1 = 3; have ho : p1 < 0 ∨ 3 < p1 := ho; omega) h
    obtain rfl := Option.some.inj h
    exact r1 false 6 rfl rfl rfl rfl rfl rfl trivial
def bX9_digest : zB := [(0, [(.ldc2_w 228, 3), (.lstore_n 1, 1), (.iconst 0, 1), (.istore_n 3, 1)], 6, .nop, 0), (6, [(.iload_n 3, 1), (.iconst 3, 1)], 8, .if_icmp .gt 22, 3), (11, [(.ldc2_w 230, 3), (.lload_n 1, 1), (.lmul, 1), (.aload_n 0, 1), (.iload_n 3, 1)], 18, .invokevirtual 232, 3), (21, [(.i2l, 1), (.ladd, 1), (.lstore_n 1, 1), (.iinc 3 1, 3)], 27, .goto (-21), 3), (30, [(.aload_n 0, 1), (.getfield 20, 3), (.lload_n 1, 1)], 35, .invokevirtual 234, 3), (38, [(.lstore_n 1, 1), (.aload_n 0, 1), (.getfield 24, 3), (.lload_n 1, 1)], 44, .invokevirtual 238, 3), (47, [(.lstore_n 1, 1), (.aload_n 0, 1), (.getfield 31, 3), (.lload_n 1, 1)], 53, .invokevirtual 239, 3), (56, [(.lstore_n 1, 1), (.aload_n 0, 1), (.getfield 38, 3), (.lload_n 1, 1)], 62, .invokevirtual 240, 3), (65, [(.lstore_n 1, 1), (.aload_n 0, 1), (.getfield 45, 3), (.lload_n 1, 1)], 71, .invokevirtual 241, 3), (74, [(.lstore_n 1, 1), (.aload_n 0, 1), (.getfield 52, 3), (.lload_n 1, 1)], 80, .invokevirtual 242, 3), (83, [(.lstore_n 1, 1), (.ldc2_w 230, 3), (.lload_n 1, 1), (.lmul, 1), (.aload_n 0, 1)], 90, .invokevirtual 243, 3), (93, [(.i2l, 1), (.ladd, 1), (.lstore_n 1, 1), (.iconst 0, 1), (.istore_n 3, 1)], 98, .nop, 0), (98, [(.iload_n 3, 1), (.iconst 2, 1)], 100, .if_icmp .gt 22, 3), (103, [(.ldc2_w 230, 3), (.lload_n 1, 1), (.lmul, 1), (.aload_n 0, 1), (.iload_n 3, 1)], 110, .invokevirtual 246, 3), (113, [(.i2l, 1), (.ladd, 1), (.lstore_n 1, 1), (.iinc 3 1, 3)], 119, .goto (-21), 3), (122, [(.aload_n 0, 1), (.getfield 59, 3), (.getfield 210, 3), (.lload_n 1, 1)], 130, .invokevirtual 249, 3), (133, [(.lstore_n 1, 1), (.aload_n 0, 1), (.getfield 59, 3), (.getfield 219, 3), (.lload_n 1, 1)], 142, .invokevirtual 249, 3), (145, [], 145, .lreturn, 1)]
theorem bX9_digest_ok : zBok cX9_digest 4 bX9_digest = true := by decide +kernel
abbrev wX9_digest : List Cond := Cond.code yX9_digest cX9_digest 4 (some .long) :: uU
def rX9_digest : Room := { frames := 5, cells := 0, slots := 0, locals := 120 }
set_option maxRecDepth 20000 in
set_option maxHeartbeats 4000000 in
theorem m_C_X9_digest (l : Launch) (M4 : zM) (M5 : zM) (M6 : zM) (M7 : zM) (M8 : zM) (L_count : Int) (L_copiedStands : Int) (L_from : Nat → Int) (L_to : Nat → Int) (L_forms : Nat → Int) (L_costs : Nat → Int) (L_copied : Nat → Int) (T_cost : Int) (T_priced : Int) (T_settled : Int) (T_quarrel : Int) (T_steps : Nat → Int) (T_pairs : Nat → Int) (T_built : Nat → Int) (T_rest : Nat → Int) (T_beside : Nat → Int) (T_held : Nat → Int) (T_heldPrice : Nat → Int) (T_ways : Nat → Int) (T_early : Nat → Int) (T_late : Nat → Int) (N_count : Int) (N_lengths : Nat → Int) (N_told : Nat → Int) (N_digits : Nat → Int) (N_slipped : Nat → Int) (N_weights : Nat → Int) (N_ahead : Nat → Int) (N_row : Nat → Int) (H_weights : Nat → Int) (A_doing : Nat → Int) (A_asked : Nat → Int) (E_others : Nat → Int) (E_copies : Nat → Int) (E_odds : Nat → Int) (E_often : Nat → Int) (E_days : Nat → Int) (E_times : Nat → Int) (E_next : Nat → Int) (B_count : Int) (B_keptAtAll : Int) (B_keptOnce : Int) (B_keptTwice : Int) (B_kinds : Nat → Int) (B_times : Nat → Int) (Fa_size : Int) (Fa_digits : Nat → Int) (Fb_size : Int) (Fb_digits : Nat → Int) (x : Int × Int × (Nat → Int) × Int × Int × (Nat → Int) × (Nat → Int) × (Nat → Int) × (Nat → Int)) (h : f_X9_digest L_count L_copiedStands L_from L_to L_forms L_costs L_copied T_cost T_priced T_steps T_pairs T_built T_held T_heldPrice N_count N_lengths N_told H_weights A_doing A_asked E_others E_copies E_odds E_often B_count B_kinds Fa_size Fa_digits Fb_size Fb_digits = some x) : zD l yX9_digest wX9_digest rX9_digest lamC shpC [(2, Int.ofNat 0)] [([L_count, L_copiedStands], [L_from, L_to, L_forms, L_costs, L_copied]), ([T_cost, T_priced, T_settled, T_quarrel], [T_steps, T_pairs, T_built, T_rest, T_beside, T_held, T_heldPrice, T_ways, T_early, T_late]), ([N_count], [N_lengths, N_told, N_digits, N_slipped, N_weights, N_ahead, N_row]), ([], [H_weights]), M4, M5, M6, M7, M8, ([], [A_doing, A_asked]), ([], [E_others, E_copies, E_odds, E_often, E_days, E_times, E_next]), ([B_count, B_keptAtAll, B_keptOnce, B_keptTwice], [B_kinds, B_times]), ([Fa_size], [Fa_digits]), ([Fb_size], [Fb_digits])] (some (1, x.1)) [([L_count, x.2.1], [L_from, L_to, L_forms, L_costs, x.2.2.1]), ([x.2.2.2.1, x.2.2.2.2.1, T_settled, T_quarrel], [x.2.2.2.2.2.1, x.2.2.2.2.2.2.1, x.2.2.2.2.2.2.2.1, T_rest, T_beside, x.2.2.2.2.2.2.2.2, T_heldPrice, T_ways, T_early, T_late]), ([N_count], [N_lengths, N_told, N_digits, N_slipped, N_weights, N_ahead, N_row]), ([], [H_weights]), M4, M5, M6, M7, M8, ([], [A_doing, A_asked]), ([], [E_others, E_copies, E_odds, E_often, E_days, E_times, E_next]), ([B_count, B_keptAtAll, B_keptOnce, B_keptTwice], [B_kinds, B_times]), ([Fa_size], [Fa_digits]), ([Fb_size], [Fb_digits])] := by
  refine zD_of (B := bX9_digest) (E := eX9) (by decide) rfl lokC (eX9_ok _) bX9_digest_ok (Or.inl rfl) rfl (fun S R => ?_)
  obtain ⟨rb, rg, ri, rv, rs, r0, r1, r2, r3, rt, rmk⟩ := R
  show S 0 [some (2, Int.ofNat 0), none, none, none] [] [([L_count, L_copiedStands], [L_from, L_to, L_forms, L_costs, L_copied]), ([T_cost, T_priced, T_settled, T_quarrel], [T_steps, T_pairs, T_built, T_rest, T_beside, T_held, T_heldPrice, T_ways, T_early, T_late]), ([N_count], [N_lengths, N_told, N_digits, N_slipped, N_weights, N_ahead, N_row]), ([], [H_weights]), M4, M5, M6, M7, M8, ([], [A_doing, A_asked]), ([], [E_others, E_copies, E_odds, E_often, E_days, E_times, E_next]), ([B_count, B_keptAtAll, B_keptOnce, B_keptTwice], [B_kinds, B_times]), ([Fa_size], [Fa_digits]), ([Fb_size], [Fb_digits])]
  have LP6 : ∀ (n : Nat) (v1 : Int) (v3 : Int) (L_count : Int) (L_copiedStands : Int) (L_from : Nat → Int) (L_to : Nat → Int) (L_forms : Nat → Int) (L_costs : Nat → Int) (L_copied : Nat → Int) (T_cost : Int) (T_priced : Int) (T_settled : Int) (T_quarrel : Int) (T_steps : Nat → Int) (T_pairs : Nat → Int) (T_built : Nat → Int) (T_rest : Nat → Int) (T_beside : Nat → Int) (T_held : Nat → Int) (T_heldPrice : Nat → Int) (T_ways : Nat → Int) (T_early : Nat → Int) (T_late : Nat → Int) (N_count : Int) (N_lengths : Nat → Int) (N_told : Nat → Int) (N_digits : Nat → Int) (N_slipped : Nat → Int) (N_weights : Nat → Int) (N_ahead : Nat → Int) (N_row : Nat → Int) (H_weights : Nat → Int) (A_doing : Nat → Int) (A_asked : Nat → Int) (E_others : Nat → Int) (E_copies : Nat → Int) (E_odds : Nat → Int) (E_often : Nat → Int) (E_days : Nat → Int) (E_times : Nat → Int) (E_next : Nat → Int) (B_count : Int) (B_keptAtAll : Int) (B_keptOnce : Int) (B_keptTwice : Int) (B_kinds : Nat → Int) (B_times : Nat → Int) (Fa_size : Int) (Fa_digits : Nat → Int) (Fb_size : Int) (Fb_digits : Nat → Int) (y : Int), l_X9_digest_6 n v1 v3 L_count L_forms N_count B_count = some y → S 30 [some (2, Int.ofNat 0), some (1, y), none, none] [] [([L_count, L_copiedStands], [L_from, L_to, L_forms, L_costs, L_copied]), ([T_cost, T_priced, T_settled, T_quarrel], [T_steps, T_pairs, T_built, T_rest, T_beside, T_held, T_heldPrice, T_ways, T_early, T_late]), ([N_count], [N_lengths, N_told, N_digits, N_slipped, N_weights, N_ahead, N_row]), ([], [H_weights]), M4, M5, M6, M7, M8, ([], [A_doing, A_asked]), ([], [E_others, E_copies, E_odds, E_often, E_days, E_times, E_next]), ([B_count, B_keptAtAll, B_keptOnce, B_keptTwice], [B_kinds, B_times]), ([Fa_size], [Fa_digits]), ([Fb_size], [Fb_digits])] → S 6 [some (2, Int.ofNat 0), some (1, v1), none, some (0, v3)] [] [([L_count, L_copiedStands], [L_from, L_to, L_forms, L_costs, L_copied]), ([T_cost, T_priced, T_settled, T_quarrel], [T_steps, T_pairs, T_built, T_rest, T_beside, T_held, T_heldPrice, T_ways, T_early, T_late]), ([N_count], [N_lengths, N_told, N_digits, N_slipped, N_weights, N_ahead, N_row]), ([], [H_weights]), M4, M5, M6, M7, M8, ([], [A_doing, A_asked]), ([], [E_others, E_copies, E_odds, E_often, E_days, E_times, E_next]), ([B_count, B_keptAtAll, B_keptOnce, B_keptTwice], [B_kinds, B_times]), ([Fa_size], [Fa_digits]), ([Fb_size], [Fb_digits])] := by
    intro n
    induction n with
    | zero =>
      intro v1 v3 L_count L_copiedStands L_from L_to L_forms L_costs L_copied T_cost T_priced T_settled T_quarrel T_steps T_pairs T_built T_rest T_beside T_held T_heldPrice T_ways T_early T_late N_count N_lengths N_told N_digits N_slipped N_weights N_ahead N_row H_weights A_doing A_asked E_others E_copies E_odds E_often E_days E_times E_next B_count B_keptAtAll B_keptOnce B_keptTwice B_kinds B_times Fa_size Fa_digits Fb_size Fb_digits y h k
      rw [l_X9_digest_6] at h
      cases h
    | succ n ih =>
      intro v1 v3 L_count L_copiedStands L_from L_to L_forms L_costs L_copied T_cost T_priced T_settled T_quarrel T_steps T_pairs T_built T_rest T_beside T_held T_heldPrice T_ways T_early T_late N_count N_lengths N_told N_digits N_slipped N_weights N_ahead N_row H_weights A_doing A_asked E_others E_copies E_odds E_often E_days E_times E_next B_count B_keptAtAll B_keptOnce B_keptTwice B_kinds B_times Fa_size Fa_digits Fb_size Fb_digits y h k
      rw [l_X9_digest_6] at h
      refine ri true 1 (q := (3 : Int) < v3) (t1 := 30) (t2 := 11) rfl rfl trivial (fun c => ?_) (fun c => ?_)
      · replace h := zif1 c h
        refine rmk [true, true, false, false] (L2 := [some (2, Int.ofNat 0), some (1, v1), none, none]) rfl ?_
        obtain rfl := Option.some.inj h
        exact k
      · replace h := zif2 c h
        obtain ⟨x1, hx1, h⟩ := zbd h
        refine rv true 2 1 (rest := [(4, (31 * v1))]) rfl rfl trivial rfl (m_C_X9_count l ([T_cost, T_priced, T_settled, T_quarrel], [T_steps, T_pairs, T_built, T_rest, T_beside, T_held, T_heldPrice, T_ways, T_early, T_late]) ([], [H_weights]) M4 M5 M6 M7 M8 ([], [A_doing, A_asked]) ([], [E_others, E_copies, E_odds, E_often, E_days, E_times, E_next]) ([Fa_size], [Fa_digits]) ([Fb_size], [Fb_digits]) v3 L_count L_copiedStands L_from L_to L_forms L_costs L_copied N_count N_lengths N_told N_digits N_slipped N_weights N_ahead N_row B_count B_keptAtAll B_keptOnce B_keptTwice B_kinds B_times x1 hx1) ⟨_, _, _, _, rfl, rfl, rfl, by decide +kernel, ⟨Nat.le_of_ble_eq_true rfl, Nat.le_of_ble_eq_true rfl⟩, uGin u_41_2 u_40_5 u_40_6 u_1_2 u_40_7⟩ ⟨rfl, _, _, _, rfl, rfl⟩ ?_
        obtain ⟨g2_0, h⟩ := zgd h
        refine rg true 3 (t := 6) (L2 := [some (2, Int.ofNat 0), some (1, (zwl ((31 * v1) + x1))), none, some (0, (v3 + 1))]) rfl rfl rfl g2_0 ?_
        exact ih (zwl ((31 * v1) + x1)) (v3 + 1) L_count L_copiedStands L_from L_to L_forms L_costs L_copied T_cost T_priced T_settled T_quarrel T_steps T_pairs T_built T_rest T_beside T_held T_heldPrice T_ways T_early T_late N_count N_lengths N_told N_digits N_slipped N_weights N_ahead N_row H_weights A_doing A_asked E_others E_copies E_odds E_often E_days E_times E_next B_count B_keptAtAll B_keptOnce B_keptTwice B_kinds B_times Fa_size Fa_digits Fb_size Fb_digits y h k
  have LP98 : ∀ (n : Nat) (v1 : Int) (v3 : Int) (L_count : Int) (L_copiedStands : Int) (L_from : Nat → Int) (L_to : Nat → Int) (L_forms : Nat → Int) (L_costs : Nat → Int) (L_copied : Nat → Int) (T_cost : Int) (T_priced : Int) (T_settled : Int) (T_quarrel : Int) (T_steps : Nat → Int) (T_pairs : Nat → Int) (T_built : Nat → Int) (T_rest : Nat → Int) (T_beside : Nat → Int) (T_held : Nat → Int) (T_heldPrice : Nat → Int) (T_ways : Nat → Int) (T_early : Nat → Int) (T_late : Nat → Int) (N_count : Int) (N_lengths : Nat → Int) (N_told : Nat → Int) (N_digits : Nat → Int) (N_slipped : Nat → Int) (N_weights : Nat → Int) (N_ahead : Nat → Int) (N_row : Nat → Int) (H_weights : Nat → Int) (A_doing : Nat → Int) (A_asked : Nat → Int) (E_others : Nat → Int) (E_copies : Nat → Int) (E_odds : Nat → Int) (E_often : Nat → Int) (E_days : Nat → Int) (E_times : Nat → Int) (E_next : Nat → Int) (B_count : Int) (B_keptAtAll : Int) (B_keptOnce : Int) (B_keptTwice : Int) (B_kinds : Nat → Int) (B_times : Nat → Int) (Fa_size : Int) (Fa_digits : Nat → Int) (Fb_size : Int) (Fb_digits : Nat → Int) (y : Int), l_X9_digest_98 n v1 v3 Fa_size Fb_size = some y → S 122 [some (2, Int.ofNat 0), some (1, y), none, none] [] [([L_count, L_copiedStands], [L_from, L_to, L_forms, L_costs, L_copied]), ([T_cost, T_priced, T_settled, T_quarrel], [T_steps, T_pairs, T_built, T_rest, T_beside, T_held, T_heldPrice, T_ways, T_early, T_late]), ([N_count], [N_lengths, N_told, N_digits, N_slipped, N_weights, N_ahead, N_row]), ([], [H_weights]), M4, M5, M6, M7, M8, ([], [A_doing, A_asked]), ([], [E_others, E_copies, E_odds, E_often, E_days, E_times, E_next]), ([B_count, B_keptAtAll, B_keptOnce, B_keptTwice], [B_kinds, B_times]), ([Fa_size], [Fa_digits]), ([Fb_size], [Fb_digits])] → S 98 [some (2, Int.ofNat 0), some (1, v1), none, some (0, v3)] [] [([L_count, L_copiedStands], [L_from, L_to, L_forms, L_costs, L_copied]), ([T_cost, T_priced, T_settled, T_quarrel], [T_steps, T_pairs, T_built, T_rest, T_beside, T_held, T_heldPrice, T_ways, T_early, T_late]), ([N_count], [N_lengths, N_told, N_digits, N_slipped, N_weights, N_ahead, N_row]), ([], [H_weights]), M4, M5, M6, M7, M8, ([], [A_doing, A_asked]), ([], [E_others, E_copies, E_odds, E_often, E_days, E_times, E_next]), ([B_count, B_keptAtAll, B_keptOnce, B_keptTwice], [B_kinds, B_times]), ([Fa_size], [Fa_digits]), ([Fb_size], [Fb_digits])] := by
    intro n
    induction n with
    | zero =>
      intro v1 v3 L_count L_copiedStands L_from L_to L_forms L_costs L_copied T_cost T_priced T_settled T_quarrel T_steps T_pairs T_built T_rest T_beside T_held T_heldPrice T_ways T_early T_late N_count N_lengths N_told N_digits N_slipped N_weights N_ahead N_row H_weights A_doing A_asked E_others E_copies E_odds E_often E_days E_times E_next B_count B_keptAtAll B_keptOnce B_keptTwice B_kinds B_times Fa_size Fa_digits Fb_size Fb_digits y h k
      rw [l_X9_digest_98] at h
      cases h
    | succ n ih =>
      intro v1 v3 L_count L_copiedStands L_from L_to L_forms L_costs L_copied T_cost T_priced T_settled T_quarrel T_steps T_pairs T_built T_rest T_beside T_held T_heldPrice T_ways T_early T_late N_count N_lengths N_told N_digits N_slipped N_weights N_ahead N_row H_weights A_doing A_asked E_others E_copies E_odds E_often E_days E_times E_next B_count B_keptAtAll B_keptOnce B_keptTwice B_kinds B_times Fa_size Fa_digits Fb_size Fb_digits y h k
      rw [l_X9_digest_98] at h
      refine ri true 12 (q := (2 : Int) < v3) (t1 := 122) (t2 := 103) rfl rfl trivial (fun c => ?_) (fun c => ?_)
      · replace h := zif1 c h
        refine rmk [true, true, false, false] (L2 := [some (2, Int.ofNat 0), some (1, v1), none, none]) rfl ?_
        obtain rfl := Option.some.inj h
        exact k
      · replace h := zif2 c h
        obtain ⟨x11, hx11, h⟩ := zbd h
        refine rv true 13 1 (rest := [(4, (31 * v1))]) rfl rfl trivial rfl (m_C_X9_sign l ([L_count, L_copiedStands], [L_from, L_to, L_forms, L_costs, L_copied]) ([T_cost, T_priced, T_settled, T_quarrel], [T_steps, T_pairs, T_built, T_rest, T_beside, T_held, T_heldPrice, T_ways, T_early, T_late]) ([N_count], [N_lengths, N_told, N_digits, N_slipped, N_weights, N_ahead, N_row]) ([], [H_weights]) M4 M5 M6 M7 M8 ([], [A_doing, A_asked]) ([], [E_others, E_copies, E_odds, E_often, E_days, E_times, E_next]) ([B_count, B_keptAtAll, B_keptOnce, B_keptTwice], [B_kinds, B_times]) v3 Fa_size Fa_digits Fb_size Fb_digits x11 hx11) ⟨_, _, _, _, rfl, rfl, rfl, by decide +kernel, ⟨Nat.le_of_ble_eq_true rfl, Nat.le_of_ble_eq_true rfl⟩, uGin u_42_10 u_39_6 u_39_7 u_1_2 u_39_8⟩ ⟨rfl, _, _, _, rfl, rfl⟩ ?_
        obtain ⟨g12_0, h⟩ := zgd h
        refine rg true 14 (t := 98) (L2 := [some (2, Int.ofNat 0), some (1, (zwl ((31 * v1) + x11))), none, some (0, (v3 + 1))]) rfl rfl rfl g12_0 ?_
        exact ih (zwl ((31 * v1) + x11)) (v3 + 1) L_count L_copiedStands L_from L_to L_forms L_costs L_copied T_cost T_priced T_settled T_quarrel T_steps T_pairs T_built T_rest T_beside T_held T_heldPrice T_ways T_early T_late N_count N_lengths N_told N_digits N_slipped N_weights N_ahead N_row H_weights A_doing A_asked E_others E_copies E_odds E_often E_days E_times E_next B_count B_keptAtAll B_keptOnce B_keptTwice B_kinds B_times Fa_size Fa_digits Fb_size Fb_digits y h k
  unfold f_X9_digest at h
  refine rb true 0 (L2 := [some (2, Int.ofNat 0), some (1, 457), none, some (0, 0)]) rfl rfl trivial ?_
  obtain ⟨x3, hx3, h⟩ := zbd h
  refine LP6 zN 457 0 L_count L_copiedStands L_from L_to L_forms L_costs L_copied T_cost T_priced T_settled T_quarrel T_steps T_pairs T_built T_rest T_beside T_held T_heldPrice T_ways T_early T_late N_count N_lengths N_told N_digits N_slipped N_weights N_ahead N_row H_weights A_doing A_asked E_others E_copies E_odds E_often E_days E_times E_next B_count B_keptAtAll B_keptOnce B_keptTwice B_kinds B_times Fa_size Fa_digits Fb_size Fb_digits x3 hx3 ?_
  obtain ⟨x4, hx4, h⟩ := zbd h
  refine rv true 4 1 rfl rfl trivial rfl (m_C_X4_foldInto l ([T_cost, T_priced, T_settled, T_quarrel], [T_steps, T_pairs, T_built, T_rest, T_beside, T_held, T_heldPrice, T_ways, T_early, T_late]) ([N_count], [N_lengths, N_told, N_digits, N_slipped, N_weights, N_ahead, N_row]) ([], [H_weights]) M4 M5 M6 M7 M8 ([], [A_doing, A_asked]) ([], [E_others, E_copies, E_odds, E_often, E_days, E_times, E_next]) ([B_count, B_keptAtAll, B_keptOnce, B_keptTwice], [B_kinds, B_times]) ([Fa_size], [Fa_digits]) ([Fb_size], [Fb_digits]) x3 L_count L_copiedStands L_from L_to L_forms L_costs L_copied x4 hx4) ⟨_, _, _, _, rfl, rfl, rfl, by decide +kernel, ⟨Nat.le_of_ble_eq_true rfl, Nat.le_of_ble_eq_true rfl⟩, uGin u_41_3 u_41_4 u_41_5 u_3_1 u_41_6⟩ ⟨rfl, _, _, _, rfl, rfl⟩ ?_
  obtain ⟨x5, hx5, h⟩ := zbd h
  refine rv true 5 1 (L2 := [some (2, Int.ofNat 0), some (1, x4), none, none]) rfl rfl trivial rfl (m_C_X5_foldInto l ([L_count, L_copiedStands], [L_from, L_to, L_forms, L_costs, L_copied]) ([T_cost, T_priced, T_settled, T_quarrel], [T_steps, T_pairs, T_built, T_rest, T_beside, T_held, T_heldPrice, T_ways, T_early, T_late]) ([], [H_weights]) M4 M5 M6 M7 M8 ([], [A_doing, A_asked]) ([], [E_others, E_copies, E_odds, E_often, E_days, E_times, E_next]) ([B_count, B_keptAtAll, B_keptOnce, B_keptTwice], [B_kinds, B_times]) ([Fa_size], [Fa_digits]) ([Fb_size], [Fb_digits]) x4 N_count N_lengths N_told N_digits N_slipped N_weights N_ahead N_row x5 hx5) ⟨_, _, _, _, rfl, rfl, rfl, by decide +kernel, ⟨Nat.le_of_ble_eq_true rfl, Nat.le_of_ble_eq_true rfl⟩, uGin u_41_8 u_41_9 u_41_10 u_1_21 u_41_11⟩ ⟨rfl, _, _, _, rfl, rfl⟩ ?_
  obtain ⟨x6, hx6, h⟩ := zbd h
  refine rv true 6 1 (L2 := [some (2, Int.ofNat 0), some (1, x5), none, none]) rfl rfl trivial rfl (m_C_X3_foldInto l ([L_count, L_copiedStands], [L_from, L_to, L_forms, L_costs, L_copied]) ([T_cost, T_priced, T_settled, T_quarrel], [T_steps, T_pairs, T_built, T_rest, T_beside, T_held, T_heldPrice, T_ways, T_early, T_late]) ([N_count], [N_lengths, N_told, N_digits, N_slipped, N_weights, N_ahead, N_row]) M4 M5 M6 M7 M8 ([], [A_doing, A_asked]) ([], [E_others, E_copies, E_odds, E_often, E_days, E_times, E_next]) ([B_count, B_keptAtAll, B_keptOnce, B_keptTwice], [B_kinds, B_times]) ([Fa_size], [Fa_digits]) ([Fb_size], [Fb_digits]) x5 H_weights x6 hx6) ⟨_, _, _, _, rfl, rfl, rfl, by decide +kernel, ⟨Nat.le_of_ble_eq_true rfl, Nat.le_of_ble_eq_true rfl⟩, uGin u_41_13 u_41_14 u_41_15 u_2_1 u_41_16⟩ ⟨rfl, _, _, _, rfl, rfl⟩ ?_
  obtain ⟨x7, hx7, h⟩ := zbd h
  refine rv true 7 1 (L2 := [some (2, Int.ofNat 0), some (1, x6), none, none]) rfl rfl trivial rfl (m_C_X0_foldInto l ([L_count, L_copiedStands], [L_from, L_to, L_forms, L_costs, L_copied]) ([T_cost, T_priced, T_settled, T_quarrel], [T_steps, T_pairs, T_built, T_rest, T_beside, T_held, T_heldPrice, T_ways, T_early, T_late]) ([N_count], [N_lengths, N_told, N_digits, N_slipped, N_weights, N_ahead, N_row]) ([], [H_weights]) M4 M5 M6 M7 M8 ([], [E_others, E_copies, E_odds, E_often, E_days, E_times, E_next]) ([B_count, B_keptAtAll, B_keptOnce, B_keptTwice], [B_kinds, B_times]) ([Fa_size], [Fa_digits]) ([Fb_size], [Fb_digits]) x6 A_doing A_asked x7 hx7) ⟨_, _, _, _, rfl, rfl, rfl, by decide +kernel, ⟨Nat.le_of_ble_eq_true rfl, Nat.le_of_ble_eq_true rfl⟩, uGin u_41_18 u_41_19 u_41_20 u_2_5 u_41_21⟩ ⟨rfl, _, _, _, rfl, rfl⟩ ?_
  obtain ⟨x8, hx8, h⟩ := zbd h
  refine rv true 8 1 (L2 := [some (2, Int.ofNat 0), some (1, x7), none, none]) rfl rfl trivial rfl (m_C_X7_foldInto l ([L_count, L_copiedStands], [L_from, L_to, L_forms, L_costs, L_copied]) ([T_cost, T_priced, T_settled, T_quarrel], [T_steps, T_pairs, T_built, T_rest, T_beside, T_held, T_heldPrice, T_ways, T_early, T_late]) ([N_count], [N_lengths, N_told, N_digits, N_slipped, N_weights, N_ahead, N_row]) ([], [H_weights]) M4 M5 M6 M7 M8 ([], [A_doing, A_asked]) ([B_count, B_keptAtAll, B_keptOnce, B_keptTwice], [B_kinds, B_times]) ([Fa_size], [Fa_digits]) ([Fb_size], [Fb_digits]) x7 E_others E_copies E_odds E_often E_days E_times E_next x8 hx8) ⟨_, _, _, _, rfl, rfl, rfl, by decide +kernel, ⟨Nat.le_of_ble_eq_true rfl, Nat.le_of_ble_eq_true rfl⟩, uGin u_41_23 u_42_0 u_42_1 u_2_9 u_42_2⟩ ⟨rfl, _, _, _, rfl, rfl⟩ ?_
  obtain ⟨x9, hx9, h⟩ := zbd h
  refine rv true 9 1 (L2 := [some (2, Int.ofNat 0), some (1, x8), none, none]) rfl rfl trivial rfl (m_C_X1_foldInto l ([L_count, L_copiedStands], [L_from, L_to, L_forms, L_costs, L_copied]) ([T_cost, T_priced, T_settled, T_quarrel], [T_steps, T_pairs, T_built, T_rest, T_beside, T_held, T_heldPrice, T_ways, T_early, T_late]) ([N_count], [N_lengths, N_told, N_digits, N_slipped, N_weights, N_ahead, N_row]) ([], [H_weights]) M4 M5 M6 M7 M8 ([], [A_doing, A_asked]) ([], [E_others, E_copies, E_odds, E_often, E_days, E_times, E_next]) ([Fa_size], [Fa_digits]) ([Fb_size], [Fb_digits]) x8 B_count B_keptAtAll B_keptOnce B_keptTwice B_kinds B_times x9 hx9) ⟨_, _, _, _, rfl, rfl, rfl, by decide +kernel, ⟨Nat.le_of_ble_eq_true rfl, Nat.le_of_ble_eq_true rfl⟩, uGin u_42_4 u_42_5 u_42_6 u_2_13 u_42_7⟩ ⟨rfl, _, _, _, rfl, rfl⟩ ?_
  obtain ⟨x10, hx10, h⟩ := zbd h
  refine rv true 10 0 (L2 := [some (2, Int.ofNat 0), some (1, x9), none, none]) (rest := [(4, (31 * x9))]) rfl rfl trivial rfl (m_C_X9_least l ([N_count], [N_lengths, N_told, N_digits, N_slipped, N_weights, N_ahead, N_row]) ([], [H_weights]) M4 M5 M6 M7 M8 ([], [A_doing, A_asked]) ([], [E_others, E_copies, E_odds, E_often, E_days, E_times, E_next]) ([B_count, B_keptAtAll, B_keptOnce, B_keptTwice], [B_kinds, B_times]) ([Fa_size], [Fa_digits]) ([Fb_size], [Fb_digits]) L_count L_copiedStands L_from L_to L_forms L_costs L_copied T_cost T_priced T_settled T_quarrel T_steps T_pairs T_built T_rest T_beside T_held T_heldPrice T_ways T_early T_late x10 hx10) ⟨_, _, _, _, rfl, rfl, rfl, by decide +kernel, ⟨Nat.le_of_ble_eq_true rfl, Nat.le_of_ble_eq_true rfl⟩, uGin u_42_9 u_14_5 u_14_6 u_1_2 u_14_7⟩ ⟨rfl, _, _, _, rfl, rfl⟩ ?_
  refine rb true 11 (L2 := [some (2, Int.ofNat 0), some (1, (zwl ((31 * x9) + x10.1))), none, some (0, 0)]) rfl rfl trivial ?_
  obtain ⟨x13, hx13, h⟩ := zbd h
  refine LP98 zN (zwl ((31 * x9) + x10.1)) 0 L_count x10.2.1 L_from L_to L_forms L_costs x10.2.2.1 x10.2.2.2.1 x10.2.2.2.2.1 T_settled T_quarrel x10.2.2.2.2.2.1 x10.2.2.2.2.2.2.1 x10.2.2.2.2.2.2.2.1 T_rest T_beside x10.2.2.2.2.2.2.2.2 T_heldPrice T_ways T_early T_late N_count N_lengths N_told N_digits N_slipped N_weights N_ahead N_row H_weights A_doing A_asked E_others E_copies E_odds E_often E_days E_times E_next B_count B_keptAtAll B_keptOnce B_keptTwice B_kinds B_times Fa_size Fa_digits Fb_size Fb_digits x13 hx13 ?_
  obtain ⟨x14, hx14, h⟩ := zbd h
  refine rv true 15 1 rfl rfl trivial rfl (m_C_X6_foldInto_53 l ([L_count, x10.2.1], [L_from, L_to, L_forms, L_costs, x10.2.2.1]) ([x10.2.2.2.1, x10.2.2.2.2.1, T_settled, T_quarrel], [x10.2.2.2.2.2.1, x10.2.2.2.2.2.2.1, x10.2.2.2.2.2.2.2.1, T_rest, T_beside, x10.2.2.2.2.2.2.2.2, T_heldPrice, T_ways, T_early, T_late]) ([N_count], [N_lengths, N_told, N_digits, N_slipped, N_weights, N_ahead, N_row]) ([], [H_weights]) M4 M5 M6 M7 M8 ([], [A_doing, A_asked]) ([], [E_others, E_copies, E_odds, E_often, E_days, E_times, E_next]) ([B_count, B_keptAtAll, B_keptOnce, B_keptTwice], [B_kinds, B_times]) ([Fb_size], [Fb_digits]) x13 Fa_size Fa_digits x14 hx14) ⟨_, _, _, _, rfl, rfl, rfl, by decide +kernel, ⟨Nat.le_of_ble_eq_true rfl, Nat.le_of_ble_eq_true rfl⟩, uGin u_42_11 u_42_12 u_42_13 u_4_17 u_42_14⟩ ⟨rfl, _, _, _, rfl, rfl⟩ ?_
  obtain ⟨x15, hx15, h⟩ := zbd h
  refine rv true 16 1 (L2 := [some (2, Int.ofNat 0), some (1, x14), none, none]) rfl rfl trivial rfl (m_C_X6_foldInto_55 l ([L_count, x10.2.1], [L_from, L_to, L_forms, L_costs, x10.2.2.1]) ([x10.2.2.2.1, x10.2.2.2.2.1, T_settled, T_quarrel], [x10.2.2.2.2.2.1, x10.2.2.2.2.2.2.1, x10.2.2.2.2.2.2.2.1, T_rest, T_beside, x10.2.2.2.2.2.2.2.2, T_heldPrice, T_ways, T_early, T_late]) ([N_count], [N_lengths, N_told, N_digits, N_slipped, N_weights, N_ahead, N_row]) ([], [H_weights]) M4 M5 M6 M7 M8 ([], [A_doing, A_asked]) ([], [E_others, E_copies, E_odds, E_often, E_days, E_times, E_next]) ([B_count, B_keptAtAll, B_keptOnce, B_keptTwice], [B_kinds, B_times]) ([Fa_size], [Fa_digits]) x14 Fb_size Fb_digits x15 hx15) ⟨_, _, _, _, rfl, rfl, rfl, by decide +kernel, ⟨Nat.le_of_ble_eq_true rfl, Nat.le_of_ble_eq_true rfl⟩, uGin u_42_11 u_42_12 u_42_13 u_4_17 u_42_14⟩ ⟨rfl, _, _, _, rfl, rfl⟩ ?_
  obtain rfl := Option.some.inj h
  exact r3 true 17 rfl rfl rfl rfl rfl rfl trivial
