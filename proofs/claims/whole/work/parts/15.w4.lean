def bX4_add : zB := [(0, [(.aload_n 0, 1), (.getfield 27, 3), (.bipush 8, 2)], 6, .if_icmp .lt 6, 3), (9, [(.bipush (-4), 2)], 11, .ireturn, 1), (12, [(.aload_n 0, 1), (.getfield 11, 3), (.aload_n 0, 1), (.getfield 27, 3), (.iload_n 1, 1), (.iastore, 1), (.aload_n 0, 1), (.getfield 15, 3), (.aload_n 0, 1), (.getfield 27, 3), (.iload_n 2, 1), (.iastore, 1)], 32, .nop, 0), (32, [(.iconst 0, 1), (.istore_n 3, 1)], 34, .nop, 0), (34, [(.iload_n 3, 1), (.bipush 8, 2)], 37, .if_icmp .ge 24, 3), (40, [(.aload_n 0, 1), (.getfield 18, 3), (.aload_n 0, 1), (.getfield 27, 3), (.bipush 8, 2), (.imul, 1), (.iload_n 3, 1), (.iadd, 1), (.iconst (-1), 1), (.iastore, 1)], 55, .nop, 0), (55, [(.iinc 3 1, 3)], 58, .goto (-24), 3), (61, [(.aload_n 0, 1), (.iconst 0, 1), (.putfield 31, 3), (.aload_n 0, 1), (.dup, 1), (.getfield 27, 3), (.iconst 1, 1), (.iadd, 1), (.putfield 27, 3)], 76, .nop, 0), (76, [(.aload_n 0, 1), (.getfield 27, 3), (.iconst 1, 1), (.isub, 1)], 82, .ireturn, 1)]
theorem bX4_add_ok : zBok cX4_add 4 bX4_add = true := by decide +kernel
abbrev wX4_add : List Cond := Cond.code yX4_add cX4_add 4 (some .int) :: uU
def rX4_add : Room := { frames := 0, cells := 0, slots := 0, locals := 0 }
set_option maxRecDepth 20000 in
set_option maxHeartbeats 4000000 in
theorem m_C_X4_add (l : Launch) (M1 : zM) (M2 : zM) (M3 : zM) (M4 : zM) (M5 : zM) (M6 : zM) (M7 : zM) (M8 : zM) (M9 : zM) (M10 : zM) (M11 : zM) (M12 : zM) (M13 : zM) (p1 : Int) (p2 : Int) (L_count : Int) (L_copiedStands : Int) (L_from : Nat → Int) (L_to : Nat → Int) (L_forms : Nat → Int) (L_costs : Nat → Int) (L_copied : Nat → Int) (x : Int × Int × Int × (Nat → Int) × (Nat → Int) × (Nat → Int)) (h : f_X4_add p1 p2 L_count L_copiedStands L_from L_to L_forms = some x) : zD l yX4_add wX4_add rX4_add lamC shpC [(2, Int.ofNat 2), (0, p1), (0, p2)] [([L_count, L_copiedStands], [L_from, L_to, L_forms, L_costs, L_copied]), M1, M2, M3, M4, M5, M6, M7, M8, M9, M10, M11, M12, M13] (some (0, x.1)) [([x.2.1, x.2.2.1], [x.2.2.2.1, x.2.2.2.2.1, x.2.2.2.2.2, L_costs, L_copied]), M1, M2, M3, M4, M5, M6, M7, M8, M9, M10, M11, M12, M13] := by
  refine zD_of (B := bX4_add) (E := eX4) (by decide) rfl lokC (eX4_ok _) bX4_add_ok (Or.inl rfl) rfl (fun S R => ?_)
  obtain ⟨rb, rg, ri, rv, rs, r0, r1, r2, r3, rt, rmk⟩ := R
  show S 0 [some (2, Int.ofNat 2), some (0, p1), some (0, p2), none] [] [([L_count, L_copiedStands], [L_from, L_to, L_forms, L_costs, L_copied]), M1, M2, M3, M4, M5, M6, M7, M8, M9, M10, M11, M12, M13]
  have LP34 : ∀ (n : Nat) (v3 : Int) (L_count : Int) (L_copiedStands : Int) (L_from : Nat → Int) (L_to : Nat → Int) (L_forms : Nat → Int) (L_costs : Nat → Int) (L_copied : Nat → Int) (y : Nat → Int), l_X4_add_34 n v3 L_count L_forms = some y → S 61 [some (2, Int.ofNat 2), none, none, none] [] [([L_count, L_copiedStands], [L_from, L_to, y, L_costs, L_copied]), M1, M2, M3, M4, M5, M6, M7, M8, M9, M10, M11, M12, M13] → S 34 [some (2, Int.ofNat 2), none, none, some (0, v3)] [] [([L_count, L_copiedStands], [L_from, L_to, L_forms, L_costs, L_copied]), M1, M2, M3, M4, M5, M6, M7, M8, M9, M10, M11, M12, M13] := by
    intro n
    induction n with
    | zero =>
      intro v3 L_count L_copiedStands L_from L_to L_forms L_costs L_copied y h k
      rw [l_X4_add_34] at h
      cases h
    | succ n ih =>
      intro v3 L_count L_copiedStands L_from L_to L_forms L_costs L_copied y h k
      rw [l_X4_add_34] at h
      refine ri false 4 (q := v3 < 8) (t1 := 40) (t2 := 61) rfl rfl trivial (fun c => ?_) (fun c => ?_)
      · replace h := zif1 c h
        obtain ⟨g2_0, h⟩ := zgd h
        refine rb false 5 (σ2 := [([L_count, L_copiedStands], [L_from, L_to, (zu L_forms (Int.toNat ((L_count * 8) + v3)) (-1)), L_costs, L_copied]), M1, M2, M3, M4, M5, M6, M7, M8, M9, M10, M11, M12, M13]) rfl rfl g2_0 ?_
        obtain ⟨g3_0, h⟩ := zgd h
        refine rg false 6 (t := 34) (L2 := [some (2, Int.ofNat 2), none, none, some (0, (v3 + 1))]) rfl rfl rfl g3_0 ?_
        exact ih (v3 + 1) L_count L_copiedStands L_from L_to (zu L_forms (Int.toNat ((L_count * 8) + v3)) (-1)) L_costs L_copied y h k
      · replace h := zif2 c h
        refine rmk [true, false, false, false] (L2 := [some (2, Int.ofNat 2), none, none, none]) rfl ?_
        obtain rfl := Option.some.inj h
        exact k
  unfold f_X4_add at h
  refine ri false 0 (q := L_count < 8) (t1 := 12) (t2 := 9) rfl rfl trivial (fun c => ?_) (fun c => ?_)
  · replace h := zif1 c h
    obtain ⟨⟨g1_0, g1_1⟩, h⟩ := zgd h
    refine rb false 2 (σ2 := [([L_count, L_copiedStands], [(zu L_from (Int.toNat L_count) p1), (zu L_to (Int.toNat L_count) p2), L_forms, L_costs, L_copied]), M1, M2, M3, M4, M5, M6, M7, M8, M9, M10, M11, M12, M13]) rfl rfl (And.intro g1_0 g1_1) ?_
    refine rb false 3 (L2 := [some (2, Int.ofNat 2), some (0, p1), some (0, p2), some (0, 0)]) rfl rfl trivial ?_
    refine rmk [true, false, false, true] (L2 := [some (2, Int.ofNat 2), none, none, some (0, 0)]) rfl ?_
    obtain ⟨x4, hx4, h⟩ := zbd h
    refine LP34 zN 0 L_count L_copiedStands (zu L_from (Int.toNat L_count) p1) (zu L_to (Int.toNat L_count) p2) L_forms L_costs L_copied x4 hx4 ?_
    obtain ⟨g5_0, h⟩ := zgd h
    refine rb false 7 (σ2 := [([(L_count + 1), 0], [(zu L_from (Int.toNat L_count) p1), (zu L_to (Int.toNat L_count) p2), x4, L_costs, L_copied]), M1, M2, M3, M4, M5, M6, M7, M8, M9, M10, M11, M12, M13]) rfl rfl (And.intro (show zbit 0 by decide) g5_0) ?_
    obtain ⟨g6_0, h⟩ := zgd h
    obtain rfl := Option.some.inj h
    exact r1 false 8 rfl rfl rfl rfl rfl rfl g6_0
  · replace h := zif2 c h
    obtain rfl := Option.some.inj h
    exact r1 false 1 rfl rfl rfl rfl rfl rfl trivial
def bX4_has : zB := [(0, [(.iload_n 1, 1)], 1, .ifCond .lt 15, 3), (4, [(.iload_n 1, 1), (.aload_n 0, 1), (.getfield 27, 3)], 9, .if_icmp .ge 7, 3), (12, [(.iconst 1, 1)], 13, .goto 4, 3), (16, [(.iconst 0, 1)], 17, .nop, 0), (17, [], 17, .ireturn, 1)]
theorem bX4_has_ok : zBok cX4_has 2 bX4_has = true := by decide +kernel
abbrev wX4_has : List Cond := Cond.code yX4_has cX4_has 2 (some .boolean) :: uU
def rX4_has : Room := { frames := 0, cells := 0, slots := 0, locals := 0 }
set_option maxRecDepth 20000 in
set_option maxHeartbeats 4000000 in
theorem m_C_X4_has (l : Launch) (M1 : zM) (M2 : zM) (M3 : zM) (M4 : zM) (M5 : zM) (M6 : zM) (M7 : zM) (M8 : zM) (M9 : zM) (M10 : zM) (M11 : zM) (M12 : zM) (M13 : zM) (p1 : Int) (L_count : Int) (L_copiedStands : Int) (L_from : Nat → Int) (L_to : Nat → Int) (L_forms : Nat → Int) (L_costs : Nat → Int) (L_copied : Nat → Int) (x : Int) (h : f_X4_has p1 L_count = some x) : zD l yX4_has wX4_has rX4_has lamC shpC [(2, Int.ofNat 2), (0, p1)] [([L_count, L_copiedStands], [L_from, L_to, L_forms, L_costs, L_copied]), M1, M2, M3, M4, M5, M6, M7, M8, M9, M10, M11, M12, M13] (some (0, x)) [([L_count, L_copiedStands], [L_from, L_to, L_forms, L_costs, L_copied]), M1, M2, M3, M4, M5, M6, M7, M8, M9, M10, M11, M12, M13] := by
  refine zD_of (B := bX4_has) (E := eX4) (by decide) rfl lokC (eX4_ok _) bX4_has_ok (Or.inl rfl) rfl (fun S R => ?_)
  obtain ⟨rb, rg, ri, rv, rs, r0, r1, r2, r3, rt, rmk⟩ := R
  show S 0 [some (2, Int.ofNat 2), some (0, p1)] [] [([L_count, L_copiedStands], [L_from, L_to, L_forms, L_costs, L_copied]), M1, M2, M3, M4, M5, M6, M7, M8, M9, M10, M11, M12, M13]
  unfold f_X4_has at h
  refine ri false 0 (q := p1 < 0) (t1 := 16) (t2 := 4) rfl rfl trivial (fun c => ?_) (fun c => ?_)
  · replace h := zif1 c h
    refine rb false 3 (st2 := [(0, 0)]) rfl rfl trivial ?_
    obtain rfl := Option.some.inj h
    exact r2 false 4 rfl rfl rfl rfl trivial (by decide)
  · replace h := zif2 c h
    refine ri false 1 (q := p1 < L_count) (t1 := 12) (t2 := 16) rfl rfl trivial (fun c => ?_) (fun c => ?_)
    · replace h := zif1 c h
      refine rg false 2 (t := 17) (st2 := [(0, 1)]) rfl rfl rfl trivial ?_
      obtain rfl := Option.some.inj h
      exact r2 false 4 rfl rfl rfl rfl trivial (by decide)
    · replace h := zif2 c h
      refine rb false 3 (st2 := [(0, 0)]) rfl rfl trivial ?_
      obtain rfl := Option.some.inj h
      exact r2 false 4 rfl rfl rfl rfl trivial (by decide)
def bX4_tellForm : zB := [(0, [(.aload_n 0, 1), (.getfield 18, 3), (.iload_n 1, 1), (.bipush 8, 2), (.imul, 1), (.iload_n 2, 1), (.iadd, 1), (.iaload, 1), (.istore 4, 2)], 13, .nop, 0), (13, [(.aload_n 0, 1), (.getfield 18, 3), (.iload_n 1, 1), (.bipush 8, 2), (.imul, 1), (.iload_n 2, 1), (.iadd, 1), (.iload_n 3, 1), (.iastore, 1)], 25, .nop, 0), (25, [(.aload_n 0, 1), (.iconst 0, 1), (.putfield 31, 3), (.iload 4, 2)], 32, .ireturn, 1)]
theorem bX4_tellForm_ok : zBok cX4_tellForm 5 bX4_tellForm = true := by decide +kernel
abbrev wX4_tellForm : List Cond := Cond.code yX4_tellForm cX4_tellForm 5 (some .int) :: uU
def rX4_tellForm : Room := { frames := 0, cells := 0, slots := 0, locals := 0 }
set_option maxRecDepth 20000 in
set_option maxHeartbeats 4000000 in
theorem m_C_X4_tellForm (l : Launch) (M1 : zM) (M2 : zM) (M3 : zM) (M4 : zM) (M5 : zM) (M6 : zM) (M7 : zM) (M8 : zM) (M9 : zM) (M10 : zM) (M11 : zM) (M12 : zM) (M13 : zM) (p1 : Int) (p2 : Int) (p3 : Int) (L_count : Int) (L_copiedStands : Int) (L_from : Nat → Int) (L_to : Nat → Int) (L_forms : Nat → Int) (L_costs : Nat → Int) (L_copied : Nat → Int) (x : Int × Int × (Nat → Int)) (h : f_X4_tellForm p1 p2 p3 L_copiedStands L_forms = some x) : zD l yX4_tellForm wX4_tellForm rX4_tellForm lamC shpC [(2, Int.ofNat 2), (0, p1), (0, p2), (0, p3)] [([L_count, L_copiedStands], [L_from, L_to, L_forms, L_costs, L_copied]), M1, M2, M3, M4, M5, M6, M7, M8, M9, M10, M11, M12, M13] (some (0, x.1)) [([L_count, x.2.1], [L_from, L_to, x.2.2, L_costs, L_copied]), M1, M2, M3, M4, M5, M6, M7, M8, M9, M10, M11, M12, M13] := by
  refine zD_of (B := bX4_tellForm) (E := eX4) (by decide) rfl lokC (eX4_ok _) bX4_tellForm_ok (Or.inl rfl) rfl (fun S R => ?_)
  obtain ⟨rb, rg, ri, rv, rs, r0, r1, r2, r3, rt, rmk⟩ := R
  show S 0 [some (2, Int.ofNat 2), some (0, p1), some (0, p2), some (0, p3), none] [] [([L_count, L_copiedStands], [L_from, L_to, L_forms, L_costs, L_copied]), M1, M2, M3, M4, M5, M6, M7, M8, M9, M10, M11, M12, M13]
  unfold f_X4_tellForm at h
  obtain ⟨g1_0, h⟩ := zgd h
  refine rb false 0 (L2 := [some (2, Int.ofNat 2), some (0, p1), some (0, p2), some (0, p3), some (0, (L_forms (Int.toNat ((p1 * 8) + p2))))]) rfl rfl g1_0 ?_
  obtain ⟨g2_0, h⟩ := zgd h
  refine rb false 1 (σ2 := [([L_count, L_copiedStands], [L_from, L_to, (zu L_forms (Int.toNat ((p1 * 8) + p2)) p3), L_costs, L_copied]), M1, M2, M3, M4, M5, M6, M7, M8, M9, M10, M11, M12, M13]) rfl rfl g2_0 ?_
  obtain rfl := Option.some.inj h
  exact r1 false 2 rfl rfl rfl rfl rfl rfl (show zbit 0 by decide)
def bX4_tellCost : zB := [(0, [(.aload_n 0, 1), (.getfield 21, 3), (.iload_n 1, 1), (.iaload, 1), (.istore_n 3, 1), (.aload_n 0, 1), (.getfield 21, 3), (.iload_n 1, 1), (.iload_n 2, 1), (.iastore, 1)], 14, .nop, 0), (14, [(.aload_n 0, 1), (.iconst 0, 1), (.putfield 31, 3), (.iload_n 3, 1)], 20, .ireturn, 1)]
theorem bX4_tellCost_ok : zBok cX4_tellCost 4 bX4_tellCost = true := by decide +kernel
abbrev wX4_tellCost : List Cond := Cond.code yX4_tellCost cX4_tellCost 4 (some .int) :: uU
def rX4_tellCost : Room := { frames := 0, cells := 0, slots := 0, locals := 0 }
set_option maxRecDepth 20000 in
set_option maxHeartbeats 4000000 in
theorem m_C_X4_tellCost (l : Launch) (M1 : zM) (M2 : zM) (M3 : zM) (M4 : zM) (M5 : zM) (M6 : zM) (M7 : zM) (M8 : zM) (M9 : zM) (M10 : zM) (M11 : zM) (M12 : zM) (M13 : zM) (p1 : Int) (p2 : Int) (L_count : Int) (L_copiedStands : Int) (L_from : Nat → Int) (L_to : Nat → Int) (L_forms : Nat → Int) (L_costs : Nat → Int) (L_copied : Nat → Int) (x : Int × Int × (Nat → Int)) (h : f_X4_tellCost p1 p2 L_copiedStands L_costs = some x) : zD l yX4_tellCost wX4_tellCost rX4_tellCost lamC shpC [(2, Int.ofNat 2), (0, p1), (0, p2)] [([L_count, L_copiedStands], [L_from, L_to, L_forms, L_costs, L_copied]), M1, M2, M3, M4, M5, M6, M7, M8, M9, M10, M11, M12, M13] (some (0, x.1)) [([L_count, x.2.1], [L_from, L_to, L_forms, x.2.2, L_copied]), M1, M2, M3, M4, M5, M6, M7, M8, M9, M10, M11, M12, M13] := by
  refine zD_of (B := bX4_tellCost) (E := eX4) (by decide) rfl lokC (eX4_ok _) bX4_tellCost_ok (Or.inl rfl) rfl (fun S R => ?_)
  obtain ⟨rb, rg, ri, rv, rs, r0, r1, r2, r3, rt, rmk⟩ := R
  show S 0 [some (2, Int.ofNat 2), some (0, p1), some (0, p2), none] [] [([L_count, L_copiedStands], [L_from, L_to, L_forms, L_costs, L_copied]), M1, M2, M3, M4, M5, M6, M7, M8, M9, M10, M11, M12, M13]
  unfold f_X4_tellCost at h
  obtain ⟨⟨g1_0, g1_1⟩, h⟩ := zgd h
  refine rb false 0 (L2 := [some (2, Int.ofNat 2), some (0, p1), some (0, p2), some (0, (L_costs (Int.toNat p1)))]) (σ2 := [([L_count, L_copiedStands], [L_from, L_to, L_forms, (zu L_costs (Int.toNat p1) p2), L_copied]), M1, M2, M3, M4, M5, M6, M7, M8, M9, M10, M11, M12, M13]) rfl rfl (And.intro g1_0 g1_1) ?_
  obtain rfl := Option.some.inj h
  exact r1 false 1 rfl rfl rfl rfl rfl rfl (show zbit 0 by decide)
def bX4_isOther : zB := [(0, [(.iload_n 2, 1), (.iload_n 1, 1)], 2, .if_icmp .eq 19, 3), (5, [(.iload_n 2, 1)], 6, .ifCond .lt 15, 3), (9, [(.iload_n 2, 1), (.aload_n 0, 1), (.getfield 27, 3)], 14, .if_icmp .ge 7, 3), (17, [(.iconst 1, 1)], 18, .goto 4, 3), (21, [(.iconst 0, 1)], 22, .nop, 0), (22, [], 22, .ireturn, 1)]
theorem bX4_isOther_ok : zBok cX4_isOther 3 bX4_isOther = true := by decide +kernel
abbrev wX4_isOther : List Cond := Cond.code yX4_isOther cX4_isOther 3 (some .boolean) :: uU
def rX4_isOther : Room := { frames := 0, cells := 0, slots := 0, locals := 0 }
set_option maxRecDepth 20000 in
set_option maxHeartbeats 4000000 in
theorem m_C_X4_isOther (l : Launch) (M1 : zM) (M2 : zM) (M3 : zM) (M4 : zM) (M5 : zM) (M6 : zM) (M7 : zM) (M8 : zM) (M9 : zM) (M10 : zM) (M11 : zM) (M12 : zM) (M13 : zM) (p1 : Int) (p2 : Int) (L_count : Int) (L_copiedStands : Int) (L_from : Nat → Int) (L_to : Nat → Int) (L_forms : Nat → Int) (L_costs : Nat → Int) (L_copied : Nat → Int) (x : Int) (h : f_X4_isOther p1 p2 L_count = some x) : zD l yX4_isOther wX4_isOther rX4_isOther lamC shpC [(2, Int.ofNat 2), (0, p1), (0, p2)] [([L_count, L_copiedStands], [L_from, L_to, L_forms, L_costs, L_copied]), M1, M2, M3, M4, M5, M6, M7, M8, M9, M10, M11, M12, M13] (some (0, x)) [([L_count, L_copiedStands], [L_from, L_to, L_forms, L_costs, L_copied]), M1, M2, M3, M4, M5, M6, M7, M8, M9, M10, M11, M12, M13] := by
  refine zD_of (B := bX4_isOther) (E := eX4) (by decide) rfl lokC (eX4_ok _) bX4_isOther_ok (Or.inl rfl) rfl (fun S R => ?_)
  obtain ⟨rb, rg, ri, rv, rs, r0, r1, r2, r3, rt, rmk⟩ := R
  show S 0 [some (2, Int.ofNat 2), some (0, p1), some (0, p2)] [] [([L_count, L_copiedStands], [L_from, L_to, L_forms, L_costs, L_copied]), M1, M2, M3, M4, M5, M6, M7, M8, M9, M10, M11, M12, M13]
  unfold f_X4_isOther at h
  refine ri false 0 (q := p2 = p1) (t1 := 21) (t2 := 5) rfl rfl trivial (fun c => ?_) (fun c => ?_)
  · replace h := zif1 c h
    refine rb false 4 (st2 := [(0, 0)]) rfl rfl trivial ?_
    obtain rfl := Option.some.inj h
    exact r2 false 5 rfl rfl rfl rfl trivial (by decide)
  · replace h := zif2 c h
    refine ri false 1 (q := p2 < 0) (t1 := 21) (t2 := 9) rfl rfl trivial (fun c => ?_) (fun c => ?_)
    · replace h := zif1 c h
      refine rb false 4 (st2 := [(0, 0)]) rfl rfl trivial ?_
      obtain rfl := Option.some.inj h
      exact r2 false 5 rfl rfl rfl rfl trivial (by decide)
    · replace h := zif2 c h
      refine ri false 2 (q := p2 < L_count) (t1 := 17) (t2 := 21) rfl rfl trivial (fun c => ?_) (fun c => ?_)
      · replace h := zif1 c h
        refine rg false 3 (t := 22) (st2 := [(0, 1)]) rfl rfl rfl trivial ?_
        obtain rfl := Option.some.inj h
        exact r2 false 5 rfl rfl rfl rfl trivial (by decide)
      · replace h := zif2 c h
        refine rb false 4 (st2 := [(0, 0)]) rfl rfl trivial ?_
        obtain rfl := Option.some.inj h
        exact r2 false 5 rfl rfl rfl rfl trivial (by decide)
def bX4_sources : zB := [(0, [(.aload_n 0, 1), (.iload_n 1, 1)], 2, .invokevirtual 35, 3), (5, [], 5, .ifCond .eq 14, 3), (8, [(.iload_n 2, 1)], 9, .ifCond .lt 10, 3), (12, [(.iload_n 2, 1), (.sipush 532, 3)], 16, .if_icmp .lt 5, 3), (19, [(.iconst (-1), 1)], 20, .ireturn, 1), (21, [(.iload_n 2, 1)], 22, .ifCond .ne 5, 3), (25, [(.iconst 0, 1)], 26, .ireturn, 1), (27, [(.iload_n 2, 1), (.bipush 8, 2)], 30, .if_icmp .gt 24, 3), (33, [(.aload_n 0, 1), (.iload_n 1, 1), (.iload_n 2, 1), (.iconst 1, 1), (.isub, 1)], 38, .invokevirtual 39, 3), (41, [], 41, .ifCond .eq 11, 3), (44, [(.iconst 1, 1), (.iload_n 2, 1), (.iconst 1, 1), (.isub, 1), (.ishl, 1)], 49, .goto 4, 3), (52, [(.iconst (-1), 1)], 53, .nop, 0), (53, [], 53, .ireturn, 1), (54, [(.iload_n 2, 1), (.bipush 20, 2)], 57, .if_icmp .ge 5, 3), (60, [(.iconst (-1), 1)], 61, .ireturn, 1), (62, [(.iload_n 2, 1), (.bipush 20, 2), (.isub, 1), (.bipush 6, 2), (.ishr, 1), (.istore_n 3, 1), (.iload_n 2, 1), (.bipush 20, 2), (.isub, 1), (.iconst 3, 1), (.ishr, 1), (.bipush 7, 2), (.iand, 1), (.istore 4, 2)], 81, .nop, 0), (81, [(.iload_n 2, 1), (.bipush 20, 2), (.isub, 1), (.bipush 7, 2), (.iand, 1), (.istore 5, 2), (.iload 5, 2)], 92, .ifCond .eq 28, 3), (95, [(.iload_n 3, 1), (.iload 4, 2)], 98, .if_icmp .eq 22, 3), (101, [(.aload_n 0, 1), (.iload_n 1, 1), (.iload_n 3, 1)], 104, .invokevirtual 39, 3), (107, [], 107, .ifCond .eq 13, 3), (110, [(.aload_n 0, 1), (.iload_n 1, 1), (.iload 4, 2)], 114, .invokevirtual 39, 3), (117, [], 117, .ifCond .ne 5, 3), (120, [(.iconst (-1), 1)], 121, .ireturn, 1), (122, [(.iconst 1, 1), (.iload_n 3, 1), (.ishl, 1), (.iconst 1, 1), (.iload 4, 2), (.ishl, 1), (.ior, 1)], 130, .ireturn, 1)]
theorem bX4_sources_ok : zBok cX4_sources 6 bX4_sources = true := by decide +kernel
abbrev wX4_sources : List Cond := Cond.code yX4_sources cX4_sources 6 (some .int) :: uU
def rX4_sources : Room := { frames := 1, cells := 0, slots := 0, locals := 22 }
set_option maxRecDepth 20000 in
set_option maxHeartbeats 4000000 in
theorem m_C_X4_sources (l : Launch) (M1 : zM) (M2 : zM) (M3 : zM) (M4 : zM) (M5 : zM) (M6 : zM) (M7 : zM) (M8 : zM) (M9 : zM) (M10 : zM) (M11 : zM) (M12 : zM) (M13 : zM) (p1 : Int) (p2 : Int) (L_count : Int) (L_copiedStands : Int) (L_from : Nat → Int) (L_to : Nat → Int) (L_forms : Nat → Int) (L_costs : Nat → Int) (L_copied : Nat → Int) (x : Int) (h : f_X4_sources p1 p2 L_count = some x) : zD l yX4_sources wX4_sources rX4_sources lamC shpC [(2, Int.ofNat 2), (0, p1), (0, p2)] [([L_count, L_copiedStands], [L_from, L_to, L_forms, L_costs, L_copied]), M1, M2, M3, M4, M5, M6, M7, M8, M9, M10, M11, M12, M13] (some (0, x)) [([L_count, L_copiedStands], [L_from, L_to, L_forms, L_costs, L_copied]), M1, M2, M3, M4, M5, M6, M7, M8, M9, M10, M11, M12, M13] := by
  refine zD_of (B := bX4_sources) (E := eX4) (by decide) rfl lokC (eX4_ok _) bX4_sources_ok (Or.inl rfl) rfl (fun S R => ?_)
  obtain ⟨rb, rg, ri, rv, rs, r0, r1, r2, r3, rt, rmk⟩ := R
  show S 0 [some (2, Int.ofNat 2), some (0, p1), some (0, p2), none, none, none] [] [([L_count, L_copiedStands], [L_from, L_to, L_forms, L_costs, L_copied]), M1, M2, M3, M4, M5, M6, M7, M8, M9, M10, M11, M12, M13]
  unfold f_X4_sources at h
  obtain ⟨x1, hx1, h⟩ := zbd h
  refine rv false 0 1 rfl rfl trivial rfl (m_C_X4_has l M1 M2 M3 M4 M5 M6 M7 M8 M9 M10 M11 M12 M13 p1 L_count L_copiedStands L_from L_to L_forms L_costs L_copied x1 hx1) ⟨_, _, _, _, rfl, rfl, rfl, by decide +kernel, ⟨Nat.le_of_ble_eq_true rfl, Nat.le_of_ble_eq_true rfl⟩, uGin u_11_13 u_9_22 u_9_23 u_3_1 u_10_0⟩ ⟨rfl, _, _, _, rfl, rfl⟩ ?_
  refine ri false 1 (q := x1 = 0) (t1 := 19) (t2 := 8) rfl rfl trivial (fun c => ?_) (fun c => ?_)
  · replace h := zif1 c h
    obtain rfl := Option.some.inj h
    exact r1 false 4 rfl rfl rfl rfl rfl rfl trivial
  · replace h := zif2 c h
    refine ri false 2 (q := p2 < 0) (t1 := 19) (t2 := 12) rfl rfl trivial (fun c => ?_) (fun c => ?_)
    · replace h := zif1 c h
      obtain rfl := Option.some.inj h
      exact r1 false 4 rfl rfl rfl rfl rfl rfl trivial
    · replace h := zif2 c h
      refine ri false 3 (q := p2 < 532) (t1 := 21) (t2 := 19) rfl rfl trivial (fun c => ?_) (fun c => ?_)
      · replace h := zif1 c h
        refine ri false 5 (q := p2 = 0) (t1 := 25) (t2 := 27) rfl rfl trivial (fun c => ?_) (fun c => ?_)
        · replace h := zif1 c h
          obtain rfl := Option.some.inj h
          exact r1 false 6 rfl rfl rfl rfl rfl rfl trivial
        · replace h := zif2 c h
          refine ri false 7 (q := (8 : Int) < p2) (t1 := 54) (t2 := 33) rfl rfl trivial (fun c => ?_) (fun c => ?_)
          · replace h := zif1 c h
            refine ri false 13 (q := p2 < 20) (t1 := 60) (t2 := 62) rfl rfl trivial (fun c => ?_) (fun c => ?_)
            · replace h := zif1 c h
              obtain rfl := Option.some.inj h
              exact r1 false 14 rfl rfl rfl rfl rfl rfl trivial
            · replace h := zif2 c h
              refine rb false 15 (L2 := [some (2, Int.ofNat 2), some (0, p1), some (0, p2), some (0, (zshr (p2 - 20) 6)), some (0, (zand (zshr (p2 - 20) 3) 7)), none]) rfl rfl trivial ?_
              refine ri false 16 (q := (zand (p2 - 20) 7) = 0) (t1 := 120) (t2 := 95) (L2 := [some (2, Int.ofNat 2), some (0, p1), some (0, p2), some (0, (zshr (p2 - 20) 6)), some (0, (zand (zshr (p2 - 20) 3) 7)), some (0, (zand (p2 - 20) 7))]) rfl rfl trivial (fun c => ?_) (fun c => ?_)
              · replace h := zif1 c h
                obtain rfl := Option.some.inj h
                exact r1 false 22 rfl rfl rfl rfl rfl rfl trivial
              · replace h := zif2 c h
                refine ri false 17 (q := (zshr (p2 - 20) 6) = (zand (zshr (p2 - 20) 3) 7)) (t1 := 120) (t2 := 101) rfl rfl trivial (fun c => ?_) (fun c => ?_)
                · replace h := zif1 c h
                  obtain rfl := Option.some.inj h
                  exact r1 false 22 rfl rfl rfl rfl rfl rfl trivial
                · replace h := zif2 c h
                  obtain ⟨x2, hx2, h⟩ := zbd h
                  refine rv false 18 2 rfl rfl trivial rfl (m_C_X4_isOther l M1 M2 M3 M4 M5 M6 M7 M8 M9 M10 M11 M12 M13 p1 (zshr (p2 - 20) 6) L_count L_copiedStands L_from L_to L_forms L_costs L_copied x2 hx2) ⟨_, _, _, _, rfl, rfl, rfl, by decide +kernel, ⟨Nat.le_of_ble_eq_true rfl, Nat.le_of_ble_eq_true rfl⟩, uGin u_11_14 u_11_15 u_11_16 u_3_1 u_11_17⟩ ⟨rfl, _, _, _, rfl, rfl⟩ ?_
                  refine ri false 19 (q := x2 = 0) (t1 := 120) (t2 := 110) rfl rfl trivial (fun c => ?_) (fun c => ?_)
                  · replace h := zif1 c h
                    obtain rfl := Option.some.inj h
                    exact r1 false 22 rfl rfl rfl rfl rfl rfl trivial
                  · replace h := zif2 c h
                    obtain ⟨x3, hx3, h⟩ := zbd h
                    refine rv false 20 2 rfl rfl trivial rfl (m_C_X4_isOther l M1 M2 M3 M4 M5 M6 M7 M8 M9 M10 M11 M12 M13 p1 (zand (zshr (p2 - 20) 3) 7) L_count L_copiedStands L_from L_to L_forms L_costs L_copied x3 hx3) ⟨_, _, _, _, rfl, rfl, rfl, by decide +kernel, ⟨Nat.le_of_ble_eq_true rfl, Nat.le_of_ble_eq_true rfl⟩, uGin u_11_14 u_11_15 u_11_16 u_3_1 u_11_17⟩ ⟨rfl, _, _, _, rfl, rfl⟩ ?_
                    refine ri false 21 (q := x3 = 0) (t1 := 120) (t2 := 122) rfl rfl trivial (fun c => ?_) (fun c => ?_)
                    · replace h := zif1 c h
                      obtain rfl := Option.some.inj h
                      exact r1 false 22 rfl rfl rfl rfl rfl rfl trivial
                    · replace h := zif2 c h
                      obtain rfl := Option.some.inj h
                      exact r1 false 23 rfl rfl rfl rfl rfl rfl trivial
          · replace h := zif2 c h
            obtain ⟨g5_0, h⟩ := zgd h
            obtain ⟨x4, hx4, h⟩ := zbd h
            refine rv false 8 2 rfl rfl g5_0 rfl (m_C_X4_isOther l M1 M2 M3 M4 M5 M6 M7 M8 M9 M10 M11 M12 M13 p1 (p2 - 1) L_count L_copiedStands L_from L_to L_forms L_costs L_copied x4 hx4) ⟨_, _, _, _, rfl, rfl, rfl, by decide +kernel, ⟨Nat.le_of_ble_eq_true rfl, Nat.le_of_ble_eq_true rfl⟩, uGin u_11_14 u_11_15 u_11_16 u_3_1 u_11_17⟩ ⟨rfl, _, _, _, rfl, rfl⟩ ?_
            refine ri false 9 (q := x4 = 0) (t1 := 52) (t2 := 44) rfl rfl trivial (fun c => ?_) (fun c => ?_)
            · replace h := zif1 c h
              refine rb false 11 (st2 := [(0, (-1))]) rfl rfl trivial ?_
              obtain rfl := Option.some.inj h
              exact r1 false 12 rfl rfl rfl rfl rfl rfl trivial
            · replace h := zif2 c h
              refine rg false 10 (t := 53) (st2 := [(0, (zshl 1 (p2 - 1)))]) rfl rfl rfl trivial ?_
              obtain rfl := Option.some.inj h
              exact r1 false 12 rfl rfl rfl rfl rfl rfl trivial
      · replace h := zif2 c h
        obtain rfl := Option.some.inj h
        exact r1 false 4 rfl rfl rfl rfl rfl rfl trivial
def bX4_costOfSentence : zB := [(0, [(.iload_n 1, 1), (.iload_n 2, 1)], 2, .if_icmp .ne 5, 3), (5, [(.iconst 0, 1)], 6, .ireturn, 1), (7, [(.iload_n 1, 1), (.iconst (-1), 1)], 9, .if_icmp .ne 10, 3), (12, [(.aload_n 0, 1), (.getfield 21, 3), (.iconst 0, 1), (.iaload, 1)], 18, .ireturn, 1), (19, [(.iload_n 2, 1), (.iconst (-1), 1)], 21, .if_icmp .ne 12, 3), (24, [(.aload_n 0, 1), (.getfield 21, 3), (.iconst 2, 1), (.iaload, 1)], 30, .goto 9, 3), (33, [(.aload_n 0, 1), (.getfield 21, 3), (.iconst 1, 1), (.iaload, 1)], 39, .nop, 0), (39, [], 39, .ireturn, 1)]
theorem bX4_costOfSentence_ok : zBok cX4_costOfSentence 3 bX4_costOfSentence = true := by decide +kernel
abbrev wX4_costOfSentence : List Cond := Cond.code yX4_costOfSentence cX4_costOfSentence 3 (some .int) :: uU
def rX4_costOfSentence : Room := { frames := 0, cells := 0, slots := 0, locals := 0 }
set_option maxRecDepth 20000 in
set_option maxHeartbeats 4000000 in
theorem m_C_X4_costOfSentence (l : Launch) (M1 : zM) (M2 : zM) (M3 : zM) (M4 : zM) (M5 : zM) (M6 : zM) (M7 : zM) (M8 : zM) (M9 : zM) (M10 : zM) (M11 : zM) (M12 : zM) (M13 : zM) (p1 : Int) (p2 : Int) (L_count : Int) (L_copiedStands : Int) (L_from : Nat → Int) (L_to : Nat → Int) (L_forms : Nat → Int) (L_costs : Nat → Int) (L_copied : Nat → Int) (x : Int) (h : f_X4_costOfSentence p1 p2 L_costs = some x) : zD l yX4_costOfSentence wX4_costOfSentence rX4_costOfSentence lamC shpC [(2, Int.ofNat 2), (0, p1), (0, p2)] [([L_count, L_copiedStands], [L_from, L_to, L_forms, L_costs, L_copied]), M1, M2, M3, M4, M5, M6, M7, M8, M9, M10, M11, M12, M13] (some (0, x)) [([L_count, L_copiedStands], [L_from, L_to, L_forms, L_costs, L_copied]), M1, M2, M3, M4, M5, M6, M7, M8, M9, M10, M11, M12, M13] := by
  refine zD_of (B := bX4_costOfSentence) (E := eX4) (by decide) rfl lokC (eX4_ok _) bX4_costOfSentence_ok (Or.inl rfl) rfl (fun S R => ?_)
  obtain ⟨rb, rg, ri, rv, rs, r0, r1, r2, r3, rt, rmk⟩ := R
  show S 0 [some (2, Int.ofNat 2), some (0, p1), some (0, p2)] [] [([L_count, L_copiedStands], [L_from, L_to, L_forms, L_costs, L_copied]), M1, M2, M3, M4, M5, M6, M7, M8, M9, M10, M11, M12, M13]
  unfold f_X4_costOfSentence at h
  refine ri false 0 (q := p1 = p2) (t1 := 5) (t2 := 7) rfl rfl trivial (fun c => ?_) (fun c => ?_)
  · replace h := zif1 c h
    obtain rfl := Option.some.inj h
    exact r1 false 1 rfl rfl rfl rfl rfl rfl trivial
  · replace h := zif2 c h
    refine ri false 2 (q := p1 = (-1)) (t1 := 12) (t2 := 19) rfl rfl trivial (fun c => ?_) (fun c => ?_)
    · replace h := zif1 c h
      obtain rfl := Option.some.inj h
      exact r1 false 3 rfl rfl rfl rfl rfl rfl (show zin 0 5 by decide)
    · replace h := zif2 c h
      refine ri false 4 (q := p2 = (-1)) (t1 := 24) (t2 := 33) rfl rfl trivial (fun c => ?_) (fun c => ?_)
      · replace h := zif1 c h
        refine rg false 5 (t := 39) (st2 := [(0, (L_costs (Int.toNat 2)))]) rfl rfl rfl (show zin 2 5 by decide) ?_
        obtain rfl := Option.some.inj h
        exact r1 false 7 rfl rfl rfl rfl rfl rfl trivial
      · replace h := zif2 c h
        refine rb false 6 (st2 := [(0, (L_costs (Int.toNat 1)))]) rfl rfl (show zin 1 5 by decide) ?_
        obtain rfl := Option.some.inj h
        exact r1 false 7 rfl rfl rfl rfl rfl rfl trivial
def bX4_sumUp : zB := [(0, [(.iload_n 1, 1), (.bipush 8, 2), (.imul, 1), (.iload_n 2, 1), (.iadd, 1), (.bipush 9, 2), (.imul, 1), (.istore_n 3, 1), (.iconst 0, 1), (.istore 4, 2)], 13, .nop, 0), (13, [(.iconst 0, 1), (.istore 5, 2)], 16, .nop, 0), (16, [(.iload 5, 2), (.bipush 8, 2)], 20, .if_icmp .ge 53, 3), (23, [(.aload_n 0, 1), (.getfield 24, 3), (.iload_n 3, 1), (.iload 5, 2), (.iadd, 1), (.iload 4, 2), (.iastore, 1), (.iload 4, 2), (.aload_n 0, 1), (.aload_n 0, 1), (.getfield 18, 3), (.iload_n 1, 1), (.bipush 8, 2), (.imul, 1), (.iload 5, 2), (.iadd, 1), (.iaload, 1), (.aload_n 0, 1), (.getfield 18, 3), (.iload_n 2, 1), (.bipush 8, 2), (.imul, 1), (.iload 5, 2), (.iadd, 1), (.iaload, 1)], 61, .invokevirtual 59, 3), (64, [(.iadd, 1), (.istore 4, 2), (.iinc 5 1, 3)], 70, .goto (-54), 3), (73, [(.aload_n 0, 1), (.getfield 24, 3), (.iload_n 3, 1), (.bipush 8, 2), (.iadd, 1), (.iload 4, 2), (.iastore, 1)], 84, .return_, 1)]
theorem bX4_sumUp_ok : zBok cX4_sumUp 6 bX4_sumUp = true := by decide +kernel
abbrev wX4_sumUp : List Cond := Cond.code yX4_sumUp cX4_sumUp 6 none :: uU
def rX4_sumUp : Room := { frames := 1, cells := 0, slots := 0, locals := 22 }
set_option maxRecDepth 20000 in
set_option maxHeartbeats 4000000 in
theorem m_C_X4_sumUp (l : Launch) (M1 : zM) (M2 : zM) (M3 : zM) (M4 : zM) (M5 : zM) (M6 : zM) (M7 : zM) (M8 : zM) (M9 : zM) (M10 : zM) (M11 : zM) (M12 : zM) (M13 : zM) (p1 : Int) (p2 : Int) (L_count : Int) (L_copiedStands : Int) (L_from : Nat → Int) (L_to : Nat → Int) (L_forms : Nat → Int) (L_costs : Nat → Int) (L_copied : Nat → Int) (x : Nat → Int) (h : f_X4_sumUp p1 p2 L_forms L_costs L_copied = some x) : zD l yX4_sumUp wX4_sumUp rX4_sumUp lamC shpC [(2, Int.ofNat 2), (0, p1), (0, p2)] [([L_count, L_copiedStands], [L_from, L_to, L_forms, L_costs, L_copied]), M1, M2, M3, M4, M5, M6, M7, M8, M9, M10, M11, M12, M13] (none) [([L_count, L_copiedStands], [L_from, L_to, L_forms, L_costs, x]), M1, M2, M3, M4, M5, M6, M7, M8, M9, M10, M11, M12, M13] := by
  refine zD_of (B := bX4_sumUp) (E := eX4) (by decide) rfl lokC (eX4_ok _) bX4_sumUp_ok (Or.inl rfl) rfl (fun S R => ?_)
  obtain ⟨rb, rg, ri, rv, rs, r0, r1, r2, r3, rt, rmk⟩ := R
  show S 0 [some (2, Int.ofNat 2), some (0, p1), some (0, p2), none, none, none] [] [([L_count, L_copiedStands], [L_from, L_to, L_forms, L_costs, L_copied]), M1, M2, M3, M4, M5, M6, M7, M8, M9, M10, M11, M12, M13]
  have LP16 : ∀ (n : Nat) (v1 : Int) (v2 : Int) (v3 : Int) (v4 : Int) (v5 : Int) (L_count : Int) (L_copiedStands : Int) (L_from : Nat → Int) (L_to : Nat → Int) (L_forms : Nat → Int) (L_costs : Nat → Int) (L_copied : Nat → Int) (y : Int × (Nat → Int)), l_X4_sumUp_16 n v1 v2 v3 v4 v5 L_forms L_costs L_copied = some y → S 73 [some (2, Int.ofNat 2), none, none, some (0, v3), some (0, y.1), none] [] [([L_count, L_copiedStands], [L_from, L_to, L_forms, L_costs, y.2]), M1, M2, M3, M4, M5, M6, M7, M8, M9, M10, M11, M12, M13] → S 16 [some (2, Int.ofNat 2), some (0, v1), some (0, v2), some (0, v3), some (0, v4), some (0, v5)] [] [([L_count, L_copiedStands], [L_from, L_to, L_forms, L_costs, L_copied]), M1, M2, M3, M4, M5, M6, M7, M8, M9, M10, M11, M12, M13] := by
    intro n
    induction n with
    | zero =>
      intro v1 v2 v3 v4 v5 L_count L_copiedStands L_from L_to L_forms L_costs L_copied y h k
      rw [l_X4_sumUp_16] at h
      cases h
    | succ n ih =>
      intro v1 v2 v3 v4 v5 L_count L_copiedStands L_from L_to L_forms L_costs L_copied y h k
      rw [l_X4_sumUp_16] at h
      refine ri false 2 (q := v5 < 8) (t1 := 23) (t2 := 73) rfl rfl trivial (fun c => ?_) (fun c => ?_)
      · replace h := zif1 c h
        obtain ⟨⟨g3_0, g3_1, g3_2⟩, h⟩ := zgd h
        obtain ⟨x2, hx2, h⟩ := zbd h
        refine rv false 3 2 (σ2 := [([L_count, L_copiedStands], [L_from, L_to, L_forms, L_costs, (zu L_copied (Int.toNat (v3 + v5)) v4)]), M1, M2, M3, M4, M5, M6, M7, M8, M9, M10, M11, M12, M13]) (rest := [(0, v4)]) rfl rfl (And.intro g3_0 (And.intro g3_1 g3_2)) rfl (m_C_X4_costOfSentence l M1 M2 M3 M4 M5 M6 M7 M8 M9 M10 M11 M12 M13 (L_forms (Int.toNat ((v1 * 8) + v5))) (L_forms (Int.toNat ((v2 * 8) + v5))) L_count L_copiedStands L_from L_to L_forms L_costs (zu L_copied (Int.toNat (v3 + v5)) v4) x2 hx2) ⟨_, _, _, _, rfl, rfl, rfl, by decide +kernel, ⟨Nat.le_of_ble_eq_true rfl, Nat.le_of_ble_eq_true rfl⟩, uGin u_12_2 u_12_3 u_12_4 u_3_1 u_12_5⟩ ⟨rfl, _, _, _, rfl, rfl⟩ ?_
        obtain ⟨⟨g4_0, g4_1⟩, h⟩ := zgd h
        refine rg false 4 (t := 16) (L2 := [some (2, Int.ofNat 2), some (0, v1), some (0, v2), some (0, v3), some (0, (v4 + x2)), some (0, (v5 + 1))]) rfl rfl rfl (And.intro g4_0 g4_1) ?_
        exact ih v1 v2 v3 (v4 + x2) (v5 + 1) L_count L_copiedStands L_from L_to L_forms L_costs (zu L_copied (Int.toNat (v3 + v5)) v4) y h k
      · replace h := zif2 c h
        refine rmk [true, false, false, true, true, false] (L2 := [some (2, Int.ofNat 2), none, none, some (0, v3), some (0, v4), none]) rfl ?_
        obtain rfl := Option.some.inj h
        exact k
  unfold f_X4_sumUp at h
  obtain ⟨g1_0, h⟩ := zgd h
  refine rb false 0 (L2 := [some (2, Int.ofNat 2), some (0, p1), some (0, p2), some (0, (((p1 * 8) + p2) * 9)), some (0, 0), none]) rfl rfl g1_0 ?_
  refine rb false 1 (L2 := [some (2, Int.ofNat 2), some (0, p1), some (0, p2), some (0, (((p1 * 8) + p2) * 9)), some (0, 0), some (0, 0)]) rfl rfl trivial ?_
  obtain ⟨x5, hx5, h⟩ := zbd h
  refine LP16 zN p1 p2 (((p1 * 8) + p2) * 9) 0 0 L_count L_copiedStands L_from L_to L_forms L_costs L_copied x5 hx5 ?_
  obtain ⟨g6_0, h⟩ := zgd h
  obtain rfl := Option.some.inj h
  exact r0 false 5 rfl rfl rfl rfl g6_0
def bX4_refresh : zB := [(0, [(.aload_n 0, 1), (.getfield 31, 3)], 4, .ifCond .eq 4, 3), (7, [], 7, .return_, 1), (8, [(.iconst 0, 1), (.istore_n 1, 1)], 10, .nop, 0), (10, [(.iload_n 1, 1), (.aload_n 0, 1), (.getfield 27, 3)], 15, .if_icmp .ge 31, 3), (18, [(.iconst 0, 1), (.istore_n 2, 1)], 20, .nop, 0), (20, [(.iload_n 2, 1), (.aload_n 0, 1), (.getfield 27, 3)], 25, .if_icmp .ge 15, 3), (28, [(.aload_n 0, 1), (.iload_n 1, 1), (.iload_n 2, 1)], 31, .invokevirtual 55, 3), (34, [(.iinc 2 1, 3)], 37, .goto (-17), 3), (40, [(.iinc 1 1, 3)], 43, .goto (-33), 3), (46, [(.aload_n 0, 1), (.iconst 1, 1), (.putfield 31, 3)], 51, .return_, 1)]
theorem bX4_refresh_ok : zBok cX4_refresh 3 bX4_refresh = true := by decide +kernel
abbrev wX4_refresh : List Cond := Cond.code yX4_refresh cX4_refresh 3 none :: uU
def rX4_refresh : Room := { frames := 2, cells := 0, slots := 0, locals := 47 }
set_option maxRecDepth 20000 in
set_option maxHeartbeats 4000000 in
theorem m_C_X4_refresh (l : Launch) (M1 : zM) (M2 : zM) (M3 : zM) (M4 : zM) (M5 : zM) (M6 : zM) (M7 : zM) (M8 : zM) (M9 : zM) (M10 : zM) (M11 : zM) (M12 : zM) (M13 : zM) (L_count : Int) (L_copiedStands : Int) (L_from : Nat → Int) (L_to : Nat → Int) (L_forms : Nat → Int) (L_costs : Nat → Int) (L_copied : Nat → Int) (x : Int × (Nat → Int)) (h : f_X4_refresh L_count L_copiedStands L_forms L_costs L_copied = some x) : zD l yX4_refresh wX4_refresh rX4_refresh lamC shpC [(2, Int.ofNat 2)] [([L_count, L_copiedStands], [L_from, L_to, L_forms, L_costs, L_copied]), M1, M2, M3, M4, M5, M6, M7, M8, M9, M10, M11, M12, M13] (none) [([L_count, x.1], [L_from, L_to, L_forms, L_costs, x.2]), M1, M2, M3, M4, M5, M6, M7, M8, M9, M10, M11, M12, M13] := by
  refine zD_of (B := bX4_refresh) (E := eX4) (by decide) rfl lokC (eX4_ok _) bX4_refresh_ok (Or.inl rfl) rfl (fun S R => ?_)
  obtain ⟨rb, rg, ri, rv, rs, r0, r1, r2, r3, rt, rmk⟩ := R
  show S 0 [some (2, Int.ofNat 2), none, none] [] [([L_count, L_copiedStands], [L_from, L_to, L_forms, L_costs, L_copied]), M1, M2, M3, M4, M5, M6, M7, M8, M9, M10, M11, M12, M13]
  have LP20 : ∀ (n : Nat) (v1 : Int) (v2 : Int) (L_count : Int) (L_copiedStands : Int) (L_from : Nat → Int) (L_to : Nat → Int) (L_forms : Nat → Int) (L_costs : Nat → Int) (L_copied : Nat → Int) (y : Nat → Int), l_X4_refresh_20 n v1 v2 L_count L_forms L_costs L_copied = some y → S 40 [some (2, Int.ofNat 2), some (0, v1), none] [] [([L_count, L_copiedStands], [L_from, L_to, L_forms, L_costs, y]), M1, M2, M3, M4, M5, M6, M7, M8, M9, M10, M11, M12, M13] → S 20 [some (2, Int.ofNat 2), some (0, v1), some (0, v2)] [] [([L_count, L_copiedStands], [L_from, L_to, L_forms, L_costs, L_copied]), M1, M2, M3, M4, M5, M6, M7, M8, M9, M10, M11, M12, M13] := by
    intro n
    induction n with
    | zero =>
      intro v1 v2 L_count L_copiedStands L_from L_to L_forms L_costs L_copied y h k
      rw [l_X4_refresh_20] at h
      cases h
    | succ n ih =>
      intro v1 v2 L_count L_copiedStands L_from L_to L_forms L_costs L_copied y h k
      rw [l_X4_refresh_20] at h
      refine ri false 5 (q := v2 < L_count) (t1 := 28) (t2 := 40) rfl rfl trivial (fun c => ?_) (fun c => ?_)
      · replace h := zif1 c h
        obtain ⟨x1, hx1, h⟩ := zbd h
        refine rv false 6 2 rfl rfl trivial rfl (m_C_X4_sumUp l M1 M2 M3 M4 M5 M6 M7 M8 M9 M10 M11 M12 M13 v1 v2 L_count L_copiedStands L_from L_to L_forms L_costs L_copied x1 hx1) ⟨_, _, _, _, rfl, rfl, rfl, by decide +kernel, ⟨Nat.le_of_ble_eq_true rfl, Nat.le_of_ble_eq_true rfl⟩, uGin u_11_22 u_11_23 u_12_0 u_3_1 u_12_1⟩ ⟨rfl, _, _, _, rfl, rfl⟩ ?_
        obtain ⟨g2_0, h⟩ := zgd h
        refine rg false 7 (t := 20) (L2 := [some (2, Int.ofNat 2), some (0, v1), some (0, (v2 + 1))]) rfl rfl rfl g2_0 ?_
        exact ih v1 (v2 + 1) L_count L_copiedStands L_from L_to L_forms L_costs x1 y h k
      · replace h := zif2 c h
        refine rmk [true, true, false] (L2 := [some (2, Int.ofNat 2), some (0, v1), none]) rfl ?_
        obtain rfl := Option.some.inj h
        exact k
  have LP10 : ∀ (n : Nat) (v1 : Int) (L_count : Int) (L_copiedStands : Int) (L_from : Nat → Int) (L_to : Nat → Int) (L_forms : Nat → Int) (L_costs : Nat → Int) (L_copied : Nat → Int) (y : Nat → Int), l_X4_refresh_10 n v1 L_count L_forms L_costs L_copied = some y → S 46 [some (2, Int.ofNat 2), none, none] [] [([L_count, L_copiedStands], [L_from, L_to, L_forms, L_costs, y]), M1, M2, M3, M4, M5, M6, M7, M8, M9, M10, M11, M12, M13] → S 10 [some (2, Int.ofNat 2), some (0, v1), none] [] [([L_count, L_copiedStands], [L_from, L_to, L_forms, L_costs, L_copied]), M1, M2, M3, M4, M5, M6, M7, M8, M9, M10, M11, M12, M13] := by
    intro n
    induction n with
    | zero =>
      intro v1 L_count L_copiedStands L_from L_to L_forms L_costs L_copied y h k
      rw [l_X4_refresh_10] at h
      cases h
    | succ n ih =>
      intro v1 L_count L_copiedStands L_from L_to L_forms L_costs L_copied y h k
      rw [l_X4_refresh_10] at h
      refine ri false 3 (q := v1 < L_count) (t1 := 18) (t2 := 46) rfl rfl trivial (fun c => ?_) (fun c => ?_)
      · replace h := zif1 c h
        refine rb false 4 (L2 := [some (2, Int.ofNat 2), some (0, v1), some (0, 0)]) rfl rfl trivial ?_
        obtain ⟨x3, hx3, h⟩ := zbd h
        refine LP20 zN v1 0 L_count L_copiedStands L_from L_to L_forms L_costs L_copied x3 hx3 ?_
        obtain ⟨g4_0, h⟩ := zgd h
        refine rg false 8 (t := 10) (L2 := [some (2, Int.ofNat 2), some (0, (v1 + 1)), none]) rfl rfl rfl g4_0 ?_
        exact ih (v1 + 1) L_count L_copiedStands L_from L_to L_forms L_costs x3 y h k
      · replace h := zif2 c h
        refine rmk [true, false, false] (L2 := [some (2, Int.ofNat 2), none, none]) rfl ?_
        obtain rfl := Option.some.inj h
        exact k
  unfold f_X4_refresh at h
  refine ri false 0 (q := L_copiedStands = 0) (t1 := 8) (t2 := 7) rfl rfl trivial (fun c => ?_) (fun c => ?_)
  · replace h := zif1 c h
    refine rb false 2 (L2 := [some (2, Int.ofNat 2), some (0, 0), none]) rfl rfl trivial ?_
    obtain ⟨x5, hx5, h⟩ := zbd h
    refine LP10 zN 0 L_count L_copiedStands L_from L_to L_forms L_costs L_copied x5 hx5 ?_
    obtain rfl := Option.some.inj h
    exact r0 false 9 rfl rfl rfl rfl (show zbit 1 by decide)
  · replace h := zif2 c h
    obtain rfl := Option.some.inj h
    exact r0 false 1 rfl rfl rfl rfl trivial
def bX4_priceFirst : zB := [(0, [(.iconst 0, 1), (.istore_n 2, 1), (.iconst 0, 1), (.istore_n 3, 1)], 4, .nop, 0), (4, [(.iload_n 3, 1), (.bipush 8, 2)], 7, .if_icmp .ge 27, 3), (10, [(.aload_n 0, 1), (.getfield 18, 3), (.iload_n 1, 1), (.bipush 8, 2), (.imul, 1), (.iload_n 3, 1), (.iadd, 1), (.iaload, 1), (.iconst (-1), 1)], 22, .if_icmp .eq 6, 3), (25, [(.iinc 2 1, 3)], 28, .nop, 0), (28, [(.iinc 3 1, 3)], 31, .goto (-27), 3), (34, [(.iload_n 2, 1), (.aload_n 0, 1), (.getfield 21, 3), (.iconst 3, 1), (.iaload, 1), (.imul, 1)], 42, .ireturn, 1)]
theorem bX4_priceFirst_ok : zBok cX4_priceFirst 4 bX4_priceFirst = true := by decide +kernel
abbrev wX4_priceFirst : List Cond := Cond.code yX4_priceFirst cX4_priceFirst 4 (some .int) :: uU
def rX4_priceFirst : Room := { frames := 0, cells := 0, slots := 0, locals := 0 }
set_option maxRecDepth 20000 in
set_option maxHeartbeats 4000000 in
theorem m_C_X4_priceFirst (l : Launch) (M1 : zM) (M2 : zM) (M3 : zM) (M4 : zM) (M5 : zM) (M6 : zM) (M7 : zM) (M8 : zM) (M9 : zM) (M10 : zM) (M11 : zM) (M12 : zM) (M13 : zM) (p1 : Int) (L_count : Int) (L_copiedStands : Int) (L_from : Nat → Int) (L_to : Nat → Int) (L_forms : Nat → Int) (L_costs : Nat → Int) (L_copied : Nat → Int) (x : Int) (h : f_X4_priceFirst p1 L_forms L_costs = some x) : zD l yX4_priceFirst wX4_priceFirst rX4_priceFirst lamC shpC [(2, Int.ofNat 2), (0, p1)] [([L_count, L_copiedStands], [L_from, L_to, L_forms, L_costs, L_copied]), M1, M2, M3, M4, M5, M6, M7, M8, M9, M10, M11, M12, M13] (some (0, x)) [([L_count, L_copiedStands], [L_from, L_to, L_forms, L_costs, L_copied]), M1, M2, M3, M4, M5, M6, M7, M8, M9, M10, M11, M12, M13] := by
  refine zD_of (B := bX4_priceFirst) (E := eX4) (by decide) rfl lokC (eX4_ok _) bX4_priceFirst_ok (Or.inl rfl) rfl (fun S R => ?_)
  obtain ⟨rb, rg, ri, rv, rs, r0, r1, r2, r3, rt, rmk⟩ := R
  show S 0 [some (2, Int.ofNat 2), some (0, p1), none, none] [] [([L_count, L_copiedStands], [L_from, L_to, L_forms, L_costs, L_copied]), M1, M2, M3, M4, M5, M6, M7, M8, M9, M10, M11, M12, M13]
  have LP4 : ∀ (n : Nat) (v1 : Int) (v2 : Int) (v3 : Int) (L_count : Int) (L_copiedStands : Int) (L_from : Nat → Int) (L_to : Nat → Int) (L_forms : Nat → Int) (L_costs : Nat → Int) (L_copied : Nat → Int) (y : Int), l_X4_priceFirst_4 n v1 v2 v3 L_forms = some y → S 34 [some (2, Int.ofNat 2), none, some (0, y), none] [] [([L_count, L_copiedStands], [L_from, L_to, L_forms, L_costs, L_copied]), M1, M2, M3, M4, M5, M6, M7, M8, M9, M10, M11, M12, M13] → S 4 [some (2, Int.ofNat 2), some (0, v1), some (0, v2), some (0, v3)] [] [([L_count, L_copiedStands], [L_from, L_to, L_forms, L_costs, L_copied]), M1, M2, M3, M4, M5, M6, M7, M8, M9, M10, M11, M12, M13] := by
    intro n
    induction n with
    | zero =>
      intro v1 v2 v3 L_count L_copiedStands L_from L_to L_forms L_costs L_copied y h k
      rw [l_X4_priceFirst_4] at h
      cases h
    | succ n ih =>
      intro v1 v2 v3 L_count L_copiedStands L_from L_to L_forms L_costs L_copied y h k
      rw [l_X4_priceFirst_4] at h
      refine ri false 1 (q := v3 < 8) (t1 := 10) (t2 := 34) rfl rfl trivial (fun c => ?_) (fun c => ?_)
      · replace h := zif1 c h
        obtain ⟨g1_0, h⟩ := zgd h
        refine ri false 2 (q := (L_forms (Int.toNat ((v1 * 8) + v3))) = (-1)) (t1 := 28) (t2 := 25) rfl rfl g1_0 (fun c => ?_) (fun c => ?_)
        · replace h := zif1 c h
          obtain ⟨g2_0, h⟩ := zgd h
          refine rg false 4 (t := 4) (L2 := [some (2, Int.ofNat 2), some (0, v1), some (0, v2), some (0, (v3 + 1))]) rfl rfl rfl g2_0 ?_
          exact ih v1 v2 (v3 + 1) L_count L_copiedStands L_from L_to L_forms L_costs L_copied y h k
        · replace h := zif2 c h
          obtain ⟨g3_0, h⟩ := zgd h
          refine rb false 3 (L2 := [some (2, Int.ofNat 2), some (0, v1), some (0, (v2 + 1)), some (0, v3)]) rfl rfl g3_0 ?_
          obtain ⟨g4_0, h⟩ := zgd h
          refine rg false 4 (t := 4) (L2 := [some (2, Int.ofNat 2), some (0, v1), some (0, (v2 + 1)), some (0, (v3 + 1))]) rfl rfl rfl g4_0 ?_
          exact ih v1 (v2 + 1) (v3 + 1) L_count L_copiedStands L_from L_to L_forms L_costs L_copied y h k
      · replace h := zif2 c h
        refine rmk [true, false, true, false] (L2 := [some (2, Int.ofNat 2), none, some (0, v2), none]) rfl ?_
        obtain rfl := Option.some.inj h
        exact k
  unfold f_X4_priceFirst at h
  refine rb false 0 (L2 := [some (2, Int.ofNat 2), some (0, p1), some (0, 0), some (0, 0)]) rfl rfl trivial ?_
  obtain ⟨x5, hx5, h⟩ := zbd h
  refine LP4 zN p1 0 0 L_count L_copiedStands L_from L_to L_forms L_costs L_copied x5 hx5 ?_
  obtain ⟨g6_0, h⟩ := zgd h
  obtain rfl := Option.some.inj h
  exact r1 false 5 rfl rfl rfl rfl rfl rfl (And.intro (show zin 3 5 by decide) g6_0)
def bX4_priceCopied : zB := [(0, [(.aload_n 0, 1), (.getfield 24, 3), (.iload_n 1, 1), (.bipush 8, 2), (.imul, 1), (.iload_n 2, 1), (.iadd, 1), (.bipush 9, 2), (.imul, 1), (.bipush 8, 2), (.iadd, 1), (.iaload, 1)], 17, .ireturn, 1)]
theorem bX4_priceCopied_ok : zBok cX4_priceCopied 3 bX4_priceCopied = true := by decide +kernel
abbrev wX4_priceCopied : List Cond := Cond.code yX4_priceCopied cX4_priceCopied 3 (some .int) :: uU
def rX4_priceCopied : Room := { frames := 0, cells := 0, slots := 0, locals := 0 }
set_option maxRecDepth 20000 in
set_option maxHeartbeats 4000000 in
theorem m_C_X4_priceCopied (l : Launch) (M1 : zM) (M2 : zM) (M3 : zM) (M4 : zM) (M5 : zM) (M6 : zM) (M7 : zM) (M8 : zM) (M9 : zM) (M10 : zM) (M11 : zM) (M12 : zM) (M13 : zM) (p1 : Int) (p2 : Int) (L_count : Int) (L_copiedStands : Int) (L_from : Nat → Int) (L_to : Nat → Int) (L_forms : Nat → Int) (L_costs : Nat → Int) (L_copied : Nat → Int) (x : Int) (h : f_X4_priceCopied p1 p2 L_copied = some x) : zD l yX4_priceCopied wX4_priceCopied rX4_priceCopied lamC shpC [(2, Int.ofNat 2), (0, p1), (0, p2)] [([L_count, L_copiedStands], [L_from, L_to, L_forms, L_costs, L_copied]), M1, M2, M3, M4, M5, M6, M7, M8, M9, M10, M11, M12, M13] (some (0, x)) [([L_count, L_copiedStands], [L_from, L_to, L_forms, L_costs, L_copied]), M1, M2, M3, M4, M5, M6, M7, M8, M9, M10, M11, M12, M13] := by
  refine zD_of (B := bX4_priceCopied) (E := eX4) (by decide) rfl lokC (eX4_ok _) bX4_priceCopied_ok (Or.inl rfl) rfl (fun S R => ?_)
  obtain ⟨rb, rg, ri, rv, rs, r0, r1, r2, r3, rt, rmk⟩ := R
  show S 0 [some (2, Int.ofNat 2), some (0, p1), some (0, p2)] [] [([L_count, L_copiedStands], [L_from, L_to, L_forms, L_costs, L_copied]), M1, M2, M3, M4, M5, M6, M7, M8, M9, M10, M11, M12, M13]
  unfold f_X4_priceCopied at h
  obtain ⟨g1_0, h⟩ := zgd h
  obtain rfl := Option.some.inj h
  exact r1 false 0 rfl rfl rfl rfl rfl rfl g1_0
def bX4_priceJoined : zB := [(0, [(.iload_n 1, 1), (.bipush 8, 2), (.imul, 1), (.iload_n 2, 1), (.iadd, 1), (.bipush 9, 2), (.imul, 1), (.istore 5, 2), (.iload_n 1, 1), (.bipush 8, 2), (.imul, 1), (.iload_n 3, 1), (.iadd, 1), (.bipush 9, 2), (.imul, 1), (.istore 6, 2)], 22, .nop, 0), (22, [(.aload_n 0, 1), (.getfield 21, 3), (.iconst 4, 1), (.iaload, 1), (.aload_n 0, 1), (.getfield 24, 3), (.iload 5, 2), (.iload 4, 2), (.iadd, 1), (.iaload, 1), (.iadd, 1), (.aload_n 0, 1), (.getfield 24, 3), (.iload 6, 2), (.bipush 8, 2), (.iadd, 1), (.iaload, 1), (.iadd, 1), (.aload_n 0, 1), (.getfield 24, 3), (.iload 6, 2), (.iload 4, 2), (.iadd, 1), (.iaload, 1), (.isub, 1)], 61, .ireturn, 1)]
theorem bX4_priceJoined_ok : zBok cX4_priceJoined 7 bX4_priceJoined = true := by decide +kernel
abbrev wX4_priceJoined : List Cond := Cond.code yX4_priceJoined cX4_priceJoined 7 (some .int) :: uU
def rX4_priceJoined : Room := { frames := 0, cells := 0, slots := 0, locals := 0 }
set_option maxRecDepth 20000 in
set_option maxHeartbeats 4000000 in
theorem m_C_X4_priceJoined (l : Launch) (M1 : zM) (M2 : zM) (M3 : zM) (M4 : zM) (M5 : zM) (M6 : zM) (M7 : zM) (M8 : zM) (M9 : zM) (M10 : zM) (M11 : zM) (M12 : zM) (M13 : zM) (p1 : Int) (p2 : Int) (p3 : Int) (p4 : Int) (L_count : Int) (L_copiedStands : Int) (L_from : Nat → Int) (L_to : Nat → Int) (L_forms : Nat → Int) (L_costs : Nat → Int) (L_copied : Nat → Int) (x : Int) (h : f_X4_priceJoined p1 p2 p3 p4 L_costs L_copied = some x) : zD l yX4_priceJoined wX4_priceJoined rX4_priceJoined lamC shpC [(2, Int.ofNat 2), (0, p1), (0, p2), (0, p3), (0, p4)] [([L_count, L_copiedStands], [L_from, L_to, L_forms, L_costs, L_copied]), M1, M2, M3, M4, M5, M6, M7, M8, M9, M10, M11, M12, M13] (some (0, x)) [([L_count, L_copiedStands], [L_from, L_to, L_forms, L_costs, L_copied]), M1, M2, M3, M4, M5, M6, M7, M8, M9, M10, M11, M12, M13] := by
  refine zD_of (B := bX4_priceJoined) (E := eX4) (by decide) rfl lokC (eX4_ok _) bX4_priceJoined_ok (Or.inl rfl) rfl (fun S R => ?_)
  obtain ⟨rb, rg, ri, rv, rs, r0, r1, r2, r3, rt, rmk⟩ := R
  show S 0 [some (2, Int.ofNat 2), some (0, p1), some (0, p2), some (0, p3), some (0, p4), none, none] [] [([L_count, L_copiedStands], [L_from, L_to, L_forms, L_costs, L_copied]), M1, M2, M3, M4, M5, M6, M7, M8, M9, M10, M11, M12, M13]
  unfold f_X4_priceJoined at h
  obtain ⟨⟨g1_0, g1_1⟩, h⟩ := zgd h
  refine rb false 0 (L2 := [some (2, Int.ofNat 2), some (0, p1), some (0, p2), some (0, p3), some (0, p4), some (0, (((p1 * 8) + p2) * 9)), some (0, (((p1 * 8) + p3) * 9))]) rfl rfl (And.intro g1_0 g1_1) ?_
  obtain ⟨⟨g2_0, g2_1, g2_2, g2_3⟩, h⟩ := zgd h
  obtain rfl := Option.some.inj h
  exact r1 false 1 rfl rfl rfl rfl rfl rfl (And.intro (show zin 4 5 by decide) (And.intro g2_0 (And.intro g2_1 (And.intro g2_2 g2_3))))
def bX4_priceOf : zB := [(0, [(.iload_n 2, 1)], 1, .ifCond .ne 9, 3), (4, [(.aload_n 0, 1), (.iload_n 1, 1)], 6, .invokevirtual 43, 3), (9, [], 9, .ireturn, 1), (10, [(.iload_n 2, 1), (.bipush 8, 2)], 13, .if_icmp .gt 12, 3), (16, [(.aload_n 0, 1), (.iload_n 1, 1), (.iload_n 2, 1), (.iconst 1, 1), (.isub, 1)], 21, .invokevirtual 47, 3), (24, [], 24, .ireturn, 1), (25, [(.iload_n 2, 1), (.bipush 20, 2), (.isub, 1), (.bipush 6, 2), (.ishr, 1), (.istore_n 3, 1), (.iload_n 2, 1), (.bipush 20, 2), (.isub, 1), (.iconst 3, 1), (.ishr, 1), (.bipush 7, 2), (.iand, 1), (.istore 4, 2)], 44, .nop, 0), (44, [(.iload_n 2, 1), (.bipush 20, 2), (.isub, 1), (.bipush 7, 2), (.iand, 1), (.istore 5, 2), (.aload_n 0, 1), (.iload_n 1, 1), (.iload_n 3, 1), (.iload 4, 2), (.iload 5, 2)], 60, .invokevirtual 51, 3), (63, [], 63, .ireturn, 1)]
theorem bX4_priceOf_ok : zBok cX4_priceOf 6 bX4_priceOf = true := by decide +kernel
abbrev wX4_priceOf : List Cond := Cond.code yX4_priceOf cX4_priceOf 6 (some .int) :: uU
def rX4_priceOf : Room := { frames := 1, cells := 0, slots := 0, locals := 26 }
set_option maxRecDepth 20000 in
set_option maxHeartbeats 4000000 in
theorem m_C_X4_priceOf (l : Launch) (M1 : zM) (M2 : zM) (M3 : zM) (M4 : zM) (M5 : zM) (M6 : zM) (M7 : zM) (M8 : zM) (M9 : zM) (M10 : zM) (M11 : zM) (M12 : zM) (M13 : zM) (p1 : Int) (p2 : Int) (L_count : Int) (L_copiedStands : Int) (L_from : Nat → Int) (L_to : Nat → Int) (L_forms : Nat → Int) (L_costs : Nat → Int) (L_copied : Nat → Int) (x : Int) (h : f_X4_priceOf p1 p2 L_forms L_costs L_copied = some x) : zD l yX4_priceOf wX4_priceOf rX4_priceOf lamC shpC [(2, Int.ofNat 2), (0, p1), (0, p2)] [([L_count, L_copiedStands], [L_from, L_to, L_forms, L_costs, L_copied]), M1, M2, M3, M4, M5, M6, M7, M8, M9, M10, M11, M12, M13] (some (0, x)) [([L_count, L_copiedStands], [L_from, L_to, L_forms, L_costs, L_copied]), M1, M2, M3, M4, M5, M6, M7, M8, M9, M10, M11, M12, M13] := by
  refine zD_of (B := bX4_priceOf) (E := eX4) (by decide) rfl lokC (eX4_ok _) bX4_priceOf_ok (Or.inl rfl) rfl (fun S R => ?_)
  obtain ⟨rb, rg, ri, rv, rs, r0, r1, r2, r3, rt, rmk⟩ := R
  show S 0 [some (2, Int.ofNat 2), some (0, p1), some (0, p2), none, none, none] [] [([L_count, L_copiedStands], [L_from, L_to, L_forms, L_costs, L_copied]), M1, M2, M3, M4, M5, M6, M7, M8, M9, M10, M11, M12, M13]
  unfold f_X4_priceOf at h
  refine ri false 0 (q := p2 = 0) (t1 := 4) (t2 := 10) rfl rfl trivial (fun c => ?_) (fun c => ?_)
  · replace h := zif1 c h
    obtain ⟨x1, hx1, h⟩ := zbd h
    refine rv false 1 1 rfl rfl trivial rfl (m_C_X4_priceFirst l M1 M2 M3 M4 M5 M6 M7 M8 M9 M10 M11 M12 M13 p1 L_count L_copiedStands L_from L_to L_forms L_costs L_copied x1 hx1) ⟨_, _, _, _, rfl, rfl, rfl, by decide +kernel, ⟨Nat.le_of_ble_eq_true rfl, Nat.le_of_ble_eq_true rfl⟩, uGin u_12_10 u_12_11 u_12_12 u_3_1 u_12_13⟩ ⟨rfl, _, _, _, rfl, rfl⟩ ?_
    obtain rfl := Option.some.inj h
    exact r1 false 2 rfl rfl rfl rfl rfl rfl trivial
  · replace h := zif2 c h
    refine ri false 3 (q := (8 : Int) < p2) (t1 := 25) (t2 := 16) rfl rfl trivial (fun c => ?_) (fun c => ?_)
    · replace h := zif1 c h
      refine rb false 6 (L2 := [some (2, Int.ofNat 2), some (0, p1), some (0, p2), some (0, (zshr (p2 - 20) 6)), some (0, (zand (zshr (p2 - 20) 3) 7)), none]) rfl rfl trivial ?_
      obtain ⟨x2, hx2, h⟩ := zbd h
      refine rv false 7 4 (L2 := [some (2, Int.ofNat 2), some (0, p1), some (0, p2), some (0, (zshr (p2 - 20) 6)), some (0, (zand (zshr (p2 - 20) 3) 7)), some (0, (zand (p2 - 20) 7))]) rfl rfl trivial rfl (m_C_X4_priceJoined l M1 M2 M3 M4 M5 M6 M7 M8 M9 M10 M11 M12 M13 p1 (zshr (p2 - 20) 6) (zand (zshr (p2 - 20) 3) 7) (zand (p2 - 20) 7) L_count L_copiedStands L_from L_to L_forms L_costs L_copied x2 hx2) ⟨_, _, _, _, rfl, rfl, rfl, by decide +kernel, ⟨Nat.le_of_ble_eq_true rfl, Nat.le_of_ble_eq_true rfl⟩, uGin u_12_18 u_12_19 u_12_20 u_3_1 u_12_21⟩ ⟨rfl, _, _, _, rfl, rfl⟩ ?_
      obtain rfl := Option.some.inj h
      exact r1 false 8 rfl rfl rfl rfl rfl rfl trivial
    · replace h := zif2 c h
      obtain ⟨g4_0, h⟩ := zgd h
      obtain ⟨x3, hx3, h⟩ := zbd h
      refine rv false 4 2 rfl rfl g4_0 rfl (m_C_X4_priceCopied l M1 M2 M3 M4 M5 M6 M7 M8 M9 M10 M11 M12 M13 p1 (p2 - 1) L_count L_copiedStands L_from L_to L_forms L_costs L_copied x3 hx3) ⟨_, _, _, _, rfl, rfl, rfl, by decide +kernel, ⟨Nat.le_of_ble_eq_true rfl, Nat.le_of_ble_eq_true rfl⟩, uGin u_12_14 u_12_15 u_12_16 u_3_1 u_12_17⟩ ⟨rfl, _, _, _, rfl, rfl⟩ ?_
      obtain rfl := Option.some.inj h
      exact r1 false 5 rfl rfl rfl rfl rfl rfl trivial
def bX4_firstYear : zB := [(0, [(.aload_n 0, 1), (.getfield 11, 3), (.iload_n 1, 1), (.iaload, 1)], 6, .ireturn, 1)]
theorem bX4_firstYear_ok : zBok cX4_firstYear 2 bX4_firstYear = true := by decide +kernel
abbrev wX4_firstYear : List Cond := Cond.code yX4_firstYear cX4_firstYear 2 (some .int) :: uU
def rX4_firstYear : Room := { frames := 0, cells := 0, slots := 0, locals := 0 }
set_option maxRecDepth 20000 in
set_option maxHeartbeats 4000000 in
theorem m_C_X4_firstYear (l : Launch) (M1 : zM) (M2 : zM) (M3 : zM) (M4 : zM) (M5 : zM) (M6 : zM) (M7 : zM) (M8 : zM) (M9 : zM) (M10 : zM) (M11 : zM) (M12 : zM) (M13 : zM) (p1 : Int) (L_count : Int) (L_copiedStands : Int) (L_from : Nat → Int) (L_to : Nat → Int) (L_forms : Nat → Int) (L_costs : Nat → Int) (L_copied : Nat → Int) (x : Int) (h : f_X4_firstYear p1 L_from = some x) : zD l yX4_firstYear wX4_firstYear rX4_firstYear lamC shpC [(2, Int.ofNat 2), (0, p1)] [([L_count, L_copiedStands], [L_from, L_to, L_forms, L_costs, L_copied]), M1, M2, M3, M4, M5, M6, M7, M8, M9, M10, M11, M12, M13] (some (0, x)) [([L_count, L_copiedStands], [L_from, L_to, L_forms, L_costs, L_copied]), M1, M2, M3, M4, M5, M6, M7, M8, M9, M10, M11, M12, M13] := by
  refine zD_of (B := bX4_firstYear) (E := eX4) (by decide) rfl lokC (eX4_ok _) bX4_firstYear_ok (Or.inl rfl) rfl (fun S R => ?_)
  obtain ⟨rb, rg, ri, rv, rs, r0, r1, r2, r3, rt, rmk⟩ := R
  show S 0 [some (2, Int.ofNat 2), some (0, p1)] [] [([L_count, L_copiedStands], [L_from, L_to, L_forms, L_costs, L_copied]), M1, M2, M3, M4, M5, M6, M7, M8, M9, M10, M11, M12, M13]
  unfold f_X4_firstYear at h
  obtain ⟨g1_0, h⟩ := zgd h
  obtain rfl := Option.some.inj h
  exact r1 false 0 rfl rfl rfl rfl rfl rfl g1_0
def bX4_lastYear : zB := [(0, [(.aload_n 0, 1), (.getfield 15, 3), (.iload_n 1, 1), (.iaload, 1)], 6, .ireturn, 1)]
theorem bX4_lastYear_ok : zBok cX4_lastYear 2 bX4_lastYear = true := by decide +kernel
abbrev wX4_lastYear : List Cond := Cond.code yX4_lastYear cX4_lastYear 2 (some .int) :: uU
def rX4_lastYear : Room := { frames := 0, cells := 0, slots := 0, locals := 0 }
set_option maxRecDepth 20000 in
set_option maxHeartbeats 4000000 in
theorem m_C_X4_lastYear (l : Launch) (M1 : zM) (M2 : zM) (M3 : zM) (M4 : zM) (M5 : zM) (M6 : zM) (M7 : zM) (M8 : zM) (M9 : zM) (M10 : zM) (M11 : zM) (M12 : zM) (M13 : zM) (p1 : Int) (L_count : Int) (L_copiedStands : Int) (L_from : Nat → Int) (L_to : Nat → Int) (L_forms : Nat → Int) (L_costs : Nat → Int) (L_copied : Nat → Int) (x : Int) (h : f_X4_lastYear p1 L_to = some x) : zD l yX4_lastYear wX4_lastYear rX4_lastYear lamC shpC [(2, Int.ofNat 2), (0, p1)] [([L_count, L_copiedStands], [L_from, L_to, L_forms, L_costs, L_copied]), M1, M2, M3, M4, M5, M6, M7, M8, M9, M10, M11, M12, M13] (some (0, x)) [([L_count, L_copiedStands], [L_from, L_to, L_forms, L_costs, L_copied]), M1, M2, M3, M4, M5, M6, M7, M8, M9, M10, M11, M12, M13] := by
  refine zD_of (B := bX4_lastYear) (E := eX4) (by decide) rfl lokC (eX4_ok _) bX4_lastYear_ok (Or.inl rfl) rfl (fun S R => ?_)
  obtain ⟨rb, rg, ri, rv, rs, r0, r1, r2, r3, rt, rmk⟩ := R
  show S 0 [some (2, Int.ofNat 2), some (0, p1)] [] [([L_count, L_copiedStands], [L_from, L_to, L_forms, L_costs, L_copied]), M1, M2, M3, M4, M5, M6, M7, M8, M9, M10, M11, M12, M13]
  unfold f_X4_lastYear at h
  obtain ⟨g1_0, h⟩ := zgd h
  obtain rfl := Option.some.inj h
  exact r1 false 0 rfl rfl rfl rfl rfl rfl g1_0
def bX4_sentencesOfAll : zB := [(0, [(.iconst 0, 1), (.istore_n 1, 1), (.iconst 0, 1), (.istore_n 2, 1)], 4, .nop, 0), (4, [(.iload_n 2, 1), (.aload_n 0, 1), (.getfield 27, 3), (.bipush 8, 2), (.imul, 1)], 12, .if_icmp .ge 22, 3), (15, [(.aload_n 0, 1), (.getfield 18, 3), (.iload_n 2, 1), (.iaload, 1), (.iconst (-1), 1)], 22, .if_icmp .eq 6, 3), (25, [(.iinc 1 1, 3)], 28, .nop, 0), (28, [(.iinc 2 1, 3)], 31, .goto (-27), 3), (34, [(.iload_n 1, 1)], 35, .ireturn, 1)]
theorem bX4_sentencesOfAll_ok : zBok cX4_sentencesOfAll 3 bX4_sentencesOfAll = true := by decide +kernel
abbrev wX4_sentencesOfAll : List Cond := Cond.code yX4_sentencesOfAll cX4_sentencesOfAll 3 (some .int) :: uU
def rX4_sentencesOfAll : Room := { frames := 0, cells := 0, slots := 0, locals := 0 }
set_option maxRecDepth 20000 in
set_option maxHeartbeats 4000000 in
theorem m_C_X4_sentencesOfAll (l : Launch) (M1 : zM) (M2 : zM) (M3 : zM) (M4 : zM) (M5 : zM) (M6 : zM) (M7 : zM) (M8 : zM) (M9 : zM) (M10 : zM) (M11 : zM) (M12 : zM) (M13 : zM) (L_count : Int) (L_copiedStands : Int) (L_from : Nat → Int) (L_to : Nat → Int) (L_forms : Nat → Int) (L_costs : Nat → Int) (L_copied : Nat → Int) (x : Int) (h : f_X4_sentencesOfAll L_count L_forms = some x) : zD l yX4_sentencesOfAll wX4_sentencesOfAll rX4_sentencesOfAll lamC shpC [(2, Int.ofNat 2)] [([L_count, L_copiedStands], [L_from, L_to, L_forms, L_costs, L_copied]), M1, M2, M3, M4, M5, M6, M7, M8, M9, M10, M11, M12, M13] (some (0, x)) [([L_count, L_copiedStands], [L_from, L_to, L_forms, L_costs, L_copied]), M1, M2, M3, M4, M5, M6, M7, M8, M9, M10, M11, M12, M13] := by
  refine zD_of (B := bX4_sentencesOfAll) (E := eX4) (by decide) rfl lokC (eX4_ok _) bX4_sentencesOfAll_ok (Or.inl rfl) rfl (fun S R => ?_)
  obtain ⟨rb, rg, ri, rv, rs, r0, r1, r2, r3, rt, rmk⟩ := R
  show S 0 [some (2, Int.ofNat 2), none, none] [] [([L_count, L_copiedStands], [L_from, L_to, L_forms, L_costs, L_copied]), M1, M2, M3, M4, M5, M6, M7, M8, M9, M10, M11, M12, M13]
  have LP4 : ∀ (n : Nat) (v1 : Int) (v2 : Int) (L_count : Int) (L_copiedStands : Int) (L_from : Nat → Int) (L_to : Nat → Int) (L_forms : Nat → Int) (L_costs : Nat → Int) (L_copied : Nat → Int) (y : Int), l_X4_sentencesOfAll_4 n v1 v2 L_count L_forms = some y → S 34 [none, some (0, y), none] [] [([L_count, L_copiedStands], [L_from, L_to, L_forms, L_costs, L_copied]), M1, M2, M3, M4, M5, M6, M7, M8, M9, M10, M11, M12, M13] → S 4 [some (2, Int.ofNat 2), some (0, v1), some (0, v2)] [] [([L_count, L_copiedStands], [L_from, L_to, L_forms, L_costs, L_copied]), M1, M2, M3, M4, M5, M6, M7, M8, M9, M10, M11, M12, M13] := by
    intro n
    induction n with
    | zero =>
      intro v1 v2 L_count L_copiedStands L_from L_to L_forms L_costs L_copied y h k
      rw [l_X4_sentencesOfAll_4] at h
      cases h
    | succ n ih =>
      intro v1 v2 L_count L_copiedStands L_from L_to L_forms L_costs L_copied y h k
      rw [l_X4_sentencesOfAll_4] at h
      obtain ⟨g1_0, h⟩ := zgd h
      refine ri false 1 (q := v2 < (L_count * 8)) (t1 := 15) (t2 := 34) rfl rfl g1_0 (fun c => ?_) (fun c => ?_)
      · replace h := zif1 c h
        obtain ⟨g2_0, h⟩ := zgd h
        refine ri false 2 (q := (L_forms (Int.toNat v2)) = (-1)) (t1 := 28) (t2 := 25) rfl rfl g2_0 (fun c => ?_) (fun c => ?_)
        · replace h := zif1 c h
          obtain ⟨g3_0, h⟩ := zgd h
          refine rg false 4 (t := 4) (L2 := [some (2, Int.ofNat 2), some (0, v1), some (0, (v2 + 1))]) rfl rfl rfl g3_0 ?_
          exact ih v1 (v2 + 1) L_count L_copiedStands L_from L_to L_forms L_costs L_copied y h k
        · replace h := zif2 c h
          obtain ⟨g4_0, h⟩ := zgd h
          refine rb false 3 (L2 := [some (2, Int.ofNat 2), some (0, (v1 + 1)), some (0, v2)]) rfl rfl g4_0 ?_
          obtain ⟨g5_0, h⟩ := zgd h
          refine rg false 4 (t := 4) (L2 := [some (2, Int.ofNat 2), some (0, (v1 + 1)), some (0, (v2 + 1))]) rfl rfl rfl g5_0 ?_
          exact ih (v1 + 1) (v2 + 1) L_count L_copiedStands L_from L_to L_forms L_costs L_copied y h k
      · replace h := zif2 c h
        refine rmk [false, true, false] (L2 := [none, some (0, v1), none]) rfl ?_
        obtain rfl := Option.some.inj h
        exact k
  unfold f_X4_sentencesOfAll at h
  refine rb false 0 (L2 := [some (2, Int.ofNat 2), some (0, 0), some (0, 0)]) rfl rfl trivial ?_
  obtain ⟨x6, hx6, h⟩ := zbd h
  refine LP4 zN 0 0 L_count L_copiedStands L_from L_to L_forms L_costs L_copied x6 hx6 ?_
  obtain rfl := Option.some.inj h
  exact r1 false 5 rfl rfl rfl rfl rfl rfl trivial
def bX4_foldInto : zB := [(0, [(.lload_n 1, 1), (.lstore_n 3, 1), (.iconst 0, 1), (.istore 5, 2)], 5, .nop, 0), (5, [(.iload 5, 2), (.aload_n 0, 1), (.getfield 27, 3)], 11, .if_icmp .ge 76, 3), (14, [(.ldc2_w 62, 3), (.lload_n 3, 1), (.lmul, 1), (.aload_n 0, 1), (.getfield 11, 3), (.iload 5, 2), (.iaload, 1), (.i2l, 1), (.ladd, 1), (.lstore_n 3, 1)], 29, .nop, 0), (29, [(.ldc2_w 62, 3), (.lload_n 3, 1), (.lmul, 1), (.aload_n 0, 1), (.getfield 15, 3), (.iload 5, 2), (.iaload, 1), (.i2l, 1), (.ladd, 1), (.lstore_n 3, 1)], 44, .nop, 0), (44, [(.iconst 0, 1), (.istore 6, 2)], 47, .nop, 0), (47, [(.iload 6, 2), (.bipush 8, 2)], 51, .if_icmp .ge 30, 3), (54, [(.ldc2_w 62, 3), (.lload_n 3, 1), (.lmul, 1), (.aload_n 0, 1), (.getfield 18, 3), (.iload 5, 2), (.bipush 8, 2), (.imul, 1), (.iload 6, 2), (.iadd, 1), (.iaload, 1), (.i2l, 1), (.ladd, 1), (.lstore_n 3, 1)], 75, .nop, 0), (75, [(.iinc 6 1, 3)], 78, .goto (-31), 3), (81, [(.iinc 5 1, 3)], 84, .goto (-79), 3), (87, [(.iconst 0, 1), (.istore 5, 2)], 90, .nop, 0), (90, [(.iload 5, 2), (.aload_n 0, 1), (.getfield 21, 3), (.arraylength, 1)], 97, .if_icmp .ge 24, 3), (100, [(.ldc2_w 62, 3), (.lload_n 3, 1), (.lmul, 1), (.aload_n 0, 1), (.getfield 21, 3), (.iload 5, 2), (.iaload, 1), (.i2l, 1), (.ladd, 1), (.lstore_n 3, 1)], 115, .nop, 0), (115, [(.iinc 5 1, 3)], 118, .goto (-28), 3), (121, [(.lload_n 3, 1)], 122, .lreturn, 1)]
theorem bX4_foldInto_ok : zBok cX4_foldInto 7 bX4_foldInto = true := by decide +kernel
abbrev wX4_foldInto : List Cond := Cond.code yX4_foldInto cX4_foldInto 7 (some .long) :: uU
def rX4_foldInto : Room := { frames := 0, cells := 0, slots := 0, locals := 0 }
set_option maxRecDepth 20000 in
set_option maxHeartbeats 4000000 in
theorem m_C_X4_foldInto (l : Launch) (M1 : zM) (M2 : zM) (M3 : zM) (M4 : zM) (M5 : zM) (M6 : zM) (M7 : zM) (M8 : zM) (M9 : zM) (M10 : zM) (M11 : zM) (M12 : zM) (M13 : zM) (p1 : Int) (L_count : Int) (L_copiedStands : Int) (L_from : Nat → Int) (L_to : Nat → Int) (L_forms : Nat → Int) (L_costs : Nat → Int) (L_copied : Nat → Int) (x : Int) (h : f_X4_foldInto p1 L_count L_from L_to L_forms L_costs = some x) : zD l yX4_foldInto wX4_foldInto rX4_foldInto lamC shpC [(2, Int.ofNat 2), (1, p1)] [([L_count, L_copiedStands], [L_from, L_to, L_forms, L_costs, L_copied]), M1, M2, M3, M4, M5, M6, M7, M8, M9, M10, M11, M12, M13] (some (1, x)) [([L_count, L_copiedStands], [L_from, L_to, L_forms, L_costs, L_copied]), M1, M2, M3, M4, M5, M6, M7, M8, M9, M10, M11, M12, M13] := by
  refine zD_of (B := bX4_foldInto) (E := eX4) (by decide) rfl lokC (eX4_ok _) bX4_foldInto_ok (Or.inl rfl) rfl (fun S R => ?_)
  obtain ⟨rb, rg, ri, rv, rs, r0, r1, r2, r3, rt, rmk⟩ := R
  show S 0 [some (2, Int.ofNat 2), some (1, p1), none, none, none, none, none] [] [([L_count, L_copiedStands], [L_from, L_to, L_forms, L_costs, L_copied]), M1, M2, M3, M4, M5, M6, M7, M8, M9, M10, M11, M12, M13]
  have LP47 : ∀ (n : Nat) (v5 : Int) (v3 : Int) (v6 : Int) (L_count : Int) (L_copiedStands : Int) (L_from : Nat → Int) (L_to : Nat → Int) (L_forms : Nat → Int) (L_costs : Nat → Int) (L_copied : Nat → Int) (y : Int), l_X4_foldInto_47 n v5 v3 v6 L_forms = some y → S 81 [some (2, Int.ofNat 2), none, none, some (1, y), none, some (0, v5), none] [] [([L_count, L_copiedStands], [L_from, L_to, L_forms, L_costs, L_copied]), M1, M2, M3, M4, M5, M6, M7, M8, M9, M10, M11, M12, M13] → S 47 [some (2, Int.ofNat 2), none, none, some (1, v3), none, some (0, v5), some (0, v6)] [] [([L_count, L_copiedStands], [L_from, L_to, L_forms, L_costs, L_copied]), M1, M2, M3, M4, M5, M6, M7, M8, M9, M10, M11, M12, M13] := by
    intro n
    induction n with
    | zero =>
      intro v5 v3 v6 L_count L_copiedStands L_from L_to L_forms L_costs L_copied y h k
      rw [l_X4_foldInto_47] at h
      cases h
    | succ n ih =>
      intro v5 v3 v6 L_count L_copiedStands L_from L_to L_forms L_costs L_copied y h k
      rw [l_X4_foldInto_47] at h
      refine ri true 5 (q := v6 < 8) (t1 := 54) (t2 := 81) rfl rfl trivial (fun c => ?_) (fun c => ?_)
      · replace h := zif1 c h
        obtain ⟨g3_0, h⟩ := zgd h
        refine rb true 6 (L2 := [some (2, Int.ofNat 2), none, none, some (1, (zwl ((31 * v3) + (L_forms (Int.toNat ((v5 * 8) + v6)))))), none, some (0, v5), some (0, v6)]) rfl rfl g3_0 ?_
        obtain ⟨g4_0, h⟩ := zgd h
        refine rg true 7 (t := 47) (L2 := [some (2, Int.ofNat 2), none, none, some (1, (zwl ((31 * v3) + (L_forms (Int.toNat ((v5 * 8) + v6)))))), none, some (0, v5), some (0, (v6 + 1))]) rfl rfl rfl g4_0 ?_
        exact ih v5 (zwl ((31 * v3) + (L_forms (Int.toNat ((v5 * 8) + v6))))) (v6 + 1) L_count L_copiedStands L_from L_to L_forms L_costs L_copied y h k
      · replace h := zif2 c h
        refine rmk [true, false, false, true, false, true, false] (L2 := [some (2, Int.ofNat 2), none, none, some (1, v3), none, some (0, v5), none]) rfl ?_
        obtain rfl := Option.some.inj h
        exact k
  have LP5 : ∀ (n : Nat) (v3 : Int) (v5 : Int) (L_count : Int) (L_copiedStands : Int) (L_from : Nat → Int) (L_to : Nat → Int) (L_forms : Nat → Int) (L_costs : Nat → Int) (L_copied : Nat → Int) (y : Int), l_X4_foldInto_5 n v3 v5 L_count L_from L_to L_forms = some y → S 87 [some (2, Int.ofNat 2), none, none, some (1, y), none, none, none] [] [([L_count, L_copiedStands], [L_from, L_to, L_forms, L_costs, L_copied]), M1, M2, M3, M4, M5, M6, M7, M8, M9, M10, M11, M12, M13] → S 5 [some (2, Int.ofNat 2), none, none, some (1, v3), none, some (0, v5), none] [] [([L_count, L_copiedStands], [L_from, L_to, L_forms, L_costs, L_copied]), M1, M2, M3, M4, M5, M6, M7, M8, M9, M10, M11, M12, M13] := by
    intro n
    induction n with
    | zero =>
      intro v3 v5 L_count L_copiedStands L_from L_to L_forms L_costs L_copied y h k
      rw [l_X4_foldInto_5] at h
      cases h
    | succ n ih =>
      intro v3 v5 L_count L_copiedStands L_from L_to L_forms L_costs L_copied y h k
      rw [l_X4_foldInto_5] at h
      refine ri true 1 (q := v5 < L_count) (t1 := 14) (t2 := 87) rfl rfl trivial (fun c => ?_) (fun c => ?_)
      · replace h := zif1 c h
        obtain ⟨g1_0, h⟩ := zgd h
        refine rb true 2 (L2 := [some (2, Int.ofNat 2), none, none, some (1, (zwl ((31 * v3) + (L_from (Int.toNat v5))))), none, some (0, v5), none]) rfl rfl g1_0 ?_
        obtain ⟨g2_0, h⟩ := zgd h
        refine rb true 3 (L2 := [some (2, Int.ofNat 2), none, none, some (1, (zwl ((31 * (zwl ((31 * v3) + (L_from (Int.toNat v5))))) + (L_to (Int.toNat v5))))), none, some (0, v5), none]) rfl rfl g2_0 ?_
        refine rb true 4 (L2 := [some (2, Int.ofNat 2), none, none, some (1, (zwl ((31 * (zwl ((31 * v3) + (L_from (Int.toNat v5))))) + (L_to (Int.toNat v5))))), none, some (0, v5), some (0, 0)]) rfl rfl trivial ?_
        obtain ⟨x5, hx5, h⟩ := zbd h
        refine LP47 zN v5 (zwl ((31 * (zwl ((31 * v3) + (L_from (Int.toNat v5))))) + (L_to (Int.toNat v5)))) 0 L_count L_copiedStands L_from L_to L_forms L_costs L_copied x5 hx5 ?_
        obtain ⟨g6_0, h⟩ := zgd h
        refine rg true 8 (t := 5) (L2 := [some (2, Int.ofNat 2), none, none, some (1, x5), none, some (0, (v5 + 1)), none]) rfl rfl rfl g6_0 ?_
        exact ih x5 (v5 + 1) L_count L_copiedStands L_from L_to L_forms L_costs L_copied y h k
      · replace h := zif2 c h
        refine rmk [true, false, false, true, false, false, false] (L2 := [some (2, Int.ofNat 2), none, none, some (1, v3), none, none, none]) rfl ?_
        obtain rfl := Option.some.inj h
        exact k
  have LP90 : ∀ (n : Nat) (v3 : Int) (v5 : Int) (L_count : Int) (L_copiedStands : Int) (L_from : Nat → Int) (L_to : Nat → Int) (L_forms : Nat → Int) (L_costs : Nat → Int) (L_copied : Nat → Int) (y : Int), l_X4_foldInto_90 n v3 v5 L_costs = some y → S 121 [none, none, none, some (1, y), none, none, none] [] [([L_count, L_copiedStands], [L_from, L_to, L_forms, L_costs, L_copied]), M1, M2, M3, M4, M5, M6, M7, M8, M9, M10, M11, M12, M13] → S 90 [some (2, Int.ofNat 2), none, none, some (1, v3), none, some (0, v5), none] [] [([L_count, L_copiedStands], [L_from, L_to, L_forms, L_costs, L_copied]), M1, M2, M3, M4, M5, M6, M7, M8, M9, M10, M11, M12, M13] := by
    intro n
    induction n with
    | zero =>
      intro v3 v5 L_count L_copiedStands L_from L_to L_forms L_costs L_copied y h k
      rw [l_X4_foldInto_90] at h
      cases h
    | succ n ih =>
      intro v3 v5 L_count L_copiedStands L_from L_to L_forms L_costs L_copied y h k
      rw [l_X4_foldInto_90] at h
      refine ri true 10 (q := v5 < (Int.ofNat 5)) (t1 := 100) (t2 := 121) rfl rfl trivial (fun c => ?_) (fun c => ?_)
      · replace h := zif1 c h
        obtain ⟨g8_0, h⟩ := zgd h
        refine rb true 11 (L2 := [some (2, Int.ofNat 2), none, none, some (1, (zwl ((31 * v3) + (L_costs (Int.toNat v5))))), none, some (0, v5), none]) rfl rfl g8_0 ?_
        obtain ⟨g9_0, h⟩ := zgd h
        refine rg true 12 (t := 90) (L2 := [some (2, Int.ofNat 2), none, none, some (1, (zwl ((31 * v3) + (L_costs (Int.toNat v5))))), none, some (0, (v5 + 1)), none]) rfl rfl rfl g9_0 ?_
        exact ih (zwl ((31 * v3) + (L_costs (Int.toNat v5)))) (v5 + 1) L_count L_copiedStands L_from L_to L_forms L_costs L_copied y h k
      · replace h := zif2 c h
        refine rmk [false, false, false, true, false, false, false] (L2 := [none, none, none, some (1, v3), none, none, none]) rfl ?_
        obtain rfl := Option.some.inj h
        exact k
  unfold f_X4_foldInto at h
  refine rb true 0 (L2 := [some (2, Int.ofNat 2), some (1, p1), none, some (1, p1), none, some (0, 0), none]) rfl rfl trivial ?_
  refine rmk [true, false, false, true, false, true, false] (L2 := [some (2, Int.ofNat 2), none, none, some (1, p1), none, some (0, 0), none]) rfl ?_
  obtain ⟨x7, hx7, h⟩ := zbd h
  refine LP5 zN p1 0 L_count L_copiedStands L_from L_to L_forms L_costs L_copied x7 hx7 ?_
  refine rb true 9 (L2 := [some (2, Int.ofNat 2), none, none, some (1, x7), none, some (0, 0), none]) rfl rfl trivial ?_
  obtain ⟨x10, hx10, h⟩ := zbd h
  refine LP90 zN x7 0 L_count L_copiedStands L_from L_to L_forms L_costs L_copied x10 hx10 ?_
  obtain rfl := Option.some.inj h
  exact r3 true 13 rfl rfl rfl rfl rfl rfl trivial
