def bX10_sign : zB := [(0, [(.iload_n 1, 1)], 1, .ifCond .ne 20, 3), (4, [(.aload_n 0, 1), (.getfield 13, 3), (.iconst 0, 1), (.iaload, 1)], 10, .ifCond .le 7, 3), (13, [(.iconst 1, 1)], 14, .goto 37, 3), (17, [(.iconst 0, 1)], 18, .goto 33, 3), (21, [(.iload_n 1, 1), (.iconst 1, 1)], 23, .if_icmp .ne 12, 3), (26, [(.aload_n 0, 1), (.getfield 13, 3), (.iconst 0, 1), (.iaload, 1)], 32, .goto 19, 3), (35, [(.iload_n 1, 1), (.iconst 2, 1)], 37, .if_icmp .ne 12, 3), (40, [(.aload_n 0, 1), (.getfield 13, 3), (.iconst 1, 1), (.iaload, 1)], 46, .goto 5, 3), (49, [(.bipush (-2), 2)], 51, .nop, 0), (51, [], 51, .ireturn, 1)]
theorem bX10_sign_ok : zBok cX10_sign 2 bX10_sign = true := by decide +kernel
abbrev wX10_sign : List Cond := Cond.code yX10_sign cX10_sign 2 (some .int) :: uU
def rX10_sign : Room := { frames := 0, cells := 0, slots := 0, locals := 0 }
set_option maxRecDepth 20000 in
set_option maxHeartbeats 4000000 in
theorem m_M_X10_sign (l : Launch) (M1 : zM) (M2 : zM) (M3 : zM) (M4 : zM) (M5 : zM) (M6 : zM) (p1 : Int) (mK_limbs : Nat → Int) (mK_wide : Nat → Int) (x : Int) (h : f_X10_sign p1 mK_wide = some x) : zD l yX10_sign wX10_sign rX10_sign lamM shpM [(2, Int.ofNat 0), (0, p1)] [([], [mK_limbs, mK_wide]), M1, M2, M3, M4, M5, M6] (some (0, x)) [([], [mK_limbs, mK_wide]), M1, M2, M3, M4, M5, M6] := by
  refine zD_of (B := bX10_sign) (E := eX10) (by decide) rfl lokM (eX10_ok _) bX10_sign_ok (Or.inl rfl) rfl (fun S R => ?_)
  obtain ⟨rb, rg, ri, rv, rs, r0, r1, r2, r3, rt, rmk⟩ := R
  show S 0 [some (2, Int.ofNat 0), some (0, p1)] [] [([], [mK_limbs, mK_wide]), M1, M2, M3, M4, M5, M6]
  unfold f_X10_sign at h
  refine ri false 0 (q := p1 = 0) (t1 := 4) (t2 := 21) rfl rfl trivial (fun c => ?_) (fun c => ?_)
  · replace h := zif1 c h
    refine ri false 1 (q := (0 : Int) < (mK_wide (Int.toNat 0))) (t1 := 13) (t2 := 17) rfl rfl (show zin 0 9 by decide) (fun c => ?_) (fun c => ?_)
    · replace h := zif1 c h
      refine rg false 2 (t := 51) (st2 := [(0, 1)]) rfl rfl rfl trivial ?_
      obtain rfl := Option.some.inj h
      exact r1 false 9 rfl rfl rfl rfl rfl rfl trivial
    · replace h := zif2 c h
      refine rg false 3 (t := 51) (st2 := [(0, 0)]) rfl rfl rfl trivial ?_
      obtain rfl := Option.some.inj h
      exact r1 false 9 rfl rfl rfl rfl rfl rfl trivial
  · replace h := zif2 c h
    refine ri false 4 (q := p1 = 1) (t1 := 26) (t2 := 35) rfl rfl trivial (fun c => ?_) (fun c => ?_)
    · replace h := zif1 c h
      refine rg false 5 (t := 51) (st2 := [(0, (mK_wide (Int.toNat 0)))]) rfl rfl rfl (show zin 0 9 by decide) ?_
      obtain rfl := Option.some.inj h
      exact r1 false 9 rfl rfl rfl rfl rfl rfl trivial
    · replace h := zif2 c h
      refine ri false 6 (q := p1 = 2) (t1 := 40) (t2 := 49) rfl rfl trivial (fun c => ?_) (fun c => ?_)
      · replace h := zif1 c h
        refine rg false 7 (t := 51) (st2 := [(0, (mK_wide (Int.toNat 1)))]) rfl rfl rfl (show zin 1 9 by decide) ?_
        obtain rfl := Option.some.inj h
        exact r1 false 9 rfl rfl rfl rfl rfl rfl trivial
      · replace h := zif2 c h
        refine rb false 8 (st2 := [(0, (-2))]) rfl rfl trivial ?_
        obtain rfl := Option.some.inj h
        exact r1 false 9 rfl rfl rfl rfl rfl rfl trivial
def bX10_in : zB := [(0, [(.lload_n 0, 1), (.lload_n 2, 1), (.lcmp, 1)], 3, .ifCond .lt 14, 3), (6, [(.lload_n 0, 1), (.lload 4, 2), (.lcmp, 1)], 10, .ifCond .gt 7, 3), (13, [(.iconst 1, 1)], 14, .goto 4, 3), (17, [(.iconst 0, 1)], 18, .nop, 0), (18, [], 18, .ireturn, 1)]
theorem bX10_in_ok : zBok cX10_in 6 bX10_in = true := by decide +kernel
abbrev wX10_in : List Cond := Cond.code yX10_in cX10_in 6 (some .boolean) :: uU
def rX10_in : Room := { frames := 0, cells := 0, slots := 0, locals := 0 }
set_option maxRecDepth 20000 in
set_option maxHeartbeats 4000000 in
theorem m_M_X10_in (l : Launch) (M0 : zM) (M1 : zM) (M2 : zM) (M3 : zM) (M4 : zM) (M5 : zM) (M6 : zM) (p0 : Int) (p2 : Int) (p4 : Int) (x : Int) (h : f_X10_in p0 p2 p4 = some x) : zD l yX10_in wX10_in rX10_in lamM shpM [(1, p0), (1, p2), (1, p4)] [M0, M1, M2, M3, M4, M5, M6] (some (0, x)) [M0, M1, M2, M3, M4, M5, M6] := by
  refine zD_of (B := bX10_in) (E := eX10) (by decide) rfl lokM (eX10_ok _) bX10_in_ok (Or.inl rfl) rfl (fun S R => ?_)
  obtain ⟨rb, rg, ri, rv, rs, r0, r1, r2, r3, rt, rmk⟩ := R
  show S 0 [some (1, p0), none, some (1, p2), none, some (1, p4), none] [] [M0, M1, M2, M3, M4, M5, M6]
  unfold f_X10_in at h
  refine ri false 0 (q := (zlc p0 p2) < 0) (t1 := 17) (t2 := 6) rfl rfl trivial (fun c => ?_) (fun c => ?_)
  · replace h := zif1 c h
    refine rb false 3 (st2 := [(0, 0)]) rfl rfl trivial ?_
    obtain rfl := Option.some.inj h
    exact r2 false 4 rfl rfl rfl rfl trivial (by decide)
  · replace h := zif2 c h
    refine ri false 1 (q := (0 : Int) < (zlc p0 p4)) (t1 := 17) (t2 := 13) rfl rfl trivial (fun c => ?_) (fun c => ?_)
    · replace h := zif1 c h
      refine rb false 3 (st2 := [(0, 0)]) rfl rfl trivial ?_
      obtain rfl := Option.some.inj h
      exact r2 false 4 rfl rfl rfl rfl trivial (by decide)
    · replace h := zif2 c h
      refine rg false 2 (t := 18) (st2 := [(0, 1)]) rfl rfl rfl trivial ?_
      obtain rfl := Option.some.inj h
      exact r2 false 4 rfl rfl rfl rfl trivial (by decide)
def bX10_limb : zB := [(0, [(.iload_n 1, 1), (.i2l, 1), (.lconst 0, 1), (.lconst 1, 1)], 4, .invokestatic 123, 3), (7, [], 7, .ifCond .eq 7, 3), (10, [(.iload_n 2, 1)], 11, .ifCond .ge 6, 3), (14, [(.bipush (-2), 2)], 16, .ireturn, 1), (17, [(.iload_n 2, 1), (.aload_n 0, 1), (.getfield 13, 3), (.iload_n 1, 1), (.iaload, 1)], 24, .if_icmp .ge 17, 3), (27, [(.aload_n 0, 1), (.getfield 7, 3), (.bipush 70, 2), (.iload_n 1, 1), (.imul, 1), (.iload_n 2, 1), (.iadd, 1), (.iaload, 1)], 38, .goto 4, 3), (41, [(.iconst (-1), 1)], 42, .nop, 0), (42, [], 42, .ireturn, 1)]
theorem bX10_limb_ok : zBok cX10_limb 3 bX10_limb = true := by decide +kernel
abbrev wX10_limb : List Cond := Cond.code yX10_limb cX10_limb 3 (some .int) :: uU
def rX10_limb : Room := { frames := 1, cells := 0, slots := 0, locals := 25 }
set_option maxRecDepth 20000 in
set_option maxHeartbeats 4000000 in
theorem m_M_X10_limb (l : Launch) (M1 : zM) (M2 : zM) (M3 : zM) (M4 : zM) (M5 : zM) (M6 : zM) (p1 : Int) (p2 : Int) (mK_limbs : Nat → Int) (mK_wide : Nat → Int) (x : Int) (h : f_X10_limb p1 p2 mK_limbs mK_wide = some x) : zD l yX10_limb wX10_limb rX10_limb lamM shpM [(2, Int.ofNat 0), (0, p1), (0, p2)] [([], [mK_limbs, mK_wide]), M1, M2, M3, M4, M5, M6] (some (0, x)) [([], [mK_limbs, mK_wide]), M1, M2, M3, M4, M5, M6] := by
  refine zD_of (B := bX10_limb) (E := eX10) (by decide) rfl lokM (eX10_ok _) bX10_limb_ok (Or.inl rfl) rfl (fun S R => ?_)
  obtain ⟨rb, rg, ri, rv, rs, r0, r1, r2, r3, rt, rmk⟩ := R
  show S 0 [some (2, Int.ofNat 0), some (0, p1), some (0, p2)] [] [([], [mK_limbs, mK_wide]), M1, M2, M3, M4, M5, M6]
  unfold f_X10_limb at h
  obtain ⟨x1, hx1, h⟩ := zbd h
  refine rs false 0 3 rfl rfl trivial rfl (m_M_X10_in l ([], [mK_limbs, mK_wide]) M1 M2 M3 M4 M5 M6 p1 0 1 x1 hx1) ⟨_, _, _, _, rfl, rfl, rfl, by decide +kernel, ⟨Nat.le_of_ble_eq_true rfl, Nat.le_of_ble_eq_true rfl⟩, uGinS u_9_14 u_9_15 u_1_5 u_9_16⟩ ?_
  refine ri false 1 (q := x1 = 0) (t1 := 14) (t2 := 10) rfl rfl trivial (fun c => ?_) (fun c => ?_)
  · replace h := zif1 c h
    obtain rfl := Option.some.inj h
    exact r1 false 3 rfl rfl rfl rfl rfl rfl trivial
  · replace h := zif2 c h
    refine ri false 2 (q := p2 < 0) (t1 := 14) (t2 := 17) rfl rfl trivial (fun c => ?_) (fun c => ?_)
    · replace h := zif1 c h
      obtain rfl := Option.some.inj h
      exact r1 false 3 rfl rfl rfl rfl rfl rfl trivial
    · replace h := zif2 c h
      obtain ⟨g2_0, h⟩ := zgd h
      refine ri false 4 (q := p2 < (mK_wide (Int.toNat p1))) (t1 := 27) (t2 := 41) rfl rfl g2_0 (fun c => ?_) (fun c => ?_)
      · replace h := zif1 c h
        obtain ⟨g3_0, h⟩ := zgd h
        refine rg false 5 (t := 42) (st2 := [(0, (mK_limbs (Int.toNat ((70 * p1) + p2))))]) rfl rfl rfl g3_0 ?_
        obtain rfl := Option.some.inj h
        exact r1 false 7 rfl rfl rfl rfl rfl rfl trivial
      · replace h := zif2 c h
        refine rb false 6 (st2 := [(0, (-1))]) rfl rfl trivial ?_
        obtain rfl := Option.some.inj h
        exact r1 false 7 rfl rfl rfl rfl rfl rfl trivial
def bX10_letter : zB := [(0, [(.iload_n 1, 1), (.i2l, 1), (.lconst 0, 1), (.iload_n 2, 1), (.i2l, 1)], 5, .invokestatic 123, 3), (8, [], 8, .ifCond .eq 15, 3), (11, [(.iload_n 2, 1), (.i2l, 1), (.lconst 0, 1), (.ldc2_w 131, 3)], 17, .invokestatic 123, 3), (20, [], 20, .ifCond .ne 6, 3), (23, [(.bipush (-2), 2)], 25, .ireturn, 1), (26, [(.aload_n 0, 1), (.getfield 127, 3), (.bipush 8, 2)], 32, .if_icmp .ne 6, 3), (35, [(.bipush (-4), 2)], 37, .ireturn, 1), (38, [(.aload_n 0, 1), (.getfield 16, 3), (.aload_n 0, 1), (.getfield 127, 3), (.iload_n 1, 1), (.iastore, 1), (.aload_n 0, 1), (.getfield 19, 3), (.aload_n 0, 1), (.getfield 127, 3), (.iload_n 2, 1), (.iastore, 1)], 58, .nop, 0), (58, [(.iconst 0, 1), (.istore_n 3, 1)], 60, .nop, 0), (60, [(.iload_n 3, 1), (.bipush 8, 2)], 63, .if_icmp .ge 24, 3), (66, [(.aload_n 0, 1), (.getfield 22, 3), (.bipush 8, 2), (.aload_n 0, 1), (.getfield 127, 3), (.imul, 1), (.iload_n 3, 1), (.iadd, 1), (.iconst (-1), 1), (.iastore, 1)], 81, .nop, 0), (81, [(.iinc 3 1, 3)], 84, .goto (-24), 3), (87, [(.aload_n 0, 1), (.dup, 1), (.getfield 127, 3), (.iconst 1, 1), (.iadd, 1), (.putfield 127, 3), (.aload_n 0, 1), (.getfield 127, 3), (.iconst 1, 1), (.isub, 1)], 103, .ireturn, 1)]
theorem bX10_letter_ok : zBok cX10_letter 4 bX10_letter = true := by decide +kernel
abbrev wX10_letter : List Cond := Cond.code yX10_letter cX10_letter 4 (some .int) :: uU
def rX10_letter : Room := { frames := 1, cells := 0, slots := 0, locals := 25 }
set_option maxRecDepth 20000 in
set_option maxHeartbeats 4000000 in
theorem m_M_X10_letter (l : Launch) (M0 : zM) (M2 : zM) (M3 : zM) (M4 : zM) (M5 : zM) (M6 : zM) (p1 : Int) (p2 : Int) (mL_letters : Int) (mL_from : Nat → Int) (mL_to : Nat → Int) (mL_forms : Nat → Int) (mL_costs : Nat → Int) (mL_cheapest : Nat → Int) (mL_fixed : Nat → Int) (mL_sumOf : Nat → Int) (mL_early : Nat → Int) (mL_late : Nat → Int) (x : Int × Int × (Nat → Int) × (Nat → Int) × (Nat → Int)) (h : f_X10_letter p1 p2 mL_letters mL_from mL_to mL_forms = some x) : zD l yX10_letter wX10_letter rX10_letter lamM shpM [(2, Int.ofNat 0), (0, p1), (0, p2)] [M0, ([mL_letters], [mL_from, mL_to, mL_forms, mL_costs, mL_cheapest, mL_fixed, mL_sumOf, mL_early, mL_late]), M2, M3, M4, M5, M6] (some (0, x.1)) [M0, ([x.2.1], [x.2.2.1, x.2.2.2.1, x.2.2.2.2, mL_costs, mL_cheapest, mL_fixed, mL_sumOf, mL_early, mL_late]), M2, M3, M4, M5, M6] := by
  refine zD_of (B := bX10_letter) (E := eX10) (by decide) rfl lokM (eX10_ok _) bX10_letter_ok (Or.inl rfl) rfl (fun S R => ?_)
  obtain ⟨rb, rg, ri, rv, rs, r0, r1, r2, r3, rt, rmk⟩ := R
  show S 0 [some (2, Int.ofNat 0), some (0, p1), some (0, p2), none] [] [M0, ([mL_letters], [mL_from, mL_to, mL_forms, mL_costs, mL_cheapest, mL_fixed, mL_sumOf, mL_early, mL_late]), M2, M3, M4, M5, M6]
  have LP60 : ∀ (n : Nat) (v3 : Int) (mL_letters : Int) (mL_from : Nat → Int) (mL_to : Nat → Int) (mL_forms : Nat → Int) (mL_costs : Nat → Int) (mL_cheapest : Nat → Int) (mL_fixed : Nat → Int) (mL_sumOf : Nat → Int) (mL_early : Nat → Int) (mL_late : Nat → Int) (y : Nat → Int), l_X10_letter_60 n v3 mL_letters mL_forms = some y → S 87 [some (2, Int.ofNat 0), none, none, none] [] [M0, ([mL_letters], [mL_from, mL_to, y, mL_costs, mL_cheapest, mL_fixed, mL_sumOf, mL_early, mL_late]), M2, M3, M4, M5, M6] → S 60 [some (2, Int.ofNat 0), none, none, some (0, v3)] [] [M0, ([mL_letters], [mL_from, mL_to, mL_forms, mL_costs, mL_cheapest, mL_fixed, mL_sumOf, mL_early, mL_late]), M2, M3, M4, M5, M6] := by
    intro n
    induction n with
    | zero =>
      intro v3 mL_letters mL_from mL_to mL_forms mL_costs mL_cheapest mL_fixed mL_sumOf mL_early mL_late y h k
      rw [l_X10_letter_60] at h
      cases h
    | succ n ih =>
      intro v3 mL_letters mL_from mL_to mL_forms mL_costs mL_cheapest mL_fixed mL_sumOf mL_early mL_late y h k
      rw [l_X10_letter_60] at h
      refine ri false 9 (q := v3 < 8) (t1 := 66) (t2 := 87) rfl rfl trivial (fun c => ?_) (fun c => ?_)
      · replace h := zif1 c h
        obtain ⟨g4_0, h⟩ := zgd h
        refine rb false 10 (σ2 := [M0, ([mL_letters], [mL_from, mL_to, (zu mL_forms (Int.toNat ((8 * mL_letters) + v3)) (-1)), mL_costs, mL_cheapest, mL_fixed, mL_sumOf, mL_early, mL_late]), M2, M3, M4, M5, M6]) rfl rfl g4_0 ?_
        obtain ⟨g5_0, h⟩ := zgd h
        refine rg false 11 (t := 60) (L2 := [some (2, Int.ofNat 0), none, none, some (0, (v3 + 1))]) rfl rfl rfl g5_0 ?_
        exact ih (v3 + 1) mL_letters mL_from mL_to (zu mL_forms (Int.toNat ((8 * mL_letters) + v3)) (-1)) mL_costs mL_cheapest mL_fixed mL_sumOf mL_early mL_late y h k
      · replace h := zif2 c h
        refine rmk [true, false, false, false] (L2 := [some (2, Int.ofNat 0), none, none, none]) rfl ?_
        obtain rfl := Option.some.inj h
        exact k
  unfold f_X10_letter at h
  obtain ⟨x1, hx1, h⟩ := zbd h
  refine rs false 0 3 rfl rfl trivial rfl (m_M_X10_in l M0 ([mL_letters], [mL_from, mL_to, mL_forms, mL_costs, mL_cheapest, mL_fixed, mL_sumOf, mL_early, mL_late]) M2 M3 M4 M5 M6 p1 0 p2 x1 hx1) ⟨_, _, _, _, rfl, rfl, rfl, by decide +kernel, ⟨Nat.le_of_ble_eq_true rfl, Nat.le_of_ble_eq_true rfl⟩, uGinS u_9_14 u_9_15 u_1_5 u_9_16⟩ ?_
  refine ri false 1 (q := x1 = 0) (t1 := 23) (t2 := 11) rfl rfl trivial (fun c => ?_) (fun c => ?_)
  · replace h := zif1 c h
    obtain rfl := Option.some.inj h
    exact r1 false 4 rfl rfl rfl rfl rfl rfl trivial
  · replace h := zif2 c h
    obtain ⟨x2, hx2, h⟩ := zbd h
    refine rs false 2 3 rfl rfl trivial rfl (m_M_X10_in l M0 ([mL_letters], [mL_from, mL_to, mL_forms, mL_costs, mL_cheapest, mL_fixed, mL_sumOf, mL_early, mL_late]) M2 M3 M4 M5 M6 p2 0 99 x2 hx2) ⟨_, _, _, _, rfl, rfl, rfl, by decide +kernel, ⟨Nat.le_of_ble_eq_true rfl, Nat.le_of_ble_eq_true rfl⟩, uGinS u_9_14 u_9_15 u_1_5 u_9_16⟩ ?_
    refine ri false 3 (q := x2 = 0) (t1 := 23) (t2 := 26) rfl rfl trivial (fun c => ?_) (fun c => ?_)
    · replace h := zif1 c h
      obtain rfl := Option.some.inj h
      exact r1 false 4 rfl rfl rfl rfl rfl rfl trivial
    · replace h := zif2 c h
      refine ri false 5 (q := mL_letters = 8) (t1 := 35) (t2 := 38) rfl rfl trivial (fun c => ?_) (fun c => ?_)
      · replace h := zif1 c h
        obtain rfl := Option.some.inj h
        exact r1 false 6 rfl rfl rfl rfl rfl rfl trivial
      · replace h := zif2 c h
        obtain ⟨⟨g3_0, g3_1⟩, h⟩ := zgd h
        refine rb false 7 (σ2 := [M0, ([mL_letters], [(zu mL_from (Int.toNat mL_letters) p1), (zu mL_to (Int.toNat mL_letters) p2), mL_forms, mL_costs, mL_cheapest, mL_fixed, mL_sumOf, mL_early, mL_late]), M2, M3, M4, M5, M6]) rfl rfl (And.intro g3_0 g3_1) ?_
        refine rb false 8 (L2 := [some (2, Int.ofNat 0), some (0, p1), some (0, p2), some (0, 0)]) rfl rfl trivial ?_
        refine rmk [true, false, false, true] (L2 := [some (2, Int.ofNat 0), none, none, some (0, 0)]) rfl ?_
        obtain ⟨x6, hx6, h⟩ := zbd h
        refine LP60 zN 0 mL_letters (zu mL_from (Int.toNat mL_letters) p1) (zu mL_to (Int.toNat mL_letters) p2) mL_forms mL_costs mL_cheapest mL_fixed mL_sumOf mL_early mL_late x6 hx6 ?_
        obtain ⟨⟨g7_0, g7_1⟩, h⟩ := zgd h
        obtain rfl := Option.some.inj h
        exact r1 false 12 rfl rfl rfl rfl rfl rfl (And.intro g7_0 g7_1)
def bX10_isLetter : zB := [(0, [(.iload_n 1, 1), (.i2l, 1), (.lconst 0, 1), (.aload_n 0, 1), (.getfield 127, 3), (.iconst 1, 1), (.isub, 1), (.i2l, 1)], 10, .invokestatic 123, 3), (13, [], 13, .ireturn, 1)]
theorem bX10_isLetter_ok : zBok cX10_isLetter 2 bX10_isLetter = true := by decide +kernel
abbrev wX10_isLetter : List Cond := Cond.code yX10_isLetter cX10_isLetter 2 (some .boolean) :: uU
def rX10_isLetter : Room := { frames := 1, cells := 0, slots := 0, locals := 25 }
set_option maxRecDepth 20000 in
set_option maxHeartbeats 4000000 in
theorem m_M_X10_isLetter (l : Launch) (M0 : zM) (M2 : zM) (M3 : zM) (M4 : zM) (M5 : zM) (M6 : zM) (p1 : Int) (mL_letters : Int) (mL_from : Nat → Int) (mL_to : Nat → Int) (mL_forms : Nat → Int) (mL_costs : Nat → Int) (mL_cheapest : Nat → Int) (mL_fixed : Nat → Int) (mL_sumOf : Nat → Int) (mL_early : Nat → Int) (mL_late : Nat → Int) (x : Int) (h : f_X10_isLetter p1 mL_letters = some x) : zD l yX10_isLetter wX10_isLetter rX10_isLetter lamM shpM [(2, Int.ofNat 0), (0, p1)] [M0, ([mL_letters], [mL_from, mL_to, mL_forms, mL_costs, mL_cheapest, mL_fixed, mL_sumOf, mL_early, mL_late]), M2, M3, M4, M5, M6] (some (0, x)) [M0, ([mL_letters], [mL_from, mL_to, mL_forms, mL_costs, mL_cheapest, mL_fixed, mL_sumOf, mL_early, mL_late]), M2, M3, M4, M5, M6] := by
  refine zD_of (B := bX10_isLetter) (E := eX10) (by decide) rfl lokM (eX10_ok _) bX10_isLetter_ok (Or.inl rfl) rfl (fun S R => ?_)
  obtain ⟨rb, rg, ri, rv, rs, r0, r1, r2, r3, rt, rmk⟩ := R
  show S 0 [some (2, Int.ofNat 0), some (0, p1)] [] [M0, ([mL_letters], [mL_from, mL_to, mL_forms, mL_costs, mL_cheapest, mL_fixed, mL_sumOf, mL_early, mL_late]), M2, M3, M4, M5, M6]
  unfold f_X10_isLetter at h
  obtain ⟨g2_0, h⟩ := zgd h
  obtain ⟨x1, hx1, h⟩ := zbd h
  refine rs false 0 3 rfl rfl g2_0 rfl (m_M_X10_in l M0 ([mL_letters], [mL_from, mL_to, mL_forms, mL_costs, mL_cheapest, mL_fixed, mL_sumOf, mL_early, mL_late]) M2 M3 M4 M5 M6 p1 0 (mL_letters - 1) x1 hx1) ⟨_, _, _, _, rfl, rfl, rfl, by decide +kernel, ⟨Nat.le_of_ble_eq_true rfl, Nat.le_of_ble_eq_true rfl⟩, uGinS u_9_14 u_9_15 u_1_5 u_9_16⟩ ?_
  obtain ⟨gb3, h⟩ := zgd h
  obtain rfl := Option.some.inj h
  exact r2 false 1 rfl rfl rfl rfl trivial gb3
def bX10_form : zB := [(0, [(.aload_n 0, 1), (.iload_n 1, 1)], 2, .invokevirtual 133, 3), (5, [], 5, .ifCond .eq 29, 3), (8, [(.iload_n 2, 1), (.i2l, 1), (.lconst 0, 1), (.ldc2_w 136, 3)], 14, .invokestatic 123, 3), (17, [], 17, .ifCond .eq 17, 3), (20, [(.iload_n 3, 1), (.i2l, 1), (.ldc2_w 138, 3), (.ldc2_w 140, 3)], 28, .invokestatic 123, 3), (31, [], 31, .ifCond .ne 6, 3), (34, [(.bipush (-10), 2)], 36, .ireturn, 1), (37, [(.aload_n 0, 1), (.getfield 22, 3), (.bipush 8, 2), (.iload_n 1, 1), (.imul, 1), (.iload_n 2, 1), (.iadd, 1), (.iaload, 1), (.istore 4, 2)], 50, .nop, 0), (50, [(.aload_n 0, 1), (.getfield 22, 3), (.bipush 8, 2), (.iload_n 1, 1), (.imul, 1), (.iload_n 2, 1), (.iadd, 1), (.iload_n 3, 1), (.iastore, 1)], 62, .nop, 0), (62, [(.iload 4, 2)], 64, .ireturn, 1)]
theorem bX10_form_ok : zBok cX10_form 5 bX10_form = true := by decide +kernel
abbrev wX10_form : List Cond := Cond.code yX10_form cX10_form 5 (some .int) :: uU
def rX10_form : Room := { frames := 2, cells := 0, slots := 0, locals := 46 }
set_option maxRecDepth 20000 in
set_option maxHeartbeats 4000000 in
theorem m_M_X10_form (l : Launch) (M0 : zM) (M2 : zM) (M3 : zM) (M4 : zM) (M5 : zM) (M6 : zM) (p1 : Int) (p2 : Int) (p3 : Int) (mL_letters : Int) (mL_from : Nat → Int) (mL_to : Nat → Int) (mL_forms : Nat → Int) (mL_costs : Nat → Int) (mL_cheapest : Nat → Int) (mL_fixed : Nat → Int) (mL_sumOf : Nat → Int) (mL_early : Nat → Int) (mL_late : Nat → Int) (x : Int × (Nat → Int)) (h : f_X10_form p1 p2 p3 mL_letters mL_forms = some x) : zD l yX10_form wX10_form rX10_form lamM shpM [(2, Int.ofNat 0), (0, p1), (0, p2), (0, p3)] [M0, ([mL_letters], [mL_from, mL_to, mL_forms, mL_costs, mL_cheapest, mL_fixed, mL_sumOf, mL_early, mL_late]), M2, M3, M4, M5, M6] (some (0, x.1)) [M0, ([mL_letters], [mL_from, mL_to, x.2, mL_costs, mL_cheapest, mL_fixed, mL_sumOf, mL_early, mL_late]), M2, M3, M4, M5, M6] := by
  refine zD_of (B := bX10_form) (E := eX10) (by decide) rfl lokM (eX10_ok _) bX10_form_ok (Or.inl rfl) rfl (fun S R => ?_)
  obtain ⟨rb, rg, ri, rv, rs, r0, r1, r2, r3, rt, rmk⟩ := R
  show S 0 [some (2, Int.ofNat 0), some (0, p1), some (0, p2), some (0, p3), none] [] [M0, ([mL_letters], [mL_from, mL_to, mL_forms, mL_costs, mL_cheapest, mL_fixed, mL_sumOf, mL_early, mL_late]), M2, M3, M4, M5, M6]
  unfold f_X10_form at h
  obtain ⟨x1, hx1, h⟩ := zbd h
  refine rv false 0 1 rfl rfl trivial rfl (m_M_X10_isLetter l M0 M2 M3 M4 M5 M6 p1 mL_letters mL_from mL_to mL_forms mL_costs mL_cheapest mL_fixed mL_sumOf mL_early mL_late x1 hx1) ⟨_, _, _, _, rfl, rfl, rfl, by decide +kernel, ⟨Nat.le_of_ble_eq_true rfl, Nat.le_of_ble_eq_true rfl⟩, uGin u_10_12 u_10_13 u_10_14 u_1_5 u_10_15⟩ ⟨rfl, _, _, _, rfl, rfl⟩ ?_
  refine ri false 1 (q := x1 = 0) (t1 := 34) (t2 := 8) rfl rfl trivial (fun c => ?_) (fun c => ?_)
  · replace h := zif1 c h
    obtain rfl := Option.some.inj h
    exact r1 false 6 rfl rfl rfl rfl rfl rfl trivial
  · replace h := zif2 c h
    obtain ⟨x2, hx2, h⟩ := zbd h
    refine rs false 2 3 rfl rfl trivial rfl (m_M_X10_in l M0 ([mL_letters], [mL_from, mL_to, mL_forms, mL_costs, mL_cheapest, mL_fixed, mL_sumOf, mL_early, mL_late]) M2 M3 M4 M5 M6 p2 0 7 x2 hx2) ⟨_, _, _, _, rfl, rfl, rfl, by decide +kernel, ⟨Nat.le_of_ble_eq_true rfl, Nat.le_of_ble_eq_true rfl⟩, uGinS u_9_14 u_9_15 u_1_5 u_9_16⟩ ?_
    refine ri false 3 (q := x2 = 0) (t1 := 34) (t2 := 20) rfl rfl trivial (fun c => ?_) (fun c => ?_)
    · replace h := zif1 c h
      obtain rfl := Option.some.inj h
      exact r1 false 6 rfl rfl rfl rfl rfl rfl trivial
    · replace h := zif2 c h
      obtain ⟨x3, hx3, h⟩ := zbd h
      refine rs false 4 3 rfl rfl trivial rfl (m_M_X10_in l M0 ([mL_letters], [mL_from, mL_to, mL_forms, mL_costs, mL_cheapest, mL_fixed, mL_sumOf, mL_early, mL_late]) M2 M3 M4 M5 M6 p3 (-1) 9 x3 hx3) ⟨_, _, _, _, rfl, rfl, rfl, by decide +kernel, ⟨Nat.le_of_ble_eq_true rfl, Nat.le_of_ble_eq_true rfl⟩, uGinS u_9_14 u_9_15 u_1_5 u_9_16⟩ ?_
      refine ri false 5 (q := x3 = 0) (t1 := 34) (t2 := 37) rfl rfl trivial (fun c => ?_) (fun c => ?_)
      · replace h := zif1 c h
        obtain rfl := Option.some.inj h
        exact r1 false 6 rfl rfl rfl rfl rfl rfl trivial
      · replace h := zif2 c h
        obtain ⟨g4_0, h⟩ := zgd h
        refine rb false 7 (L2 := [some (2, Int.ofNat 0), some (0, p1), some (0, p2), some (0, p3), some (0, (mL_forms (Int.toNat ((8 * p1) + p2))))]) rfl rfl g4_0 ?_
        obtain ⟨g5_0, h⟩ := zgd h
        refine rb false 8 (σ2 := [M0, ([mL_letters], [mL_from, mL_to, (zu mL_forms (Int.toNat ((8 * p1) + p2)) p3), mL_costs, mL_cheapest, mL_fixed, mL_sumOf, mL_early, mL_late]), M2, M3, M4, M5, M6]) rfl rfl g5_0 ?_
        obtain rfl := Option.some.inj h
        exact r1 false 9 rfl rfl rfl rfl rfl rfl trivial
def bX10_cost : zB := [(0, [(.iload_n 1, 1), (.i2l, 1), (.lconst 0, 1), (.ldc2_w 142, 3)], 6, .invokestatic 123, 3), (9, [], 9, .ifCond .eq 15, 3), (12, [(.iload_n 2, 1), (.i2l, 1), (.lconst 0, 1), (.ldc2_w 140, 3)], 18, .invokestatic 123, 3), (21, [], 21, .ifCond .ne 6, 3), (24, [(.bipush (-2), 2)], 26, .ireturn, 1), (27, [(.aload_n 0, 1), (.getfield 25, 3), (.iload_n 1, 1), (.iaload, 1), (.istore_n 3, 1), (.aload_n 0, 1), (.getfield 25, 3), (.iload_n 1, 1), (.iload_n 2, 1), (.iastore, 1)], 41, .nop, 0), (41, [(.iload_n 3, 1)], 42, .ireturn, 1)]
theorem bX10_cost_ok : zBok cX10_cost 4 bX10_cost = true := by decide +kernel
abbrev wX10_cost : List Cond := Cond.code yX10_cost cX10_cost 4 (some .int) :: uU
def rX10_cost : Room := { frames := 1, cells := 0, slots := 0, locals := 25 }
set_option maxRecDepth 20000 in
set_option maxHeartbeats 4000000 in
theorem m_M_X10_cost (l : Launch) (M0 : zM) (M2 : zM) (M3 : zM) (M4 : zM) (M5 : zM) (M6 : zM) (p1 : Int) (p2 : Int) (mL_letters : Int) (mL_from : Nat → Int) (mL_to : Nat → Int) (mL_forms : Nat → Int) (mL_costs : Nat → Int) (mL_cheapest : Nat → Int) (mL_fixed : Nat → Int) (mL_sumOf : Nat → Int) (mL_early : Nat → Int) (mL_late : Nat → Int) (x : Int × (Nat → Int)) (h : f_X10_cost p1 p2 mL_costs = some x) : zD l yX10_cost wX10_cost rX10_cost lamM shpM [(2, Int.ofNat 0), (0, p1), (0, p2)] [M0, ([mL_letters], [mL_from, mL_to, mL_forms, mL_costs, mL_cheapest, mL_fixed, mL_sumOf, mL_early, mL_late]), M2, M3, M4, M5, M6] (some (0, x.1)) [M0, ([mL_letters], [mL_from, mL_to, mL_forms, x.2, mL_cheapest, mL_fixed, mL_sumOf, mL_early, mL_late]), M2, M3, M4, M5, M6] := by
  refine zD_of (B := bX10_cost) (E := eX10) (by decide) rfl lokM (eX10_ok _) bX10_cost_ok (Or.inl rfl) rfl (fun S R => ?_)
  obtain ⟨rb, rg, ri, rv, rs, r0, r1, r2, r3, rt, rmk⟩ := R
  show S 0 [some (2, Int.ofNat 0), some (0, p1), some (0, p2), none] [] [M0, ([mL_letters], [mL_from, mL_to, mL_forms, mL_costs, mL_cheapest, mL_fixed, mL_sumOf, mL_early, mL_late]), M2, M3, M4, M5, M6]
  unfold f_X10_cost at h
  obtain ⟨x1, hx1, h⟩ := zbd h
  refine rs false 0 3 rfl rfl trivial rfl (m_M_X10_in l M0 ([mL_letters], [mL_from, mL_to, mL_forms, mL_costs, mL_cheapest, mL_fixed, mL_sumOf, mL_early, mL_late]) M2 M3 M4 M5 M6 p1 0 4 x1 hx1) ⟨_, _, _, _, rfl, rfl, rfl, by decide +kernel, ⟨Nat.le_of_ble_eq_true rfl, Nat.le_of_ble_eq_true rfl⟩, uGinS u_9_14 u_9_15 u_1_5 u_9_16⟩ ?_
  refine ri false 1 (q := x1 = 0) (t1 := 24) (t2 := 12) rfl rfl trivial (fun c => ?_) (fun c => ?_)
  · replace h := zif1 c h
    obtain rfl := Option.some.inj h
    exact r1 false 4 rfl rfl rfl rfl rfl rfl trivial
  · replace h := zif2 c h
    obtain ⟨x2, hx2, h⟩ := zbd h
    refine rs false 2 3 rfl rfl trivial rfl (m_M_X10_in l M0 ([mL_letters], [mL_from, mL_to, mL_forms, mL_costs, mL_cheapest, mL_fixed, mL_sumOf, mL_early, mL_late]) M2 M3 M4 M5 M6 p2 0 9 x2 hx2) ⟨_, _, _, _, rfl, rfl, rfl, by decide +kernel, ⟨Nat.le_of_ble_eq_true rfl, Nat.le_of_ble_eq_true rfl⟩, uGinS u_9_14 u_9_15 u_1_5 u_9_16⟩ ?_
    refine ri false 3 (q := x2 = 0) (t1 := 24) (t2 := 27) rfl rfl trivial (fun c => ?_) (fun c => ?_)
    · replace h := zif1 c h
      obtain rfl := Option.some.inj h
      exact r1 false 4 rfl rfl rfl rfl rfl rfl trivial
    · replace h := zif2 c h
      obtain ⟨⟨g3_0, g3_1⟩, h⟩ := zgd h
      refine rb false 5 (L2 := [some (2, Int.ofNat 0), some (0, p1), some (0, p2), some (0, (mL_costs (Int.toNat p1)))]) (σ2 := [M0, ([mL_letters], [mL_from, mL_to, mL_forms, (zu mL_costs (Int.toNat p1) p2), mL_cheapest, mL_fixed, mL_sumOf, mL_early, mL_late]), M2, M3, M4, M5, M6]) rfl rfl (And.intro g3_0 g3_1) ?_
      obtain rfl := Option.some.inj h
      exact r1 false 6 rfl rfl rfl rfl rfl rfl trivial
def bX10_firstOf : zB := [(0, [(.iload_n 1, 1)], 1, .ifCond .ne 7, 3), (4, [(.iconst (-1), 1)], 5, .goto 22, 3), (8, [(.iload_n 1, 1), (.bipush 20, 2)], 11, .if_icmp .ge 9, 3), (14, [(.iload_n 1, 1), (.iconst 1, 1), (.isub, 1)], 17, .goto 10, 3), (20, [(.iload_n 1, 1), (.bipush 20, 2), (.isub, 1), (.bipush 64, 2), (.idiv, 1)], 27, .nop, 0), (27, [], 27, .ireturn, 1)]
theorem bX10_firstOf_ok : zBok cX10_firstOf 2 bX10_firstOf = true := by decide +kernel
abbrev wX10_firstOf : List Cond := Cond.code yX10_firstOf cX10_firstOf 2 (some .int) :: uU
def rX10_firstOf : Room := { frames := 0, cells := 0, slots := 0, locals := 0 }
set_option maxRecDepth 20000 in
set_option maxHeartbeats 4000000 in
theorem m_M_X10_firstOf (l : Launch) (M0 : zM) (M1 : zM) (M2 : zM) (M3 : zM) (M4 : zM) (M5 : zM) (M6 : zM) (p1 : Int) (x : Int) (h : f_X10_firstOf p1 = some x) : zD l yX10_firstOf wX10_firstOf rX10_firstOf lamM shpM [(2, Int.ofNat 0), (0, p1)] [M0, M1, M2, M3, M4, M5, M6] (some (0, x)) [M0, M1, M2, M3, M4, M5, M6] := by
  refine zD_of (B := bX10_firstOf) (E := eX10) (by decide) rfl lokM (eX10_ok _) bX10_firstOf_ok (Or.inl rfl) rfl (fun S R => ?_)
  obtain ⟨rb, rg, ri, rv, rs, r0, r1, r2, r3, rt, rmk⟩ := R
  show S 0 [some (2, Int.ofNat 0), some (0, p1)] [] [M0, M1, M2, M3, M4, M5, M6]
  unfold f_X10_firstOf at h
  refine ri false 0 (q := p1 = 0) (t1 := 4) (t2 := 8) rfl rfl trivial (fun c => ?_) (fun c => ?_)
  · replace h := zif1 c h
    refine rg false 1 (t := 27) (st2 := [(0, (-1))]) rfl rfl rfl trivial ?_
    obtain rfl := Option.some.inj h
    exact r1 false 5 rfl rfl rfl rfl rfl rfl trivial
  · replace h := zif2 c h
    refine ri false 2 (q := p1 < 20) (t1 := 14) (t2 := 20) rfl rfl trivial (fun c => ?_) (fun c => ?_)
    · replace h := zif1 c h
      refine rg false 3 (t := 27) (st2 := [(3, (p1 - 1))]) rfl rfl rfl trivial ?_
      obtain ⟨g1_0, h⟩ := zgd h
      obtain rfl := Option.some.inj h
      exact r1 false 5 rfl rfl rfl rfl rfl rfl g1_0
    · replace h := zif2 c h
      obtain ⟨g2_0, h⟩ := zgd h
      refine rb false 4 (st2 := [(3, (Int.tdiv (p1 - 20) 64))]) rfl rfl (And.intro g2_0 (show (64 : Int) ≠ 0 by decide)) ?_
      obtain ⟨g3_0, h⟩ := zgd h
      obtain rfl := Option.some.inj h
      exact r1 false 5 rfl rfl rfl rfl rfl rfl g3_0
def bX10_secondOf : zB := [(0, [(.iload_n 1, 1), (.bipush 20, 2)], 3, .if_icmp .ge 7, 3), (6, [(.iconst (-1), 1)], 7, .goto 13, 3), (10, [(.iload_n 1, 1), (.bipush 20, 2), (.isub, 1), (.bipush 8, 2), (.idiv, 1), (.bipush 8, 2), (.irem, 1)], 20, .nop, 0), (20, [], 20, .ireturn, 1)]
theorem bX10_secondOf_ok : zBok cX10_secondOf 2 bX10_secondOf = true := by decide +kernel
abbrev wX10_secondOf : List Cond := Cond.code yX10_secondOf cX10_secondOf 2 (some .int) :: uU
def rX10_secondOf : Room := { frames := 0, cells := 0, slots := 0, locals := 0 }
set_option maxRecDepth 20000 in
set_option maxHeartbeats 4000000 in
theorem m_M_X10_secondOf (l : Launch) (M0 : zM) (M1 : zM) (M2 : zM) (M3 : zM) (M4 : zM) (M5 : zM) (M6 : zM) (p1 : Int) (x : Int) (h : f_X10_secondOf p1 = some x) : zD l yX10_secondOf wX10_secondOf rX10_secondOf lamM shpM [(2, Int.ofNat 0), (0, p1)] [M0, M1, M2, M3, M4, M5, M6] (some (0, x)) [M0, M1, M2, M3, M4, M5, M6] := by
  refine zD_of (B := bX10_secondOf) (E := eX10) (by decide) rfl lokM (eX10_ok _) bX10_secondOf_ok (Or.inl rfl) rfl (fun S R => ?_)
  obtain ⟨rb, rg, ri, rv, rs, r0, r1, r2, r3, rt, rmk⟩ := R
  show S 0 [some (2, Int.ofNat 0), some (0, p1)] [] [M0, M1, M2, M3, M4, M5, M6]
  unfold f_X10_secondOf at h
  refine ri false 0 (q := p1 < 20) (t1 := 6) (t2 := 10) rfl rfl trivial (fun c => ?_) (fun c => ?_)
  · replace h := zif1 c h
    refine rg false 1 (t := 20) (st2 := [(0, (-1))]) rfl rfl rfl trivial ?_
    obtain rfl := Option.some.inj h
    exact r1 false 3 rfl rfl rfl rfl rfl rfl trivial
  · replace h := zif2 c h
    obtain ⟨⟨g1_0, g1_1⟩, h⟩ := zgd h
    refine rb false 2 (st2 := [(0, (Int.tmod (Int.tdiv (p1 - 20) 8) 8))]) rfl rfl (And.intro g1_0 (And.intro (show (8 : Int) ≠ 0 by decide) (And.intro g1_1 (show (8 : Int) ≠ 0 by decide)))) ?_
    obtain rfl := Option.some.inj h
    exact r1 false 3 rfl rfl rfl rfl rfl rfl trivial
def bX10_cutOf : zB := [(0, [(.iload_n 0, 1), (.bipush 20, 2), (.isub, 1), (.bipush 8, 2), (.irem, 1)], 7, .ireturn, 1)]
theorem bX10_cutOf_ok : zBok cX10_cutOf 1 bX10_cutOf = true := by decide +kernel
abbrev wX10_cutOf : List Cond := Cond.code yX10_cutOf cX10_cutOf 1 (some .int) :: uU
def rX10_cutOf : Room := { frames := 0, cells := 0, slots := 0, locals := 0 }
set_option maxRecDepth 20000 in
set_option maxHeartbeats 4000000 in
theorem m_M_X10_cutOf (l : Launch) (M0 : zM) (M1 : zM) (M2 : zM) (M3 : zM) (M4 : zM) (M5 : zM) (M6 : zM) (p0 : Int) (x : Int) (h : f_X10_cutOf p0 = some x) : zD l yX10_cutOf wX10_cutOf rX10_cutOf lamM shpM [(0, p0)] [M0, M1, M2, M3, M4, M5, M6] (some (0, x)) [M0, M1, M2, M3, M4, M5, M6] := by
  refine zD_of (B := bX10_cutOf) (E := eX10) (by decide) rfl lokM (eX10_ok _) bX10_cutOf_ok (Or.inl rfl) rfl (fun S R => ?_)
  obtain ⟨rb, rg, ri, rv, rs, r0, r1, r2, r3, rt, rmk⟩ := R
  show S 0 [some (0, p0)] [] [M0, M1, M2, M3, M4, M5, M6]
  unfold f_X10_cutOf at h
  obtain ⟨g1_0, h⟩ := zgd h
  obtain rfl := Option.some.inj h
  exact r1 false 0 rfl rfl rfl rfl rfl rfl (And.intro g1_0 (show (8 : Int) ≠ 0 by decide))
def bX10_isWay : zB := [(0, [(.iload_n 2, 1)], 1, .ifCond .ne 5, 3), (4, [(.iconst 1, 1)], 5, .ireturn, 1), (6, [(.iload_n 2, 1), (.i2l, 1), (.lconst 1, 1), (.ldc2_w 144, 3)], 12, .invokestatic 123, 3), (15, [], 15, .ifCond .ne 19, 3), (18, [(.iload_n 2, 1), (.i2l, 1), (.ldc2_w 146, 3), (.ldc2_w 148, 3)], 26, .invokestatic 123, 3), (29, [], 29, .ifCond .ne 5, 3), (32, [(.iconst 0, 1)], 33, .ireturn, 1), (34, [(.aload_n 0, 1), (.iload_n 2, 1)], 36, .invokevirtual 150, 3), (39, [(.istore_n 3, 1), (.aload_n 0, 1), (.iload_n 2, 1)], 42, .invokevirtual 154, 3), (45, [(.istore 4, 2), (.aload_n 0, 1), (.iload_n 3, 1)], 49, .invokevirtual 133, 3), (52, [], 52, .ifCond .eq 12, 3), (55, [(.iload_n 3, 1), (.iload_n 1, 1)], 57, .if_icmp .eq 7, 3), (60, [(.iconst 1, 1)], 61, .goto 4, 3), (64, [(.iconst 0, 1)], 65, .nop, 0), (65, [(.istore 5, 2), (.iload_n 2, 1), (.bipush 20, 2)], 70, .if_icmp .ge 8, 3), (73, [(.iload 5, 2)], 75, .goto 41, 3), (78, [(.iload 5, 2)], 80, .ifCond .eq 35, 3), (83, [(.aload_n 0, 1), (.iload 4, 2)], 86, .invokevirtual 133, 3), (89, [], 89, .ifCond .eq 26, 3), (92, [(.iload 4, 2), (.iload_n 1, 1)], 95, .if_icmp .eq 20, 3), (98, [(.iload_n 3, 1), (.iload 4, 2)], 101, .if_icmp .eq 14, 3), (104, [(.iload_n 2, 1)], 105, .invokestatic 157, 3), (108, [], 108, .ifCond .le 7, 3), (111, [(.iconst 1, 1)], 112, .goto 4, 3), (115, [(.iconst 0, 1)], 116, .nop, 0), (116, [], 116, .ireturn, 1)]
theorem bX10_isWay_ok : zBok cX10_isWay 6 bX10_isWay = true := by decide +kernel
abbrev wX10_isWay : List Cond := Cond.code yX10_isWay cX10_isWay 6 (some .boolean) :: uU
def rX10_isWay : Room := { frames := 2, cells := 0, slots := 0, locals := 46 }
set_option maxRecDepth 20000 in
set_option maxHeartbeats 4000000 in
theorem m_M_X10_isWay (l : Launch) (M0 : zM) (M2 : zM) (M3 : zM) (M4 : zM) (M5 : zM) (M6 : zM) (p1 : Int) (p2 : Int) (mL_letters : Int) (mL_from : Nat → Int) (mL_to : Nat → Int) (mL_forms : Nat → Int) (mL_costs : Nat → Int) (mL_cheapest : Nat → Int) (mL_fixed : Nat → Int) (mL_sumOf : Nat → Int) (mL_early : Nat → Int) (mL_late : Nat → Int) (x : Int) (h : f_X10_isWay p1 p2 mL_letters = some x) : zD l yX10_isWay wX10_isWay rX10_isWay lamM shpM [(2, Int.ofNat 0), (0, p1), (0, p2)] [M0, ([mL_letters], [mL_from, mL_to, mL_forms, mL_costs, mL_cheapest, mL_fixed, mL_sumOf, mL_early, mL_late]), M2, M3, M4, M5, M6] (some (0, x)) [M0, ([mL_letters], [mL_from, mL_to, mL_forms, mL_costs, mL_cheapest, mL_fixed, mL_sumOf, mL_early, mL_late]), M2, M3, M4, M5, M6] := by
  refine zD_of (B := bX10_isWay) (E := eX10) (by decide) rfl lokM (eX10_ok _) bX10_isWay_ok (Or.inl rfl) rfl (fun S R => ?_)
  obtain ⟨rb, rg, ri, rv, rs, r0, r1, r2, r3, rt, rmk⟩ := R
  show S 0 [some (2, Int.ofNat 0), some (0, p1), some (0, p2), none, none, none] [] [M0, ([mL_letters], [mL_from, mL_to, mL_forms, mL_costs, mL_cheapest, mL_fixed, mL_sumOf, mL_early, mL_late]), M2, M3, M4, M5, M6]
  unfold f_X10_isWay at h
  refine ri false 0 (q := p2 = 0) (t1 := 4) (t2 := 6) rfl rfl trivial (fun c => ?_) (fun c => ?_)
  · replace h := zif1 c h
    obtain rfl := Option.some.inj h
    exact r2 false 1 rfl rfl rfl rfl trivial (by decide)
  · replace h := zif2 c h
    obtain ⟨x1, hx1, h⟩ := zbd h
    refine rs false 2 3 rfl rfl trivial rfl (m_M_X10_in l M0 ([mL_letters], [mL_from, mL_to, mL_forms, mL_costs, mL_cheapest, mL_fixed, mL_sumOf, mL_early, mL_late]) M2 M3 M4 M5 M6 p2 1 8 x1 hx1) ⟨_, _, _, _, rfl, rfl, rfl, by decide +kernel, ⟨Nat.le_of_ble_eq_true rfl, Nat.le_of_ble_eq_true rfl⟩, uGinS u_9_14 u_9_15 u_1_5 u_9_16⟩ ?_
    refine ri false 3 (q := x1 = 0) (t1 := 18) (t2 := 34) rfl rfl trivial (fun c => ?_) (fun c => ?_)
    · replace h := zif1 c h
      obtain ⟨x2, hx2, h⟩ := zbd h
      refine rs false 4 3 rfl rfl trivial rfl (m_M_X10_in l M0 ([mL_letters], [mL_from, mL_to, mL_forms, mL_costs, mL_cheapest, mL_fixed, mL_sumOf, mL_early, mL_late]) M2 M3 M4 M5 M6 p2 20 531 x2 hx2) ⟨_, _, _, _, rfl, rfl, rfl, by decide +kernel, ⟨Nat.le_of_ble_eq_true rfl, Nat.le_of_ble_eq_true rfl⟩, uGinS u_9_14 u_9_15 u_1_5 u_9_16⟩ ?_
      refine ri false 5 (q := x2 = 0) (t1 := 32) (t2 := 34) rfl rfl trivial (fun c => ?_) (fun c => ?_)
      · replace h := zif1 c h
        obtain rfl := Option.some.inj h
        exact r2 false 6 rfl rfl rfl rfl trivial (by decide)
      · replace h := zif2 c h
        obtain ⟨x3, hx3, h⟩ := zbd h
        refine rv false 7 1 rfl rfl trivial rfl (m_M_X10_firstOf l M0 ([mL_letters], [mL_from, mL_to, mL_forms, mL_costs, mL_cheapest, mL_fixed, mL_sumOf, mL_early, mL_late]) M2 M3 M4 M5 M6 p2 x3 hx3) ⟨_, _, _, _, rfl, rfl, rfl, by decide +kernel, ⟨Nat.le_of_ble_eq_true rfl, Nat.le_of_ble_eq_true rfl⟩, uGin u_13_9 u_13_10 u_13_11 u_1_5 u_13_12⟩ ⟨rfl, _, _, _, rfl, rfl⟩ ?_
        obtain ⟨x4, hx4, h⟩ := zbd h
        refine rv false 8 1 (L2 := [some (2, Int.ofNat 0), some (0, p1), some (0, p2), some (0, x3), none, none]) rfl rfl trivial rfl (m_M_X10_secondOf l M0 ([mL_letters], [mL_from, mL_to, mL_forms, mL_costs, mL_cheapest, mL_fixed, mL_sumOf, mL_early, mL_late]) M2 M3 M4 M5 M6 p2 x4 hx4) ⟨_, _, _, _, rfl, rfl, rfl, by decide +kernel, ⟨Nat.le_of_ble_eq_true rfl, Nat.le_of_ble_eq_true rfl⟩, uGin u_13_13 u_13_14 u_13_15 u_1_5 u_13_16⟩ ⟨rfl, _, _, _, rfl, rfl⟩ ?_
        obtain ⟨x5, hx5, h⟩ := zbd h
        refine rv false 9 1 (L2 := [some (2, Int.ofNat 0), some (0, p1), some (0, p2), some (0, x3), some (0, x4), none]) rfl rfl trivial rfl (m_M_X10_isLetter l M0 M2 M3 M4 M5 M6 x3 mL_letters mL_from mL_to mL_forms mL_costs mL_cheapest mL_fixed mL_sumOf mL_early mL_late x5 hx5) ⟨_, _, _, _, rfl, rfl, rfl, by decide +kernel, ⟨Nat.le_of_ble_eq_true rfl, Nat.le_of_ble_eq_true rfl⟩, uGin u_10_12 u_10_13 u_10_14 u_1_5 u_10_15⟩ ⟨rfl, _, _, _, rfl, rfl⟩ ?_
        refine ri false 10 (q := x5 = 0) (t1 := 64) (t2 := 55) rfl rfl trivial (fun c => ?_) (fun c => ?_)
        · replace h := zif1 c h
          refine rb false 13 (st2 := [(0, 0)]) rfl rfl trivial ?_
          refine ri false 14 (q := p2 < 20) (t1 := 73) (t2 := 78) (L2 := [some (2, Int.ofNat 0), some (0, p1), some (0, p2), some (0, x3), some (0, x4), some (0, 0)]) rfl rfl trivial (fun c => ?_) (fun c => ?_)
          · replace h := zif1 c h
            refine rg false 15 (t := 116) (st2 := [(0, 0)]) rfl rfl rfl trivial ?_
            obtain rfl := Option.some.inj h
            exact r2 false 25 rfl rfl rfl rfl trivial (by decide)
          · replace h := zif2 c h
            refine ri false 16 (q := (0 : Int) = 0) (t1 := 115) (t2 := 83) rfl rfl trivial (fun _ => ?_) (fun c => absurd (by decide) c)
            refine rb false 24 (st2 := [(0, 0)]) rfl rfl trivial ?_
            obtain rfl := Option.some.inj h
            exact r2 false 25 rfl rfl rfl rfl trivial (by decide)
        · replace h := zif2 c h
          refine ri false 11 (q := x3 = p1) (t1 := 64) (t2 := 60) rfl rfl trivial (fun c => ?_) (fun c => ?_)
          · replace h := zif1 c h
            refine rb false 13 (st2 := [(0, 0)]) rfl rfl trivial ?_
            refine ri false 14 (q := p2 < 20) (t1 := 73) (t2 := 78) (L2 := [some (2, Int.ofNat 0), some (0, p1), some (0, p2), some (0, x3), some (0, x4), some (0, 0)]) rfl rfl trivial (fun c => ?_) (fun c => ?_)
            · replace h := zif1 c h
              refine rg false 15 (t := 116) (st2 := [(0, 0)]) rfl rfl rfl trivial ?_
              obtain rfl := Option.some.inj h
              exact r2 false 25 rfl rfl rfl rfl trivial (by decide)
            · replace h := zif2 c h
              refine ri false 16 (q := (0 : Int) = 0) (t1 := 115) (t2 := 83) rfl rfl trivial (fun _ => ?_) (fun c => absurd (by decide) c)
              refine rb false 24 (st2 := [(0, 0)]) rfl rfl trivial ?_
              obtain rfl := Option.some.inj h
              exact r2 false 25 rfl rfl rfl rfl trivial (by decide)
          · replace h := zif2 c h
            refine rg false 12 (t := 65) (st2 := [(0, 1)]) rfl rfl rfl trivial ?_
            refine ri false 14 (q := p2 < 20) (t1 := 73) (t2 := 78) (L2 := [some (2, Int.ofNat 0), some (0, p1), some (0, p2), some (0, x3), some (0, x4), some (0, 1)]) rfl rfl trivial (fun c => ?_) (fun c => ?_)
            · replace h := zif1 c h
              refine rg false 15 (t := 116) (st2 := [(0, 1)]) rfl rfl rfl trivial ?_
              obtain rfl := Option.some.inj h
              exact r2 false 25 rfl rfl rfl rfl trivial (by decide)
            · replace h := zif2 c h
              refine ri false 16 (q := (1 : Int) = 0) (t1 := 115) (t2 := 83) rfl rfl trivial (fun c => absurd c (by decide)) (fun _ => ?_)
              obtain ⟨x6, hx6, h⟩ := zbd h
              refine rv false 17 1 rfl rfl trivial rfl (m_M_X10_isLetter l M0 M2 M3 M4 M5 M6 x4 mL_letters mL_from mL_to mL_forms mL_costs mL_cheapest mL_fixed mL_sumOf mL_early mL_late x6 hx6) ⟨_, _, _, _, rfl, rfl, rfl, by decide +kernel, ⟨Nat.le_of_ble_eq_true rfl, Nat.le_of_ble_eq_true rfl⟩, uGin u_10_12 u_10_13 u_10_14 u_1_5 u_10_15⟩ ⟨rfl, _, _, _, rfl, rfl⟩ ?_
              refine ri false 18 (q := x6 = 0) (t1 := 115) (t2 := 92) rfl rfl trivial (fun c => ?_) (fun c => ?_)
              · replace h := zif1 c h
                refine rb false 24 (st2 := [(0, 0)]) rfl rfl trivial ?_
                obtain rfl := Option.some.inj h
                exact r2 false 25 rfl rfl rfl rfl trivial (by decide)
              · replace h := zif2 c h
                refine ri false 19 (q := x4 = p1) (t1 := 115) (t2 := 98) rfl rfl trivial (fun c => ?_) (fun c => ?_)
                · replace h := zif1 c h
                  refine rb false 24 (st2 := [(0, 0)]) rfl rfl trivial ?_
                  obtain rfl := Option.some.inj h
                  exact r2 false 25 rfl rfl rfl rfl trivial (by decide)
                · replace h := zif2 c h
                  refine ri false 20 (q := x3 = x4) (t1 := 115) (t2 := 104) rfl rfl trivial (fun c => ?_) (fun c => ?_)
                  · replace h := zif1 c h
                    refine rb false 24 (st2 := [(0, 0)]) rfl rfl trivial ?_
                    obtain rfl := Option.some.inj h
                    exact r2 false 25 rfl rfl rfl rfl trivial (by decide)
                  · replace h := zif2 c h
                    obtain ⟨x7, hx7, h⟩ := zbd h
                    refine rs false 21 1 rfl rfl trivial rfl (m_M_X10_cutOf l M0 ([mL_letters], [mL_from, mL_to, mL_forms, mL_costs, mL_cheapest, mL_fixed, mL_sumOf, mL_early, mL_late]) M2 M3 M4 M5 M6 p2 x7 hx7) ⟨_, _, _, _, rfl, rfl, rfl, by decide +kernel, ⟨Nat.le_of_ble_eq_true rfl, Nat.le_of_ble_eq_true rfl⟩, uGinS u_13_17 u_13_18 u_1_5 u_13_19⟩ ?_
                    refine ri false 22 (q := (0 : Int) < x7) (t1 := 111) (t2 := 115) rfl rfl trivial (fun c => ?_) (fun c => ?_)
                    · replace h := zif1 c h
                      refine rg false 23 (t := 116) (st2 := [(0, 1)]) rfl rfl rfl trivial ?_
                      obtain rfl := Option.some.inj h
                      exact r2 false 25 rfl rfl rfl rfl trivial (by decide)
                    · replace h := zif2 c h
                      refine rb false 24 (st2 := [(0, 0)]) rfl rfl trivial ?_
                      obtain rfl := Option.some.inj h
                      exact r2 false 25 rfl rfl rfl rfl trivial (by decide)
    · replace h := zif2 c h
      obtain ⟨x8, hx8, h⟩ := zbd h
      refine rv false 7 1 rfl rfl trivial rfl (m_M_X10_firstOf l M0 ([mL_letters], [mL_from, mL_to, mL_forms, mL_costs, mL_cheapest, mL_fixed, mL_sumOf, mL_early, mL_late]) M2 M3 M4 M5 M6 p2 x8 hx8) ⟨_, _, _, _, rfl, rfl, rfl, by decide +kernel, ⟨Nat.le_of_ble_eq_true rfl, Nat.le_of_ble_eq_true rfl⟩, uGin u_13_9 u_13_10 u_13_11 u_1_5 u_13_12⟩ ⟨rfl, _, _, _, rfl, rfl⟩ ?_
      obtain ⟨x9, hx9, h⟩ := zbd h
      refine rv false 8 1 (L2 := [some (2, Int.ofNat 0), some (0, p1), some (0, p2), some (0, x8), none, none]) rfl rfl trivial rfl (m_M_X10_secondOf l M0 ([mL_letters], [mL_from, mL_to, mL_forms, mL_costs, mL_cheapest, mL_fixed, mL_sumOf, mL_early, mL_late]) M2 M3 M4 M5 M6 p2 x9 hx9) ⟨_, _, _, _, rfl, rfl, rfl, by decide +kernel, ⟨Nat.le_of_ble_eq_true rfl, Nat.le_of_ble_eq_true rfl⟩, uGin u_13_13 u_13_14 u_13_15 u_1_5 u_13_16⟩ ⟨rfl, _, _, _, rfl, rfl⟩ ?_
      obtain ⟨x10, hx10, h⟩ := zbd h
      refine rv false 9 1 (L2 := [some (2, Int.ofNat 0), some (0, p1), some (0, p2), some (0, x8), some (0, x9), none]) rfl rfl trivial rfl (m_M_X10_isLetter l M0 M2 M3 M4 M5 M6 x8 mL_letters mL_from mL_to mL_forms mL_costs mL_cheapest mL_fixed mL_sumOf mL_early mL_late x10 hx10) ⟨_, _, _, _, rfl, rfl, rfl, by decide +kernel, ⟨Nat.le_of_ble_eq_true rfl, Nat.le_of_ble_eq_true rfl⟩, uGin u_10_12 u_10_13 u_10_14 u_1_5 u_10_15⟩ ⟨rfl, _, _, _, rfl, rfl⟩ ?_
      refine ri false 10 (q := x10 = 0) (t1 := 64) (t2 := 55) rfl rfl trivial (fun c => ?_) (fun c => ?_)
      · replace h := zif1 c h
        refine rb false 13 (st2 := [(0, 0)]) rfl rfl trivial ?_
        refine ri false 14 (q := p2 < 20) (t1 := 73) (t2 := 78) (L2 := [some (2, Int.ofNat 0), some (0, p1), some (0, p2), some (0, x8), some (0, x9), some (0, 0)]) rfl rfl trivial (fun c => ?_) (fun c => ?_)
        · replace h := zif1 c h
          refine rg false 15 (t := 116) (st2 := [(0, 0)]) rfl rfl rfl trivial ?_
          obtain rfl := Option.some.inj h
          exact r2 false 25 rfl rfl rfl rfl trivial (by decide)
        · replace h := zif2 c h
          refine ri false 16 (q := (0 : Int) = 0) (t1 := 115) (t2 := 83) rfl rfl trivial (fun _ => ?_) (fun c => absurd (by decide) c)
          refine rb false 24 (st2 := [(0, 0)]) rfl rfl trivial ?_
          obtain rfl := Option.some.inj h
          exact r2 false 25 rfl rfl rfl rfl trivial (by decide)
      · replace h := zif2 c h
        refine ri false 11 (q := x8 = p1) (t1 := 64) (t2 := 60) rfl rfl trivial (fun c => ?_) (fun c => ?_)
        · replace h := zif1 c h
          refine rb false 13 (st2 := [(0, 0)]) rfl rfl trivial ?_
          refine ri false 14 (q := p2 < 20) (t1 := 73) (t2 := 78) (L2 := [some (2, Int.ofNat 0), some (0, p1), some (0, p2), some (0, x8), some (0, x9), some (0, 0)]) rfl rfl trivial (fun c => ?_) (fun c => ?_)
          · replace h := zif1 c h
            refine rg false 15 (t := 116) (st2 := [(0, 0)]) rfl rfl rfl trivial ?_
            obtain rfl := Option.some.inj h
            exact r2 false 25 rfl rfl rfl rfl trivial (by decide)
          · replace h := zif2 c h
            refine ri false 16 (q := (0 : Int) = 0) (t1 := 115) (t2 := 83) rfl rfl trivial (fun _ => ?_) (fun c => absurd (by decide) c)
            refine rb false 24 (st2 := [(0, 0)]) rfl rfl trivial ?_
            obtain rfl := Option.some.inj h
            exact r2 false 25 rfl rfl rfl rfl trivial (by decide)
        · replace h := zif2 c h
          refine rg false 12 (t := 65) (st2 := [(0, 1)]) rfl rfl rfl trivial ?_
          refine ri false 14 (q := p2 < 20) (t1 := 73) (t2 := 78) (L2 := [some (2, Int.ofNat 0), some (0, p1), some (0, p2), some (0, x8), some (0, x9), some (0, 1)]) rfl rfl trivial (fun c => ?_) (fun c => ?_)
          · replace h := zif1 c h
            refine rg false 15 (t := 116) (st2 := [(0, 1)]) rfl rfl rfl trivial ?_
            obtain rfl := Option.some.inj h
            exact r2 false 25 rfl rfl rfl rfl trivial (by decide)
          · replace h := zif2 c h
            refine ri false 16 (q := (1 : Int) = 0) (t1 := 115) (t2 := 83) rfl rfl trivial (fun c => absurd c (by decide)) (fun _ => ?_)
            obtain ⟨x11, hx11, h⟩ := zbd h
            refine rv false 17 1 rfl rfl trivial rfl (m_M_X10_isLetter l M0 M2 M3 M4 M5 M6 x9 mL_letters mL_from mL_to mL_forms mL_costs mL_cheapest mL_fixed mL_sumOf mL_early mL_late x11 hx11) ⟨_, _, _, _, rfl, rfl, rfl, by decide +kernel, ⟨Nat.le_of_ble_eq_true rfl, Nat.le_of_ble_eq_true rfl⟩, uGin u_10_12 u_10_13 u_10_14 u_1_5 u_10_15⟩ ⟨rfl, _, _, _, rfl, rfl⟩ ?_
            refine ri false 18 (q := x11 = 0) (t1 := 115) (t2 := 92) rfl rfl trivial (fun c => ?_) (fun c => ?_)
            · replace h := zif1 c h
              refine rb false 24 (st2 := [(0, 0)]) rfl rfl trivial ?_
              obtain rfl := Option.some.inj h
              exact r2 false 25 rfl rfl rfl rfl trivial (by decide)
            · replace h := zif2 c h
              refine ri false 19 (q := x9 = p1) (t1 := 115) (t2 := 98) rfl rfl trivial (fun c => ?_) (fun c => ?_)
              · replace h := zif1 c h
                refine rb false 24 (st2 := [(0, 0)]) rfl rfl trivial ?_
                obtain rfl := Option.some.inj h
                exact r2 false 25 rfl rfl rfl rfl trivial (by decide)
              · replace h := zif2 c h
                refine ri false 20 (q := x8 = x9) (t1 := 115) (t2 := 104) rfl rfl trivial (fun c => ?_) (fun c => ?_)
                · replace h := zif1 c h
                  refine rb false 24 (st2 := [(0, 0)]) rfl rfl trivial ?_
                  obtain rfl := Option.some.inj h
                  exact r2 false 25 rfl rfl rfl rfl trivial (by decide)
                · replace h := zif2 c h
                  obtain ⟨x12, hx12, h⟩ := zbd h
                  refine rs false 21 1 rfl rfl trivial rfl (m_M_X10_cutOf l M0 ([mL_letters], [mL_from, mL_to, mL_forms, mL_costs, mL_cheapest, mL_fixed, mL_sumOf, mL_early, mL_late]) M2 M3 M4 M5 M6 p2 x12 hx12) ⟨_, _, _, _, rfl, rfl, rfl, by decide +kernel, ⟨Nat.le_of_ble_eq_true rfl, Nat.le_of_ble_eq_true rfl⟩, uGinS u_13_17 u_13_18 u_1_5 u_13_19⟩ ?_
                  refine ri false 22 (q := (0 : Int) < x12) (t1 := 111) (t2 := 115) rfl rfl trivial (fun c => ?_) (fun c => ?_)
                  · replace h := zif1 c h
                    refine rg false 23 (t := 116) (st2 := [(0, 1)]) rfl rfl rfl trivial ?_
                    obtain rfl := Option.some.inj h
                    exact r2 false 25 rfl rfl rfl rfl trivial (by decide)
                  · replace h := zif2 c h
                    refine rb false 24 (st2 := [(0, 0)]) rfl rfl trivial ?_
                    obtain rfl := Option.some.inj h
                    exact r2 false 25 rfl rfl rfl rfl trivial (by decide)
def bX10_copied : zB := [(0, [(.iconst 0, 1), (.istore 5, 2), (.iload_n 3, 1), (.istore 6, 2)], 6, .nop, 0), (6, [(.iload 6, 2), (.iload 4, 2)], 10, .if_icmp .ge 89, 3), (13, [(.aload_n 0, 1), (.getfield 22, 3), (.bipush 8, 2), (.iload_n 1, 1), (.imul, 1), (.iload 6, 2), (.iadd, 1), (.iaload, 1), (.istore 7, 2)], 27, .nop, 0), (27, [(.aload_n 0, 1), (.getfield 22, 3), (.bipush 8, 2), (.iload_n 2, 1), (.imul, 1), (.iload 6, 2), (.iadd, 1), (.iaload, 1), (.istore 8, 2)], 41, .nop, 0), (41, [(.iload 5, 2), (.iload 7, 2), (.iload 8, 2)], 47, .if_icmp .ne 7, 3), (50, [(.iconst 0, 1)], 51, .goto 39, 3), (54, [(.iload 7, 2), (.iconst (-1), 1)], 57, .if_icmp .ne 12, 3), (60, [(.aload_n 0, 1), (.getfield 25, 3), (.iconst 0, 1), (.iaload, 1)], 66, .goto 24, 3), (69, [(.iload 8, 2), (.iconst (-1), 1)], 72, .if_icmp .ne 12, 3), (75, [(.aload_n 0, 1), (.getfield 25, 3), (.iconst 2, 1), (.iaload, 1)], 81, .goto 9, 3), (84, [(.aload_n 0, 1), (.getfield 25, 3), (.iconst 1, 1), (.iaload, 1)], 90, .nop, 0), (90, [(.iadd, 1), (.istore 5, 2), (.iinc 6 1, 3)], 96, .goto (-90), 3), (99, [(.iload 5, 2)], 101, .ireturn, 1)]
theorem bX10_copied_ok : zBok cX10_copied 9 bX10_copied = true := by decide +kernel
abbrev wX10_copied : List Cond := Cond.code yX10_copied cX10_copied 9 (some .int) :: uU
def rX10_copied : Room := { frames := 0, cells := 0, slots := 0, locals := 0 }
set_option maxRecDepth 20000 in
set_option maxHeartbeats 4000000 in
theorem m_M_X10_copied (l : Launch) (M0 : zM) (M2 : zM) (M3 : zM) (M4 : zM) (M5 : zM) (M6 : zM) (p1 : Int) (p2 : Int) (p3 : Int) (p4 : Int) (mL_letters : Int) (mL_from : Nat → Int) (mL_to : Nat → Int) (mL_forms : Nat → Int) (mL_costs : Nat → Int) (mL_cheapest : Nat → Int) (mL_fixed : Nat → Int) (mL_sumOf : Nat → Int) (mL_early : Nat → Int) (mL_late : Nat → Int) (x : Int) (h : f_X10_copied p1 p2 p3 p4 mL_forms mL_costs = some x) : zD l yX10_copied wX10_copied rX10_copied lamM shpM [(2, Int.ofNat 0), (0, p1), (0, p2), (0, p3), (0, p4)] [M0, ([mL_letters], [mL_from, mL_to, mL_forms, mL_costs, mL_cheapest, mL_fixed, mL_sumOf, mL_early, mL_late]), M2, M3, M4, M5, M6] (some (0, x)) [M0, ([mL_letters], [mL_from, mL_to, mL_forms, mL_costs, mL_cheapest, mL_fixed, mL_sumOf, mL_early, mL_late]), M2, M3, M4, M5, M6] := by
  refine zD_of (B := bX10_copied) (E := eX10) (by decide) rfl lokM (eX10_ok _) bX10_copied_ok (Or.inl rfl) rfl (fun S R => ?_)
  obtain ⟨rb, rg, ri, rv, rs, r0, r1, r2, r3, rt, rmk⟩ := R
  show S 0 [some (2, Int.ofNat 0), some (0, p1), some (0, p2), some (0, p3), some (0, p4), none, none, none, none] [] [M0, ([mL_letters], [mL_from, mL_to, mL_forms, mL_costs, mL_cheapest, mL_fixed, mL_sumOf, mL_early, mL_late]), M2, M3, M4, M5, M6]
  have LP6 : ∀ (n : Nat) (v1 : Int) (v2 : Int) (v4 : Int) (v5 : Int) (v6 : Int) (mL_letters : Int) (mL_from : Nat → Int) (mL_to : Nat → Int) (mL_forms : Nat → Int) (mL_costs : Nat → Int) (mL_cheapest : Nat → Int) (mL_fixed : Nat → Int) (mL_sumOf : Nat → Int) (mL_early : Nat → Int) (mL_late : Nat → Int) (y : Int), l_X10_copied_6 n v1 v2 v4 v5 v6 mL_forms mL_costs = some y → S 99 [none, none, none, none, none, some (0, y), none, none, none] [] [M0, ([mL_letters], [mL_from, mL_to, mL_forms, mL_costs, mL_cheapest, mL_fixed, mL_sumOf, mL_early, mL_late]), M2, M3, M4, M5, M6] → S 6 [some (2, Int.ofNat 0), some (0, v1), some (0, v2), none, some (0, v4), some (0, v5), some (0, v6), none, none] [] [M0, ([mL_letters], [mL_from, mL_to, mL_forms, mL_costs, mL_cheapest, mL_fixed, mL_sumOf, mL_early, mL_late]), M2, M3, M4, M5, M6] := by
    intro n
    induction n with
    | zero =>
      intro v1 v2 v4 v5 v6 mL_letters mL_from mL_to mL_forms mL_costs mL_cheapest mL_fixed mL_sumOf mL_early mL_late y h k
      rw [l_X10_copied_6] at h
      cases h
    | succ n ih =>
      intro v1 v2 v4 v5 v6 mL_letters mL_from mL_to mL_forms mL_costs mL_cheapest mL_fixed mL_sumOf mL_early mL_late y h k
      rw [l_X10_copied_6] at h
      refine ri false 1 (q := v6 < v4) (t1 := 13) (t2 := 99) rfl rfl trivial (fun c => ?_) (fun c => ?_)
      · replace h := zif1 c h
        obtain ⟨g1_0, h⟩ := zgd h
        refine rb false 2 (L2 := [some (2, Int.ofNat 0), some (0, v1), some (0, v2), none, some (0, v4), some (0, v5), some (0, v6), some (0, (mL_forms (Int.toNat ((8 * v1) + v6)))), none]) rfl rfl g1_0 ?_
        obtain ⟨g2_0, h⟩ := zgd h
        refine rb false 3 (L2 := [some (2, Int.ofNat 0), some (0, v1), some (0, v2), none, some (0, v4), some (0, v5), some (0, v6), some (0, (mL_forms (Int.toNat ((8 * v1) + v6)))), some (0, (mL_forms (Int.toNat ((8 * v2) + v6))))]) rfl rfl g2_0 ?_
        refine ri false 4 (q := (mL_forms (Int.toNat ((8 * v1) + v6))) = (mL_forms (Int.toNat ((8 * v2) + v6)))) (t1 := 50) (t2 := 54) (st2 := [(0, v5)]) rfl rfl trivial (fun c => ?_) (fun c => ?_)
        · replace h := zif1 c h
          refine rg false 5 (t := 90) (st2 := [(0, 0), (0, v5)]) rfl rfl rfl trivial ?_
          obtain ⟨⟨g3_0, g3_1⟩, h⟩ := zgd h
          refine rg false 11 (t := 6) (L2 := [some (2, Int.ofNat 0), some (0, v1), some (0, v2), none, some (0, v4), some (0, (v5 + 0)), some (0, (v6 + 1)), some (0, (mL_forms (Int.toNat ((8 * v1) + v6)))), some (0, (mL_forms (Int.toNat ((8 * v2) + v6))))]) rfl rfl rfl (And.intro g3_0 g3_1) ?_
          refine rmk [true, true, true, false, true, true, true, false, false] (L2 := [some (2, Int.ofNat 0), some (0, v1), some (0, v2), none, some (0, v4), some (0, (v5 + 0)), some (0, (v6 + 1)), none, none]) rfl ?_
          exact ih v1 v2 v4 (v5 + 0) (v6 + 1) mL_letters mL_from mL_to mL_forms mL_costs mL_cheapest mL_fixed mL_sumOf mL_early mL_late y h k
        · replace h := zif2 c h
          refine ri false 6 (q := (mL_forms (Int.toNat ((8 * v1) + v6))) = (-1)) (t1 := 60) (t2 := 69) (st2 := [(0, v5)]) rfl rfl trivial (fun c => ?_) (fun c => ?_)
          · replace h := zif1 c h
            refine rg false 7 (t := 90) (st2 := [(0, (mL_costs (Int.toNat 0))), (0, v5)]) rfl rfl rfl (show zin 0 5 by decide) ?_
            obtain ⟨⟨g4_0, g4_1⟩, h⟩ := zgd h
            refine rg false 11 (t := 6) (L2 := [some (2, Int.ofNat 0), some (0, v1), some (0, v2), none, some (0, v4), some (0, (v5 + (mL_costs (Int.toNat 0)))), some (0, (v6 + 1)), some (0, (mL_forms (Int.toNat ((8 * v1) + v6)))), some (0, (mL_forms (Int.toNat ((8 * v2) + v6))))]) rfl rfl rfl (And.intro g4_0 g4_1) ?_
            refine rmk [true, true, true, false, true, true, true, false, false] (L2 := [some (2, Int.ofNat 0), some (0, v1), some (0, v2), none, some (0, v4), some (0, (v5 + (mL_costs (Int.toNat 0)))), some (0, (v6 + 1)), none, none]) rfl ?_
            exact ih v1 v2 v4 (v5 + (mL_costs (Int.toNat 0))) (v6 + 1) mL_letters mL_from mL_to mL_forms mL_costs mL_cheapest mL_fixed mL_sumOf mL_early mL_late y h k
          · replace h := zif2 c h
            refine ri false 8 (q := (mL_forms (Int.toNat ((8 * v2) + v6))) = (-1)) (t1 := 75) (t2 := 84) (st2 := [(0, v5)]) rfl rfl trivial (fun c => ?_) (fun c => ?_)
            · replace h := zif1 c h
              refine rg false 9 (t := 90) (st2 := [(0, (mL_costs (Int.toNat 2))), (0, v5)]) rfl rfl rfl (show zin 2 5 by decide) ?_
              obtain ⟨⟨g5_0, g5_1⟩, h⟩ := zgd h
              refine rg false 11 (t := 6) (L2 := [some (2, Int.ofNat 0), some (0, v1), some (0, v2), none, some (0, v4), some (0, (v5 + (mL_costs (Int.toNat 2)))), some (0, (v6 + 1)), some (0, (mL_forms (Int.toNat ((8 * v1) + v6)))), some (0, (mL_forms (Int.toNat ((8 * v2) + v6))))]) rfl rfl rfl (And.intro g5_0 g5_1) ?_
              refine rmk [true, true, true, false, true, true, true, false, false] (L2 := [some (2, Int.ofNat 0), some (0, v1), some (0, v2), none, some (0, v4), some (0, (v5 + (mL_costs (Int.toNat 2)))), some (0, (v6 + 1)), none, none]) rfl ?_
              exact ih v1 v2 v4 (v5 + (mL_costs (Int.toNat 2))) (v6 + 1) mL_letters mL_from mL_to mL_forms mL_costs mL_cheapest mL_fixed mL_sumOf mL_early mL_late y h k
            · replace h := zif2 c h
              refine rb false 10 (st2 := [(0, (mL_costs (Int.toNat 1))), (0, v5)]) rfl rfl (show zin 1 5 by decide) ?_
              obtain ⟨⟨g6_0, g6_1⟩, h⟩ := zgd h
              refine rg false 11 (t := 6) (L2 := [some (2, Int.ofNat 0), some (0, v1), some (0, v2), none, some (0, v4), some (0, (v5 + (mL_costs (Int.toNat 1)))), some (0, (v6 + 1)), some (0, (mL_forms (Int.toNat ((8 * v1) + v6)))), some (0, (mL_forms (Int.toNat ((8 * v2) + v6))))]) rfl rfl rfl (And.intro g6_0 g6_1) ?_
              refine rmk [true, true, true, false, true, true, true, false, false] (L2 := [some (2, Int.ofNat 0), some (0, v1), some (0, v2), none, some (0, v4), some (0, (v5 + (mL_costs (Int.toNat 1)))), some (0, (v6 + 1)), none, none]) rfl ?_
              exact ih v1 v2 v4 (v5 + (mL_costs (Int.toNat 1))) (v6 + 1) mL_letters mL_from mL_to mL_forms mL_costs mL_cheapest mL_fixed mL_sumOf mL_early mL_late y h k
      · replace h := zif2 c h
        refine rmk [false, false, false, false, false, true, false, false, false] (L2 := [none, none, none, none, none, some (0, v5), none, none, none]) rfl ?_
        obtain rfl := Option.some.inj h
        exact k
  unfold f_X10_copied at h
  refine rb false 0 (L2 := [some (2, Int.ofNat 0), some (0, p1), some (0, p2), some (0, p3), some (0, p4), some (0, 0), some (0, p3), none, none]) rfl rfl trivial ?_
  refine rmk [true, true, true, false, true, true, true, false, false] (L2 := [some (2, Int.ofNat 0), some (0, p1), some (0, p2), none, some (0, p4), some (0, 0), some (0, p3), none, none]) rfl ?_
  obtain ⟨x7, hx7, h⟩ := zbd h
  refine LP6 zN p1 p2 p4 0 p3 mL_letters mL_from mL_to mL_forms mL_costs mL_cheapest mL_fixed mL_sumOf mL_early mL_late x7 hx7 ?_
  obtain rfl := Option.some.inj h
  exact r1 false 12 rfl rfl rfl rfl rfl rfl trivial
def bX10_priceOf : zB := [(0, [(.iload_n 2, 1)], 1, .ifCond .ne 54, 3), (4, [(.iconst 0, 1), (.istore_n 3, 1), (.iconst 0, 1), (.istore 4, 2)], 9, .nop, 0), (9, [(.iload 4, 2), (.bipush 8, 2)], 13, .if_icmp .ge 33, 3), (16, [(.iload_n 3, 1), (.aload_n 0, 1), (.getfield 22, 3), (.bipush 8, 2), (.iload_n 1, 1), (.imul, 1), (.iload 4, 2), (.iadd, 1), (.iaload, 1), (.iconst (-1), 1)], 30, .if_icmp .ne 7, 3), (33, [(.iconst 0, 1)], 34, .goto 4, 3), (37, [(.iconst 1, 1)], 38, .nop, 0), (38, [(.iadd, 1), (.istore_n 3, 1), (.iinc 4 1, 3)], 43, .goto (-34), 3), (46, [(.iload_n 3, 1), (.aload_n 0, 1), (.getfield 25, 3), (.iconst 3, 1), (.iaload, 1), (.imul, 1)], 54, .ireturn, 1), (55, [(.iload_n 2, 1), (.bipush 20, 2)], 58, .if_icmp .ge 15, 3), (61, [(.aload_n 0, 1), (.iload_n 1, 1), (.iload_n 2, 1), (.iconst 1, 1), (.isub, 1), (.iconst 0, 1), (.bipush 8, 2)], 69, .invokevirtual 160, 3), (72, [], 72, .ireturn, 1), (73, [(.aload_n 0, 1), (.getfield 25, 3), (.iconst 4, 1), (.iaload, 1), (.aload_n 0, 1), (.iload_n 1, 1), (.aload_n 0, 1), (.iload_n 2, 1)], 83, .invokevirtual 150, 3), (86, [(.iconst 0, 1), (.iload_n 2, 1)], 88, .invokestatic 157, 3), (91, [], 91, .invokevirtual 160, 3), (94, [(.iadd, 1), (.aload_n 0, 1), (.iload_n 1, 1), (.aload_n 0, 1), (.iload_n 2, 1)], 99, .invokevirtual 154, 3), (102, [(.iload_n 2, 1)], 103, .invokestatic 157, 3), (106, [(.bipush 8, 2)], 108, .invokevirtual 160, 3), (111, [(.iadd, 1)], 112, .ireturn, 1)]
theorem bX10_priceOf_ok : zBok cX10_priceOf 5 bX10_priceOf = true := by decide +kernel
abbrev wX10_priceOf : List Cond := Cond.code yX10_priceOf cX10_priceOf 5 (some .int) :: uU
def rX10_priceOf : Room := { frames := 1, cells := 0, slots := 0, locals := 28 }
set_option maxRecDepth 20000 in
set_option maxHeartbeats 4000000 in
theorem m_M_X10_priceOf (l : Launch) (M0 : zM) (M2 : zM) (M3 : zM) (M4 : zM) (M5 : zM) (M6 : zM) (p1 : Int) (p2 : Int) (mL_letters : Int) (mL_from : Nat → Int) (mL_to : Nat → Int) (mL_forms : Nat → Int) (mL_costs : Nat → Int) (mL_cheapest : Nat → Int) (mL_fixed : Nat → Int) (mL_sumOf : Nat → Int) (mL_early : Nat → Int) (mL_late : Nat → Int) (x : Int) (h : f_X10_priceOf p1 p2 mL_forms mL_costs = some x) : zD l yX10_priceOf wX10_priceOf rX10_priceOf lamM shpM [(2, Int.ofNat 0), (0, p1), (0, p2)] [M0, ([mL_letters], [mL_from, mL_to, mL_forms, mL_costs, mL_cheapest, mL_fixed, mL_sumOf, mL_early, mL_late]), M2, M3, M4, M5, M6] (some (0, x)) [M0, ([mL_letters], [mL_from, mL_to, mL_forms, mL_costs, mL_cheapest, mL_fixed, mL_sumOf, mL_early, mL_late]), M2, M3, M4, M5, M6] := by
  refine zD_of (B := bX10_priceOf) (E := eX10) (by decide) rfl lokM (eX10_ok _) bX10_priceOf_ok (Or.inl rfl) rfl (fun S R => ?_)
  obtain ⟨rb, rg, ri, rv, rs, r0, r1, r2, r3, rt, rmk⟩ := R
  show S 0 [some (2, Int.ofNat 0), some (0, p1), some (0, p2), none, none] [] [M0, ([mL_letters], [mL_from, mL_to, mL_forms, mL_costs, mL_cheapest, mL_fixed, mL_sumOf, mL_early, mL_late]), M2, M3, M4, M5, M6]
  have LP9 : ∀ (n : Nat) (v1 : Int) (v3 : Int) (v4 : Int) (mL_letters : Int) (mL_from : Nat → Int) (mL_to : Nat → Int) (mL_forms : Nat → Int) (mL_costs : Nat → Int) (mL_cheapest : Nat → Int) (mL_fixed : Nat → Int) (mL_sumOf : Nat → Int) (mL_early : Nat → Int) (mL_late : Nat → Int) (y : Int), l_X10_priceOf_9 n v1 v3 v4 mL_forms = some y → S 46 [some (2, Int.ofNat 0), none, none, some (0, y), none] [] [M0, ([mL_letters], [mL_from, mL_to, mL_forms, mL_costs, mL_cheapest, mL_fixed, mL_sumOf, mL_early, mL_late]), M2, M3, M4, M5, M6] → S 9 [some (2, Int.ofNat 0), some (0, v1), none, some (0, v3), some (0, v4)] [] [M0, ([mL_letters], [mL_from, mL_to, mL_forms, mL_costs, mL_cheapest, mL_fixed, mL_sumOf, mL_early, mL_late]), M2, M3, M4, M5, M6] := by
    intro n
    induction n with
    | zero =>
      intro v1 v3 v4 mL_letters mL_from mL_to mL_forms mL_costs mL_cheapest mL_fixed mL_sumOf mL_early mL_late y h k
      rw [l_X10_priceOf_9] at h
      cases h
    | succ n ih =>
      intro v1 v3 v4 mL_letters mL_from mL_to mL_forms mL_costs mL_cheapest mL_fixed mL_sumOf mL_early mL_late y h k
      rw [l_X10_priceOf_9] at h
      refine ri false 2 (q := v4 < 8) (t1 := 16) (t2 := 46) rfl rfl trivial (fun c => ?_) (fun c => ?_)
      · replace h := zif1 c h
        obtain ⟨g1_0, h⟩ := zgd h
        refine ri false 3 (q := (mL_forms (Int.toNat ((8 * v1) + v4))) = (-1)) (t1 := 33) (t2 := 37) (st2 := [(0, v3)]) rfl rfl g1_0 (fun c => ?_) (fun c => ?_)
        · replace h := zif1 c h
          refine rg false 4 (t := 38) (st2 := [(0, 0), (0, v3)]) rfl rfl rfl trivial ?_
          obtain ⟨⟨g2_0, g2_1⟩, h⟩ := zgd h
          refine rg false 6 (t := 9) (L2 := [some (2, Int.ofNat 0), some (0, v1), none, some (0, (v3 + 0)), some (0, (v4 + 1))]) rfl rfl rfl (And.intro g2_0 g2_1) ?_
          exact ih v1 (v3 + 0) (v4 + 1) mL_letters mL_from mL_to mL_forms mL_costs mL_cheapest mL_fixed mL_sumOf mL_early mL_late y h k
        · replace h := zif2 c h
          refine rb false 5 (st2 := [(0, 1), (0, v3)]) rfl rfl trivial ?_
          obtain ⟨⟨g3_0, g3_1⟩, h⟩ := zgd h
          refine rg false 6 (t := 9) (L2 := [some (2, Int.ofNat 0), some (0, v1), none, some (0, (v3 + 1)), some (0, (v4 + 1))]) rfl rfl rfl (And.intro g3_0 g3_1) ?_
          exact ih v1 (v3 + 1) (v4 + 1) mL_letters mL_from mL_to mL_forms mL_costs mL_cheapest mL_fixed mL_sumOf mL_early mL_late y h k
      · replace h := zif2 c h
        refine rmk [true, false, false, true, false] (L2 := [some (2, Int.ofNat 0), none, none, some (0, v3), none]) rfl ?_
        obtain rfl := Option.some.inj h
        exact k
  unfold f_X10_priceOf at h
  refine ri false 0 (q := p2 = 0) (t1 := 4) (t2 := 55) rfl rfl trivial (fun c => ?_) (fun c => ?_)
  · replace h := zif1 c h
    refine rb false 1 (L2 := [some (2, Int.ofNat 0), some (0, p1), some (0, p2), some (0, 0), some (0, 0)]) rfl rfl trivial ?_
    refine rmk [true, true, false, true, true] (L2 := [some (2, Int.ofNat 0), some (0, p1), none, some (0, 0), some (0, 0)]) rfl ?_
    obtain ⟨x4, hx4, h⟩ := zbd h
    refine LP9 zN p1 0 0 mL_letters mL_from mL_to mL_forms mL_costs mL_cheapest mL_fixed mL_sumOf mL_early mL_late x4 hx4 ?_
    obtain ⟨g5_0, h⟩ := zgd h
    obtain rfl := Option.some.inj h
    exact r1 false 7 rfl rfl rfl rfl rfl rfl (And.intro (show zin 3 5 by decide) g5_0)
  · replace h := zif2 c h
    refine ri false 8 (q := p2 < 20) (t1 := 61) (t2 := 73) rfl rfl trivial (fun c => ?_) (fun c => ?_)
    · replace h := zif1 c h
      obtain ⟨g7_0, h⟩ := zgd h
      obtain ⟨x6, hx6, h⟩ := zbd h
      refine rv false 9 4 rfl rfl g7_0 rfl (m_M_X10_copied l M0 M2 M3 M4 M5 M6 p1 (p2 - 1) 0 8 mL_letters mL_from mL_to mL_forms mL_costs mL_cheapest mL_fixed mL_sumOf mL_early mL_late x6 hx6) ⟨_, _, _, _, rfl, rfl, rfl, by decide +kernel, ⟨Nat.le_of_ble_eq_true rfl, Nat.le_of_ble_eq_true rfl⟩, uGin u_14_0 u_14_1 u_14_2 u_1_5 u_14_3⟩ ⟨rfl, _, _, _, rfl, rfl⟩ ?_
      obtain rfl := Option.some.inj h
      exact r1 false 10 rfl rfl rfl rfl rfl rfl trivial
    · replace h := zif2 c h
      obtain ⟨x8, hx8, h⟩ := zbd h
      refine rv false 11 1 (rest := [(0, p1), (2, Int.ofNat 0), (0, (mL_costs (Int.toNat 4)))]) rfl rfl (show zin 4 5 by decide) rfl (m_M_X10_firstOf l M0 ([mL_letters], [mL_from, mL_to, mL_forms, mL_costs, mL_cheapest, mL_fixed, mL_sumOf, mL_early, mL_late]) M2 M3 M4 M5 M6 p2 x8 hx8) ⟨_, _, _, _, rfl, rfl, rfl, by decide +kernel, ⟨Nat.le_of_ble_eq_true rfl, Nat.le_of_ble_eq_true rfl⟩, uGin u_13_9 u_13_10 u_13_11 u_1_5 u_13_12⟩ ⟨rfl, _, _, _, rfl, rfl⟩ ?_
      obtain ⟨x9, hx9, h⟩ := zbd h
      refine rs false 12 1 (rest := [(0, 0), (0, x8), (0, p1), (2, Int.ofNat 0), (0, (mL_costs (Int.toNat 4)))]) rfl rfl trivial rfl (m_M_X10_cutOf l M0 ([mL_letters], [mL_from, mL_to, mL_forms, mL_costs, mL_cheapest, mL_fixed, mL_sumOf, mL_early, mL_late]) M2 M3 M4 M5 M6 p2 x9 hx9) ⟨_, _, _, _, rfl, rfl, rfl, by decide +kernel, ⟨Nat.le_of_ble_eq_true rfl, Nat.le_of_ble_eq_true rfl⟩, uGinS u_13_17 u_13_18 u_1_5 u_13_19⟩ ?_
      obtain ⟨x10, hx10, h⟩ := zbd h
      refine rv false 13 4 (rest := [(0, (mL_costs (Int.toNat 4)))]) rfl rfl trivial rfl (m_M_X10_copied l M0 M2 M3 M4 M5 M6 p1 x8 0 x9 mL_letters mL_from mL_to mL_forms mL_costs mL_cheapest mL_fixed mL_sumOf mL_early mL_late x10 hx10) ⟨_, _, _, _, rfl, rfl, rfl, by decide +kernel, ⟨Nat.le_of_ble_eq_true rfl, Nat.le_of_ble_eq_true rfl⟩, uGin u_14_0 u_14_1 u_14_2 u_1_5 u_14_3⟩ ⟨rfl, _, _, _, rfl, rfl⟩ ?_
      obtain ⟨x11, hx11, h⟩ := zbd h
      refine rv false 14 1 (rest := [(0, p1), (2, Int.ofNat 0), (3, ((mL_costs (Int.toNat 4)) + x10))]) rfl rfl trivial rfl (m_M_X10_secondOf l M0 ([mL_letters], [mL_from, mL_to, mL_forms, mL_costs, mL_cheapest, mL_fixed, mL_sumOf, mL_early, mL_late]) M2 M3 M4 M5 M6 p2 x11 hx11) ⟨_, _, _, _, rfl, rfl, rfl, by decide +kernel, ⟨Nat.le_of_ble_eq_true rfl, Nat.le_of_ble_eq_true rfl⟩, uGin u_13_13 u_13_14 u_13_15 u_1_5 u_13_16⟩ ⟨rfl, _, _, _, rfl, rfl⟩ ?_
      obtain ⟨x12, hx12, h⟩ := zbd h
      refine rs false 15 1 (rest := [(0, x11), (0, p1), (2, Int.ofNat 0), (3, ((mL_costs (Int.toNat 4)) + x10))]) rfl rfl trivial rfl (m_M_X10_cutOf l M0 ([mL_letters], [mL_from, mL_to, mL_forms, mL_costs, mL_cheapest, mL_fixed, mL_sumOf, mL_early, mL_late]) M2 M3 M4 M5 M6 p2 x12 hx12) ⟨_, _, _, _, rfl, rfl, rfl, by decide +kernel, ⟨Nat.le_of_ble_eq_true rfl, Nat.le_of_ble_eq_true rfl⟩, uGinS u_13_17 u_13_18 u_1_5 u_13_19⟩ ?_
      obtain ⟨x13, hx13, h⟩ := zbd h
      refine rv false 16 4 (rest := [(3, ((mL_costs (Int.toNat 4)) + x10))]) rfl rfl trivial rfl (m_M_X10_copied l M0 M2 M3 M4 M5 M6 p1 x11 x12 8 mL_letters mL_from mL_to mL_forms mL_costs mL_cheapest mL_fixed mL_sumOf mL_early mL_late x13 hx13) ⟨_, _, _, _, rfl, rfl, rfl, by decide +kernel, ⟨Nat.le_of_ble_eq_true rfl, Nat.le_of_ble_eq_true rfl⟩, uGin u_14_0 u_14_1 u_14_2 u_1_5 u_14_3⟩ ⟨rfl, _, _, _, rfl, rfl⟩ ?_
      obtain ⟨g14_0, h⟩ := zgd h
      obtain rfl := Option.some.inj h
      exact r1 false 17 rfl rfl rfl rfl rfl rfl g14_0
def bX10_price : zB := [(0, [(.aload_n 0, 1), (.iload_n 1, 1)], 2, .invokevirtual 133, 3), (5, [], 5, .ifCond .eq 21, 3), (8, [(.aload_n 0, 1), (.iload_n 1, 1), (.iload_n 2, 1)], 11, .invokevirtual 164, 3), (14, [], 14, .ifCond .eq 12, 3), (17, [(.aload_n 0, 1), (.iload_n 1, 1), (.iload_n 2, 1)], 20, .invokevirtual 168, 3), (23, [], 23, .goto 4, 3), (26, [(.iconst (-1), 1)], 27, .nop, 0), (27, [], 27, .ireturn, 1)]
theorem bX10_price_ok : zBok cX10_price 3 bX10_price = true := by decide +kernel
abbrev wX10_price : List Cond := Cond.code yX10_price cX10_price 3 (some .int) :: uU
def rX10_price : Room := { frames := 3, cells := 0, slots := 0, locals := 71 }
set_option maxRecDepth 20000 in
set_option maxHeartbeats 4000000 in
theorem m_M_X10_price (l : Launch) (M0 : zM) (M2 : zM) (M3 : zM) (M4 : zM) (M5 : zM) (M6 : zM) (p1 : Int) (p2 : Int) (mL_letters : Int) (mL_from : Nat → Int) (mL_to : Nat → Int) (mL_forms : Nat → Int) (mL_costs : Nat → Int) (mL_cheapest : Nat → Int) (mL_fixed : Nat → Int) (mL_sumOf : Nat → Int) (mL_early : Nat → Int) (mL_late : Nat → Int) (x : Int) (h : f_X10_price p1 p2 mL_letters mL_forms mL_costs = some x) : zD l yX10_price wX10_price rX10_price lamM shpM [(2, Int.ofNat 0), (0, p1), (0, p2)] [M0, ([mL_letters], [mL_from, mL_to, mL_forms, mL_costs, mL_cheapest, mL_fixed, mL_sumOf, mL_early, mL_late]), M2, M3, M4, M5, M6] (some (0, x)) [M0, ([mL_letters], [mL_from, mL_to, mL_forms, mL_costs, mL_cheapest, mL_fixed, mL_sumOf, mL_early, mL_late]), M2, M3, M4, M5, M6] := by
  refine zD_of (B := bX10_price) (E := eX10) (by decide) rfl lokM (eX10_ok _) bX10_price_ok (Or.inl rfl) rfl (fun S R => ?_)
  obtain ⟨rb, rg, ri, rv, rs, r0, r1, r2, r3, rt, rmk⟩ := R
  show S 0 [some (2, Int.ofNat 0), some (0, p1), some (0, p2)] [] [M0, ([mL_letters], [mL_from, mL_to, mL_forms, mL_costs, mL_cheapest, mL_fixed, mL_sumOf, mL_early, mL_late]), M2, M3, M4, M5, M6]
  unfold f_X10_price at h
  obtain ⟨x1, hx1, h⟩ := zbd h
  refine rv false 0 1 rfl rfl trivial rfl (m_M_X10_isLetter l M0 M2 M3 M4 M5 M6 p1 mL_letters mL_from mL_to mL_forms mL_costs mL_cheapest mL_fixed mL_sumOf mL_early mL_late x1 hx1) ⟨_, _, _, _, rfl, rfl, rfl, by decide +kernel, ⟨Nat.le_of_ble_eq_true rfl, Nat.le_of_ble_eq_true rfl⟩, uGin u_10_12 u_10_13 u_10_14 u_1_5 u_10_15⟩ ⟨rfl, _, _, _, rfl, rfl⟩ ?_
  refine ri false 1 (q := x1 = 0) (t1 := 26) (t2 := 8) rfl rfl trivial (fun c => ?_) (fun c => ?_)
  · replace h := zif1 c h
    refine rb false 6 (st2 := [(0, (-1))]) rfl rfl trivial ?_
    obtain rfl := Option.some.inj h
    exact r1 false 7 rfl rfl rfl rfl rfl rfl trivial
  · replace h := zif2 c h
    obtain ⟨x2, hx2, h⟩ := zbd h
    refine rv false 2 2 rfl rfl trivial rfl (m_M_X10_isWay l M0 M2 M3 M4 M5 M6 p1 p2 mL_letters mL_from mL_to mL_forms mL_costs mL_cheapest mL_fixed mL_sumOf mL_early mL_late x2 hx2) ⟨_, _, _, _, rfl, rfl, rfl, by decide +kernel, ⟨Nat.le_of_ble_eq_true rfl, Nat.le_of_ble_eq_true rfl⟩, uGin u_13_2 u_13_3 u_13_4 u_1_5 u_13_5⟩ ⟨rfl, _, _, _, rfl, rfl⟩ ?_
    refine ri false 3 (q := x2 = 0) (t1 := 26) (t2 := 17) rfl rfl trivial (fun c => ?_) (fun c => ?_)
    · replace h := zif1 c h
      refine rb false 6 (st2 := [(0, (-1))]) rfl rfl trivial ?_
      obtain rfl := Option.some.inj h
      exact r1 false 7 rfl rfl rfl rfl rfl rfl trivial
    · replace h := zif2 c h
      obtain ⟨x3, hx3, h⟩ := zbd h
      refine rv false 4 2 rfl rfl trivial rfl (m_M_X10_priceOf l M0 M2 M3 M4 M5 M6 p1 p2 mL_letters mL_from mL_to mL_forms mL_costs mL_cheapest mL_fixed mL_sumOf mL_early mL_late x3 hx3) ⟨_, _, _, _, rfl, rfl, rfl, by decide +kernel, ⟨Nat.le_of_ble_eq_true rfl, Nat.le_of_ble_eq_true rfl⟩, uGin u_13_20 u_13_21 u_13_22 u_1_5 u_13_23⟩ ⟨rfl, _, _, _, rfl, rfl⟩ ?_
      refine rg false 5 (t := 27) (st2 := [(0, x3)]) rfl rfl rfl trivial ?_
      obtain rfl := Option.some.inj h
      exact r1 false 7 rfl rfl rfl rfl rfl rfl trivial
def bX10_sources : zB := [(0, [(.iload_n 1, 1)], 1, .ifCond .ne 7, 3), (4, [(.iconst 0, 1)], 5, .goto 32, 3), (8, [(.iload_n 1, 1), (.bipush 20, 2)], 11, .if_icmp .ge 11, 3), (14, [(.iconst 1, 1), (.iload_n 1, 1), (.iconst 1, 1), (.isub, 1), (.ishl, 1)], 19, .goto 18, 3), (22, [(.iconst 1, 1), (.aload_n 0, 1), (.iload_n 1, 1)], 25, .invokevirtual 150, 3), (28, [(.ishl, 1), (.iconst 1, 1), (.aload_n 0, 1), (.iload_n 1, 1)], 32, .invokevirtual 154, 3), (35, [(.ishl, 1), (.ior, 1)], 37, .nop, 0), (37, [], 37, .ireturn, 1)]
theorem bX10_sources_ok : zBok cX10_sources 2 bX10_sources = true := by decide +kernel
abbrev wX10_sources : List Cond := Cond.code yX10_sources cX10_sources 2 (some .int) :: uU
def rX10_sources : Room := { frames := 1, cells := 0, slots := 0, locals := 21 }
set_option maxRecDepth 20000 in
set_option maxHeartbeats 4000000 in
theorem m_M_X10_sources (l : Launch) (M0 : zM) (M1 : zM) (M2 : zM) (M3 : zM) (M4 : zM) (M5 : zM) (M6 : zM) (p1 : Int) (x : Int) (h : f_X10_sources p1 = some x) : zD l yX10_sources wX10_sources rX10_sources lamM shpM [(2, Int.ofNat 0), (0, p1)] [M0, M1, M2, M3, M4, M5, M6] (some (0, x)) [M0, M1, M2, M3, M4, M5, M6] := by
  refine zD_of (B := bX10_sources) (E := eX10) (by decide) rfl lokM (eX10_ok _) bX10_sources_ok (Or.inl rfl) rfl (fun S R => ?_)
  obtain ⟨rb, rg, ri, rv, rs, r0, r1, r2, r3, rt, rmk⟩ := R
  show S 0 [some (2, Int.ofNat 0), some (0, p1)] [] [M0, M1, M2, M3, M4, M5, M6]
  unfold f_X10_sources at h
  refine ri false 0 (q := p1 = 0) (t1 := 4) (t2 := 8) rfl rfl trivial (fun c => ?_) (fun c => ?_)
  · replace h := zif1 c h
    refine rg false 1 (t := 37) (st2 := [(0, 0)]) rfl rfl rfl trivial ?_
    obtain rfl := Option.some.inj h
    exact r1 false 7 rfl rfl rfl rfl rfl rfl trivial
  · replace h := zif2 c h
    refine ri false 2 (q := p1 < 20) (t1 := 14) (t2 := 22) rfl rfl trivial (fun c => ?_) (fun c => ?_)
    · replace h := zif1 c h
      refine rg false 3 (t := 37) (st2 := [(0, (zshl 1 (p1 - 1)))]) rfl rfl rfl trivial ?_
      obtain rfl := Option.some.inj h
      exact r1 false 7 rfl rfl rfl rfl rfl rfl trivial
    · replace h := zif2 c h
      obtain ⟨x1, hx1, h⟩ := zbd h
      refine rv false 4 1 (rest := [(0, 1)]) rfl rfl trivial rfl (m_M_X10_firstOf l M0 M1 M2 M3 M4 M5 M6 p1 x1 hx1) ⟨_, _, _, _, rfl, rfl, rfl, by decide +kernel, ⟨Nat.le_of_ble_eq_true rfl, Nat.le_of_ble_eq_true rfl⟩, uGin u_13_9 u_13_10 u_13_11 u_1_5 u_13_12⟩ ⟨rfl, _, _, _, rfl, rfl⟩ ?_
      obtain ⟨x2, hx2, h⟩ := zbd h
      refine rv false 5 1 (rest := [(0, 1), (0, (zshl 1 x1))]) rfl rfl trivial rfl (m_M_X10_secondOf l M0 M1 M2 M3 M4 M5 M6 p1 x2 hx2) ⟨_, _, _, _, rfl, rfl, rfl, by decide +kernel, ⟨Nat.le_of_ble_eq_true rfl, Nat.le_of_ble_eq_true rfl⟩, uGin u_13_13 u_13_14 u_13_15 u_1_5 u_13_16⟩ ⟨rfl, _, _, _, rfl, rfl⟩ ?_
      refine rb false 6 (st2 := [(0, (zor (zshl 1 x1) (zshl 1 x2)))]) rfl rfl trivial ?_
      obtain rfl := Option.some.inj h
      exact r1 false 7 rfl rfl rfl rfl rfl rfl trivial
def bX10_prices : zB := [(0, [(.iconst 0, 1), (.istore_n 1, 1)], 2, .nop, 0), (2, [(.iload_n 1, 1), (.aload_n 0, 1), (.getfield 127, 3)], 7, .if_icmp .ge 248, 3), (10, [(.aload_n 0, 1), (.getfield 31, 3), (.iload_n 1, 1), (.iconst (-1), 1), (.iastore, 1), (.iconst 0, 1), (.istore_n 2, 1)], 19, .nop, 0), (19, [(.iload_n 2, 1), (.iconst 1, 1), (.aload_n 0, 1), (.getfield 127, 3), (.ishl, 1)], 26, .if_icmp .ge 27, 3), (29, [(.aload_n 0, 1), (.getfield 28, 3), (.sipush 256, 3), (.iload_n 1, 1), (.imul, 1), (.iload_n 2, 1), (.iadd, 1), (.aload_n 0, 1), (.iload_n 1, 1), (.iconst 0, 1)], 43, .invokevirtual 168, 3), (46, [(.iastore, 1), (.iinc 2 1, 3)], 50, .goto (-31), 3), (53, [(.iconst 1, 1), (.istore_n 2, 1)], 55, .nop, 0), (55, [(.iload_n 2, 1), (.sipush 532, 3)], 59, .if_icmp .ge 78, 3), (62, [(.aload_n 0, 1), (.iload_n 1, 1), (.iload_n 2, 1)], 65, .invokevirtual 164, 3), (68, [], 68, .ifCond .eq 63, 3), (71, [(.aload_n 0, 1), (.iload_n 2, 1)], 73, .invokevirtual 171, 3), (76, [(.istore_n 3, 1), (.aload_n 0, 1), (.iload_n 1, 1), (.iload_n 2, 1)], 80, .invokevirtual 168, 3), (83, [(.istore 4, 2), (.aload_n 0, 1), (.getfield 28, 3), (.sipush 256, 3), (.iload_n 1, 1), (.imul, 1), (.iload_n 3, 1), (.iadd, 1), (.iload 4, 2), (.aload_n 0, 1), (.getfield 28, 3), (.sipush 256, 3), (.iload_n 1, 1), (.imul, 1), (.iload_n 3, 1), (.iadd, 1), (.iaload, 1)], 110, .if_icmp .ge 8, 3), (113, [(.iload 4, 2)], 115, .goto 15, 3), (118, [(.aload_n 0, 1), (.getfield 28, 3), (.sipush 256, 3), (.iload_n 1, 1), (.imul, 1), (.iload_n 3, 1), (.iadd, 1), (.iaload, 1)], 130, .nop, 0), (130, [(.iastore, 1)], 131, .nop, 0), (131, [(.iinc 2 1, 3)], 134, .goto (-79), 3), (137, [(.iconst 0, 1), (.istore_n 2, 1)], 139, .nop, 0), (139, [(.iload_n 2, 1), (.iconst 1, 1), (.aload_n 0, 1), (.getfield 127, 3), (.ishl, 1)], 146, .if_icmp .ge 103, 3), (149, [(.iconst 0, 1), (.istore_n 3, 1)], 151, .nop, 0), (151, [(.iload_n 3, 1), (.aload_n 0, 1), (.getfield 127, 3)], 156, .if_icmp .ge 87, 3), (159, [(.iload_n 2, 1), (.iload_n 3, 1), (.ishr, 1), (.iconst 1, 1), (.iand, 1), (.iconst 1, 1)], 165, .if_icmp .ne 22, 3), (168, [(.aload_n 0, 1), (.getfield 28, 3), (.sipush 256, 3), (.iload_n 1, 1), (.imul, 1), (.iload_n 2, 1), (.iconst 1, 1), (.iload_n 3, 1), (.ishl, 1), (.ixor, 1), (.iadd, 1), (.iaload, 1)], 184, .goto 5, 3), (187, [(.ldc 174, 2)], 189, .nop, 0), (189, [(.istore 4, 2), (.aload_n 0, 1), (.getfield 28, 3), (.sipush 256, 3), (.iload_n 1, 1), (.imul, 1), (.iload_n 2, 1), (.iadd, 1), (.iload 4, 2), (.aload_n 0, 1), (.getfield 28, 3), (.sipush 256, 3), (.iload_n 1, 1), (.imul, 1), (.iload_n 2, 1), (.iadd, 1), (.iaload, 1)], 216, .if_icmp .ge 8, 3), (219, [(.iload 4, 2)], 221, .goto 15, 3), (224, [(.aload_n 0, 1), (.getfield 28, 3), (.sipush 256, 3), (.iload_n 1, 1), (.imul, 1), (.iload_n 2, 1), (.iadd, 1), (.iaload, 1)], 236, .nop, 0), (236, [(.iastore, 1), (.iinc 3 1, 3)], 240, .goto (-89), 3), (243, [(.iinc 2 1, 3)], 246, .goto (-107), 3), (249, [(.iinc 1 1, 3)], 252, .goto (-250), 3), (255, [], 255, .return_, 1)]
theorem bX10_prices_ok : zBok cX10_prices 5 bX10_prices = true := by decide +kernel
abbrev wX10_prices : List Cond := Cond.code yX10_prices cX10_prices 5 none :: uU
def rX10_prices : Room := { frames := 3, cells := 0, slots := 0, locals := 71 }
set_option maxRecDepth 20000 in
set_option maxHeartbeats 4000000 in
theorem m_M_X10_prices (l : Launch) (M0 : zM) (M2 : zM) (M3 : zM) (M4 : zM) (M5 : zM) (M6 : zM) (mL_letters : Int) (mL_from : Nat → Int) (mL_to : Nat → Int) (mL_forms : Nat → Int) (mL_costs : Nat → Int) (mL_cheapest : Nat → Int) (mL_fixed : Nat → Int) (mL_sumOf : Nat → Int) (mL_early : Nat → Int) (mL_late : Nat → Int) (x : (Nat → Int) × (Nat → Int)) (h : f_X10_prices mL_letters mL_forms mL_costs mL_cheapest mL_fixed = some x) : zD l yX10_prices wX10_prices rX10_prices lamM shpM [(2, Int.ofNat 0)] [M0, ([mL_letters], [mL_from, mL_to, mL_forms, mL_costs, mL_cheapest, mL_fixed, mL_sumOf, mL_early, mL_late]), M2, M3, M4, M5, M6] (none) [M0, ([mL_letters], [mL_from, mL_to, mL_forms, mL_costs, x.1, x.2, mL_sumOf, mL_early, mL_late]), M2, M3, M4, M5, M6] := by
  refine zD_of (B := bX10_prices) (E := eX10) (by decide) rfl lokM (eX10_ok _) bX10_prices_ok (Or.inl rfl) rfl (fun S R => ?_)
  obtain ⟨rb, rg, ri, rv, rs, r0, r1, r2, r3, rt, rmk⟩ := R
  show S 0 [some (2, Int.ofNat 0), none, none, none, none] [] [M0, ([mL_letters], [mL_from, mL_to, mL_forms, mL_costs, mL_cheapest, mL_fixed, mL_sumOf, mL_early, mL_late]), M2, M3, M4, M5, M6]
  have LP19 : ∀ (n : Nat) (v1 : Int) (v2 : Int) (mL_letters : Int) (mL_from : Nat → Int) (mL_to : Nat → Int) (mL_forms : Nat → Int) (mL_costs : Nat → Int) (mL_cheapest : Nat → Int) (mL_fixed : Nat → Int) (mL_sumOf : Nat → Int) (mL_early : Nat → Int) (mL_late : Nat → Int) (y : Nat → Int), l_X10_prices_19 n v1 v2 mL_letters mL_forms mL_costs mL_cheapest = some y → S 53 [some (2, Int.ofNat 0), some (0, v1), none, none, none] [] [M0, ([mL_letters], [mL_from, mL_to, mL_forms, mL_costs, y, mL_fixed, mL_sumOf, mL_early, mL_late]), M2, M3, M4, M5, M6] → S 19 [some (2, Int.ofNat 0), some (0, v1), some (0, v2), none, none] [] [M0, ([mL_letters], [mL_from, mL_to, mL_forms, mL_costs, mL_cheapest, mL_fixed, mL_sumOf, mL_early, mL_late]), M2, M3, M4, M5, M6] := by
    intro n
    induction n with
    | zero =>
      intro v1 v2 mL_letters mL_from mL_to mL_forms mL_costs mL_cheapest mL_fixed mL_sumOf mL_early mL_late y h k
      rw [l_X10_prices_19] at h
      cases h
    | succ n ih =>
      intro v1 v2 mL_letters mL_from mL_to mL_forms mL_costs mL_cheapest mL_fixed mL_sumOf mL_early mL_late y h k
      rw [l_X10_prices_19] at h
      refine ri false 3 (q := v2 < (zshl 1 mL_letters)) (t1 := 29) (t2 := 53) rfl rfl trivial (fun c => ?_) (fun c => ?_)
      · replace h := zif1 c h
        obtain ⟨x2, hx2, h⟩ := zbd h
        refine rv false 4 2 (rest := [(3, ((256 * v1) + v2)), (2, Int.ofNat 7)]) rfl rfl trivial rfl (m_M_X10_priceOf l M0 M2 M3 M4 M5 M6 v1 0 mL_letters mL_from mL_to mL_forms mL_costs mL_cheapest mL_fixed mL_sumOf mL_early mL_late x2 hx2) ⟨_, _, _, _, rfl, rfl, rfl, by decide +kernel, ⟨Nat.le_of_ble_eq_true rfl, Nat.le_of_ble_eq_true rfl⟩, uGin u_13_20 u_13_21 u_13_22 u_1_5 u_13_23⟩ ⟨rfl, _, _, _, rfl, rfl⟩ ?_
        obtain ⟨⟨g3_0, g3_1⟩, h⟩ := zgd h
        refine rg false 5 (t := 19) (L2 := [some (2, Int.ofNat 0), some (0, v1), some (0, (v2 + 1)), none, none]) (σ2 := [M0, ([mL_letters], [mL_from, mL_to, mL_forms, mL_costs, (zu mL_cheapest (Int.toNat ((256 * v1) + v2)) x2), mL_fixed, mL_sumOf, mL_early, mL_late]), M2, M3, M4, M5, M6]) rfl rfl rfl (And.intro g3_0 g3_1) ?_
        exact ih v1 (v2 + 1) mL_letters mL_from mL_to mL_forms mL_costs (zu mL_cheapest (Int.toNat ((256 * v1) + v2)) x2) mL_fixed mL_sumOf mL_early mL_late y h k
      · replace h := zif2 c h
        refine rmk [true, true, false, false, false] (L2 := [some (2, Int.ofNat 0), some (0, v1), none, none, none]) rfl ?_
        obtain rfl := Option.some.inj h
        exact k
  have LP55 : ∀ (n : Nat) (v1 : Int) (v2 : Int) (mL_letters : Int) (mL_from : Nat → Int) (mL_to : Nat → Int) (mL_forms : Nat → Int) (mL_costs : Nat → Int) (mL_cheapest : Nat → Int) (mL_fixed : Nat → Int) (mL_sumOf : Nat → Int) (mL_early : Nat → Int) (mL_late : Nat → Int) (y : Nat → Int), l_X10_prices_55 n v1 v2 mL_letters mL_forms mL_costs mL_cheapest = some y → S 137 [some (2, Int.ofNat 0), some (0, v1), none, none, none] [] [M0, ([mL_letters], [mL_from, mL_to, mL_forms, mL_costs, y, mL_fixed, mL_sumOf, mL_early, mL_late]), M2, M3, M4, M5, M6] → S 55 [some (2, Int.ofNat 0), some (0, v1), some (0, v2), none, none] [] [M0, ([mL_letters], [mL_from, mL_to, mL_forms, mL_costs, mL_cheapest, mL_fixed, mL_sumOf, mL_early, mL_late]), M2, M3, M4, M5, M6] := by
    intro n
    induction n with
    | zero =>
      intro v1 v2 mL_letters mL_from mL_to mL_forms mL_costs mL_cheapest mL_fixed mL_sumOf mL_early mL_late y h k
      rw [l_X10_prices_55] at h
      cases h
    | succ n ih =>
      intro v1 v2 mL_letters mL_from mL_to mL_forms mL_costs mL_cheapest mL_fixed mL_sumOf mL_early mL_late y h k
      rw [l_X10_prices_55] at h
      refine ri false 7 (q := v2 < 532) (t1 := 62) (t2 := 137) rfl rfl trivial (fun c => ?_) (fun c => ?_)
      · replace h := zif1 c h
        obtain ⟨x5, hx5, h⟩ := zbd h
        refine rv false 8 2 rfl rfl trivial rfl (m_M_X10_isWay l M0 M2 M3 M4 M5 M6 v1 v2 mL_letters mL_from mL_to mL_forms mL_costs mL_cheapest mL_fixed mL_sumOf mL_early mL_late x5 hx5) ⟨_, _, _, _, rfl, rfl, rfl, by decide +kernel, ⟨Nat.le_of_ble_eq_true rfl, Nat.le_of_ble_eq_true rfl⟩, uGin u_13_2 u_13_3 u_13_4 u_1_5 u_13_5⟩ ⟨rfl, _, _, _, rfl, rfl⟩ ?_
        refine ri false 9 (q := x5 = 0) (t1 := 131) (t2 := 71) rfl rfl trivial (fun c => ?_) (fun c => ?_)
        · replace h := zif1 c h
          obtain ⟨g6_0, h⟩ := zgd h
          refine rg false 16 (t := 55) (L2 := [some (2, Int.ofNat 0), some (0, v1), some (0, (v2 + 1)), none, none]) rfl rfl rfl g6_0 ?_
          exact ih v1 (v2 + 1) mL_letters mL_from mL_to mL_forms mL_costs mL_cheapest mL_fixed mL_sumOf mL_early mL_late y h k
        · replace h := zif2 c h
          obtain ⟨x7, hx7, h⟩ := zbd h
          refine rv false 10 1 rfl rfl trivial rfl (m_M_X10_sources l M0 ([mL_letters], [mL_from, mL_to, mL_forms, mL_costs, mL_cheapest, mL_fixed, mL_sumOf, mL_early, mL_late]) M2 M3 M4 M5 M6 v2 x7 hx7) ⟨_, _, _, _, rfl, rfl, rfl, by decide +kernel, ⟨Nat.le_of_ble_eq_true rfl, Nat.le_of_ble_eq_true rfl⟩, uGin u_16_16 u_16_17 u_16_18 u_1_5 u_16_19⟩ ⟨rfl, _, _, _, rfl, rfl⟩ ?_
          obtain ⟨x8, hx8, h⟩ := zbd h
          refine rv false 11 2 (L2 := [some (2, Int.ofNat 0), some (0, v1), some (0, v2), some (0, x7), none]) rfl rfl trivial rfl (m_M_X10_priceOf l M0 M2 M3 M4 M5 M6 v1 v2 mL_letters mL_from mL_to mL_forms mL_costs mL_cheapest mL_fixed mL_sumOf mL_early mL_late x8 hx8) ⟨_, _, _, _, rfl, rfl, rfl, by decide +kernel, ⟨Nat.le_of_ble_eq_true rfl, Nat.le_of_ble_eq_true rfl⟩, uGin u_13_20 u_13_21 u_13_22 u_1_5 u_13_23⟩ ⟨rfl, _, _, _, rfl, rfl⟩ ?_
          obtain ⟨g9_0, h⟩ := zgd h
          refine ri false 12 (q := x8 < (mL_cheapest (Int.toNat ((256 * v1) + x7)))) (t1 := 113) (t2 := 118) (L2 := [some (2, Int.ofNat 0), some (0, v1), some (0, v2), some (0, x7), some (0, x8)]) (st2 := [(3, ((256 * v1) + x7)), (2, Int.ofNat 7)]) rfl rfl g9_0 (fun c => ?_) (fun c => ?_)
          · replace h := zif1 c h
            refine rg false 13 (t := 130) (st2 := [(0, x8), (3, ((256 * v1) + x7)), (2, Int.ofNat 7)]) rfl rfl rfl trivial ?_
            obtain ⟨g10_0, h⟩ := zgd h
            refine rb false 15 (σ2 := [M0, ([mL_letters], [mL_from, mL_to, mL_forms, mL_costs, (zu mL_cheapest (Int.toNat ((256 * v1) + x7)) x8), mL_fixed, mL_sumOf, mL_early, mL_late]), M2, M3, M4, M5, M6]) rfl rfl g10_0 ?_
            obtain ⟨g11_0, h⟩ := zgd h
            refine rg false 16 (t := 55) (L2 := [some (2, Int.ofNat 0), some (0, v1), some (0, (v2 + 1)), some (0, x7), some (0, x8)]) rfl rfl rfl g11_0 ?_
            refine rmk [true, true, true, false, false] (L2 := [some (2, Int.ofNat 0), some (0, v1), some (0, (v2 + 1)), none, none]) rfl ?_
            exact ih v1 (v2 + 1) mL_letters mL_from mL_to mL_forms mL_costs (zu mL_cheapest (Int.toNat ((256 * v1) + x7)) x8) mL_fixed mL_sumOf mL_early mL_late y h k
          · replace h := zif2 c h
            obtain ⟨g12_0, h⟩ := zgd h
            refine rb false 14 (st2 := [(0, (mL_cheapest (Int.toNat ((256 * v1) + x7)))), (3, ((256 * v1) + x7)), (2, Int.ofNat 7)]) rfl rfl g12_0 ?_
            obtain ⟨g13_0, h⟩ := zgd h
            refine rb false 15 (σ2 := [M0, ([mL_letters], [mL_from, mL_to, mL_forms, mL_costs, (zu mL_cheapest (Int.toNat ((256 * v1) + x7)) (mL_cheapest (Int.toNat ((256 * v1) + x7)))), mL_fixed, mL_sumOf, mL_early, mL_late]), M2, M3, M4, M5, M6]) rfl rfl g13_0 ?_
            obtain ⟨g14_0, h⟩ := zgd h
            refine rg false 16 (t := 55) (L2 := [some (2, Int.ofNat 0), some (0, v1), some (0, (v2 + 1)), some (0, x7), some (0, x8)]) rfl rfl rfl g14_0 ?_
            refine rmk [true, true, true, false, false] (L2 := [some (2, Int.ofNat 0), some (0, v1), some (0, (v2 + 1)), none, none]) rfl ?_
            exact ih v1 (v2 + 1) mL_letters mL_from mL_to mL_forms mL_costs (zu mL_cheapest (Int.toNat ((256 * v1) + x7)) (mL_cheapest (Int.toNat ((256 * v1) + x7)))) mL_fixed mL_sumOf mL_early mL_late y h k
      · replace h := zif2 c h
        refine rmk [true, true, false, false, false] (L2 := [some (2, Int.ofNat 0), some (0, v1), none, none, none]) rfl ?_
        obtain rfl := Option.some.inj h
        exact k
  have LP151 : ∀ (n : Nat) (v1 : Int) (v2 : Int) (v3 : Int) (mL_letters : Int) (mL_from : Nat → Int) (mL_to : Nat → Int) (mL_forms : Nat → Int) (mL_costs : Nat → Int) (mL_cheapest : Nat → Int) (mL_fixed : Nat → Int) (mL_sumOf : Nat → Int) (mL_early : Nat → Int) (mL_late : Nat → Int) (y : Nat → Int), l_X10_prices_151 n v1 v2 v3 mL_letters mL_cheapest = some y → S 243 [some (2, Int.ofNat 0), some (0, v1), some (0, v2), none, none] [] [M0, ([mL_letters], [mL_from, mL_to, mL_forms, mL_costs, y, mL_fixed, mL_sumOf, mL_early, mL_late]), M2, M3, M4, M5, M6] → S 151 [some (2, Int.ofNat 0), some (0, v1), some (0, v2), some (0, v3), none] [] [M0, ([mL_letters], [mL_from, mL_to, mL_forms, mL_costs, mL_cheapest, mL_fixed, mL_sumOf, mL_early, mL_late]), M2, M3, M4, M5, M6] := by
    intro n
    induction n with
    | zero =>
      intro v1 v2 v3 mL_letters mL_from mL_to mL_forms mL_costs mL_cheapest mL_fixed mL_sumOf mL_early mL_late y h k
      rw [l_X10_prices_151] at h
      cases h
    | succ n ih =>
      intro v1 v2 v3 mL_letters mL_from mL_to mL_forms mL_costs mL_cheapest mL_fixed mL_sumOf mL_early mL_late y h k
      rw [l_X10_prices_151] at h
      refine ri false 20 (q := v3 < mL_letters) (t1 := 159) (t2 := 243) rfl rfl trivial (fun c => ?_) (fun c => ?_)
      · replace h := zif1 c h
        refine ri false 21 (q := (zand (zshr v2 v3) 1) = 1) (t1 := 168) (t2 := 187) rfl rfl trivial (fun c => ?_) (fun c => ?_)
        · replace h := zif1 c h
          obtain ⟨g16_0, h⟩ := zgd h
          refine rg false 22 (t := 189) (st2 := [(0, (mL_cheapest (Int.toNat ((256 * v1) + (zxor v2 (zshl 1 v3))))))]) rfl rfl rfl g16_0 ?_
          obtain ⟨g17_0, h⟩ := zgd h
          refine ri false 24 (q := (mL_cheapest (Int.toNat ((256 * v1) + (zxor v2 (zshl 1 v3))))) < (mL_cheapest (Int.toNat ((256 * v1) + v2)))) (t1 := 219) (t2 := 224) (L2 := [some (2, Int.ofNat 0), some (0, v1), some (0, v2), some (0, v3), some (0, (mL_cheapest (Int.toNat ((256 * v1) + (zxor v2 (zshl 1 v3))))))]) (st2 := [(3, ((256 * v1) + v2)), (2, Int.ofNat 7)]) rfl rfl g17_0 (fun c => ?_) (fun c => ?_)
          · replace h := zif1 c h
            refine rg false 25 (t := 236) (st2 := [(0, (mL_cheapest (Int.toNat ((256 * v1) + (zxor v2 (zshl 1 v3)))))), (3, ((256 * v1) + v2)), (2, Int.ofNat 7)]) rfl rfl rfl trivial ?_
            obtain ⟨⟨g18_0, g18_1⟩, h⟩ := zgd h
            refine rg false 27 (t := 151) (L2 := [some (2, Int.ofNat 0), some (0, v1), some (0, v2), some (0, (v3 + 1)), some (0, (mL_cheapest (Int.toNat ((256 * v1) + (zxor v2 (zshl 1 v3))))))]) (σ2 := [M0, ([mL_letters], [mL_from, mL_to, mL_forms, mL_costs, (zu mL_cheapest (Int.toNat ((256 * v1) + v2)) (mL_cheapest (Int.toNat ((256 * v1) + (zxor v2 (zshl 1 v3)))))), mL_fixed, mL_sumOf, mL_early, mL_late]), M2, M3, M4, M5, M6]) rfl rfl rfl (And.intro g18_0 g18_1) ?_
            refine rmk [true, true, true, true, false] (L2 := [some (2, Int.ofNat 0), some (0, v1), some (0, v2), some (0, (v3 + 1)), none]) rfl ?_
            exact ih v1 v2 (v3 + 1) mL_letters mL_from mL_to mL_forms mL_costs (zu mL_cheapest (Int.toNat ((256 * v1) + v2)) (mL_cheapest (Int.toNat ((256 * v1) + (zxor v2 (zshl 1 v3)))))) mL_fixed mL_sumOf mL_early mL_late y h k
          · replace h := zif2 c h
            obtain ⟨g19_0, h⟩ := zgd h
            refine rb false 26 (st2 := [(0, (mL_cheapest (Int.toNat ((256 * v1) + v2)))), (3, ((256 * v1) + v2)), (2, Int.ofNat 7)]) rfl rfl g19_0 ?_
            obtain ⟨⟨g20_0, g20_1⟩, h⟩ := zgd h
            refine rg false 27 (t := 151) (L2 := [some (2, Int.ofNat 0), some (0, v1), some (0, v2), some (0, (v3 + 1)), some (0, (mL_cheapest (Int.toNat ((256 * v1) + (zxor v2 (zshl 1 v3))))))]) (σ2 := [M0, ([mL_letters], [mL_from, mL_to, mL_forms, mL_costs, (zu mL_cheapest (Int.toNat ((256 * v1) + v2)) (mL_cheapest (Int.toNat ((256 * v1) + v2)))), mL_fixed, mL_sumOf, mL_early, mL_late]), M2, M3, M4, M5, M6]) rfl rfl rfl (And.intro g20_0 g20_1) ?_
            refine rmk [true, true, true, true, false] (L2 := [some (2, Int.ofNat 0), some (0, v1), some (0, v2), some (0, (v3 + 1)), none]) rfl ?_
            exact ih v1 v2 (v3 + 1) mL_letters mL_from mL_to mL_forms mL_costs (zu mL_cheapest (Int.toNat ((256 * v1) + v2)) (mL_cheapest (Int.toNat ((256 * v1) + v2)))) mL_fixed mL_sumOf mL_early mL_late y h k
        · replace h := zif2 c h
          refine rb false 23 (st2 := [(0, 1000000)]) rfl rfl trivial ?_
          obtain ⟨g21_0, h⟩ := zgd h
          refine ri false 24 (q := (1000000 : Int) < (mL_cheapest (Int.toNat ((256 * v1) + v2)))) (t1 := 219) (t2 := 224) (L2 := [some (2, Int.ofNat 0), some (0, v1), some (0, v2), some (0, v3), some (0, 1000000)]) (st2 := [(3, ((256 * v1) + v2)), (2, Int.ofNat 7)]) rfl rfl g21_0 (fun c => ?_) (fun c => ?_)
          · replace h := zif1 c h
            refine rg false 25 (t := 236) (st2 := [(0, 1000000), (3, ((256 * v1) + v2)), (2, Int.ofNat 7)]) rfl rfl rfl trivial ?_
            obtain ⟨⟨g22_0, g22_1⟩, h⟩ := zgd h
            refine rg false 27 (t := 151) (L2 := [some (2, Int.ofNat 0), some (0, v1), some (0, v2), some (0, (v3 + 1)), some (0, 1000000)]) (σ2 := [M0, ([mL_letters], [mL_from, mL_to, mL_forms, mL_costs, (zu mL_cheapest (Int.toNat ((256 * v1) + v2)) 1000000), mL_fixed, mL_sumOf, mL_early, mL_late]), M2, M3, M4, M5, M6]) rfl rfl rfl (And.intro g22_0 g22_1) ?_
            refine rmk [true, true, true, true, false] (L2 := [some (2, Int.ofNat 0), some (0, v1), some (0, v2), some (0, (v3 + 1)), none]) rfl ?_
            exact ih v1 v2 (v3 + 1) mL_letters mL_from mL_to mL_forms mL_costs (zu mL_cheapest (Int.toNat ((256 * v1) + v2)) 1000000) mL_fixed mL_sumOf mL_early mL_late y h k
          · replace h := zif2 c h
            obtain ⟨g23_0, h⟩ := zgd h
            refine rb false 26 (st2 := [(0, (mL_cheapest (Int.toNat ((256 * v1) + v2)))), (3, ((256 * v1) + v2)), (2, Int.ofNat 7)]) rfl rfl g23_0 ?_
            obtain ⟨⟨g24_0, g24_1⟩, h⟩ := zgd h
            refine rg false 27 (t := 151) (L2 := [some (2, Int.ofNat 0), some (0, v1), some (0, v2), some (0, (v3 + 1)), some (0, 1000000)]) (σ2 := [M0, ([mL_letters], [mL_from, mL_to, mL_forms, mL_costs, (zu mL_cheapest (Int.toNat ((256 * v1) + v2)) (mL_cheapest (Int.toNat ((256 * v1) + v2)))), mL_fixed, mL_sumOf, mL_early, mL_late]), M2, M3, M4, M5, M6]) rfl rfl rfl (And.intro g24_0 g24_1) ?_
            refine rmk [true, true, true, true, false] (L2 := [some (2, Int.ofNat 0), some (0, v1), some (0, v2), some (0, (v3 + 1)), none]) rfl ?_
            exact ih v1 v2 (v3 + 1) mL_letters mL_from mL_to mL_forms mL_costs (zu mL_cheapest (Int.toNat ((256 * v1) + v2)) (mL_cheapest (Int.toNat ((256 * v1) + v2)))) mL_fixed mL_sumOf mL_early mL_late y h k
      · replace h := zif2 c h
        refine rmk [true, true, true, false, false] (L2 := [some (2, Int.ofNat 0), some (0, v1), some (0, v2), none, none]) rfl ?_
        obtain rfl := Option.some.inj h
        exact k
  have LP139 : ∀ (n : Nat) (v1 : Int) (v2 : Int) (mL_letters : Int) (mL_from : Nat → Int) (mL_to : Nat → Int) (mL_forms : Nat → Int) (mL_costs : Nat → Int) (mL_cheapest : Nat → Int) (mL_fixed : Nat → Int) (mL_sumOf : Nat → Int) (mL_early : Nat → Int) (mL_late : Nat → Int) (y : Nat → Int), l_X10_prices_139 n v1 v2 mL_letters mL_cheapest = some y → S 249 [some (2, Int.ofNat 0), some (0, v1), none, none, none] [] [M0, ([mL_letters], [mL_from, mL_to, mL_forms, mL_costs, y, mL_fixed, mL_sumOf, mL_early, mL_late]), M2, M3, M4, M5, M6] → S 139 [some (2, Int.ofNat 0), some (0, v1), some (0, v2), none, none] [] [M0, ([mL_letters], [mL_from, mL_to, mL_forms, mL_costs, mL_cheapest, mL_fixed, mL_sumOf, mL_early, mL_late]), M2, M3, M4, M5, M6] := by
    intro n
    induction n with
    | zero =>
      intro v1 v2 mL_letters mL_from mL_to mL_forms mL_costs mL_cheapest mL_fixed mL_sumOf mL_early mL_late y h k
      rw [l_X10_prices_139] at h
      cases h
    | succ n ih =>
      intro v1 v2 mL_letters mL_from mL_to mL_forms mL_costs mL_cheapest mL_fixed mL_sumOf mL_early mL_late y h k
      rw [l_X10_prices_139] at h
      refine ri false 18 (q := v2 < (zshl 1 mL_letters)) (t1 := 149) (t2 := 249) rfl rfl trivial (fun c => ?_) (fun c => ?_)
      · replace h := zif1 c h
        refine rb false 19 (L2 := [some (2, Int.ofNat 0), some (0, v1), some (0, v2), some (0, 0), none]) rfl rfl trivial ?_
        obtain ⟨x25, hx25, h⟩ := zbd h
        refine LP151 zN v1 v2 0 mL_letters mL_from mL_to mL_forms mL_costs mL_cheapest mL_fixed mL_sumOf mL_early mL_late x25 hx25 ?_
        obtain ⟨g26_0, h⟩ := zgd h
        refine rg false 28 (t := 139) (L2 := [some (2, Int.ofNat 0), some (0, v1), some (0, (v2 + 1)), none, none]) rfl rfl rfl g26_0 ?_
        exact ih v1 (v2 + 1) mL_letters mL_from mL_to mL_forms mL_costs x25 mL_fixed mL_sumOf mL_early mL_late y h k
      · replace h := zif2 c h
        refine rmk [true, true, false, false, false] (L2 := [some (2, Int.ofNat 0), some (0, v1), none, none, none]) rfl ?_
        obtain rfl := Option.some.inj h
        exact k
  have LP2 : ∀ (n : Nat) (v1 : Int) (mL_letters : Int) (mL_from : Nat → Int) (mL_to : Nat → Int) (mL_forms : Nat → Int) (mL_costs : Nat → Int) (mL_cheapest : Nat → Int) (mL_fixed : Nat → Int) (mL_sumOf : Nat → Int) (mL_early : Nat → Int) (mL_late : Nat → Int) (y : (Nat → Int) × (Nat → Int)), l_X10_prices_2 n v1 mL_letters mL_forms mL_costs mL_cheapest mL_fixed = some y → S 255 [none, none, none, none, none] [] [M0, ([mL_letters], [mL_from, mL_to, mL_forms, mL_costs, y.1, y.2, mL_sumOf, mL_early, mL_late]), M2, M3, M4, M5, M6] → S 2 [some (2, Int.ofNat 0), some (0, v1), none, none, none] [] [M0, ([mL_letters], [mL_from, mL_to, mL_forms, mL_costs, mL_cheapest, mL_fixed, mL_sumOf, mL_early, mL_late]), M2, M3, M4, M5, M6] := by
    intro n
    induction n with
    | zero =>
      intro v1 mL_letters mL_from mL_to mL_forms mL_costs mL_cheapest mL_fixed mL_sumOf mL_early mL_late y h k
      rw [l_X10_prices_2] at h
      cases h
    | succ n ih =>
      intro v1 mL_letters mL_from mL_to mL_forms mL_costs mL_cheapest mL_fixed mL_sumOf mL_early mL_late y h k
      rw [l_X10_prices_2] at h
      refine ri false 1 (q := v1 < mL_letters) (t1 := 10) (t2 := 255) rfl rfl trivial (fun c => ?_) (fun c => ?_)
      · replace h := zif1 c h
        obtain ⟨g1_0, h⟩ := zgd h
        refine rb false 2 (L2 := [some (2, Int.ofNat 0), some (0, v1), some (0, 0), none, none]) (σ2 := [M0, ([mL_letters], [mL_from, mL_to, mL_forms, mL_costs, mL_cheapest, (zu mL_fixed (Int.toNat v1) (-1)), mL_sumOf, mL_early, mL_late]), M2, M3, M4, M5, M6]) rfl rfl g1_0 ?_
        obtain ⟨x4, hx4, h⟩ := zbd h
        refine LP19 zN v1 0 mL_letters mL_from mL_to mL_forms mL_costs mL_cheapest (zu mL_fixed (Int.toNat v1) (-1)) mL_sumOf mL_early mL_late x4 hx4 ?_
        refine rb false 6 (L2 := [some (2, Int.ofNat 0), some (0, v1), some (0, 1), none, none]) rfl rfl trivial ?_
        obtain ⟨x15, hx15, h⟩ := zbd h
        refine LP55 zN v1 1 mL_letters mL_from mL_to mL_forms mL_costs x4 (zu mL_fixed (Int.toNat v1) (-1)) mL_sumOf mL_early mL_late x15 hx15 ?_
        refine rb false 17 (L2 := [some (2, Int.ofNat 0), some (0, v1), some (0, 0), none, none]) rfl rfl trivial ?_
        obtain ⟨x27, hx27, h⟩ := zbd h
        refine LP139 zN v1 0 mL_letters mL_from mL_to mL_forms mL_costs x15 (zu mL_fixed (Int.toNat v1) (-1)) mL_sumOf mL_early mL_late x27 hx27 ?_
        obtain ⟨g28_0, h⟩ := zgd h
        refine rg false 29 (t := 2) (L2 := [some (2, Int.ofNat 0), some (0, (v1 + 1)), none, none, none]) rfl rfl rfl g28_0 ?_
        exact ih (v1 + 1) mL_letters mL_from mL_to mL_forms mL_costs x27 (zu mL_fixed (Int.toNat v1) (-1)) mL_sumOf mL_early mL_late y h k
      · replace h := zif2 c h
        refine rmk [false, false, false, false, false] (L2 := [none, none, none, none, none]) rfl ?_
        obtain rfl := Option.some.inj h
        exact k
  unfold f_X10_prices at h
  refine rb false 0 (L2 := [some (2, Int.ofNat 0), some (0, 0), none, none, none]) rfl rfl trivial ?_
  obtain ⟨x29, hx29, h⟩ := zbd h
  refine LP2 zN 0 mL_letters mL_from mL_to mL_forms mL_costs mL_cheapest mL_fixed mL_sumOf mL_early mL_late x29 hx29 ?_
  obtain rfl := Option.some.inj h
  exact r0 false 30 rfl rfl rfl rfl trivial
def bX10_leastOf : zB := [(0, [(.iconst 1, 1), (.aload_n 0, 1), (.getfield 127, 3), (.ishl, 1), (.istore_n 1, 1), (.iconst 0, 1), (.istore_n 2, 1)], 9, .nop, 0), (9, [(.iload_n 2, 1), (.iload_n 1, 1)], 11, .if_icmp .ge 25, 3), (14, [(.aload_n 0, 1), (.getfield 34, 3), (.iload_n 2, 1), (.iload_n 2, 1)], 20, .ifCond .ne 7, 3), (23, [(.iconst 0, 1)], 24, .goto 5, 3), (27, [(.ldc 174, 2)], 29, .nop, 0), (29, [(.iastore, 1), (.iinc 2 1, 3)], 33, .goto (-24), 3), (36, [(.iconst 0, 1), (.istore_n 2, 1)], 38, .nop, 0), (38, [(.iload_n 2, 1), (.iload_n 1, 1)], 40, .if_icmp .ge 149, 3), (43, [(.iconst 0, 1), (.istore_n 3, 1)], 45, .nop, 0), (45, [(.iload_n 3, 1), (.aload_n 0, 1), (.getfield 127, 3)], 50, .if_icmp .ge 133, 3), (53, [(.aload_n 0, 1), (.getfield 34, 3), (.iload_n 2, 1), (.iaload, 1), (.ldc 174, 2)], 61, .if_icmp .ge 122, 3), (64, [(.iload_n 2, 1), (.iload_n 3, 1), (.ishr, 1), (.iconst 1, 1), (.iand, 1)], 69, .ifCond .ne 108, 3), (72, [(.aload_n 0, 1), (.getfield 31, 3), (.iload_n 3, 1), (.iaload, 1), (.istore 4, 2), (.iload 4, 2), (.iconst (-1), 1)], 83, .if_icmp .ne 18, 3), (86, [(.aload_n 0, 1), (.getfield 28, 3), (.sipush 256, 3), (.iload_n 3, 1), (.imul, 1), (.iload_n 2, 1), (.iadd, 1), (.iaload, 1)], 98, .goto 28, 3), (101, [(.aload_n 0, 1), (.iload 4, 2)], 104, .invokevirtual 171, 3), (107, [(.iload_n 2, 1), (.iconst (-1), 1), (.ixor, 1), (.iand, 1)], 111, .ifCond .ne 13, 3), (114, [(.aload_n 0, 1), (.iload_n 3, 1), (.iload 4, 2)], 118, .invokevirtual 168, 3), (121, [], 121, .goto 5, 3), (124, [(.ldc 174, 2)], 126, .nop, 0), (126, [(.istore 5, 2), (.aload_n 0, 1), (.getfield 34, 3), (.iload_n 2, 1), (.iaload, 1), (.iload 5, 2), (.iadd, 1), (.istore 6, 2), (.iload_n 2, 1), (.iconst 1, 1), (.iload_n 3, 1), (.ishl, 1), (.ior, 1), (.istore 7, 2)], 146, .nop, 0), (146, [(.aload_n 0, 1), (.getfield 34, 3), (.iload 7, 2), (.iload 6, 2), (.aload_n 0, 1), (.getfield 34, 3), (.iload 7, 2), (.iaload, 1)], 161, .if_icmp .ge 8, 3), (164, [(.iload 6, 2)], 166, .goto 10, 3), (169, [(.aload_n 0, 1), (.getfield 34, 3), (.iload 7, 2), (.iaload, 1)], 176, .nop, 0), (176, [(.iastore, 1)], 177, .nop, 0), (177, [(.iinc 3 1, 3)], 180, .goto (-135), 3), (183, [(.iinc 2 1, 3)], 186, .goto (-148), 3), (189, [(.aload_n 0, 1), (.getfield 34, 3), (.iload_n 1, 1), (.iconst 1, 1), (.isub, 1), (.iaload, 1)], 197, .ireturn, 1)]
theorem bX10_leastOf_ok : zBok cX10_leastOf 8 bX10_leastOf = true := by decide +kernel
abbrev wX10_leastOf : List Cond := Cond.code yX10_leastOf cX10_leastOf 8 (some .int) :: uU
def rX10_leastOf : Room := { frames := 2, cells := 0, slots := 0, locals := 52 }
set_option maxRecDepth 20000 in
set_option maxHeartbeats 4000000 in
theorem m_M_X10_leastOf (l : Launch) (M0 : zM) (M2 : zM) (M3 : zM) (M4 : zM) (M5 : zM) (M6 : zM) (mL_letters : Int) (mL_from : Nat → Int) (mL_to : Nat → Int) (mL_forms : Nat → Int) (mL_costs : Nat → Int) (mL_cheapest : Nat → Int) (mL_fixed : Nat → Int) (mL_sumOf : Nat → Int) (mL_early : Nat → Int) (mL_late : Nat → Int) (x : Int × (Nat → Int)) (h : f_X10_leastOf mL_letters mL_forms mL_costs mL_cheapest mL_fixed mL_sumOf = some x) : zD l yX10_leastOf wX10_leastOf rX10_leastOf lamM shpM [(2, Int.ofNat 0)] [M0, ([mL_letters], [mL_from, mL_to, mL_forms, mL_costs, mL_cheapest, mL_fixed, mL_sumOf, mL_early, mL_late]), M2, M3, M4, M5, M6] (some (0, x.1)) [M0, ([mL_letters], [mL_from, mL_to, mL_forms, mL_costs, mL_cheapest, mL_fixed, x.2, mL_early, mL_late]), M2, M3, M4, M5, M6] := by
  refine zD_of (B := bX10_leastOf) (E := eX10) (by decide) rfl lokM (eX10_ok _) bX10_leastOf_ok (Or.inl rfl) rfl (fun S R => ?_)
  obtain ⟨rb, rg, ri, rv, rs, r0, r1, r2, r3, rt, rmk⟩ := R
  show S 0 [some (2, Int.ofNat 0), none, none, none, none, none, none, none] [] [M0, ([mL_letters], [mL_from, mL_to, mL_forms, mL_costs, mL_cheapest, mL_fixed, mL_sumOf, mL_early, mL_late]), M2, M3, M4, M5, M6]
  have LP9 : ∀ (n : Nat) (v1 : Int) (v2 : Int) (mL_letters : Int) (mL_from : Nat → Int) (mL_to : Nat → Int) (mL_forms : Nat → Int) (mL_costs : Nat → Int) (mL_cheapest : Nat → Int) (mL_fixed : Nat → Int) (mL_sumOf : Nat → Int) (mL_early : Nat → Int) (mL_late : Nat → Int) (y : Nat → Int), l_X10_leastOf_9 n v1 v2 mL_sumOf = some y → S 36 [some (2, Int.ofNat 0), some (0, v1), none, none, none, none, none, none] [] [M0, ([mL_letters], [mL_from, mL_to, mL_forms, mL_costs, mL_cheapest, mL_fixed, y, mL_early, mL_late]), M2, M3, M4, M5, M6] → S 9 [some (2, Int.ofNat 0), some (0, v1), some (0, v2), none, none, none, none, none] [] [M0, ([mL_letters], [mL_from, mL_to, mL_forms, mL_costs, mL_cheapest, mL_fixed, mL_sumOf, mL_early, mL_late]), M2, M3, M4, M5, M6] := by
    intro n
    induction n with
    | zero =>
      intro v1 v2 mL_letters mL_from mL_to mL_forms mL_costs mL_cheapest mL_fixed mL_sumOf mL_early mL_late y h k
      rw [l_X10_leastOf_9] at h
      cases h
    | succ n ih =>
      intro v1 v2 mL_letters mL_from mL_to mL_forms mL_costs mL_cheapest mL_fixed mL_sumOf mL_early mL_late y h k
      rw [l_X10_leastOf_9] at h
      refine ri false 1 (q := v2 < v1) (t1 := 14) (t2 := 36) rfl rfl trivial (fun c => ?_) (fun c => ?_)
      · replace h := zif1 c h
        refine ri false 2 (q := v2 = 0) (t1 := 23) (t2 := 27) (st2 := [(0, v2), (2, Int.ofNat 9)]) rfl rfl trivial (fun c => ?_) (fun c => ?_)
        · replace h := zif1 c h
          refine rg false 3 (t := 29) (st2 := [(0, 0), (0, v2), (2, Int.ofNat 9)]) rfl rfl rfl trivial ?_
          obtain ⟨⟨g1_0, g1_1⟩, h⟩ := zgd h
          refine rg false 5 (t := 9) (L2 := [some (2, Int.ofNat 0), some (0, v1), some (0, (v2 + 1)), none, none, none, none, none]) (σ2 := [M0, ([mL_letters], [mL_from, mL_to, mL_forms, mL_costs, mL_cheapest, mL_fixed, (zu mL_sumOf (Int.toNat v2) 0), mL_early, mL_late]), M2, M3, M4, M5, M6]) rfl rfl rfl (And.intro g1_0 g1_1) ?_
          exact ih v1 (v2 + 1) mL_letters mL_from mL_to mL_forms mL_costs mL_cheapest mL_fixed (zu mL_sumOf (Int.toNat v2) 0) mL_early mL_late y h k
        · replace h := zif2 c h
          refine rb false 4 (st2 := [(0, 1000000), (0, v2), (2, Int.ofNat 9)]) rfl rfl trivial ?_
          obtain ⟨⟨g2_0, g2_1⟩, h⟩ := zgd h
          refine rg false 5 (t := 9) (L2 := [some (2, Int.ofNat 0), some (0, v1), some (0, (v2 + 1)), none, none, none, none, none]) (σ2 := [M0, ([mL_letters], [mL_from, mL_to, mL_forms, mL_costs, mL_cheapest, mL_fixed, (zu mL_sumOf (Int.toNat v2) 1000000), mL_early, mL_late]), M2, M3, M4, M5, M6]) rfl rfl rfl (And.intro g2_0 g2_1) ?_
          exact ih v1 (v2 + 1) mL_letters mL_from mL_to mL_forms mL_costs mL_cheapest mL_fixed (zu mL_sumOf (Int.toNat v2) 1000000) mL_early mL_late y h k
      · replace h := zif2 c h
        refine rmk [true, true, false, false, false, false, false, false] (L2 := [some (2, Int.ofNat 0), some (0, v1), none, none, none, none, none, none]) rfl ?_
        obtain rfl := Option.some.inj h
        exact k
  have LP45 : ∀ (n : Nat) (v1 : Int) (v2 : Int) (v3 : Int) (mL_letters : Int) (mL_from : Nat → Int) (mL_to : Nat → Int) (mL_forms : Nat → Int) (mL_costs : Nat → Int) (mL_cheapest : Nat → Int) (mL_fixed : Nat → Int) (mL_sumOf : Nat → Int) (mL_early : Nat → Int) (mL_late : Nat → Int) (y : Nat → Int), l_X10_leastOf_45 n v1 v2 v3 mL_letters mL_forms mL_costs mL_cheapest mL_fixed mL_sumOf = some y → S 183 [some (2, Int.ofNat 0), some (0, v1), some (0, v2), none, none, none, none, none] [] [M0, ([mL_letters], [mL_from, mL_to, mL_forms, mL_costs, mL_cheapest, mL_fixed, y, mL_early, mL_late]), M2, M3, M4, M5, M6] → S 45 [some (2, Int.ofNat 0), some (0, v1), some (0, v2), some (0, v3), none, none, none, none] [] [M0, ([mL_letters], [mL_from, mL_to, mL_forms, mL_costs, mL_cheapest, mL_fixed, mL_sumOf, mL_early, mL_late]), M2, M3, M4, M5, M6] := by
    intro n
    induction n with
    | zero =>
      intro v1 v2 v3 mL_letters mL_from mL_to mL_forms mL_costs mL_cheapest mL_fixed mL_sumOf mL_early mL_late y h k
      rw [l_X10_leastOf_45] at h
      cases h
    | succ n ih =>
      intro v1 v2 v3 mL_letters mL_from mL_to mL_forms mL_costs mL_cheapest mL_fixed mL_sumOf mL_early mL_late y h k
      rw [l_X10_leastOf_45] at h
      refine ri false 9 (q := v3 < mL_letters) (t1 := 53) (t2 := 183) rfl rfl trivial (fun c => ?_) (fun c => ?_)
      · replace h := zif1 c h
        obtain ⟨g4_0, h⟩ := zgd h
        refine ri false 10 (q := (mL_sumOf (Int.toNat v2)) < 1000000) (t1 := 64) (t2 := 183) rfl rfl g4_0 (fun c => ?_) (fun c => ?_)
        · replace h := zif1 c h
          refine ri false 11 (q := (zand (zshr v2 v3) 1) = 0) (t1 := 72) (t2 := 177) rfl rfl trivial (fun c => ?_) (fun c => ?_)
          · replace h := zif1 c h
            obtain ⟨g5_0, h⟩ := zgd h
            refine ri false 12 (q := (mL_fixed (Int.toNat v3)) = (-1)) (t1 := 86) (t2 := 101) (L2 := [some (2, Int.ofNat 0), some (0, v1), some (0, v2), some (0, v3), some (0, (mL_fixed (Int.toNat v3))), none, none, none]) rfl rfl g5_0 (fun c => ?_) (fun c => ?_)
            · replace h := zif1 c h
              obtain ⟨g6_0, h⟩ := zgd h
              refine rg false 13 (t := 126) (st2 := [(0, (mL_cheapest (Int.toNat ((256 * v3) + v2))))]) rfl rfl rfl g6_0 ?_
              obtain ⟨⟨g7_0, g7_1⟩, h⟩ := zgd h
              refine rb false 19 (L2 := [some (2, Int.ofNat 0), some (0, v1), some (0, v2), some (0, v3), some (0, (mL_fixed (Int.toNat v3))), some (0, (mL_cheapest (Int.toNat ((256 * v3) + v2)))), some (0, ((mL_sumOf (Int.toNat v2)) + (mL_cheapest (Int.toNat ((256 * v3) + v2))))), some (0, (zor v2 (zshl 1 v3)))]) rfl rfl (And.intro g7_0 g7_1) ?_
              obtain ⟨g8_0, h⟩ := zgd h
              refine ri false 20 (q := ((mL_sumOf (Int.toNat v2)) + (mL_cheapest (Int.toNat ((256 * v3) + v2)))) < (mL_sumOf (Int.toNat (zor v2 (zshl 1 v3))))) (t1 := 164) (t2 := 169) (st2 := [(0, (zor v2 (zshl 1 v3))), (2, Int.ofNat 9)]) rfl rfl g8_0 (fun c => ?_) (fun c => ?_)
              · replace h := zif1 c h
                refine rg false 21 (t := 176) (st2 := [(0, ((mL_sumOf (Int.toNat v2)) + (mL_cheapest (Int.toNat ((256 * v3) + v2))))), (0, (zor v2 (zshl 1 v3))), (2, Int.ofNat 9)]) rfl rfl rfl trivial ?_
                obtain ⟨g9_0, h⟩ := zgd h
                refine rb false 23 (σ2 := [M0, ([mL_letters], [mL_from, mL_to, mL_forms, mL_costs, mL_cheapest, mL_fixed, (zu mL_sumOf (Int.toNat (zor v2 (zshl 1 v3))) ((mL_sumOf (Int.toNat v2)) + (mL_cheapest (Int.toNat ((256 * v3) + v2))))), mL_early, mL_late]), M2, M3, M4, M5, M6]) rfl rfl g9_0 ?_
                obtain ⟨g10_0, h⟩ := zgd h
                refine rg false 24 (t := 45) (L2 := [some (2, Int.ofNat 0), some (0, v1), some (0, v2), some (0, (v3 + 1)), some (0, (mL_fixed (Int.toNat v3))), some (0, (mL_cheapest (Int.toNat ((256 * v3) + v2)))), some (0, ((mL_sumOf (Int.toNat v2)) + (mL_cheapest (Int.toNat ((256 * v3) + v2))))), some (0, (zor v2 (zshl 1 v3)))]) rfl rfl rfl g10_0 ?_
                refine rmk [true, true, true, true, false, false, false, false] (L2 := [some (2, Int.ofNat 0), some (0, v1), some (0, v2), some (0, (v3 + 1)), none, none, none, none]) rfl ?_
                exact ih v1 v2 (v3 + 1) mL_letters mL_from mL_to mL_forms mL_costs mL_cheapest mL_fixed (zu mL_sumOf (Int.toNat (zor v2 (zshl 1 v3))) ((mL_sumOf (Int.toNat v2)) + (mL_cheapest (Int.toNat ((256 * v3) + v2))))) mL_early mL_late y h k
              · replace h := zif2 c h
                obtain ⟨g11_0, h⟩ := zgd h
                refine rb false 22 (st2 := [(0, (mL_sumOf (Int.toNat (zor v2 (zshl 1 v3))))), (0, (zor v2 (zshl 1 v3))), (2, Int.ofNat 9)]) rfl rfl g11_0 ?_
                obtain ⟨g12_0, h⟩ := zgd h
                refine rb false 23 (σ2 := [M0, ([mL_letters], [mL_from, mL_to, mL_forms, mL_costs, mL_cheapest, mL_fixed, (zu mL_sumOf (Int.toNat (zor v2 (zshl 1 v3))) (mL_sumOf (Int.toNat (zor v2 (zshl 1 v3))))), mL_early, mL_late]), M2, M3, M4, M5, M6]) rfl rfl g12_0 ?_
                obtain ⟨g13_0, h⟩ := zgd h
                refine rg false 24 (t := 45) (L2 := [some (2, Int.ofNat 0), some (0, v1), some (0, v2), some (0, (v3 + 1)), some (0, (mL_fixed (Int.toNat v3))), some (0, (mL_cheapest (Int.toNat ((256 * v3) + v2)))), some (0, ((mL_sumOf (Int.toNat v2)) + (mL_cheapest (Int.toNat ((256 * v3) + v2))))), some (0, (zor v2 (zshl 1 v3)))]) rfl rfl rfl g13_0 ?_
                refine rmk [true, true, true, true, false, false, false, false] (L2 := [some (2, Int.ofNat 0), some (0, v1), some (0, v2), some (0, (v3 + 1)), none, none, none, none]) rfl ?_
                exact ih v1 v2 (v3 + 1) mL_letters mL_from mL_to mL_forms mL_costs mL_cheapest mL_fixed (zu mL_sumOf (Int.toNat (zor v2 (zshl 1 v3))) (mL_sumOf (Int.toNat (zor v2 (zshl 1 v3))))) mL_early mL_late y h k
            · replace h := zif2 c h
              obtain ⟨x14, hx14, h⟩ := zbd h
              refine rv false 14 1 rfl rfl trivial rfl (m_M_X10_sources l M0 ([mL_letters], [mL_from, mL_to, mL_forms, mL_costs, mL_cheapest, mL_fixed, mL_sumOf, mL_early, mL_late]) M2 M3 M4 M5 M6 (mL_fixed (Int.toNat v3)) x14 hx14) ⟨_, _, _, _, rfl, rfl, rfl, by decide +kernel, ⟨Nat.le_of_ble_eq_true rfl, Nat.le_of_ble_eq_true rfl⟩, uGin u_16_16 u_16_17 u_16_18 u_1_5 u_16_19⟩ ⟨rfl, _, _, _, rfl, rfl⟩ ?_
              refine ri false 15 (q := (zand x14 (zxor v2 (-1))) = 0) (t1 := 114) (t2 := 124) rfl rfl trivial (fun c => ?_) (fun c => ?_)
              · replace h := zif1 c h
                obtain ⟨x15, hx15, h⟩ := zbd h
                refine rv false 16 2 rfl rfl trivial rfl (m_M_X10_priceOf l M0 M2 M3 M4 M5 M6 v3 (mL_fixed (Int.toNat v3)) mL_letters mL_from mL_to mL_forms mL_costs mL_cheapest mL_fixed mL_sumOf mL_early mL_late x15 hx15) ⟨_, _, _, _, rfl, rfl, rfl, by decide +kernel, ⟨Nat.le_of_ble_eq_true rfl, Nat.le_of_ble_eq_true rfl⟩, uGin u_13_20 u_13_21 u_13_22 u_1_5 u_13_23⟩ ⟨rfl, _, _, _, rfl, rfl⟩ ?_
                refine rg false 17 (t := 126) (st2 := [(0, x15)]) rfl rfl rfl trivial ?_
                obtain ⟨⟨g16_0, g16_1⟩, h⟩ := zgd h
                refine rb false 19 (L2 := [some (2, Int.ofNat 0), some (0, v1), some (0, v2), some (0, v3), some (0, (mL_fixed (Int.toNat v3))), some (0, x15), some (0, ((mL_sumOf (Int.toNat v2)) + x15)), some (0, (zor v2 (zshl 1 v3)))]) rfl rfl (And.intro g16_0 g16_1) ?_
                obtain ⟨g17_0, h⟩ := zgd h
                refine ri false 20 (q := ((mL_sumOf (Int.toNat v2)) + x15) < (mL_sumOf (Int.toNat (zor v2 (zshl 1 v3))))) (t1 := 164) (t2 := 169) (st2 := [(0, (zor v2 (zshl 1 v3))), (2, Int.ofNat 9)]) rfl rfl g17_0 (fun c => ?_) (fun c => ?_)
                · replace h := zif1 c h
                  refine rg false 21 (t := 176) (st2 := [(0, ((mL_sumOf (Int.toNat v2)) + x15)), (0, (zor v2 (zshl 1 v3))), (2, Int.ofNat 9)]) rfl rfl rfl trivial ?_
                  obtain ⟨g18_0, h⟩ := zgd h
                  refine rb false 23 (σ2 := [M0, ([mL_letters], [mL_from, mL_to, mL_forms, mL_costs, mL_cheapest, mL_fixed, (zu mL_sumOf (Int.toNat (zor v2 (zshl 1 v3))) ((mL_sumOf (Int.toNat v2)) + x15)), mL_early, mL_late]), M2, M3, M4, M5, M6]) rfl rfl g18_0 ?_
                  obtain ⟨g19_0, h⟩ := zgd h
                  refine rg false 24 (t := 45) (L2 := [some (2, Int.ofNat 0), some (0, v1), some (0, v2), some (0, (v3 + 1)), some (0, (mL_fixed (Int.toNat v3))), some (0, x15), some (0, ((mL_sumOf (Int.toNat v2)) + x15)), some (0, (zor v2 (zshl 1 v3)))]) rfl rfl rfl g19_0 ?_
                  refine rmk [true, true, true, true, false, false, false, false] (L2 := [some (2, Int.ofNat 0), some (0, v1), some (0, v2), some (0, (v3 + 1)), none, none, none, none]) rfl ?_
                  exact ih v1 v2 (v3 + 1) mL_letters mL_from mL_to mL_forms mL_costs mL_cheapest mL_fixed (zu mL_sumOf (Int.toNat (zor v2 (zshl 1 v3))) ((mL_sumOf (Int.toNat v2)) + x15)) mL_early mL_late y h k
                · replace h := zif2 c h
                  obtain ⟨g20_0, h⟩ := zgd h
                  refine rb false 22 (st2 := [(0, (mL_sumOf (Int.toNat (zor v2 (zshl 1 v3))))), (0, (zor v2 (zshl 1 v3))), (2, Int.ofNat 9)]) rfl rfl g20_0 ?_
                  obtain ⟨g21_0, h⟩ := zgd h
                  refine rb false 23 (σ2 := [M0, ([mL_letters], [mL_from, mL_to, mL_forms, mL_costs, mL_cheapest, mL_fixed, (zu mL_sumOf (Int.toNat (zor v2 (zshl 1 v3))) (mL_sumOf (Int.toNat (zor v2 (zshl 1 v3))))), mL_early, mL_late]), M2, M3, M4, M5, M6]) rfl rfl g21_0 ?_
                  obtain ⟨g22_0, h⟩ := zgd h
                  refine rg false 24 (t := 45) (L2 := [some (2, Int.ofNat 0), some (0, v1), some (0, v2), some (0, (v3 + 1)), some (0, (mL_fixed (Int.toNat v3))), some (0, x15), some (0, ((mL_sumOf (Int.toNat v2)) + x15)), some (0, (zor v2 (zshl 1 v3)))]) rfl rfl rfl g22_0 ?_
                  refine rmk [true, true, true, true, false, false, false, false] (L2 := [some (2, Int.ofNat 0), some (0, v1), some (0, v2), some (0, (v3 + 1)), none, none, none, none]) rfl ?_
                  exact ih v1 v2 (v3 + 1) mL_letters mL_from mL_to mL_forms mL_costs mL_cheapest mL_fixed (zu mL_sumOf (Int.toNat (zor v2 (zshl 1 v3))) (mL_sumOf (Int.toNat (zor v2 (zshl 1 v3))))) mL_early mL_late y h k
              · replace h := zif2 c h
                refine rb false 18 (st2 := [(0, 1000000)]) rfl rfl trivial ?_
                obtain ⟨⟨g23_0, g23_1⟩, h⟩ := zgd h
                refine rb false 19 (L2 := [some (2, Int.ofNat 0), some (0, v1), some (0, v2), some (0, v3), some (0, (mL_fixed (Int.toNat v3))), some (0, 1000000), some (0, ((mL_sumOf (Int.toNat v2)) + 1000000)), some (0, (zor v2 (zshl 1 v3)))]) rfl rfl (And.intro g23_0 g23_1) ?_
                obtain ⟨g24_0, h⟩ := zgd h
                refine ri false 20 (q := ((mL_sumOf (Int.toNat v2)) + 1000000) < (mL_sumOf (Int.toNat (zor v2 (zshl 1 v3))))) (t1 := 164) (t2 := 169) (st2 := [(0, (zor v2 (zshl 1 v3))), (2, Int.ofNat 9)]) rfl rfl g24_0 (fun c => ?_) (fun c => ?_)
                · replace h := zif1 c h
                  refine rg false 21 (t := 176) (st2 := [(0, ((mL_sumOf (Int.toNat v2)) + 1000000)), (0, (zor v2 (zshl 1 v3))), (2, Int.ofNat 9)]) rfl rfl rfl trivial ?_
                  obtain ⟨g25_0, h⟩ := zgd h
                  refine rb false 23 (σ2 := [M0, ([mL_letters], [mL_from, mL_to, mL_forms, mL_costs, mL_cheapest, mL_fixed, (zu mL_sumOf (Int.toNat (zor v2 (zshl 1 v3))) ((mL_sumOf (Int.toNat v2)) + 1000000)), mL_early, mL_late]), M2, M3, M4, M5, M6]) rfl rfl g25_0 ?_
                  obtain ⟨g26_0, h⟩ := zgd h
                  refine rg false 24 (t := 45) (L2 := [some (2, Int.ofNat 0), some (0, v1), some (0, v2), some (0, (v3 + 1)), some (0, (mL_fixed (Int.toNat v3))), some (0, 1000000), some (0, ((mL_sumOf (Int.toNat v2)) + 1000000)), some (0, (zor v2 (zshl 1 v3)))]) rfl rfl rfl g26_0 ?_
                  refine rmk [true, true, true, true, false, false, false, false] (L2 := [some (2, Int.ofNat 0), some (0, v1), some (0, v2), some (0, (v3 + 1)), none, none, none, none]) rfl ?_
                  exact ih v1 v2 (v3 + 1) mL_letters mL_from mL_to mL_forms mL_costs mL_cheapest mL_fixed (zu mL_sumOf (Int.toNat (zor v2 (zshl 1 v3))) ((mL_sumOf (Int.toNat v2)) + 1000000)) mL_early mL_late y h k
                · replace h := zif2 c h
                  obtain ⟨g27_0, h⟩ := zgd h
                  refine rb false 22 (st2 := [(0, (mL_sumOf (Int.toNat (zor v2 (zshl 1 v3))))), (0, (zor v2 (zshl 1 v3))), (2, Int.ofNat 9)]) rfl rfl g27_0 ?_
                  obtain ⟨g28_0, h⟩ := zgd h
                  refine rb false 23 (σ2 := [M0, ([mL_letters], [mL_from, mL_to, mL_forms, mL_costs, mL_cheapest, mL_fixed, (zu mL_sumOf (Int.toNat (zor v2 (zshl 1 v3))) (mL_sumOf (Int.toNat (zor v2 (zshl 1 v3))))), mL_early, mL_late]), M2, M3, M4, M5, M6]) rfl rfl g28_0 ?_
                  obtain ⟨g29_0, h⟩ := zgd h
                  refine rg false 24 (t := 45) (L2 := [some (2, Int.ofNat 0), some (0, v1), some (0, v2), some (0, (v3 + 1)), some (0, (mL_fixed (Int.toNat v3))), some (0, 1000000), some (0, ((mL_sumOf (Int.toNat v2)) + 1000000)), some (0, (zor v2 (zshl 1 v3)))]) rfl rfl rfl g29_0 ?_
                  refine rmk [true, true, true, true, false, false, false, false] (L2 := [some (2, Int.ofNat 0), some (0, v1), some (0, v2), some (0, (v3 + 1)), none, none, none, none]) rfl ?_
                  exact ih v1 v2 (v3 + 1) mL_letters mL_from mL_to mL_forms mL_costs mL_cheapest mL_fixed (zu mL_sumOf (Int.toNat (zor v2 (zshl 1 v3))) (mL_sumOf (Int.toNat (zor v2 (zshl 1 v3))))) mL_early mL_late y h k
          · replace h := zif2 c h
            obtain ⟨g30_0, h⟩ := zgd h
            refine rg false 24 (t := 45) (L2 := [some (2, Int.ofNat 0), some (0, v1), some (0, v2), some (0, (v3 + 1)), none, none, none, none]) rfl rfl rfl g30_0 ?_
            exact ih v1 v2 (v3 + 1) mL_letters mL_from mL_to mL_forms mL_costs mL_cheapest mL_fixed mL_sumOf mL_early mL_late y h k
        · replace h := zif2 c h
          refine rmk [true, true, true, false, false, false, false, false] (L2 := [some (2, Int.ofNat 0), some (0, v1), some (0, v2), none, none, none, none, none]) rfl ?_
          obtain rfl := Option.some.inj h
          exact k
      · replace h := zif2 c h
        refine rmk [true, true, true, false, false, false, false, false] (L2 := [some (2, Int.ofNat 0), some (0, v1), some (0, v2), none, none, none, none, none]) rfl ?_
        obtain rfl := Option.some.inj h
        exact k
  have LP38 : ∀ (n : Nat) (v1 : Int) (v2 : Int) (mL_letters : Int) (mL_from : Nat → Int) (mL_to : Nat → Int) (mL_forms : Nat → Int) (mL_costs : Nat → Int) (mL_cheapest : Nat → Int) (mL_fixed : Nat → Int) (mL_sumOf : Nat → Int) (mL_early : Nat → Int) (mL_late : Nat → Int) (y : Nat → Int), l_X10_leastOf_38 n v1 v2 mL_letters mL_forms mL_costs mL_cheapest mL_fixed mL_sumOf = some y → S 189 [some (2, Int.ofNat 0), some (0, v1), none, none, none, none, none, none] [] [M0, ([mL_letters], [mL_from, mL_to, mL_forms, mL_costs, mL_cheapest, mL_fixed, y, mL_early, mL_late]), M2, M3, M4, M5, M6] → S 38 [some (2, Int.ofNat 0), some (0, v1), some (0, v2), none, none, none, none, none] [] [M0, ([mL_letters], [mL_from, mL_to, mL_forms, mL_costs, mL_cheapest, mL_fixed, mL_sumOf, mL_early, mL_late]), M2, M3, M4, M5, M6] := by
    intro n
    induction n with
    | zero =>
      intro v1 v2 mL_letters mL_from mL_to mL_forms mL_costs mL_cheapest mL_fixed mL_sumOf mL_early mL_late y h k
      rw [l_X10_leastOf_38] at h
      cases h
    | succ n ih =>
      intro v1 v2 mL_letters mL_from mL_to mL_forms mL_costs mL_cheapest mL_fixed mL_sumOf mL_early mL_late y h k
      rw [l_X10_leastOf_38] at h
      refine ri false 7 (q := v2 < v1) (t1 := 43) (t2 := 189) rfl rfl trivial (fun c => ?_) (fun c => ?_)
      · replace h := zif1 c h
        refine rb false 8 (L2 := [some (2, Int.ofNat 0), some (0, v1), some (0, v2), some (0, 0), none, none, none, none]) rfl rfl trivial ?_
        obtain ⟨x31, hx31, h⟩ := zbd h
        refine LP45 zN v1 v2 0 mL_letters mL_from mL_to mL_forms mL_costs mL_cheapest mL_fixed mL_sumOf mL_early mL_late x31 hx31 ?_
        obtain ⟨g32_0, h⟩ := zgd h
        refine rg false 25 (t := 38) (L2 := [some (2, Int.ofNat 0), some (0, v1), some (0, (v2 + 1)), none, none, none, none, none]) rfl rfl rfl g32_0 ?_
        exact ih v1 (v2 + 1) mL_letters mL_from mL_to mL_forms mL_costs mL_cheapest mL_fixed x31 mL_early mL_late y h k
      · replace h := zif2 c h
        refine rmk [true, true, false, false, false, false, false, false] (L2 := [some (2, Int.ofNat 0), some (0, v1), none, none, none, none, none, none]) rfl ?_
        obtain rfl := Option.some.inj h
        exact k
  unfold f_X10_leastOf at h
  refine rb false 0 (L2 := [some (2, Int.ofNat 0), some (0, (zshl 1 mL_letters)), some (0, 0), none, none, none, none, none]) rfl rfl trivial ?_
  obtain ⟨x3, hx3, h⟩ := zbd h
  refine LP9 zN (zshl 1 mL_letters) 0 mL_letters mL_from mL_to mL_forms mL_costs mL_cheapest mL_fixed mL_sumOf mL_early mL_late x3 hx3 ?_
  refine rb false 6 (L2 := [some (2, Int.ofNat 0), some (0, (zshl 1 mL_letters)), some (0, 0), none, none, none, none, none]) rfl rfl trivial ?_
  obtain ⟨x33, hx33, h⟩ := zbd h
  refine LP38 zN (zshl 1 mL_letters) 0 mL_letters mL_from mL_to mL_forms mL_costs mL_cheapest mL_fixed x3 mL_early mL_late x33 hx33 ?_
  obtain ⟨g34_0, h⟩ := zgd h
  obtain rfl := Option.some.inj h
  exact r1 false 26 rfl rfl rfl rfl rfl rfl g34_0
def bX10_leastAll : zB := [(0, [(.aload_n 0, 1)], 1, .invokevirtual 175, 3), (4, [(.aload_n 0, 1)], 5, .invokevirtual 178, 3), (8, [], 8, .ireturn, 1)]
theorem bX10_leastAll_ok : zBok cX10_leastAll 1 bX10_leastAll = true := by decide +kernel
abbrev wX10_leastAll : List Cond := Cond.code yX10_leastAll cX10_leastAll 1 (some .int) :: uU
def rX10_leastAll : Room := { frames := 4, cells := 0, slots := 0, locals := 95 }
set_option maxRecDepth 20000 in
set_option maxHeartbeats 4000000 in
theorem m_M_X10_leastAll (l : Launch) (M0 : zM) (M2 : zM) (M3 : zM) (M4 : zM) (M5 : zM) (M6 : zM) (mL_letters : Int) (mL_from : Nat → Int) (mL_to : Nat → Int) (mL_forms : Nat → Int) (mL_costs : Nat → Int) (mL_cheapest : Nat → Int) (mL_fixed : Nat → Int) (mL_sumOf : Nat → Int) (mL_early : Nat → Int) (mL_late : Nat → Int) (x : Int × (Nat → Int) × (Nat → Int) × (Nat → Int)) (h : f_X10_leastAll mL_letters mL_forms mL_costs mL_cheapest mL_fixed mL_sumOf = some x) : zD l yX10_leastAll wX10_leastAll rX10_leastAll lamM shpM [(2, Int.ofNat 0)] [M0, ([mL_letters], [mL_from, mL_to, mL_forms, mL_costs, mL_cheapest, mL_fixed, mL_sumOf, mL_early, mL_late]), M2, M3, M4, M5, M6] (some (0, x.1)) [M0, ([mL_letters], [mL_from, mL_to, mL_forms, mL_costs, x.2.1, x.2.2.1, x.2.2.2, mL_early, mL_late]), M2, M3, M4, M5, M6] := by
  refine zD_of (B := bX10_leastAll) (E := eX10) (by decide) rfl lokM (eX10_ok _) bX10_leastAll_ok (Or.inl rfl) rfl (fun S R => ?_)
  obtain ⟨rb, rg, ri, rv, rs, r0, r1, r2, r3, rt, rmk⟩ := R
  show S 0 [some (2, Int.ofNat 0)] [] [M0, ([mL_letters], [mL_from, mL_to, mL_forms, mL_costs, mL_cheapest, mL_fixed, mL_sumOf, mL_early, mL_late]), M2, M3, M4, M5, M6]
  unfold f_X10_leastAll at h
  obtain ⟨x1, hx1, h⟩ := zbd h
  refine rv false 0 0 rfl rfl trivial rfl (m_M_X10_prices l M0 M2 M3 M4 M5 M6 mL_letters mL_from mL_to mL_forms mL_costs mL_cheapest mL_fixed mL_sumOf mL_early mL_late x1 hx1) ⟨_, _, _, _, rfl, rfl, rfl, by decide +kernel, ⟨Nat.le_of_ble_eq_true rfl, Nat.le_of_ble_eq_true rfl⟩, uGin u_16_11 u_16_12 u_16_13 u_1_5 u_16_14⟩ ⟨rfl, _, _, _, rfl, rfl⟩ ?_
  obtain ⟨x2, hx2, h⟩ := zbd h
  refine rv false 1 0 rfl rfl trivial rfl (m_M_X10_leastOf l M0 M2 M3 M4 M5 M6 mL_letters mL_from mL_to mL_forms mL_costs x1.1 x1.2 mL_sumOf mL_early mL_late x2 hx2) ⟨_, _, _, _, rfl, rfl, rfl, by decide +kernel, ⟨Nat.le_of_ble_eq_true rfl, Nat.le_of_ble_eq_true rfl⟩, uGin u_16_20 u_16_21 u_16_22 u_1_5 u_16_23⟩ ⟨rfl, _, _, _, rfl, rfl⟩ ?_
  obtain rfl := Option.some.inj h
  exact r1 false 2 rfl rfl rfl rfl rfl rfl trivial
def bX10_least : zB := [(0, [(.aload_n 0, 1)], 1, .invokevirtual 182, 3), (4, [], 4, .ireturn, 1)]
theorem bX10_least_ok : zBok cX10_least 1 bX10_least = true := by decide +kernel
abbrev wX10_least : List Cond := Cond.code yX10_least cX10_least 1 (some .int) :: uU
def rX10_least : Room := { frames := 5, cells := 0, slots := 0, locals := 115 }
set_option maxRecDepth 20000 in
set_option maxHeartbeats 4000000 in
theorem m_M_X10_least (l : Launch) (M0 : zM) (M2 : zM) (M3 : zM) (M4 : zM) (M5 : zM) (M6 : zM) (mL_letters : Int) (mL_from : Nat → Int) (mL_to : Nat → Int) (mL_forms : Nat → Int) (mL_costs : Nat → Int) (mL_cheapest : Nat → Int) (mL_fixed : Nat → Int) (mL_sumOf : Nat → Int) (mL_early : Nat → Int) (mL_late : Nat → Int) (x : Int × (Nat → Int) × (Nat → Int) × (Nat → Int)) (h : f_X10_least mL_letters mL_forms mL_costs mL_cheapest mL_fixed mL_sumOf = some x) : zD l yX10_least wX10_least rX10_least lamM shpM [(2, Int.ofNat 0)] [M0, ([mL_letters], [mL_from, mL_to, mL_forms, mL_costs, mL_cheapest, mL_fixed, mL_sumOf, mL_early, mL_late]), M2, M3, M4, M5, M6] (some (0, x.1)) [M0, ([mL_letters], [mL_from, mL_to, mL_forms, mL_costs, x.2.1, x.2.2.1, x.2.2.2, mL_early, mL_late]), M2, M3, M4, M5, M6] := by
  refine zD_of (B := bX10_least) (E := eX10) (by decide) rfl lokM (eX10_ok _) bX10_least_ok (Or.inl rfl) rfl (fun S R => ?_)
  obtain ⟨rb, rg, ri, rv, rs, r0, r1, r2, r3, rt, rmk⟩ := R
  show S 0 [some (2, Int.ofNat 0)] [] [M0, ([mL_letters], [mL_from, mL_to, mL_forms, mL_costs, mL_cheapest, mL_fixed, mL_sumOf, mL_early, mL_late]), M2, M3, M4, M5, M6]
  unfold f_X10_least at h
  obtain ⟨x1, hx1, h⟩ := zbd h
  refine rv false 0 0 rfl rfl trivial rfl (m_M_X10_leastAll l M0 M2 M3 M4 M5 M6 mL_letters mL_from mL_to mL_forms mL_costs mL_cheapest mL_fixed mL_sumOf mL_early mL_late x1 hx1) ⟨_, _, _, _, rfl, rfl, rfl, by decide +kernel, ⟨Nat.le_of_ble_eq_true rfl, Nat.le_of_ble_eq_true rfl⟩, uGin u_16_7 u_16_8 u_16_9 u_1_5 u_16_10⟩ ⟨rfl, _, _, _, rfl, rfl⟩ ?_
  obtain rfl := Option.some.inj h
  exact r1 false 1 rfl rfl rfl rfl rfl rfl trivial
def bX10_plants : zB := [(0, [(.aload_n 0, 1)], 1, .invokevirtual 182, 3), (4, [(.istore_n 1, 1), (.iconst 0, 1), (.istore_n 2, 1)], 7, .nop, 0), (7, [(.iload_n 2, 1), (.aload_n 0, 1), (.getfield 127, 3)], 12, .if_icmp .ge 56, 3), (15, [(.iconst (-1), 1), (.istore_n 3, 1), (.iconst 0, 1), (.istore 4, 2)], 20, .nop, 0), (20, [(.iload 4, 2)], 22, .ifCond .ne 40, 3), (25, [(.iinc 3 1, 3), (.aload_n 0, 1), (.iload_n 2, 1), (.iload_n 3, 1)], 31, .invokevirtual 164, 3), (34, [], 34, .ifCond .eq (-14), 3), (37, [(.aload_n 0, 1), (.getfield 31, 3), (.iload_n 2, 1), (.iload_n 3, 1), (.iastore, 1), (.aload_n 0, 1)], 45, .invokevirtual 178, 3), (48, [(.iload_n 1, 1)], 49, .if_icmp .ne 7, 3), (52, [(.iconst 1, 1)], 53, .goto 4, 3), (56, [(.iconst 0, 1)], 57, .nop, 0), (57, [(.istore 4, 2)], 59, .goto (-39), 3), (62, [(.iinc 2 1, 3)], 65, .goto (-58), 3), (68, [], 68, .return_, 1)]
theorem bX10_plants_ok : zBok cX10_plants 5 bX10_plants = true := by decide +kernel
abbrev wX10_plants : List Cond := Cond.code yX10_plants cX10_plants 5 none :: uU
def rX10_plants : Room := { frames := 5, cells := 0, slots := 0, locals := 115 }
set_option maxRecDepth 20000 in
set_option maxHeartbeats 4000000 in
theorem m_M_X10_plants (l : Launch) (M0 : zM) (M2 : zM) (M3 : zM) (M4 : zM) (M5 : zM) (M6 : zM) (mL_letters : Int) (mL_from : Nat → Int) (mL_to : Nat → Int) (mL_forms : Nat → Int) (mL_costs : Nat → Int) (mL_cheapest : Nat → Int) (mL_fixed : Nat → Int) (mL_sumOf : Nat → Int) (mL_early : Nat → Int) (mL_late : Nat → Int) (x : (Nat → Int) × (Nat → Int) × (Nat → Int)) (h : f_X10_plants mL_letters mL_forms mL_costs mL_cheapest mL_fixed mL_sumOf = some x) : zD l yX10_plants wX10_plants rX10_plants lamM shpM [(2, Int.ofNat 0)] [M0, ([mL_letters], [mL_from, mL_to, mL_forms, mL_costs, mL_cheapest, mL_fixed, mL_sumOf, mL_early, mL_late]), M2, M3, M4, M5, M6] (none) [M0, ([mL_letters], [mL_from, mL_to, mL_forms, mL_costs, x.1, x.2.1, x.2.2, mL_early, mL_late]), M2, M3, M4, M5, M6] := by
  refine zD_of (B := bX10_plants) (E := eX10) (by decide) rfl lokM (eX10_ok _) bX10_plants_ok (Or.inl rfl) rfl (fun S R => ?_)
  obtain ⟨rb, rg, ri, rv, rs, r0, r1, r2, r3, rt, rmk⟩ := R
  show S 0 [some (2, Int.ofNat 0), none, none, none, none] [] [M0, ([mL_letters], [mL_from, mL_to, mL_forms, mL_costs, mL_cheapest, mL_fixed, mL_sumOf, mL_early, mL_late]), M2, M3, M4, M5, M6]
  have LP20 : ∀ (n : Nat) (v1 : Int) (v2 : Int) (v3 : Int) (v4 : Int) (mL_letters : Int) (mL_from : Nat → Int) (mL_to : Nat → Int) (mL_forms : Nat → Int) (mL_costs : Nat → Int) (mL_cheapest : Nat → Int) (mL_fixed : Nat → Int) (mL_sumOf : Nat → Int) (mL_early : Nat → Int) (mL_late : Nat → Int) (y : (Nat → Int) × (Nat → Int)), l_X10_plants_20 n v1 v2 v3 v4 mL_letters mL_forms mL_costs mL_cheapest mL_fixed mL_sumOf = some y → S 62 [some (2, Int.ofNat 0), some (0, v1), some (0, v2), none, none] [] [M0, ([mL_letters], [mL_from, mL_to, mL_forms, mL_costs, mL_cheapest, y.1, y.2, mL_early, mL_late]), M2, M3, M4, M5, M6] → S 20 [some (2, Int.ofNat 0), some (0, v1), some (0, v2), some (0, v3), some (0, v4)] [] [M0, ([mL_letters], [mL_from, mL_to, mL_forms, mL_costs, mL_cheapest, mL_fixed, mL_sumOf, mL_early, mL_late]), M2, M3, M4, M5, M6] := by
    intro n
    induction n with
    | zero =>
      intro v1 v2 v3 v4 mL_letters mL_from mL_to mL_forms mL_costs mL_cheapest mL_fixed mL_sumOf mL_early mL_late y h k
      rw [l_X10_plants_20] at h
      cases h
    | succ n ih =>
      intro v1 v2 v3 v4 mL_letters mL_from mL_to mL_forms mL_costs mL_cheapest mL_fixed mL_sumOf mL_early mL_late y h k
      rw [l_X10_plants_20] at h
      refine ri false 4 (q := v4 = 0) (t1 := 25) (t2 := 62) rfl rfl trivial (fun c => ?_) (fun c => ?_)
      · replace h := zif1 c h
        obtain ⟨g3_0, h⟩ := zgd h
        obtain ⟨x2, hx2, h⟩ := zbd h
        refine rv false 5 2 (L2 := [some (2, Int.ofNat 0), some (0, v1), some (0, v2), some (0, (v3 + 1)), some (0, v4)]) rfl rfl g3_0 rfl (m_M_X10_isWay l M0 M2 M3 M4 M5 M6 v2 (v3 + 1) mL_letters mL_from mL_to mL_forms mL_costs mL_cheapest mL_fixed mL_sumOf mL_early mL_late x2 hx2) ⟨_, _, _, _, rfl, rfl, rfl, by decide +kernel, ⟨Nat.le_of_ble_eq_true rfl, Nat.le_of_ble_eq_true rfl⟩, uGin u_13_2 u_13_3 u_13_4 u_1_5 u_13_5⟩ ⟨rfl, _, _, _, rfl, rfl⟩ ?_
        refine ri false 6 (q := x2 = 0) (t1 := 20) (t2 := 37) rfl rfl trivial (fun c => ?_) (fun c => ?_)
        · replace h := zif1 c h
          exact ih v1 v2 (v3 + 1) v4 mL_letters mL_from mL_to mL_forms mL_costs mL_cheapest mL_fixed mL_sumOf mL_early mL_late y h k
        · replace h := zif2 c h
          obtain ⟨g5_0, h⟩ := zgd h
          obtain ⟨x4, hx4, h⟩ := zbd h
          refine rv false 7 0 (σ2 := [M0, ([mL_letters], [mL_from, mL_to, mL_forms, mL_costs, mL_cheapest, (zu mL_fixed (Int.toNat v2) (v3 + 1)), mL_sumOf, mL_early, mL_late]), M2, M3, M4, M5, M6]) rfl rfl g5_0 rfl (m_M_X10_leastOf l M0 M2 M3 M4 M5 M6 mL_letters mL_from mL_to mL_forms mL_costs mL_cheapest (zu mL_fixed (Int.toNat v2) (v3 + 1)) mL_sumOf mL_early mL_late x4 hx4) ⟨_, _, _, _, rfl, rfl, rfl, by decide +kernel, ⟨Nat.le_of_ble_eq_true rfl, Nat.le_of_ble_eq_true rfl⟩, uGin u_16_20 u_16_21 u_16_22 u_1_5 u_16_23⟩ ⟨rfl, _, _, _, rfl, rfl⟩ ?_
          refine ri false 8 (q := x4.1 = v1) (t1 := 52) (t2 := 56) rfl rfl trivial (fun c => ?_) (fun c => ?_)
          · replace h := zif1 c h
            refine rg false 9 (t := 57) (st2 := [(0, 1)]) rfl rfl rfl trivial ?_
            refine rg false 11 (t := 20) (L2 := [some (2, Int.ofNat 0), some (0, v1), some (0, v2), some (0, (v3 + 1)), some (0, 1)]) rfl rfl rfl trivial ?_
            exact ih v1 v2 (v3 + 1) 1 mL_letters mL_from mL_to mL_forms mL_costs mL_cheapest (zu mL_fixed (Int.toNat v2) (v3 + 1)) x4.2 mL_early mL_late y h k
          · replace h := zif2 c h
            refine rb false 10 (st2 := [(0, 0)]) rfl rfl trivial ?_
            refine rg false 11 (t := 20) (L2 := [some (2, Int.ofNat 0), some (0, v1), some (0, v2), some (0, (v3 + 1)), some (0, 0)]) rfl rfl rfl trivial ?_
            exact ih v1 v2 (v3 + 1) 0 mL_letters mL_from mL_to mL_forms mL_costs mL_cheapest (zu mL_fixed (Int.toNat v2) (v3 + 1)) x4.2 mL_early mL_late y h k
      · replace h := zif2 c h
        refine rmk [true, true, true, false, false] (L2 := [some (2, Int.ofNat 0), some (0, v1), some (0, v2), none, none]) rfl ?_
        obtain rfl := Option.some.inj h
        exact k
  have LP7 : ∀ (n : Nat) (v1 : Int) (v2 : Int) (mL_letters : Int) (mL_from : Nat → Int) (mL_to : Nat → Int) (mL_forms : Nat → Int) (mL_costs : Nat → Int) (mL_cheapest : Nat → Int) (mL_fixed : Nat → Int) (mL_sumOf : Nat → Int) (mL_early : Nat → Int) (mL_late : Nat → Int) (y : (Nat → Int) × (Nat → Int)), l_X10_plants_7 n v1 v2 mL_letters mL_forms mL_costs mL_cheapest mL_fixed mL_sumOf = some y → S 68 [none, none, none, none, none] [] [M0, ([mL_letters], [mL_from, mL_to, mL_forms, mL_costs, mL_cheapest, y.1, y.2, mL_early, mL_late]), M2, M3, M4, M5, M6] → S 7 [some (2, Int.ofNat 0), some (0, v1), some (0, v2), none, none] [] [M0, ([mL_letters], [mL_from, mL_to, mL_forms, mL_costs, mL_cheapest, mL_fixed, mL_sumOf, mL_early, mL_late]), M2, M3, M4, M5, M6] := by
    intro n
    induction n with
    | zero =>
      intro v1 v2 mL_letters mL_from mL_to mL_forms mL_costs mL_cheapest mL_fixed mL_sumOf mL_early mL_late y h k
      rw [l_X10_plants_7] at h
      cases h
    | succ n ih =>
      intro v1 v2 mL_letters mL_from mL_to mL_forms mL_costs mL_cheapest mL_fixed mL_sumOf mL_early mL_late y h k
      rw [l_X10_plants_7] at h
      refine ri false 2 (q := v2 < mL_letters) (t1 := 15) (t2 := 68) rfl rfl trivial (fun c => ?_) (fun c => ?_)
      · replace h := zif1 c h
        refine rb false 3 (L2 := [some (2, Int.ofNat 0), some (0, v1), some (0, v2), some (0, (-1)), some (0, 0)]) rfl rfl trivial ?_
        obtain ⟨x6, hx6, h⟩ := zbd h
        refine LP20 zN v1 v2 (-1) 0 mL_letters mL_from mL_to mL_forms mL_costs mL_cheapest mL_fixed mL_sumOf mL_early mL_late x6 hx6 ?_
        obtain ⟨g7_0, h⟩ := zgd h
        refine rg false 12 (t := 7) (L2 := [some (2, Int.ofNat 0), some (0, v1), some (0, (v2 + 1)), none, none]) rfl rfl rfl g7_0 ?_
        exact ih v1 (v2 + 1) mL_letters mL_from mL_to mL_forms mL_costs mL_cheapest x6.1 x6.2 mL_early mL_late y h k
      · replace h := zif2 c h
        refine rmk [false, false, false, false, false] (L2 := [none, none, none, none, none]) rfl ?_
        obtain rfl := Option.some.inj h
        exact k
  unfold f_X10_plants at h
  obtain ⟨x1, hx1, h⟩ := zbd h
  refine rv false 0 0 rfl rfl trivial rfl (m_M_X10_leastAll l M0 M2 M3 M4 M5 M6 mL_letters mL_from mL_to mL_forms mL_costs mL_cheapest mL_fixed mL_sumOf mL_early mL_late x1 hx1) ⟨_, _, _, _, rfl, rfl, rfl, by decide +kernel, ⟨Nat.le_of_ble_eq_true rfl, Nat.le_of_ble_eq_true rfl⟩, uGin u_16_7 u_16_8 u_16_9 u_1_5 u_16_10⟩ ⟨rfl, _, _, _, rfl, rfl⟩ ?_
  refine rb false 1 (L2 := [some (2, Int.ofNat 0), some (0, x1.1), some (0, 0), none, none]) rfl rfl trivial ?_
  obtain ⟨x8, hx8, h⟩ := zbd h
  refine LP7 zN x1.1 0 mL_letters mL_from mL_to mL_forms mL_costs x1.2.1 x1.2.2.1 x1.2.2.2 mL_early mL_late x8 hx8 ?_
  obtain rfl := Option.some.inj h
  exact r0 false 13 rfl rfl rfl rfl trivial
def bX10_way : zB := [(0, [(.aload_n 0, 1), (.iload_n 1, 1)], 2, .invokevirtual 133, 3), (5, [], 5, .ifCond .ne 5, 3), (8, [(.iconst (-1), 1)], 9, .ireturn, 1), (10, [(.aload_n 0, 1)], 11, .invokevirtual 185, 3), (14, [(.aload_n 0, 1), (.getfield 31, 3), (.iload_n 1, 1), (.iaload, 1)], 20, .ireturn, 1)]
theorem bX10_way_ok : zBok cX10_way 2 bX10_way = true := by decide +kernel
abbrev wX10_way : List Cond := Cond.code yX10_way cX10_way 2 (some .int) :: uU
def rX10_way : Room := { frames := 6, cells := 0, slots := 0, locals := 139 }
set_option maxRecDepth 20000 in
set_option maxHeartbeats 4000000 in
theorem m_M_X10_way (l : Launch) (M0 : zM) (M2 : zM) (M3 : zM) (M4 : zM) (M5 : zM) (M6 : zM) (p1 : Int) (mL_letters : Int) (mL_from : Nat → Int) (mL_to : Nat → Int) (mL_forms : Nat → Int) (mL_costs : Nat → Int) (mL_cheapest : Nat → Int) (mL_fixed : Nat → Int) (mL_sumOf : Nat → Int) (mL_early : Nat → Int) (mL_late : Nat → Int) (x : Int × (Nat → Int) × (Nat → Int) × (Nat → Int)) (h : f_X10_way p1 mL_letters mL_forms mL_costs mL_cheapest mL_fixed mL_sumOf = some x) : zD l yX10_way wX10_way rX10_way lamM shpM [(2, Int.ofNat 0), (0, p1)] [M0, ([mL_letters], [mL_from, mL_to, mL_forms, mL_costs, mL_cheapest, mL_fixed, mL_sumOf, mL_early, mL_late]), M2, M3, M4, M5, M6] (some (0, x.1)) [M0, ([mL_letters], [mL_from, mL_to, mL_forms, mL_costs, x.2.1, x.2.2.1, x.2.2.2, mL_early, mL_late]), M2, M3, M4, M5, M6] := by
  refine zD_of (B := bX10_way) (E := eX10) (by decide) rfl lokM (eX10_ok _) bX10_way_ok (Or.inl rfl) rfl (fun S R => ?_)
  obtain ⟨rb, rg, ri, rv, rs, r0, r1, r2, r3, rt, rmk⟩ := R
  show S 0 [some (2, Int.ofNat 0), some (0, p1)] [] [M0, ([mL_letters], [mL_from, mL_to, mL_forms, mL_costs, mL_cheapest, mL_fixed, mL_sumOf, mL_early, mL_late]), M2, M3, M4, M5, M6]
  unfold f_X10_way at h
  obtain ⟨x1, hx1, h⟩ := zbd h
  refine rv false 0 1 rfl rfl trivial rfl (m_M_X10_isLetter l M0 M2 M3 M4 M5 M6 p1 mL_letters mL_from mL_to mL_forms mL_costs mL_cheapest mL_fixed mL_sumOf mL_early mL_late x1 hx1) ⟨_, _, _, _, rfl, rfl, rfl, by decide +kernel, ⟨Nat.le_of_ble_eq_true rfl, Nat.le_of_ble_eq_true rfl⟩, uGin u_10_12 u_10_13 u_10_14 u_1_5 u_10_15⟩ ⟨rfl, _, _, _, rfl, rfl⟩ ?_
  refine ri false 1 (q := x1 = 0) (t1 := 8) (t2 := 10) rfl rfl trivial (fun c => ?_) (fun c => ?_)
  · replace h := zif1 c h
    obtain rfl := Option.some.inj h
    exact r1 false 2 rfl rfl rfl rfl rfl rfl trivial
  · replace h := zif2 c h
    obtain ⟨x2, hx2, h⟩ := zbd h
    refine rv false 3 0 rfl rfl trivial rfl (m_M_X10_plants l M0 M2 M3 M4 M5 M6 mL_letters mL_from mL_to mL_forms mL_costs mL_cheapest mL_fixed mL_sumOf mL_early mL_late x2 hx2) ⟨_, _, _, _, rfl, rfl, rfl, by decide +kernel, ⟨Nat.le_of_ble_eq_true rfl, Nat.le_of_ble_eq_true rfl⟩, uGin u_19_7 u_19_8 u_19_9 u_1_5 u_19_10⟩ ⟨rfl, _, _, _, rfl, rfl⟩ ?_
    obtain ⟨g3_0, h⟩ := zgd h
    obtain rfl := Option.some.inj h
    exact r1 false 4 rfl rfl rfl rfl rfl rfl g3_0
def bX10_may : zB := [(0, [(.aload_n 0, 1), (.iload_n 1, 1)], 2, .invokevirtual 133, 3), (5, [], 5, .ifCond .eq 12, 3), (8, [(.aload_n 0, 1), (.iload_n 1, 1), (.iload_n 2, 1)], 11, .invokevirtual 164, 3), (14, [], 14, .ifCond .ne 6, 3), (17, [(.bipush (-2), 2)], 19, .ireturn, 1), (20, [(.aload_n 0, 1)], 21, .invokevirtual 182, 3), (24, [(.istore_n 3, 1), (.aload_n 0, 1), (.getfield 31, 3), (.iload_n 1, 1), (.iload_n 2, 1), (.iastore, 1), (.aload_n 0, 1)], 33, .invokevirtual 178, 3), (36, [(.iload_n 3, 1)], 37, .if_icmp .ne 7, 3), (40, [(.iconst 1, 1)], 41, .goto 4, 3), (44, [(.iconst 0, 1)], 45, .nop, 0), (45, [], 45, .ireturn, 1)]
theorem bX10_may_ok : zBok cX10_may 4 bX10_may = true := by decide +kernel
abbrev wX10_may : List Cond := Cond.code yX10_may cX10_may 4 (some .int) :: uU
def rX10_may : Room := { frames := 5, cells := 0, slots := 0, locals := 115 }
set_option maxRecDepth 20000 in
set_option maxHeartbeats 4000000 in
theorem m_M_X10_may (l : Launch) (M0 : zM) (M2 : zM) (M3 : zM) (M4 : zM) (M5 : zM) (M6 : zM) (p1 : Int) (p2 : Int) (mL_letters : Int) (mL_from : Nat → Int) (mL_to : Nat → Int) (mL_forms : Nat → Int) (mL_costs : Nat → Int) (mL_cheapest : Nat → Int) (mL_fixed : Nat → Int) (mL_sumOf : Nat → Int) (mL_early : Nat → Int) (mL_late : Nat → Int) (x : Int × (Nat → Int) × (Nat → Int) × (Nat → Int)) (h : f_X10_may p1 p2 mL_letters mL_forms mL_costs mL_cheapest mL_fixed mL_sumOf = some x) : zD l yX10_may wX10_may rX10_may lamM shpM [(2, Int.ofNat 0), (0, p1), (0, p2)] [M0, ([mL_letters], [mL_from, mL_to, mL_forms, mL_costs, mL_cheapest, mL_fixed, mL_sumOf, mL_early, mL_late]), M2, M3, M4, M5, M6] (some (0, x.1)) [M0, ([mL_letters], [mL_from, mL_to, mL_forms, mL_costs, x.2.1, x.2.2.1, x.2.2.2, mL_early, mL_late]), M2, M3, M4, M5, M6] := by
  refine zD_of (B := bX10_may) (E := eX10) (by decide) rfl lokM (eX10_ok _) bX10_may_ok (Or.inl rfl) rfl (fun S R => ?_)
  obtain ⟨rb, rg, ri, rv, rs, r0, r1, r2, r3, rt, rmk⟩ := R
  show S 0 [some (2, Int.ofNat 0), some (0, p1), some (0, p2), none] [] [M0, ([mL_letters], [mL_from, mL_to, mL_forms, mL_costs, mL_cheapest, mL_fixed, mL_sumOf, mL_early, mL_late]), M2, M3, M4, M5, M6]
  unfold f_X10_may at h
  obtain ⟨x1, hx1, h⟩ := zbd h
  refine rv false 0 1 rfl rfl trivial rfl (m_M_X10_isLetter l M0 M2 M3 M4 M5 M6 p1 mL_letters mL_from mL_to mL_forms mL_costs mL_cheapest mL_fixed mL_sumOf mL_early mL_late x1 hx1) ⟨_, _, _, _, rfl, rfl, rfl, by decide +kernel, ⟨Nat.le_of_ble_eq_true rfl, Nat.le_of_ble_eq_true rfl⟩, uGin u_10_12 u_10_13 u_10_14 u_1_5 u_10_15⟩ ⟨rfl, _, _, _, rfl, rfl⟩ ?_
  refine ri false 1 (q := x1 = 0) (t1 := 17) (t2 := 8) rfl rfl trivial (fun c => ?_) (fun c => ?_)
  · replace h := zif1 c h
    obtain rfl := Option.some.inj h
    exact r1 false 4 rfl rfl rfl rfl rfl rfl trivial
  · replace h := zif2 c h
    obtain ⟨x2, hx2, h⟩ := zbd h
    refine rv false 2 2 rfl rfl trivial rfl (m_M_X10_isWay l M0 M2 M3 M4 M5 M6 p1 p2 mL_letters mL_from mL_to mL_forms mL_costs mL_cheapest mL_fixed mL_sumOf mL_early mL_late x2 hx2) ⟨_, _, _, _, rfl, rfl, rfl, by decide +kernel, ⟨Nat.le_of_ble_eq_true rfl, Nat.le_of_ble_eq_true rfl⟩, uGin u_13_2 u_13_3 u_13_4 u_1_5 u_13_5⟩ ⟨rfl, _, _, _, rfl, rfl⟩ ?_
    refine ri false 3 (q := x2 = 0) (t1 := 17) (t2 := 20) rfl rfl trivial (fun c => ?_) (fun c => ?_)
    · replace h := zif1 c h
      obtain rfl := Option.some.inj h
      exact r1 false 4 rfl rfl rfl rfl rfl rfl trivial
    · replace h := zif2 c h
      obtain ⟨x3, hx3, h⟩ := zbd h
      refine rv false 5 0 rfl rfl trivial rfl (m_M_X10_leastAll l M0 M2 M3 M4 M5 M6 mL_letters mL_from mL_to mL_forms mL_costs mL_cheapest mL_fixed mL_sumOf mL_early mL_late x3 hx3) ⟨_, _, _, _, rfl, rfl, rfl, by decide +kernel, ⟨Nat.le_of_ble_eq_true rfl, Nat.le_of_ble_eq_true rfl⟩, uGin u_16_7 u_16_8 u_16_9 u_1_5 u_16_10⟩ ⟨rfl, _, _, _, rfl, rfl⟩ ?_
      obtain ⟨g5_0, h⟩ := zgd h
      obtain ⟨x4, hx4, h⟩ := zbd h
      refine rv false 6 0 (L2 := [some (2, Int.ofNat 0), some (0, p1), some (0, p2), some (0, x3.1)]) (σ2 := [M0, ([mL_letters], [mL_from, mL_to, mL_forms, mL_costs, x3.2.1, (zu x3.2.2.1 (Int.toNat p1) p2), x3.2.2.2, mL_early, mL_late]), M2, M3, M4, M5, M6]) rfl rfl g5_0 rfl (m_M_X10_leastOf l M0 M2 M3 M4 M5 M6 mL_letters mL_from mL_to mL_forms mL_costs x3.2.1 (zu x3.2.2.1 (Int.toNat p1) p2) x3.2.2.2 mL_early mL_late x4 hx4) ⟨_, _, _, _, rfl, rfl, rfl, by decide +kernel, ⟨Nat.le_of_ble_eq_true rfl, Nat.le_of_ble_eq_true rfl⟩, uGin u_16_20 u_16_21 u_16_22 u_1_5 u_16_23⟩ ⟨rfl, _, _, _, rfl, rfl⟩ ?_
      refine ri false 7 (q := x4.1 = x3.1) (t1 := 40) (t2 := 44) rfl rfl trivial (fun c => ?_) (fun c => ?_)
      · replace h := zif1 c h
        refine rg false 8 (t := 45) (st2 := [(0, 1)]) rfl rfl rfl trivial ?_
        obtain rfl := Option.some.inj h
        exact r1 false 10 rfl rfl rfl rfl rfl rfl trivial
      · replace h := zif2 c h
        refine rb false 9 (st2 := [(0, 0)]) rfl rfl trivial ?_
        obtain rfl := Option.some.inj h
        exact r1 false 10 rfl rfl rfl rfl rfl rfl trivial
def bX10_sure : zB := [(0, [(.aload_n 0, 1), (.iload_n 1, 1)], 2, .invokevirtual 133, 3), (5, [], 5, .ifCond .ne 6, 3), (8, [(.bipush (-2), 2)], 10, .ireturn, 1), (11, [(.aload_n 0, 1)], 12, .invokevirtual 182, 3), (15, [(.istore_n 2, 1), (.iconst 0, 1), (.istore_n 3, 1), (.iconst 0, 1), (.istore 4, 2)], 21, .nop, 0), (21, [(.iload 4, 2), (.sipush 532, 3)], 26, .if_icmp .ge 48, 3), (29, [(.iload_n 3, 1), (.iconst 2, 1)], 31, .if_icmp .ge 43, 3), (34, [(.aload_n 0, 1), (.iload_n 1, 1), (.iload 4, 2)], 38, .invokevirtual 164, 3), (41, [], 41, .ifCond .eq 27, 3), (44, [(.aload_n 0, 1), (.getfield 31, 3), (.iload_n 1, 1), (.iload 4, 2), (.iastore, 1), (.iload_n 3, 1), (.aload_n 0, 1)], 54, .invokevirtual 178, 3), (57, [(.iload_n 2, 1)], 58, .if_icmp .ne 7, 3), (61, [(.iconst 1, 1)], 62, .goto 4, 3), (65, [(.iconst 0, 1)], 66, .nop, 0), (66, [(.iadd, 1), (.istore_n 3, 1)], 68, .nop, 0), (68, [(.iinc 4 1, 3)], 71, .goto (-50), 3), (74, [(.iload_n 3, 1), (.iconst 1, 1)], 76, .if_icmp .ne 7, 3), (79, [(.iconst 1, 1)], 80, .goto 4, 3), (83, [(.iconst 0, 1)], 84, .nop, 0), (84, [], 84, .ireturn, 1)]
theorem bX10_sure_ok : zBok cX10_sure 5 bX10_sure = true := by decide +kernel
abbrev wX10_sure : List Cond := Cond.code yX10_sure cX10_sure 5 (some .int) :: uU
def rX10_sure : Room := { frames := 5, cells := 0, slots := 0, locals := 115 }
set_option maxRecDepth 20000 in
set_option maxHeartbeats 4000000 in
theorem m_M_X10_sure (l : Launch) (M0 : zM) (M2 : zM) (M3 : zM) (M4 : zM) (M5 : zM) (M6 : zM) (p1 : Int) (mL_letters : Int) (mL_from : Nat → Int) (mL_to : Nat → Int) (mL_forms : Nat → Int) (mL_costs : Nat → Int) (mL_cheapest : Nat → Int) (mL_fixed : Nat → Int) (mL_sumOf : Nat → Int) (mL_early : Nat → Int) (mL_late : Nat → Int) (x : Int × (Nat → Int) × (Nat → Int) × (Nat → Int)) (h : f_X10_sure p1 mL_letters mL_forms mL_costs mL_cheapest mL_fixed mL_sumOf = some x) : zD l yX10_sure wX10_sure rX10_sure lamM shpM [(2, Int.ofNat 0), (0, p1)] [M0, ([mL_letters], [mL_from, mL_to, mL_forms, mL_costs, mL_cheapest, mL_fixed, mL_sumOf, mL_early, mL_late]), M2, M3, M4, M5, M6] (some (0, x.1)) [M0, ([mL_letters], [mL_from, mL_to, mL_forms, mL_costs, x.2.1, x.2.2.1, x.2.2.2, mL_early, mL_late]), M2, M3, M4, M5, M6] := by
  refine zD_of (B := bX10_sure) (E := eX10) (by decide) rfl lokM (eX10_ok _) bX10_sure_ok (Or.inl rfl) rfl (fun S R => ?_)
  obtain ⟨rb, rg, ri, rv, rs, r0, r1, r2, r3, rt, rmk⟩ := R
  show S 0 [some (2, Int.ofNat 0), some (0, p1), none, none, none] [] [M0, ([mL_letters], [mL_from, mL_to, mL_forms, mL_costs, mL_cheapest, mL_fixed, mL_sumOf, mL_early, mL_late]), M2, M3, M4, M5, M6]
  have LP21 : ∀ (n : Nat) (v1 : Int) (v2 : Int) (v3 : Int) (v4 : Int) (mL_letters : Int) (mL_from : Nat → Int) (mL_to : Nat → Int) (mL_forms : Nat → Int) (mL_costs : Nat → Int) (mL_cheapest : Nat → Int) (mL_fixed : Nat → Int) (mL_sumOf : Nat → Int) (mL_early : Nat → Int) (mL_late : Nat → Int) (y : Int × (Nat → Int) × (Nat → Int)), l_X10_sure_21 n v1 v2 v3 v4 mL_letters mL_forms mL_costs mL_cheapest mL_fixed mL_sumOf = some y → S 74 [none, none, none, some (0, y.1), none] [] [M0, ([mL_letters], [mL_from, mL_to, mL_forms, mL_costs, mL_cheapest, y.2.1, y.2.2, mL_early, mL_late]), M2, M3, M4, M5, M6] → S 21 [some (2, Int.ofNat 0), some (0, v1), some (0, v2), some (0, v3), some (0, v4)] [] [M0, ([mL_letters], [mL_from, mL_to, mL_forms, mL_costs, mL_cheapest, mL_fixed, mL_sumOf, mL_early, mL_late]), M2, M3, M4, M5, M6] := by
    intro n
    induction n with
    | zero =>
      intro v1 v2 v3 v4 mL_letters mL_from mL_to mL_forms mL_costs mL_cheapest mL_fixed mL_sumOf mL_early mL_late y h k
      rw [l_X10_sure_21] at h
      cases h
    | succ n ih =>
      intro v1 v2 v3 v4 mL_letters mL_from mL_to mL_forms mL_costs mL_cheapest mL_fixed mL_sumOf mL_early mL_late y h k
      rw [l_X10_sure_21] at h
      refine ri false 5 (q := v4 < 532) (t1 := 29) (t2 := 74) rfl rfl trivial (fun c => ?_) (fun c => ?_)
      · replace h := zif1 c h
        refine ri false 6 (q := v3 < 2) (t1 := 34) (t2 := 74) rfl rfl trivial (fun c => ?_) (fun c => ?_)
        · replace h := zif1 c h
          obtain ⟨x3, hx3, h⟩ := zbd h
          refine rv false 7 2 rfl rfl trivial rfl (m_M_X10_isWay l M0 M2 M3 M4 M5 M6 v1 v4 mL_letters mL_from mL_to mL_forms mL_costs mL_cheapest mL_fixed mL_sumOf mL_early mL_late x3 hx3) ⟨_, _, _, _, rfl, rfl, rfl, by decide +kernel, ⟨Nat.le_of_ble_eq_true rfl, Nat.le_of_ble_eq_true rfl⟩, uGin u_13_2 u_13_3 u_13_4 u_1_5 u_13_5⟩ ⟨rfl, _, _, _, rfl, rfl⟩ ?_
          refine ri false 8 (q := x3 = 0) (t1 := 68) (t2 := 44) rfl rfl trivial (fun c => ?_) (fun c => ?_)
          · replace h := zif1 c h
            obtain ⟨g4_0, h⟩ := zgd h
            refine rg false 14 (t := 21) (L2 := [some (2, Int.ofNat 0), some (0, v1), some (0, v2), some (0, v3), some (0, (v4 + 1))]) rfl rfl rfl g4_0 ?_
            exact ih v1 v2 v3 (v4 + 1) mL_letters mL_from mL_to mL_forms mL_costs mL_cheapest mL_fixed mL_sumOf mL_early mL_late y h k
          · replace h := zif2 c h
            obtain ⟨g6_0, h⟩ := zgd h
            obtain ⟨x5, hx5, h⟩ := zbd h
            refine rv false 9 0 (σ2 := [M0, ([mL_letters], [mL_from, mL_to, mL_forms, mL_costs, mL_cheapest, (zu mL_fixed (Int.toNat v1) v4), mL_sumOf, mL_early, mL_late]), M2, M3, M4, M5, M6]) (rest := [(0, v3)]) rfl rfl g6_0 rfl (m_M_X10_leastOf l M0 M2 M3 M4 M5 M6 mL_letters mL_from mL_to mL_forms mL_costs mL_cheapest (zu mL_fixed (Int.toNat v1) v4) mL_sumOf mL_early mL_late x5 hx5) ⟨_, _, _, _, rfl, rfl, rfl, by decide +kernel, ⟨Nat.le_of_ble_eq_true rfl, Nat.le_of_ble_eq_true rfl⟩, uGin u_16_20 u_16_21 u_16_22 u_1_5 u_16_23⟩ ⟨rfl, _, _, _, rfl, rfl⟩ ?_
            refine ri false 10 (q := x5.1 = v2) (t1 := 61) (t2 := 65) (st2 := [(0, v3)]) rfl rfl trivial (fun c => ?_) (fun c => ?_)
            · replace h := zif1 c h
              refine rg false 11 (t := 66) (st2 := [(0, 1), (0, v3)]) rfl rfl rfl trivial ?_
              obtain ⟨g7_0, h⟩ := zgd h
              refine rb false 13 (L2 := [some (2, Int.ofNat 0), some (0, v1), some (0, v2), some (0, (v3 + 1)), some (0, v4)]) rfl rfl g7_0 ?_
              obtain ⟨g8_0, h⟩ := zgd h
              refine rg false 14 (t := 21) (L2 := [some (2, Int.ofNat 0), some (0, v1), some (0, v2), some (0, (v3 + 1)), some (0, (v4 + 1))]) rfl rfl rfl g8_0 ?_
              exact ih v1 v2 (v3 + 1) (v4 + 1) mL_letters mL_from mL_to mL_forms mL_costs mL_cheapest (zu mL_fixed (Int.toNat v1) v4) x5.2 mL_early mL_late y h k
            · replace h := zif2 c h
              refine rb false 12 (st2 := [(0, 0), (0, v3)]) rfl rfl trivial ?_
              obtain ⟨g9_0, h⟩ := zgd h
              refine rb false 13 (L2 := [some (2, Int.ofNat 0), some (0, v1), some (0, v2), some (0, (v3 + 0)), some (0, v4)]) rfl rfl g9_0 ?_
              obtain ⟨g10_0, h⟩ := zgd h
              refine rg false 14 (t := 21) (L2 := [some (2, Int.ofNat 0), some (0, v1), some (0, v2), some (0, (v3 + 0)), some (0, (v4 + 1))]) rfl rfl rfl g10_0 ?_
              exact ih v1 v2 (v3 + 0) (v4 + 1) mL_letters mL_from mL_to mL_forms mL_costs mL_cheapest (zu mL_fixed (Int.toNat v1) v4) x5.2 mL_early mL_late y h k
        · replace h := zif2 c h
          refine rmk [false, false, false, true, false] (L2 := [none, none, none, some (0, v3), none]) rfl ?_
          obtain rfl := Option.some.inj h
          exact k
      · replace h := zif2 c h
        refine rmk [false, false, false, true, false] (L2 := [none, none, none, some (0, v3), none]) rfl ?_
        obtain rfl := Option.some.inj h
        exact k
  unfold f_X10_sure at h
  obtain ⟨x1, hx1, h⟩ := zbd h
  refine rv false 0 1 rfl rfl trivial rfl (m_M_X10_isLetter l M0 M2 M3 M4 M5 M6 p1 mL_letters mL_from mL_to mL_forms mL_costs mL_cheapest mL_fixed mL_sumOf mL_early mL_late x1 hx1) ⟨_, _, _, _, rfl, rfl, rfl, by decide +kernel, ⟨Nat.le_of_ble_eq_true rfl, Nat.le_of_ble_eq_true rfl⟩, uGin u_10_12 u_10_13 u_10_14 u_1_5 u_10_15⟩ ⟨rfl, _, _, _, rfl, rfl⟩ ?_
  refine ri false 1 (q := x1 = 0) (t1 := 8) (t2 := 11) rfl rfl trivial (fun c => ?_) (fun c => ?_)
  · replace h := zif1 c h
    obtain rfl := Option.some.inj h
    exact r1 false 2 rfl rfl rfl rfl rfl rfl trivial
  · replace h := zif2 c h
    obtain ⟨x2, hx2, h⟩ := zbd h
    refine rv false 3 0 rfl rfl trivial rfl (m_M_X10_leastAll l M0 M2 M3 M4 M5 M6 mL_letters mL_from mL_to mL_forms mL_costs mL_cheapest mL_fixed mL_sumOf mL_early mL_late x2 hx2) ⟨_, _, _, _, rfl, rfl, rfl, by decide +kernel, ⟨Nat.le_of_ble_eq_true rfl, Nat.le_of_ble_eq_true rfl⟩, uGin u_16_7 u_16_8 u_16_9 u_1_5 u_16_10⟩ ⟨rfl, _, _, _, rfl, rfl⟩ ?_
    refine rb false 4 (L2 := [some (2, Int.ofNat 0), some (0, p1), some (0, x2.1), some (0, 0), some (0, 0)]) rfl rfl trivial ?_
    obtain ⟨x11, hx11, h⟩ := zbd h
    refine LP21 zN p1 x2.1 0 0 mL_letters mL_from mL_to mL_forms mL_costs x2.2.1 x2.2.2.1 x2.2.2.2 mL_early mL_late x11 hx11 ?_
    refine ri false 15 (q := x11.1 = 1) (t1 := 79) (t2 := 83) rfl rfl trivial (fun c => ?_) (fun c => ?_)
    · replace h := zif1 c h
      refine rg false 16 (t := 84) (st2 := [(0, 1)]) rfl rfl rfl trivial ?_
      obtain rfl := Option.some.inj h
      exact r1 false 18 rfl rfl rfl rfl rfl rfl trivial
    · replace h := zif2 c h
      refine rb false 17 (st2 := [(0, 0)]) rfl rfl trivial ?_
      obtain rfl := Option.some.inj h
      exact r1 false 18 rfl rfl rfl rfl rfl rfl trivial
def bX10_date : zB := [(0, [(.aload_n 0, 1), (.iload_n 1, 1)], 2, .invokevirtual 133, 3), (5, [], 5, .ifCond .eq 13, 3), (8, [(.iload_n 2, 1), (.i2l, 1), (.lconst 0, 1), (.lconst 1, 1)], 12, .invokestatic 123, 3), (15, [], 15, .ifCond .ne 6, 3), (18, [(.bipush (-2), 2)], 20, .ireturn, 1), (21, [(.aload_n 0, 1)], 22, .invokevirtual 185, 3), (25, [(.iconst 0, 1), (.istore_n 3, 1)], 27, .nop, 0), (27, [(.iload_n 3, 1), (.aload_n 0, 1), (.getfield 127, 3)], 32, .if_icmp .ge 33, 3), (35, [(.aload_n 0, 1), (.getfield 37, 3), (.iload_n 3, 1), (.aload_n 0, 1), (.getfield 16, 3), (.iload_n 3, 1), (.iaload, 1), (.iastore, 1), (.aload_n 0, 1), (.getfield 40, 3), (.iload_n 3, 1), (.aload_n 0, 1), (.getfield 19, 3), (.iload_n 3, 1), (.iaload, 1), (.iastore, 1)], 59, .nop, 0), (59, [(.iinc 3 1, 3)], 62, .goto (-35), 3), (65, [(.iconst 0, 1), (.istore_n 3, 1)], 67, .nop, 0), (67, [(.iload_n 3, 1), (.aload_n 0, 1), (.getfield 127, 3)], 72, .if_icmp .ge 151, 3), (75, [(.iconst 0, 1), (.istore 4, 2)], 78, .nop, 0), (78, [(.iload 4, 2), (.aload_n 0, 1), (.getfield 127, 3)], 84, .if_icmp .ge 133, 3), (87, [(.aload_n 0, 1), (.aload_n 0, 1), (.getfield 31, 3), (.iload 4, 2), (.iaload, 1)], 95, .invokevirtual 171, 3), (98, [(.istore 5, 2), (.iconst 0, 1), (.istore 6, 2)], 103, .nop, 0), (103, [(.iload 6, 2), (.aload_n 0, 1), (.getfield 127, 3)], 109, .if_icmp .ge 102, 3), (112, [(.iload 5, 2), (.iload 6, 2), (.ishr, 1), (.iconst 1, 1), (.iand, 1), (.iconst 1, 1)], 120, .if_icmp .ne 85, 3), (123, [(.aload_n 0, 1), (.getfield 37, 3), (.iload 4, 2), (.aload_n 0, 1), (.getfield 37, 3), (.iload 6, 2), (.iaload, 1), (.aload_n 0, 1), (.getfield 37, 3), (.iload 4, 2), (.iaload, 1)], 143, .if_icmp .le 13, 3), (146, [(.aload_n 0, 1), (.getfield 37, 3), (.iload 6, 2), (.iaload, 1)], 153, .goto 10, 3), (156, [(.aload_n 0, 1), (.getfield 37, 3), (.iload 4, 2), (.iaload, 1)], 163, .nop, 0), (163, [(.iastore, 1), (.aload_n 0, 1), (.getfield 40, 3), (.iload 6, 2), (.aload_n 0, 1), (.getfield 40, 3), (.iload 4, 2), (.iaload, 1), (.aload_n 0, 1), (.getfield 40, 3), (.iload 6, 2), (.iaload, 1)], 184, .if_icmp .ge 13, 3), (187, [(.aload_n 0, 1), (.getfield 40, 3), (.iload 4, 2), (.iaload, 1)], 194, .goto 10, 3), (197, [(.aload_n 0, 1), (.getfield 40, 3), (.iload 6, 2), (.iaload, 1)], 204, .nop, 0), (204, [(.iastore, 1)], 205, .nop, 0), (205, [(.iinc 6 1, 3)], 208, .goto (-105), 3), (211, [(.iinc 4 1, 3)], 214, .goto (-136), 3), (217, [(.iinc 3 1, 3)], 220, .goto (-153), 3), (223, [(.iconst 1, 1), (.istore_n 3, 1), (.iconst 0, 1), (.istore 4, 2)], 228, .nop, 0), (228, [(.iload 4, 2), (.aload_n 0, 1), (.getfield 127, 3)], 234, .if_icmp .ge 36, 3), (237, [(.iload_n 3, 1)], 238, .ifCond .eq 24, 3), (241, [(.aload_n 0, 1), (.getfield 37, 3), (.iload 4, 2), (.iaload, 1), (.aload_n 0, 1), (.getfield 40, 3), (.iload 4, 2), (.iaload, 1)], 255, .if_icmp .gt 7, 3), (258, [(.iconst 1, 1)], 259, .goto 4, 3), (262, [(.iconst 0, 1)], 263, .nop, 0), (263, [(.istore_n 3, 1), (.iinc 4 1, 3)], 267, .goto (-39), 3), (270, [(.iload_n 3, 1)], 271, .ifCond .ne 7, 3), (274, [(.iconst (-1), 1)], 275, .goto 22, 3), (278, [(.iload_n 2, 1)], 279, .ifCond .ne 12, 3), (282, [(.aload_n 0, 1), (.getfield 37, 3), (.iload_n 1, 1), (.iaload, 1)], 288, .goto 9, 3), (291, [(.aload_n 0, 1), (.getfield 40, 3), (.iload_n 1, 1), (.iaload, 1)], 297, .nop, 0), (297, [], 297, .ireturn, 1)]
theorem bX10_date_ok : zBok cX10_date 7 bX10_date = true := by decide +kernel
abbrev wX10_date : List Cond := Cond.code yX10_date cX10_date 7 (some .int) :: uU
def rX10_date : Room := { frames := 6, cells := 0, slots := 0, locals := 139 }
set_option maxRecDepth 20000 in
set_option maxHeartbeats 4000000 in
theorem m_M_X10_date (l : Launch) (M0 : zM) (M2 : zM) (M3 : zM) (M4 : zM) (M5 : zM) (M6 : zM) (p1 : Int) (p2 : Int) (mL_letters : Int) (mL_from : Nat → Int) (mL_to : Nat → Int) (mL_forms : Nat → Int) (mL_costs : Nat → Int) (mL_cheapest : Nat → Int) (mL_fixed : Nat → Int) (mL_sumOf : Nat → Int) (mL_early : Nat → Int) (mL_late : Nat → Int) (x : Int × (Nat → Int) × (Nat → Int) × (Nat → Int) × (Nat → Int) × (Nat → Int)) (h : f_X10_date p1 p2 mL_letters mL_from mL_to mL_forms mL_costs mL_cheapest mL_fixed mL_sumOf mL_early mL_late = some x) : zD l yX10_date wX10_date rX10_date lamM shpM [(2, Int.ofNat 0), (0, p1), (0, p2)] [M0, ([mL_letters], [mL_from, mL_to, mL_forms, mL_costs, mL_cheapest, mL_fixed, mL_sumOf, mL_early, mL_late]), M2, M3, M4, M5, M6] (some (0, x.1)) [M0, ([mL_letters], [mL_from, mL_to, mL_forms, mL_costs, x.2.1, x.2.2.1, x.2.2.2.1, x.2.2.2.2.1, x.2.2.2.2.2]), M2, M3, M4, M5, M6] := by
  refine zD_of (B := bX10_date) (E := eX10) (by decide) rfl lokM (eX10_ok _) bX10_date_ok (Or.inl rfl) rfl (fun S R => ?_)
  obtain ⟨rb, rg, ri, rv, rs, r0, r1, r2, r3, rt, rmk⟩ := R
  show S 0 [some (2, Int.ofNat 0), some (0, p1), some (0, p2), none, none, none, none] [] [M0, ([mL_letters], [mL_from, mL_to, mL_forms, mL_costs, mL_cheapest, mL_fixed, mL_sumOf, mL_early, mL_late]), M2, M3, M4, M5, M6]
  have LP27 : ∀ (n : Nat) (v1 : Int) (v2 : Int) (v3 : Int) (mL_letters : Int) (mL_from : Nat → Int) (mL_to : Nat → Int) (mL_forms : Nat → Int) (mL_costs : Nat → Int) (mL_cheapest : Nat → Int) (mL_fixed : Nat → Int) (mL_sumOf : Nat → Int) (mL_early : Nat → Int) (mL_late : Nat → Int) (y : (Nat → Int) × (Nat → Int)), l_X10_date_27 n v1 v2 v3 mL_letters mL_from mL_to mL_early mL_late = some y → S 65 [some (2, Int.ofNat 0), some (0, v1), some (0, v2), none, none, none, none] [] [M0, ([mL_letters], [mL_from, mL_to, mL_forms, mL_costs, mL_cheapest, mL_fixed, mL_sumOf, y.1, y.2]), M2, M3, M4, M5, M6] → S 27 [some (2, Int.ofNat 0), some (0, v1), some (0, v2), some (0, v3), none, none, none] [] [M0, ([mL_letters], [mL_from, mL_to, mL_forms, mL_costs, mL_cheapest, mL_fixed, mL_sumOf, mL_early, mL_late]), M2, M3, M4, M5, M6] := by
    intro n
    induction n with
    | zero =>
      intro v1 v2 v3 mL_letters mL_from mL_to mL_forms mL_costs mL_cheapest mL_fixed mL_sumOf mL_early mL_late y h k
      rw [l_X10_date_27] at h
      cases h
    | succ n ih =>
      intro v1 v2 v3 mL_letters mL_from mL_to mL_forms mL_costs mL_cheapest mL_fixed mL_sumOf mL_early mL_late y h k
      rw [l_X10_date_27] at h
      refine ri false 7 (q := v3 < mL_letters) (t1 := 35) (t2 := 65) rfl rfl trivial (fun c => ?_) (fun c => ?_)
      · replace h := zif1 c h
        obtain ⟨⟨g4_0, g4_1, g4_2, g4_3⟩, h⟩ := zgd h
        refine rb false 8 (σ2 := [M0, ([mL_letters], [mL_from, mL_to, mL_forms, mL_costs, mL_cheapest, mL_fixed, mL_sumOf, (zu mL_early (Int.toNat v3) (mL_from (Int.toNat v3))), (zu mL_late (Int.toNat v3) (mL_to (Int.toNat v3)))]), M2, M3, M4, M5, M6]) rfl rfl (And.intro g4_0 (And.intro g4_1 (And.intro g4_2 g4_3))) ?_
        obtain ⟨g5_0, h⟩ := zgd h
        refine rg false 9 (t := 27) (L2 := [some (2, Int.ofNat 0), some (0, v1), some (0, v2), some (0, (v3 + 1)), none, none, none]) rfl rfl rfl g5_0 ?_
        exact ih v1 v2 (v3 + 1) mL_letters mL_from mL_to mL_forms mL_costs mL_cheapest mL_fixed mL_sumOf (zu mL_early (Int.toNat v3) (mL_from (Int.toNat v3))) (zu mL_late (Int.toNat v3) (mL_to (Int.toNat v3))) y h k
      · replace h := zif2 c h
        refine rmk [true, true, true, false, false, false, false] (L2 := [some (2, Int.ofNat 0), some (0, v1), some (0, v2), none, none, none, none]) rfl ?_
        obtain rfl := Option.some.inj h
        exact k
  have LP103 : ∀ (n : Nat) (v1 : Int) (v2 : Int) (v3 : Int) (v4 : Int) (v5 : Int) (v6 : Int) (mL_letters : Int) (mL_from : Nat → Int) (mL_to : Nat → Int) (mL_forms : Nat → Int) (mL_costs : Nat → Int) (mL_cheapest : Nat → Int) (mL_fixed : Nat → Int) (mL_sumOf : Nat → Int) (mL_early : Nat → Int) (mL_late : Nat → Int) (y : (Nat → Int) × (Nat → Int)), l_X10_date_103 n v1 v2 v3 v4 v5 v6 mL_letters mL_early mL_late = some y → S 211 [some (2, Int.ofNat 0), some (0, v1), some (0, v2), some (0, v3), some (0, v4), none, none] [] [M0, ([mL_letters], [mL_from, mL_to, mL_forms, mL_costs, mL_cheapest, mL_fixed, mL_sumOf, y.1, y.2]), M2, M3, M4, M5, M6] → S 103 [some (2, Int.ofNat 0), some (0, v1), some (0, v2), some (0, v3), some (0, v4), some (0, v5), some (0, v6)] [] [M0, ([mL_letters], [mL_from, mL_to, mL_forms, mL_costs, mL_cheapest, mL_fixed, mL_sumOf, mL_early, mL_late]), M2, M3, M4, M5, M6] := by
    intro n
    induction n with
    | zero =>
      intro v1 v2 v3 v4 v5 v6 mL_letters mL_from mL_to mL_forms mL_costs mL_cheapest mL_fixed mL_sumOf mL_early mL_late y h k
      rw [l_X10_date_103] at h
      cases h
    | succ n ih =>
      intro v1 v2 v3 v4 v5 v6 mL_letters mL_from mL_to mL_forms mL_costs mL_cheapest mL_fixed mL_sumOf mL_early mL_late y h k
      rw [l_X10_date_103] at h
      refine ri false 16 (q := v6 < mL_letters) (t1 := 112) (t2 := 211) rfl rfl trivial (fun c => ?_) (fun c => ?_)
      · replace h := zif1 c h
        refine ri false 17 (q := (zand (zshr v5 v6) 1) = 1) (t1 := 123) (t2 := 205) rfl rfl trivial (fun c => ?_) (fun c => ?_)
        · replace h := zif1 c h
          obtain ⟨⟨g9_0, g9_1⟩, h⟩ := zgd h
          refine ri false 18 (q := (mL_early (Int.toNat v4)) < (mL_early (Int.toNat v6))) (t1 := 146) (t2 := 156) (st2 := [(0, v4), (2, Int.ofNat 10)]) rfl rfl (And.intro g9_0 g9_1) (fun c => ?_) (fun c => ?_)
          · replace h := zif1 c h
            obtain ⟨g10_0, h⟩ := zgd h
            refine rg false 19 (t := 163) (st2 := [(0, (mL_early (Int.toNat v6))), (0, v4), (2, Int.ofNat 10)]) rfl rfl rfl g10_0 ?_
            obtain ⟨⟨g11_0, g11_1, g11_2⟩, h⟩ := zgd h
            refine ri false 21 (q := (mL_late (Int.toNat v4)) < (mL_late (Int.toNat v6))) (t1 := 187) (t2 := 197) (σ2 := [M0, ([mL_letters], [mL_from, mL_to, mL_forms, mL_costs, mL_cheapest, mL_fixed, mL_sumOf, (zu mL_early (Int.toNat v4) (mL_early (Int.toNat v6))), mL_late]), M2, M3, M4, M5, M6]) (st2 := [(0, v6), (2, Int.ofNat 11)]) rfl rfl (And.intro g11_0 (And.intro g11_1 g11_2)) (fun c => ?_) (fun c => ?_)
            · replace h := zif1 c h
              obtain ⟨g12_0, h⟩ := zgd h
              refine rg false 22 (t := 204) (st2 := [(0, (mL_late (Int.toNat v4))), (0, v6), (2, Int.ofNat 11)]) rfl rfl rfl g12_0 ?_
              obtain ⟨g13_0, h⟩ := zgd h
              refine rb false 24 (σ2 := [M0, ([mL_letters], [mL_from, mL_to, mL_forms, mL_costs, mL_cheapest, mL_fixed, mL_sumOf, (zu mL_early (Int.toNat v4) (mL_early (Int.toNat v6))), (zu mL_late (Int.toNat v6) (mL_late (Int.toNat v4)))]), M2, M3, M4, M5, M6]) rfl rfl g13_0 ?_
              obtain ⟨g14_0, h⟩ := zgd h
              refine rg false 25 (t := 103) (L2 := [some (2, Int.ofNat 0), some (0, v1), some (0, v2), some (0, v3), some (0, v4), some (0, v5), some (0, (v6 + 1))]) rfl rfl rfl g14_0 ?_
              exact ih v1 v2 v3 v4 v5 (v6 + 1) mL_letters mL_from mL_to mL_forms mL_costs mL_cheapest mL_fixed mL_sumOf (zu mL_early (Int.toNat v4) (mL_early (Int.toNat v6))) (zu mL_late (Int.toNat v6) (mL_late (Int.toNat v4))) y h k
            · replace h := zif2 c h
              obtain ⟨g15_0, h⟩ := zgd h
              refine rb false 23 (st2 := [(0, (mL_late (Int.toNat v6))), (0, v6), (2, Int.ofNat 11)]) rfl rfl g15_0 ?_
              obtain ⟨g16_0, h⟩ := zgd h
              refine rb false 24 (σ2 := [M0, ([mL_letters], [mL_from, mL_to, mL_forms, mL_costs, mL_cheapest, mL_fixed, mL_sumOf, (zu mL_early (Int.toNat v4) (mL_early (Int.toNat v6))), (zu mL_late (Int.toNat v6) (mL_late (Int.toNat v6)))]), M2, M3, M4, M5, M6]) rfl rfl g16_0 ?_
              obtain ⟨g17_0, h⟩ := zgd h
              refine rg false 25 (t := 103) (L2 := [some (2, Int.ofNat 0), some (0, v1), some (0, v2), some (0, v3), some (0, v4), some (0, v5), some (0, (v6 + 1))]) rfl rfl rfl g17_0 ?_
              exact ih v1 v2 v3 v4 v5 (v6 + 1) mL_letters mL_from mL_to mL_forms mL_costs mL_cheapest mL_fixed mL_sumOf (zu mL_early (Int.toNat v4) (mL_early (Int.toNat v6))) (zu mL_late (Int.toNat v6) (mL_late (Int.toNat v6))) y h k
          · replace h := zif2 c h
            obtain ⟨g18_0, h⟩ := zgd h
            refine rb false 20 (st2 := [(0, (mL_early (Int.toNat v4))), (0, v4), (2, Int.ofNat 10)]) rfl rfl g18_0 ?_
            obtain ⟨⟨g19_0, g19_1, g19_2⟩, h⟩ := zgd h
            refine ri false 21 (q := (mL_late (Int.toNat v4)) < (mL_late (Int.toNat v6))) (t1 := 187) (t2 := 197) (σ2 := [M0, ([mL_letters], [mL_from, mL_to, mL_forms, mL_costs, mL_cheapest, mL_fixed, mL_sumOf, (zu mL_early (Int.toNat v4) (mL_early (Int.toNat v4))), mL_late]), M2, M3, M4, M5, M6]) (st2 := [(0, v6), (2, Int.ofNat 11)]) rfl rfl (And.intro g19_0 (And.intro g19_1 g19_2)) (fun c => ?_) (fun c => ?_)
            · replace h := zif1 c h
              obtain ⟨g20_0, h⟩ := zgd h
              refine rg false 22 (t := 204) (st2 := [(0, (mL_late (Int.toNat v4))), (0, v6), (2, Int.ofNat 11)]) rfl rfl rfl g20_0 ?_
              obtain ⟨g21_0, h⟩ := zgd h
              refine rb false 24 (σ2 := [M0, ([mL_letters], [mL_from, mL_to, mL_forms, mL_costs, mL_cheapest, mL_fixed, mL_sumOf, (zu mL_early (Int.toNat v4) (mL_early (Int.toNat v4))), (zu mL_late (Int.toNat v6) (mL_late (Int.toNat v4)))]), M2, M3, M4, M5, M6]) rfl rfl g21_0 ?_
              obtain ⟨g22_0, h⟩ := zgd h
              refine rg false 25 (t := 103) (L2 := [some (2, Int.ofNat 0), some (0, v1), some (0, v2), some (0, v3), some (0, v4), some (0, v5), some (0, (v6 + 1))]) rfl rfl rfl g22_0 ?_
              exact ih v1 v2 v3 v4 v5 (v6 + 1) mL_letters mL_from mL_to mL_forms mL_costs mL_cheapest mL_fixed mL_sumOf (zu mL_early (Int.toNat v4) (mL_early (Int.toNat v4))) (zu mL_late (Int.toNat v6) (mL_late (Int.toNat v4))) y h k
            · replace h := zif2 c h
              obtain ⟨g23_0, h⟩ := zgd h
              refine rb false 23 (st2 := [(0, (mL_late (Int.toNat v6))), (0, v6), (2, Int.ofNat 11)]) rfl rfl g23_0 ?_
              obtain ⟨g24_0, h⟩ := zgd h
              refine rb false 24 (σ2 := [M0, ([mL_letters], [mL_from, mL_to, mL_forms, mL_costs, mL_cheapest, mL_fixed, mL_sumOf, (zu mL_early (Int.toNat v4) (mL_early (Int.toNat v4))), (zu mL_late (Int.toNat v6) (mL_late (Int.toNat v6)))]), M2, M3, M4, M5, M6]) rfl rfl g24_0 ?_
              obtain ⟨g25_0, h⟩ := zgd h
              refine rg false 25 (t := 103) (L2 := [some (2, Int.ofNat 0), some (0, v1), some (0, v2), some (0, v3), some (0, v4), some (0, v5), some (0, (v6 + 1))]) rfl rfl rfl g25_0 ?_
              exact ih v1 v2 v3 v4 v5 (v6 + 1) mL_letters mL_from mL_to mL_forms mL_costs mL_cheapest mL_fixed mL_sumOf (zu mL_early (Int.toNat v4) (mL_early (Int.toNat v4))) (zu mL_late (Int.toNat v6) (mL_late (Int.toNat v6))) y h k
        · replace h := zif2 c h
          obtain ⟨g26_0, h⟩ := zgd h
          refine rg false 25 (t := 103) (L2 := [some (2, Int.ofNat 0), some (0, v1), some (0, v2), some (0, v3), some (0, v4), some (0, v5), some (0, (v6 + 1))]) rfl rfl rfl g26_0 ?_
          exact ih v1 v2 v3 v4 v5 (v6 + 1) mL_letters mL_from mL_to mL_forms mL_costs mL_cheapest mL_fixed mL_sumOf mL_early mL_late y h k
      · replace h := zif2 c h
        refine rmk [true, true, true, true, true, false, false] (L2 := [some (2, Int.ofNat 0), some (0, v1), some (0, v2), some (0, v3), some (0, v4), none, none]) rfl ?_
        obtain rfl := Option.some.inj h
        exact k
  have LP78 : ∀ (n : Nat) (v1 : Int) (v2 : Int) (v3 : Int) (v4 : Int) (mL_letters : Int) (mL_from : Nat → Int) (mL_to : Nat → Int) (mL_forms : Nat → Int) (mL_costs : Nat → Int) (mL_cheapest : Nat → Int) (mL_fixed : Nat → Int) (mL_sumOf : Nat → Int) (mL_early : Nat → Int) (mL_late : Nat → Int) (y : (Nat → Int) × (Nat → Int)), l_X10_date_78 n v1 v2 v3 v4 mL_letters mL_fixed mL_early mL_late = some y → S 217 [some (2, Int.ofNat 0), some (0, v1), some (0, v2), some (0, v3), none, none, none] [] [M0, ([mL_letters], [mL_from, mL_to, mL_forms, mL_costs, mL_cheapest, mL_fixed, mL_sumOf, y.1, y.2]), M2, M3, M4, M5, M6] → S 78 [some (2, Int.ofNat 0), some (0, v1), some (0, v2), some (0, v3), some (0, v4), none, none] [] [M0, ([mL_letters], [mL_from, mL_to, mL_forms, mL_costs, mL_cheapest, mL_fixed, mL_sumOf, mL_early, mL_late]), M2, M3, M4, M5, M6] := by
    intro n
    induction n with
    | zero =>
      intro v1 v2 v3 v4 mL_letters mL_from mL_to mL_forms mL_costs mL_cheapest mL_fixed mL_sumOf mL_early mL_late y h k
      rw [l_X10_date_78] at h
      cases h
    | succ n ih =>
      intro v1 v2 v3 v4 mL_letters mL_from mL_to mL_forms mL_costs mL_cheapest mL_fixed mL_sumOf mL_early mL_late y h k
      rw [l_X10_date_78] at h
      refine ri false 13 (q := v4 < mL_letters) (t1 := 87) (t2 := 217) rfl rfl trivial (fun c => ?_) (fun c => ?_)
      · replace h := zif1 c h
        obtain ⟨g8_0, h⟩ := zgd h
        obtain ⟨x7, hx7, h⟩ := zbd h
        refine rv false 14 1 rfl rfl g8_0 rfl (m_M_X10_sources l M0 ([mL_letters], [mL_from, mL_to, mL_forms, mL_costs, mL_cheapest, mL_fixed, mL_sumOf, mL_early, mL_late]) M2 M3 M4 M5 M6 (mL_fixed (Int.toNat v4)) x7 hx7) ⟨_, _, _, _, rfl, rfl, rfl, by decide +kernel, ⟨Nat.le_of_ble_eq_true rfl, Nat.le_of_ble_eq_true rfl⟩, uGin u_16_16 u_16_17 u_16_18 u_1_5 u_16_19⟩ ⟨rfl, _, _, _, rfl, rfl⟩ ?_
        refine rb false 15 (L2 := [some (2, Int.ofNat 0), some (0, v1), some (0, v2), some (0, v3), some (0, v4), some (0, x7), some (0, 0)]) rfl rfl trivial ?_
        obtain ⟨x27, hx27, h⟩ := zbd h
        refine LP103 zN v1 v2 v3 v4 x7 0 mL_letters mL_from mL_to mL_forms mL_costs mL_cheapest mL_fixed mL_sumOf mL_early mL_late x27 hx27 ?_
        obtain ⟨g28_0, h⟩ := zgd h
        refine rg false 26 (t := 78) (L2 := [some (2, Int.ofNat 0), some (0, v1), some (0, v2), some (0, v3), some (0, (v4 + 1)), none, none]) rfl rfl rfl g28_0 ?_
        exact ih v1 v2 v3 (v4 + 1) mL_letters mL_from mL_to mL_forms mL_costs mL_cheapest mL_fixed mL_sumOf x27.1 x27.2 y h k
      · replace h := zif2 c h
        refine rmk [true, true, true, true, false, false, false] (L2 := [some (2, Int.ofNat 0), some (0, v1), some (0, v2), some (0, v3), none, none, none]) rfl ?_
        obtain rfl := Option.some.inj h
        exact k
  have LP67 : ∀ (n : Nat) (v1 : Int) (v2 : Int) (v3 : Int) (mL_letters : Int) (mL_from : Nat → Int) (mL_to : Nat → Int) (mL_forms : Nat → Int) (mL_costs : Nat → Int) (mL_cheapest : Nat → Int) (mL_fixed : Nat → Int) (mL_sumOf : Nat → Int) (mL_early : Nat → Int) (mL_late : Nat → Int) (y : (Nat → Int) × (Nat → Int)), l_X10_date_67 n v1 v2 v3 mL_letters mL_fixed mL_early mL_late = some y → S 223 [some (2, Int.ofNat 0), some (0, v1), some (0, v2), none, none, none, none] [] [M0, ([mL_letters], [mL_from, mL_to, mL_forms, mL_costs, mL_cheapest, mL_fixed, mL_sumOf, y.1, y.2]), M2, M3, M4, M5, M6] → S 67 [some (2, Int.ofNat 0), some (0, v1), some (0, v2), some (0, v3), none, none, none] [] [M0, ([mL_letters], [mL_from, mL_to, mL_forms, mL_costs, mL_cheapest, mL_fixed, mL_sumOf, mL_early, mL_late]), M2, M3, M4, M5, M6] := by
    intro n
    induction n with
    | zero =>
      intro v1 v2 v3 mL_letters mL_from mL_to mL_forms mL_costs mL_cheapest mL_fixed mL_sumOf mL_early mL_late y h k
      rw [l_X10_date_67] at h
      cases h
    | succ n ih =>
      intro v1 v2 v3 mL_letters mL_from mL_to mL_forms mL_costs mL_cheapest mL_fixed mL_sumOf mL_early mL_late y h k
      rw [l_X10_date_67] at h
      refine ri false 11 (q := v3 < mL_letters) (t1 := 75) (t2 := 223) rfl rfl trivial (fun c => ?_) (fun c => ?_)
      · replace h := zif1 c h
        refine rb false 12 (L2 := [some (2, Int.ofNat 0), some (0, v1), some (0, v2), some (0, v3), some (0, 0), none, none]) rfl rfl trivial ?_
        obtain ⟨x29, hx29, h⟩ := zbd h
        refine LP78 zN v1 v2 v3 0 mL_letters mL_from mL_to mL_forms mL_costs mL_cheapest mL_fixed mL_sumOf mL_early mL_late x29 hx29 ?_
        obtain ⟨g30_0, h⟩ := zgd h
        refine rg false 27 (t := 67) (L2 := [some (2, Int.ofNat 0), some (0, v1), some (0, v2), some (0, (v3 + 1)), none, none, none]) rfl rfl rfl g30_0 ?_
        exact ih v1 v2 (v3 + 1) mL_letters mL_from mL_to mL_forms mL_costs mL_cheapest mL_fixed mL_sumOf x29.1 x29.2 y h k
      · replace h := zif2 c h
        refine rmk [true, true, true, false, false, false, false] (L2 := [some (2, Int.ofNat 0), some (0, v1), some (0, v2), none, none, none, none]) rfl ?_
        obtain rfl := Option.some.inj h
        exact k
  have LP228 : ∀ (n : Nat) (v1 : Int) (v2 : Int) (v3 : Int) (v4 : Int) (mL_letters : Int) (mL_from : Nat → Int) (mL_to : Nat → Int) (mL_forms : Nat → Int) (mL_costs : Nat → Int) (mL_cheapest : Nat → Int) (mL_fixed : Nat → Int) (mL_sumOf : Nat → Int) (mL_early : Nat → Int) (mL_late : Nat → Int) (y : Int), l_X10_date_228 n v1 v2 v3 v4 mL_letters mL_early mL_late = some y → S 270 [some (2, Int.ofNat 0), some (0, v1), some (0, v2), some (0, y), none, none, none] [] [M0, ([mL_letters], [mL_from, mL_to, mL_forms, mL_costs, mL_cheapest, mL_fixed, mL_sumOf, mL_early, mL_late]), M2, M3, M4, M5, M6] → S 228 [some (2, Int.ofNat 0), some (0, v1), some (0, v2), some (0, v3), some (0, v4), none, none] [] [M0, ([mL_letters], [mL_from, mL_to, mL_forms, mL_costs, mL_cheapest, mL_fixed, mL_sumOf, mL_early, mL_late]), M2, M3, M4, M5, M6] := by
    intro n
    induction n with
    | zero =>
      intro v1 v2 v3 v4 mL_letters mL_from mL_to mL_forms mL_costs mL_cheapest mL_fixed mL_sumOf mL_early mL_late y h k
      rw [l_X10_date_228] at h
      cases h
    | succ n ih =>
      intro v1 v2 v3 v4 mL_letters mL_from mL_to mL_forms mL_costs mL_cheapest mL_fixed mL_sumOf mL_early mL_late y h k
      rw [l_X10_date_228] at h
      refine ri false 29 (q := v4 < mL_letters) (t1 := 237) (t2 := 270) rfl rfl trivial (fun c => ?_) (fun c => ?_)
      · replace h := zif1 c h
        refine ri false 30 (q := v3 = 0) (t1 := 262) (t2 := 241) rfl rfl trivial (fun c => ?_) (fun c => ?_)
        · replace h := zif1 c h
          refine rb false 33 (st2 := [(0, 0)]) rfl rfl trivial ?_
          obtain ⟨g32_0, h⟩ := zgd h
          refine rg false 34 (t := 228) (L2 := [some (2, Int.ofNat 0), some (0, v1), some (0, v2), some (0, 0), some (0, (v4 + 1)), none, none]) rfl rfl rfl g32_0 ?_
          exact ih v1 v2 0 (v4 + 1) mL_letters mL_from mL_to mL_forms mL_costs mL_cheapest mL_fixed mL_sumOf mL_early mL_late y h k
        · replace h := zif2 c h
          obtain ⟨⟨g33_0, g33_1⟩, h⟩ := zgd h
          refine ri false 31 (q := (mL_late (Int.toNat v4)) < (mL_early (Int.toNat v4))) (t1 := 262) (t2 := 258) rfl rfl (And.intro g33_0 g33_1) (fun c => ?_) (fun c => ?_)
          · replace h := zif1 c h
            refine rb false 33 (st2 := [(0, 0)]) rfl rfl trivial ?_
            obtain ⟨g34_0, h⟩ := zgd h
            refine rg false 34 (t := 228) (L2 := [some (2, Int.ofNat 0), some (0, v1), some (0, v2), some (0, 0), some (0, (v4 + 1)), none, none]) rfl rfl rfl g34_0 ?_
            exact ih v1 v2 0 (v4 + 1) mL_letters mL_from mL_to mL_forms mL_costs mL_cheapest mL_fixed mL_sumOf mL_early mL_late y h k
          · replace h := zif2 c h
            refine rg false 32 (t := 263) (st2 := [(0, 1)]) rfl rfl rfl trivial ?_
            obtain ⟨g35_0, h⟩ := zgd h
            refine rg false 34 (t := 228) (L2 := [some (2, Int.ofNat 0), some (0, v1), some (0, v2), some (0, 1), some (0, (v4 + 1)), none, none]) rfl rfl rfl g35_0 ?_
            exact ih v1 v2 1 (v4 + 1) mL_letters mL_from mL_to mL_forms mL_costs mL_cheapest mL_fixed mL_sumOf mL_early mL_late y h k
      · replace h := zif2 c h
        refine rmk [true, true, true, true, false, false, false] (L2 := [some (2, Int.ofNat 0), some (0, v1), some (0, v2), some (0, v3), none, none, none]) rfl ?_
        obtain rfl := Option.some.inj h
        exact k
  unfold f_X10_date at h
  obtain ⟨x1, hx1, h⟩ := zbd h
  refine rv false 0 1 rfl rfl trivial rfl (m_M_X10_isLetter l M0 M2 M3 M4 M5 M6 p1 mL_letters mL_from mL_to mL_forms mL_costs mL_cheapest mL_fixed mL_sumOf mL_early mL_late x1 hx1) ⟨_, _, _, _, rfl, rfl, rfl, by decide +kernel, ⟨Nat.le_of_ble_eq_true rfl, Nat.le_of_ble_eq_true rfl⟩, uGin u_10_12 u_10_13 u_10_14 u_1_5 u_10_15⟩ ⟨rfl, _, _, _, rfl, rfl⟩ ?_
  refine ri false 1 (q := x1 = 0) (t1 := 18) (t2 := 8) rfl rfl trivial (fun c => ?_) (fun c => ?_)
  · replace h := zif1 c h
    obtain rfl := Option.some.inj h
    exact r1 false 4 rfl rfl rfl rfl rfl rfl trivial
  · replace h := zif2 c h
    obtain ⟨x2, hx2, h⟩ := zbd h
    refine rs false 2 3 rfl rfl trivial rfl (m_M_X10_in l M0 ([mL_letters], [mL_from, mL_to, mL_forms, mL_costs, mL_cheapest, mL_fixed, mL_sumOf, mL_early, mL_late]) M2 M3 M4 M5 M6 p2 0 1 x2 hx2) ⟨_, _, _, _, rfl, rfl, rfl, by decide +kernel, ⟨Nat.le_of_ble_eq_true rfl, Nat.le_of_ble_eq_true rfl⟩, uGinS u_9_14 u_9_15 u_1_5 u_9_16⟩ ?_
    refine ri false 3 (q := x2 = 0) (t1 := 18) (t2 := 21) rfl rfl trivial (fun c => ?_) (fun c => ?_)
    · replace h := zif1 c h
      obtain rfl := Option.some.inj h
      exact r1 false 4 rfl rfl rfl rfl rfl rfl trivial
    · replace h := zif2 c h
      obtain ⟨x3, hx3, h⟩ := zbd h
      refine rv false 5 0 rfl rfl trivial rfl (m_M_X10_plants l M0 M2 M3 M4 M5 M6 mL_letters mL_from mL_to mL_forms mL_costs mL_cheapest mL_fixed mL_sumOf mL_early mL_late x3 hx3) ⟨_, _, _, _, rfl, rfl, rfl, by decide +kernel, ⟨Nat.le_of_ble_eq_true rfl, Nat.le_of_ble_eq_true rfl⟩, uGin u_19_7 u_19_8 u_19_9 u_1_5 u_19_10⟩ ⟨rfl, _, _, _, rfl, rfl⟩ ?_
      refine rb false 6 (L2 := [some (2, Int.ofNat 0), some (0, p1), some (0, p2), some (0, 0), none, none, none]) rfl rfl trivial ?_
      obtain ⟨x6, hx6, h⟩ := zbd h
      refine LP27 zN p1 p2 0 mL_letters mL_from mL_to mL_forms mL_costs x3.1 x3.2.1 x3.2.2 mL_early mL_late x6 hx6 ?_
      refine rb false 10 (L2 := [some (2, Int.ofNat 0), some (0, p1), some (0, p2), some (0, 0), none, none, none]) rfl rfl trivial ?_
      obtain ⟨x31, hx31, h⟩ := zbd h
      refine LP67 zN p1 p2 0 mL_letters mL_from mL_to mL_forms mL_costs x3.1 x3.2.1 x3.2.2 x6.1 x6.2 x31 hx31 ?_
      refine rb false 28 (L2 := [some (2, Int.ofNat 0), some (0, p1), some (0, p2), some (0, 1), some (0, 0), none, none]) rfl rfl trivial ?_
      obtain ⟨x36, hx36, h⟩ := zbd h
      refine LP228 zN p1 p2 1 0 mL_letters mL_from mL_to mL_forms mL_costs x3.1 x3.2.1 x3.2.2 x31.1 x31.2 x36 hx36 ?_
      refine ri false 35 (q := x36 = 0) (t1 := 274) (t2 := 278) rfl rfl trivial (fun c => ?_) (fun c => ?_)
      · replace h := zif1 c h
        refine rg false 36 (t := 297) (st2 := [(0, (-1))]) rfl rfl rfl trivial ?_
        obtain rfl := Option.some.inj h
        exact r1 false 40 rfl rfl rfl rfl rfl rfl trivial
      · replace h := zif2 c h
        refine ri false 37 (q := p2 = 0) (t1 := 282) (t2 := 291) rfl rfl trivial (fun c => ?_) (fun c => ?_)
        · replace h := zif1 c h
          obtain ⟨g37_0, h⟩ := zgd h
          refine rg false 38 (t := 297) (st2 := [(0, (x31.1 (Int.toNat p1)))]) rfl rfl rfl g37_0 ?_
          obtain rfl := Option.some.inj h
          exact r1 false 40 rfl rfl rfl rfl rfl rfl trivial
        · replace h := zif2 c h
          obtain ⟨g38_0, h⟩ := zgd h
          refine rb false 39 (st2 := [(0, (x31.2 (Int.toNat p1)))]) rfl rfl g38_0 ?_
          obtain rfl := Option.some.inj h
          exact r1 false 40 rfl rfl rfl rfl rfl rfl trivial
def bX10_name : zB := [(0, [(.iload_n 1, 1), (.i2l, 1), (.lconst 1, 1), (.ldc2_w 188, 3)], 6, .invokestatic 123, 3), (9, [], 9, .ifCond .eq 7, 3), (12, [(.iload_n 2, 1)], 13, .ifCond .ge 6, 3), (16, [(.bipush (-2), 2)], 18, .ireturn, 1), (19, [(.iload_n 2, 1), (.istore_n 3, 1), (.iconst 1, 1), (.istore 4, 2), (.iconst 0, 1), (.istore 5, 2)], 27, .nop, 0), (27, [(.iload 5, 2), (.iload_n 1, 1)], 30, .if_icmp .ge 33, 3), (33, [(.iload 4, 2)], 35, .ifCond .eq 14, 3), (38, [(.iload_n 3, 1), (.bipush 27, 2), (.irem, 1)], 42, .ifCond .le 7, 3), (45, [(.iconst 1, 1)], 46, .goto 4, 3), (49, [(.iconst 0, 1)], 50, .nop, 0), (50, [(.istore 4, 2), (.iload_n 3, 1), (.bipush 27, 2), (.idiv, 1), (.istore_n 3, 1), (.iinc 5 1, 3)], 60, .goto (-33), 3), (63, [(.iload 4, 2)], 65, .ifCond .eq 7, 3), (68, [(.iload_n 3, 1)], 69, .ifCond .le 6, 3), (72, [(.bipush (-2), 2)], 74, .ireturn, 1), (75, [(.aload_n 0, 1), (.getfield 190, 3), (.bipush 10, 2)], 81, .if_icmp .ne 6, 3), (84, [(.bipush (-4), 2)], 86, .ireturn, 1), (87, [(.aload_n 0, 1), (.getfield 43, 3), (.aload_n 0, 1), (.getfield 190, 3), (.iload_n 1, 1), (.iastore, 1), (.aload_n 0, 1), (.getfield 46, 3), (.aload_n 0, 1), (.getfield 190, 3), (.iload_n 2, 1), (.iastore, 1)], 107, .nop, 0), (107, [(.iload_n 2, 1), (.istore_n 3, 1), (.iload_n 1, 1), (.iconst 1, 1), (.isub, 1), (.istore 5, 2)], 114, .nop, 0), (114, [(.iload 5, 2)], 116, .ifCond .lt 33, 3), (119, [(.aload_n 0, 1), (.getfield 49, 3), (.bipush 6, 2), (.aload_n 0, 1), (.getfield 190, 3), (.imul, 1), (.iload 5, 2), (.iadd, 1), (.iload_n 3, 1), (.bipush 27, 2), (.irem, 1), (.iastore, 1)], 138, .nop, 0), (138, [(.iload_n 3, 1), (.bipush 27, 2), (.idiv, 1), (.istore_n 3, 1), (.iinc 5 (-1), 3)], 146, .goto (-32), 3), (149, [(.aload_n 0, 1), (.dup, 1), (.getfield 190, 3), (.iconst 1, 1), (.iadd, 1), (.putfield 190, 3), (.aload_n 0, 1), (.getfield 190, 3), (.iconst 1, 1), (.isub, 1)], 165, .ireturn, 1)]
theorem bX10_name_ok : zBok cX10_name 6 bX10_name = true := by decide +kernel
abbrev wX10_name : List Cond := Cond.code yX10_name cX10_name 6 (some .int) :: uU
def rX10_name : Room := { frames := 1, cells := 0, slots := 0, locals := 25 }
set_option maxRecDepth 20000 in
set_option maxHeartbeats 4000000 in
theorem m_M_X10_name (l : Launch) (M0 : zM) (M1 : zM) (M3 : zM) (M4 : zM) (M5 : zM) (M6 : zM) (p1 : Int) (p2 : Int) (mN_names : Int) (mN_lengths : Nat → Int) (mN_spelt : Nat → Int) (mN_signs : Nat → Int) (mN_table : Nat → Int) (mN_far : Nat → Int) (x : Int × Int × (Nat → Int) × (Nat → Int) × (Nat → Int)) (h : f_X10_name p1 p2 mN_names mN_lengths mN_spelt mN_signs = some x) : zD l yX10_name wX10_name rX10_name lamM shpM [(2, Int.ofNat 0), (0, p1), (0, p2)] [M0, M1, ([mN_names], [mN_lengths, mN_spelt, mN_signs, mN_table, mN_far]), M3, M4, M5, M6] (some (0, x.1)) [M0, M1, ([x.2.1], [x.2.2.1, x.2.2.2.1, x.2.2.2.2, mN_table, mN_far]), M3, M4, M5, M6] := by
  refine zD_of (B := bX10_name) (E := eX10) (by decide) rfl lokM (eX10_ok _) bX10_name_ok (Or.inl rfl) rfl (fun S R => ?_)
  obtain ⟨rb, rg, ri, rv, rs, r0, r1, r2, r3, rt, rmk⟩ := R
  show S 0 [some (2, Int.ofNat 0), some (0, p1), some (0, p2), none, none, none] [] [M0, M1, ([mN_names], [mN_lengths, mN_spelt, mN_signs, mN_table, mN_far]), M3, M4, M5, M6]
  have LP27 : ∀ (n : Nat) (v1 : Int) (v2 : Int) (v3 : Int) (v4 : Int) (v5 : Int) (mN_names : Int) (mN_lengths : Nat → Int) (mN_spelt : Nat → Int) (mN_signs : Nat → Int) (mN_table : Nat → Int) (mN_far : Nat → Int) (y : Int × Int), l_X10_name_27 n v1 v2 v3 v4 v5 = some y → S 63 [some (2, Int.ofNat 0), some (0, v1), some (0, v2), some (0, y.1), some (0, y.2), none] [] [M0, M1, ([mN_names], [mN_lengths, mN_spelt, mN_signs, mN_table, mN_far]), M3, M4, M5, M6] → S 27 [some (2, Int.ofNat 0), some (0, v1), some (0, v2), some (0, v3), some (0, v4), some (0, v5)] [] [M0, M1, ([mN_names], [mN_lengths, mN_spelt, mN_signs, mN_table, mN_far]), M3, M4, M5, M6] := by
    intro n
    induction n with
    | zero =>
      intro v1 v2 v3 v4 v5 mN_names mN_lengths mN_spelt mN_signs mN_table mN_far y h k
      rw [l_X10_name_27] at h
      cases h
    | succ n ih =>
      intro v1 v2 v3 v4 v5 mN_names mN_lengths mN_spelt mN_signs mN_table mN_far y h k
      rw [l_X10_name_27] at h
      refine ri false 5 (q := v5 < v1) (t1 := 33) (t2 := 63) rfl rfl trivial (fun c => ?_) (fun c => ?_)
      · replace h := zif1 c h
        refine ri false 6 (q := v4 = 0) (t1 := 49) (t2 := 38) rfl rfl trivial (fun c => ?_) (fun c => ?_)
        · replace h := zif1 c h
          refine rb false 9 (st2 := [(0, 0)]) rfl rfl trivial ?_
          obtain ⟨⟨g2_0, g2_1⟩, h⟩ := zgd h
          refine rg false 10 (t := 27) (L2 := [some (2, Int.ofNat 0), some (0, v1), some (0, v2), some (0, (Int.tdiv v3 27)), some (0, 0), some (0, (v5 + 1))]) rfl rfl rfl (And.intro (show (27 : Int) ≠ 0 by decide) (And.intro g2_0 g2_1)) ?_
          exact ih v1 v2 (Int.tdiv v3 27) 0 (v5 + 1) mN_names mN_lengths mN_spelt mN_signs mN_table mN_far y h k
        · replace h := zif2 c h
          refine ri false 7 (q := (0 : Int) < (Int.tmod v3 27)) (t1 := 45) (t2 := 49) rfl rfl (show (27 : Int) ≠ 0 by decide) (fun c => ?_) (fun c => ?_)
          · replace h := zif1 c h
            refine rg false 8 (t := 50) (st2 := [(0, 1)]) rfl rfl rfl trivial ?_
            obtain ⟨⟨g3_0, g3_1⟩, h⟩ := zgd h
            refine rg false 10 (t := 27) (L2 := [some (2, Int.ofNat 0), some (0, v1), some (0, v2), some (0, (Int.tdiv v3 27)), some (0, 1), some (0, (v5 + 1))]) rfl rfl rfl (And.intro (show (27 : Int) ≠ 0 by decide) (And.intro g3_0 g3_1)) ?_
            exact ih v1 v2 (Int.tdiv v3 27) 1 (v5 + 1) mN_names mN_lengths mN_spelt mN_signs mN_table mN_far y h k
          · replace h := zif2 c h
            refine rb false 9 (st2 := [(0, 0)]) rfl rfl trivial ?_
            obtain ⟨⟨g4_0, g4_1⟩, h⟩ := zgd h
            refine rg false 10 (t := 27) (L2 := [some (2, Int.ofNat 0), some (0, v1), some (0, v2), some (0, (Int.tdiv v3 27)), some (0, 0), some (0, (v5 + 1))]) rfl rfl rfl (And.intro (show (27 : Int) ≠ 0 by decide) (And.intro g4_0 g4_1)) ?_
            exact ih v1 v2 (Int.tdiv v3 27) 0 (v5 + 1) mN_names mN_lengths mN_spelt mN_signs mN_table mN_far y h k
      · replace h := zif2 c h
        refine rmk [true, true, true, true, true, false] (L2 := [some (2, Int.ofNat 0), some (0, v1), some (0, v2), some (0, v3), some (0, v4), none]) rfl ?_
        obtain rfl := Option.some.inj h
        exact k
  have LP114 : ∀ (n : Nat) (v3 : Int) (v5 : Int) (mN_names : Int) (mN_lengths : Nat → Int) (mN_spelt : Nat → Int) (mN_signs : Nat → Int) (mN_table : Nat → Int) (mN_far : Nat → Int) (y : Nat → Int), l_X10_name_114 n v3 v5 mN_names mN_signs = some y → S 149 [some (2, Int.ofNat 0), none, none, none, none, none] [] [M0, M1, ([mN_names], [mN_lengths, mN_spelt, y, mN_table, mN_far]), M3, M4, M5, M6] → S 114 [some (2, Int.ofNat 0), none, none, some (0, v3), none, some (0, v5)] [] [M0, M1, ([mN_names], [mN_lengths, mN_spelt, mN_signs, mN_table, mN_far]), M3, M4, M5, M6] := by
    intro n
    induction n with
    | zero =>
      intro v3 v5 mN_names mN_lengths mN_spelt mN_signs mN_table mN_far y h k
      rw [l_X10_name_114] at h
      cases h
    | succ n ih =>
      intro v3 v5 mN_names mN_lengths mN_spelt mN_signs mN_table mN_far y h k
      rw [l_X10_name_114] at h
      refine ri false 18 (q := v5 < 0) (t1 := 149) (t2 := 119) rfl rfl trivial (fun c => ?_) (fun c => ?_)
      · replace h := zif1 c h
        refine rmk [true, false, false, false, false, false] (L2 := [some (2, Int.ofNat 0), none, none, none, none, none]) rfl ?_
        obtain rfl := Option.some.inj h
        exact k
      · replace h := zif2 c h
        obtain ⟨g8_0, h⟩ := zgd h
        refine rb false 19 (σ2 := [M0, M1, ([mN_names], [mN_lengths, mN_spelt, (zu mN_signs (Int.toNat ((6 * mN_names) + v5)) (Int.tmod v3 27)), mN_table, mN_far]), M3, M4, M5, M6]) rfl rfl (And.intro (show (27 : Int) ≠ 0 by decide) g8_0) ?_
        obtain ⟨⟨g9_0, g9_1⟩, h⟩ := zgd h
        refine rg false 20 (t := 114) (L2 := [some (2, Int.ofNat 0), none, none, some (0, (Int.tdiv v3 27)), none, some (0, (v5 + (-1)))]) rfl rfl rfl (And.intro (show (27 : Int) ≠ 0 by decide) (And.intro g9_0 g9_1)) ?_
        exact ih (Int.tdiv v3 27) (v5 + (-1)) mN_names mN_lengths mN_spelt (zu mN_signs (Int.toNat ((6 * mN_names) + v5)) (Int.tmod v3 27)) mN_table mN_far y h k
  unfold f_X10_name at h
  obtain ⟨x1, hx1, h⟩ := zbd h
  refine rs false 0 3 rfl rfl trivial rfl (m_M_X10_in l M0 M1 ([mN_names], [mN_lengths, mN_spelt, mN_signs, mN_table, mN_far]) M3 M4 M5 M6 p1 1 6 x1 hx1) ⟨_, _, _, _, rfl, rfl, rfl, by decide +kernel, ⟨Nat.le_of_ble_eq_true rfl, Nat.le_of_ble_eq_true rfl⟩, uGinS u_9_14 u_9_15 u_1_5 u_9_16⟩ ?_
  refine ri false 1 (q := x1 = 0) (t1 := 16) (t2 := 12) rfl rfl trivial (fun c => ?_) (fun c => ?_)
  · replace h := zif1 c h
    obtain rfl := Option.some.inj h
    exact r1 false 3 rfl rfl rfl rfl rfl rfl trivial
  · replace h := zif2 c h
    refine ri false 2 (q := p2 < 0) (t1 := 16) (t2 := 19) rfl rfl trivial (fun c => ?_) (fun c => ?_)
    · replace h := zif1 c h
      obtain rfl := Option.some.inj h
      exact r1 false 3 rfl rfl rfl rfl rfl rfl trivial
    · replace h := zif2 c h
      refine rb false 4 (L2 := [some (2, Int.ofNat 0), some (0, p1), some (0, p2), some (0, p2), some (0, 1), some (0, 0)]) rfl rfl trivial ?_
      obtain ⟨x5, hx5, h⟩ := zbd h
      refine LP27 zN p1 p2 p2 1 0 mN_names mN_lengths mN_spelt mN_signs mN_table mN_far x5 hx5 ?_
      refine ri false 11 (q := x5.2 = 0) (t1 := 72) (t2 := 68) rfl rfl trivial (fun c => ?_) (fun c => ?_)
      · replace h := zif1 c h
        obtain rfl := Option.some.inj h
        exact r1 false 13 rfl rfl rfl rfl rfl rfl trivial
      · replace h := zif2 c h
        refine ri false 12 (q := (0 : Int) < x5.1) (t1 := 72) (t2 := 75) rfl rfl trivial (fun c => ?_) (fun c => ?_)
        · replace h := zif1 c h
          obtain rfl := Option.some.inj h
          exact r1 false 13 rfl rfl rfl rfl rfl rfl trivial
        · replace h := zif2 c h
          refine ri false 14 (q := mN_names = 10) (t1 := 84) (t2 := 87) rfl rfl trivial (fun c => ?_) (fun c => ?_)
          · replace h := zif1 c h
            obtain rfl := Option.some.inj h
            exact r1 false 15 rfl rfl rfl rfl rfl rfl trivial
          · replace h := zif2 c h
            obtain ⟨⟨g6_0, g6_1⟩, h⟩ := zgd h
            refine rb false 16 (σ2 := [M0, M1, ([mN_names], [(zu mN_lengths (Int.toNat mN_names) p1), (zu mN_spelt (Int.toNat mN_names) p2), mN_signs, mN_table, mN_far]), M3, M4, M5, M6]) rfl rfl (And.intro g6_0 g6_1) ?_
            obtain ⟨g7_0, h⟩ := zgd h
            refine rb false 17 (L2 := [some (2, Int.ofNat 0), some (0, p1), some (0, p2), some (0, p2), some (0, x5.2), some (0, (p1 - 1))]) rfl rfl g7_0 ?_
            refine rmk [true, false, false, true, false, true] (L2 := [some (2, Int.ofNat 0), none, none, some (0, p2), none, some (0, (p1 - 1))]) rfl ?_
            obtain ⟨x10, hx10, h⟩ := zbd h
            refine LP114 zN p2 (p1 - 1) mN_names (zu mN_lengths (Int.toNat mN_names) p1) (zu mN_spelt (Int.toNat mN_names) p2) mN_signs mN_table mN_far x10 hx10 ?_
            obtain ⟨⟨g11_0, g11_1⟩, h⟩ := zgd h
            obtain rfl := Option.some.inj h
            exact r1 false 21 rfl rfl rfl rfl rfl rfl (And.intro g11_0 g11_1)
def bX10_isName : zB := [(0, [(.iload_n 1, 1), (.i2l, 1), (.lconst 0, 1), (.aload_n 0, 1), (.getfield 190, 3), (.iconst 1, 1), (.isub, 1), (.i2l, 1)], 10, .invokestatic 123, 3), (13, [], 13, .ireturn, 1)]
theorem bX10_isName_ok : zBok cX10_isName 2 bX10_isName = true := by decide +kernel
abbrev wX10_isName : List Cond := Cond.code yX10_isName cX10_isName 2 (some .boolean) :: uU
def rX10_isName : Room := { frames := 1, cells := 0, slots := 0, locals := 25 }
set_option maxRecDepth 20000 in
set_option maxHeartbeats 4000000 in
theorem m_M_X10_isName (l : Launch) (M0 : zM) (M1 : zM) (M3 : zM) (M4 : zM) (M5 : zM) (M6 : zM) (p1 : Int) (mN_names : Int) (mN_lengths : Nat → Int) (mN_spelt : Nat → Int) (mN_signs : Nat → Int) (mN_table : Nat → Int) (mN_far : Nat → Int) (x : Int) (h : f_X10_isName p1 mN_names = some x) : zD l yX10_isName wX10_isName rX10_isName lamM shpM [(2, Int.ofNat 0), (0, p1)] [M0, M1, ([mN_names], [mN_lengths, mN_spelt, mN_signs, mN_table, mN_far]), M3, M4, M5, M6] (some (0, x)) [M0, M1, ([mN_names], [mN_lengths, mN_spelt, mN_signs, mN_table, mN_far]), M3, M4, M5, M6] := by
  refine zD_of (B := bX10_isName) (E := eX10) (by decide) rfl lokM (eX10_ok _) bX10_isName_ok (Or.inl rfl) rfl (fun S R => ?_)
  obtain ⟨rb, rg, ri, rv, rs, r0, r1, r2, r3, rt, rmk⟩ := R
  show S 0 [some (2, Int.ofNat 0), some (0, p1)] [] [M0, M1, ([mN_names], [mN_lengths, mN_spelt, mN_signs, mN_table, mN_far]), M3, M4, M5, M6]
  unfold f_X10_isName at h
  obtain ⟨g2_0, h⟩ := zgd h
  obtain ⟨x1, hx1, h⟩ := zbd h
  refine rs false 0 3 rfl rfl g2_0 rfl (m_M_X10_in l M0 M1 ([mN_names], [mN_lengths, mN_spelt, mN_signs, mN_table, mN_far]) M3 M4 M5 M6 p1 0 (mN_names - 1) x1 hx1) ⟨_, _, _, _, rfl, rfl, rfl, by decide +kernel, ⟨Nat.le_of_ble_eq_true rfl, Nat.le_of_ble_eq_true rfl⟩, uGinS u_9_14 u_9_15 u_1_5 u_9_16⟩ ?_
  obtain ⟨gb3, h⟩ := zgd h
  obtain rfl := Option.some.inj h
  exact r2 false 1 rfl rfl rfl rfl trivial gb3
def bX10_lesser : zB := [(0, [(.iload_n 0, 1), (.iload_n 1, 1)], 2, .if_icmp .ge 7, 3), (5, [(.iload_n 0, 1)], 6, .goto 4, 3), (9, [(.iload_n 1, 1)], 10, .nop, 0), (10, [], 10, .ireturn, 1)]
theorem bX10_lesser_ok : zBok cX10_lesser 2 bX10_lesser = true := by decide +kernel
abbrev wX10_lesser : List Cond := Cond.code yX10_lesser cX10_lesser 2 (some .int) :: uU
def rX10_lesser : Room := { frames := 0, cells := 0, slots := 0, locals := 0 }
set_option maxRecDepth 20000 in
set_option maxHeartbeats 4000000 in
theorem m_M_X10_lesser (l : Launch) (M0 : zM) (M1 : zM) (M2 : zM) (M3 : zM) (M4 : zM) (M5 : zM) (M6 : zM) (p0 : Int) (p1 : Int) (x : Int) (h : f_X10_lesser p0 p1 = some x) : zD l yX10_lesser wX10_lesser rX10_lesser lamM shpM [(0, p0), (0, p1)] [M0, M1, M2, M3, M4, M5, M6] (some (0, x)) [M0, M1, M2, M3, M4, M5, M6] := by
  refine zD_of (B := bX10_lesser) (E := eX10) (by decide) rfl lokM (eX10_ok _) bX10_lesser_ok (Or.inl rfl) rfl (fun S R => ?_)
  obtain ⟨rb, rg, ri, rv, rs, r0, r1, r2, r3, rt, rmk⟩ := R
  show S 0 [some (0, p0), some (0, p1)] [] [M0, M1, M2, M3, M4, M5, M6]
  unfold f_X10_lesser at h
  refine ri false 0 (q := p0 < p1) (t1 := 5) (t2 := 9) rfl rfl trivial (fun c => ?_) (fun c => ?_)
  · replace h := zif1 c h
    refine rg false 1 (t := 10) (st2 := [(0, p0)]) rfl rfl rfl trivial ?_
    obtain rfl := Option.some.inj h
    exact r1 false 3 rfl rfl rfl rfl rfl rfl trivial
  · replace h := zif2 c h
    refine rb false 2 (st2 := [(0, p1)]) rfl rfl trivial ?_
    obtain rfl := Option.some.inj h
    exact r1 false 3 rfl rfl rfl rfl rfl rfl trivial
def bX10_slipsOf : zB := [(0, [(.iconst 0, 1), (.istore_n 3, 1)], 2, .nop, 0), (2, [(.iload_n 3, 1), (.aload_n 0, 1), (.getfield 43, 3), (.iload_n 1, 1), (.iaload, 1)], 9, .if_icmp .gt 161, 3), (12, [(.iconst 0, 1), (.istore 4, 2)], 15, .nop, 0), (15, [(.iload 4, 2), (.aload_n 0, 1), (.getfield 43, 3), (.iload_n 2, 1), (.iaload, 1)], 23, .if_icmp .gt 141, 3), (26, [(.iload_n 3, 1)], 27, .ifCond .eq 8, 3), (30, [(.iload 4, 2)], 32, .ifCond .ne 22, 3), (35, [(.aload_n 0, 1), (.getfield 52, 3), (.bipush 7, 2), (.iload_n 3, 1), (.imul, 1), (.iload 4, 2), (.iadd, 1), (.iload_n 3, 1), (.iload 4, 2), (.iadd, 1), (.iastore, 1)], 51, .goto 107, 3), (54, [(.aload_n 0, 1), (.getfield 49, 3), (.bipush 6, 2), (.iload_n 1, 1), (.imul, 1), (.iload_n 3, 1), (.iadd, 1), (.iconst 1, 1), (.isub, 1), (.iaload, 1), (.aload_n 0, 1), (.getfield 49, 3), (.bipush 6, 2), (.iload_n 2, 1), (.imul, 1), (.iload 4, 2), (.iadd, 1), (.iconst 1, 1), (.isub, 1), (.iaload, 1)], 81, .if_icmp .ne 7, 3), (84, [(.iconst 0, 1)], 85, .goto 4, 3), (88, [(.iconst 1, 1)], 89, .nop, 0), (89, [(.istore 5, 2), (.aload_n 0, 1), (.getfield 52, 3), (.bipush 7, 2), (.iload_n 3, 1), (.imul, 1), (.iload 4, 2), (.iadd, 1), (.aload_n 0, 1), (.getfield 52, 3), (.bipush 7, 2), (.iload_n 3, 1), (.imul, 1), (.iload 4, 2), (.iadd, 1), (.bipush 8, 2), (.isub, 1), (.iaload, 1), (.iload 5, 2), (.iadd, 1), (.iconst 1, 1), (.aload_n 0, 1), (.getfield 52, 3), (.bipush 7, 2), (.iload_n 3, 1), (.imul, 1), (.iload 4, 2), (.iadd, 1), (.bipush 7, 2), (.isub, 1), (.iaload, 1), (.aload_n 0, 1), (.getfield 52, 3), (.bipush 7, 2), (.iload_n 3, 1), (.imul, 1), (.iload 4, 2), (.iadd, 1), (.iconst 1, 1), (.isub, 1), (.iaload, 1)], 150, .invokestatic 193, 3), (153, [(.iadd, 1)], 154, .invokestatic 193, 3), (157, [(.iastore, 1)], 158, .nop, 0), (158, [(.iinc 4 1, 3)], 161, .goto (-146), 3), (164, [(.iinc 3 1, 3)], 167, .goto (-165), 3), (170, [(.aload_n 0, 1), (.getfield 52, 3), (.bipush 7, 2), (.aload_n 0, 1), (.getfield 43, 3), (.iload_n 1, 1), (.iaload, 1), (.imul, 1), (.aload_n 0, 1), (.getfield 43, 3), (.iload_n 2, 1), (.iaload, 1), (.iadd, 1), (.iaload, 1)], 191, .ireturn, 1)]
theorem bX10_slipsOf_ok : zBok cX10_slipsOf 6 bX10_slipsOf = true := by decide +kernel
abbrev wX10_slipsOf : List Cond := Cond.code yX10_slipsOf cX10_slipsOf 6 (some .int) :: uU
def rX10_slipsOf : Room := { frames := 1, cells := 0, slots := 0, locals := 21 }
set_option maxRecDepth 20000 in
set_option maxHeartbeats 4000000 in
theorem m_M_X10_slipsOf (l : Launch) (M0 : zM) (M1 : zM) (M3 : zM) (M4 : zM) (M5 : zM) (M6 : zM) (p1 : Int) (p2 : Int) (mN_names : Int) (mN_lengths : Nat → Int) (mN_spelt : Nat → Int) (mN_signs : Nat → Int) (mN_table : Nat → Int) (mN_far : Nat → Int) (x : Int × (Nat → Int)) (h : f_X10_slipsOf p1 p2 mN_lengths mN_signs mN_table = some x) : zD l yX10_slipsOf wX10_slipsOf rX10_slipsOf lamM shpM [(2, Int.ofNat 0), (0, p1), (0, p2)] [M0, M1, ([mN_names], [mN_lengths, mN_spelt, mN_signs, mN_table, mN_far]), M3, M4, M5, M6] (some (0, x.1)) [M0, M1, ([mN_names], [mN_lengths, mN_spelt, mN_signs, x.2, mN_far]), M3, M4, M5, M6] := by
  refine zD_of (B := bX10_slipsOf) (E := eX10) (by decide) rfl lokM (eX10_ok _) bX10_slipsOf_ok (Or.inl rfl) rfl (fun S R => ?_)
  obtain ⟨rb, rg, ri, rv, rs, r0, r1, r2, r3, rt, rmk⟩ := R
  show S 0 [some (2, Int.ofNat 0), some (0, p1), some (0, p2), none, none, none] [] [M0, M1, ([mN_names], [mN_lengths, mN_spelt, mN_signs, mN_table, mN_far]), M3, M4, M5, M6]
  have LP15 : ∀ (n : Nat) (v1 : Int) (v2 : Int) (v3 : Int) (v4 : Int) (mN_names : Int) (mN_lengths : Nat → Int) (mN_spelt : Nat → Int) (mN_signs : Nat → Int) (mN_table : Nat → Int) (mN_far : Nat → Int) (y : Nat → Int), l_X10_slipsOf_15 n v1 v2 v3 v4 mN_lengths mN_signs mN_table = some y → S 164 [some (2, Int.ofNat 0), some (0, v1), some (0, v2), some (0, v3), none, none] [] [M0, M1, ([mN_names], [mN_lengths, mN_spelt, mN_signs, y, mN_far]), M3, M4, M5, M6] → S 15 [some (2, Int.ofNat 0), some (0, v1), some (0, v2), some (0, v3), some (0, v4), none] [] [M0, M1, ([mN_names], [mN_lengths, mN_spelt, mN_signs, mN_table, mN_far]), M3, M4, M5, M6] := by
    intro n
    induction n with
    | zero =>
      intro v1 v2 v3 v4 mN_names mN_lengths mN_spelt mN_signs mN_table mN_far y h k
      rw [l_X10_slipsOf_15] at h
      cases h
    | succ n ih =>
      intro v1 v2 v3 v4 mN_names mN_lengths mN_spelt mN_signs mN_table mN_far y h k
      rw [l_X10_slipsOf_15] at h
      obtain ⟨g2_0, h⟩ := zgd h
      refine ri false 3 (q := (mN_lengths (Int.toNat v2)) < v4) (t1 := 164) (t2 := 26) rfl rfl g2_0 (fun c => ?_) (fun c => ?_)
      · replace h := zif1 c h
        refine rmk [true, true, true, true, false, false] (L2 := [some (2, Int.ofNat 0), some (0, v1), some (0, v2), some (0, v3), none, none]) rfl ?_
        obtain rfl := Option.some.inj h
        exact k
      · replace h := zif2 c h
        refine ri false 4 (q := v3 = 0) (t1 := 35) (t2 := 30) rfl rfl trivial (fun c => ?_) (fun c => ?_)
        · replace h := zif1 c h
          obtain ⟨⟨g3_0, g3_1⟩, h⟩ := zgd h
          refine rg false 6 (t := 158) (σ2 := [M0, M1, ([mN_names], [mN_lengths, mN_spelt, mN_signs, (zu mN_table (Int.toNat ((7 * v3) + v4)) (v3 + v4)), mN_far]), M3, M4, M5, M6]) rfl rfl rfl (And.intro g3_0 g3_1) ?_
          obtain ⟨g4_0, h⟩ := zgd h
          refine rg false 13 (t := 15) (L2 := [some (2, Int.ofNat 0), some (0, v1), some (0, v2), some (0, v3), some (0, (v4 + 1)), none]) rfl rfl rfl g4_0 ?_
          exact ih v1 v2 v3 (v4 + 1) mN_names mN_lengths mN_spelt mN_signs (zu mN_table (Int.toNat ((7 * v3) + v4)) (v3 + v4)) mN_far y h k
        · replace h := zif2 c h
          refine ri false 5 (q := v4 = 0) (t1 := 35) (t2 := 54) rfl rfl trivial (fun c => ?_) (fun c => ?_)
          · replace h := zif1 c h
            obtain ⟨⟨g5_0, g5_1⟩, h⟩ := zgd h
            refine rg false 6 (t := 158) (σ2 := [M0, M1, ([mN_names], [mN_lengths, mN_spelt, mN_signs, (zu mN_table (Int.toNat ((7 * v3) + v4)) (v3 + v4)), mN_far]), M3, M4, M5, M6]) rfl rfl rfl (And.intro g5_0 g5_1) ?_
            obtain ⟨g6_0, h⟩ := zgd h
            refine rg false 13 (t := 15) (L2 := [some (2, Int.ofNat 0), some (0, v1), some (0, v2), some (0, v3), some (0, (v4 + 1)), none]) rfl rfl rfl g6_0 ?_
            exact ih v1 v2 v3 (v4 + 1) mN_names mN_lengths mN_spelt mN_signs (zu mN_table (Int.toNat ((7 * v3) + v4)) (v3 + v4)) mN_far y h k
          · replace h := zif2 c h
            obtain ⟨⟨g7_0, g7_1⟩, h⟩ := zgd h
            refine ri false 7 (q := (mN_signs (Int.toNat (((6 * v1) + v3) - 1))) = (mN_signs (Int.toNat (((6 * v2) + v4) - 1)))) (t1 := 84) (t2 := 88) rfl rfl (And.intro g7_0 g7_1) (fun c => ?_) (fun c => ?_)
            · replace h := zif1 c h
              refine rg false 8 (t := 89) (st2 := [(0, 0)]) rfl rfl rfl trivial ?_
              obtain ⟨⟨g9_0, g9_1, g9_2⟩, h⟩ := zgd h
              obtain ⟨x8, hx8, h⟩ := zbd h
              refine rs false 10 2 (L2 := [some (2, Int.ofNat 0), some (0, v1), some (0, v2), some (0, v3), some (0, v4), some (0, 0)]) (rest := [(0, 1), (3, ((mN_table (Int.toNat (((7 * v3) + v4) - 8))) + 0)), (3, ((7 * v3) + v4)), (2, Int.ofNat 15)]) rfl rfl (And.intro g9_0 (And.intro g9_1 g9_2)) rfl (m_M_X10_lesser l M0 M1 ([mN_names], [mN_lengths, mN_spelt, mN_signs, mN_table, mN_far]) M3 M4 M5 M6 (mN_table (Int.toNat (((7 * v3) + v4) - 7))) (mN_table (Int.toNat (((7 * v3) + v4) - 1))) x8 hx8) ⟨_, _, _, _, rfl, rfl, rfl, by decide +kernel, ⟨Nat.le_of_ble_eq_true rfl, Nat.le_of_ble_eq_true rfl⟩, uGinS u_22_23 u_23_0 u_1_5 u_23_1⟩ ?_
              obtain ⟨⟨g11_0, g11_1⟩, h⟩ := zgd h
              obtain ⟨x10, hx10, h⟩ := zbd h
              refine rs false 11 2 (rest := [(3, ((7 * v3) + v4)), (2, Int.ofNat 15)]) rfl rfl (And.intro g11_0 g11_1) rfl (m_M_X10_lesser l M0 M1 ([mN_names], [mN_lengths, mN_spelt, mN_signs, mN_table, mN_far]) M3 M4 M5 M6 ((mN_table (Int.toNat (((7 * v3) + v4) - 8))) + 0) (1 + x8) x10 hx10) ⟨_, _, _, _, rfl, rfl, rfl, by decide +kernel, ⟨Nat.le_of_ble_eq_true rfl, Nat.le_of_ble_eq_true rfl⟩, uGinS u_22_23 u_23_0 u_1_5 u_23_1⟩ ?_
              obtain ⟨g12_0, h⟩ := zgd h
              refine rb false 12 (σ2 := [M0, M1, ([mN_names], [mN_lengths, mN_spelt, mN_signs, (zu mN_table (Int.toNat ((7 * v3) + v4)) x10), mN_far]), M3, M4, M5, M6]) rfl rfl g12_0 ?_
              obtain ⟨g13_0, h⟩ := zgd h
              refine rg false 13 (t := 15) (L2 := [some (2, Int.ofNat 0), some (0, v1), some (0, v2), some (0, v3), some (0, (v4 + 1)), some (0, 0)]) rfl rfl rfl g13_0 ?_
              refine rmk [true, true, true, true, true, false] (L2 := [some (2, Int.ofNat 0), some (0, v1), some (0, v2), some (0, v3), some (0, (v4 + 1)), none]) rfl ?_
              exact ih v1 v2 v3 (v4 + 1) mN_names mN_lengths mN_spelt mN_signs (zu mN_table (Int.toNat ((7 * v3) + v4)) x10) mN_far y h k
            · replace h := zif2 c h
              refine rb false 9 (st2 := [(0, 1)]) rfl rfl trivial ?_
              obtain ⟨⟨g15_0, g15_1, g15_2⟩, h⟩ := zgd h
              obtain ⟨x14, hx14, h⟩ := zbd h
              refine rs false 10 2 (L2 := [some (2, Int.ofNat 0), some (0, v1), some (0, v2), some (0, v3), some (0, v4), some (0, 1)]) (rest := [(0, 1), (3, ((mN_table (Int.toNat (((7 * v3) + v4) - 8))) + 1)), (3, ((7 * v3) + v4)), (2, Int.ofNat 15)]) rfl rfl (And.intro g15_0 (And.intro g15_1 g15_2)) rfl (m_M_X10_lesser l M0 M1 ([mN_names], [mN_lengths, mN_spelt, mN_signs, mN_table, mN_far]) M3 M4 M5 M6 (mN_table (Int.toNat (((7 * v3) + v4) - 7))) (mN_table (Int.toNat (((7 * v3) + v4) - 1))) x14 hx14) ⟨_, _, _, _, rfl, rfl, rfl, by decide +kernel, ⟨Nat.le_of_ble_eq_true rfl, Nat.le_of_ble_eq_true rfl⟩, uGinS u_22_23 u_23_0 u_1_5 u_23_1⟩ ?_
              obtain ⟨⟨g17_0, g17_1⟩, h⟩ := zgd h
              obtain ⟨x16, hx16, h⟩ := zbd h
              refine rs false 11 2 (rest := [(3, ((7 * v3) + v4)), (2, Int.ofNat 15)]) rfl rfl (And.intro g17_0 g17_1) rfl (m_M_X10_lesser l M0 M1 ([mN_names], [mN_lengths, mN_spelt, mN_signs, mN_table, mN_far]) M3 M4 M5 M6 ((mN_table (Int.toNat (((7 * v3) + v4) - 8))) + 1) (1 + x14) x16 hx16) ⟨_, _, _, _, rfl, rfl, rfl, by decide +kernel, ⟨Nat.le_of_ble_eq_true rfl, Nat.le_of_ble_eq_true rfl⟩, uGinS u_22_23 u_23_0 u_1_5 u_23_1⟩ ?_
              obtain ⟨g18_0, h⟩ := zgd h
              refine rb false 12 (σ2 := [M0, M1, ([mN_names], [mN_lengths, mN_spelt, mN_signs, (zu mN_table (Int.toNat ((7 * v3) + v4)) x16), mN_far]), M3, M4, M5, M6]) rfl rfl g18_0 ?_
              obtain ⟨g19_0, h⟩ := zgd h
              refine rg false 13 (t := 15) (L2 := [some (2, Int.ofNat 0), some (0, v1), some (0, v2), some (0, v3), some (0, (v4 + 1)), some (0, 1)]) rfl rfl rfl g19_0 ?_
              refine rmk [true, true, true, true, true, false] (L2 := [some (2, Int.ofNat 0), some (0, v1), some (0, v2), some (0, v3), some (0, (v4 + 1)), none]) rfl ?_
              exact ih v1 v2 v3 (v4 + 1) mN_names mN_lengths mN_spelt mN_signs (zu mN_table (Int.toNat ((7 * v3) + v4)) x16) mN_far y h k
  have LP2 : ∀ (n : Nat) (v1 : Int) (v2 : Int) (v3 : Int) (mN_names : Int) (mN_lengths : Nat → Int) (mN_spelt : Nat → Int) (mN_signs : Nat → Int) (mN_table : Nat → Int) (mN_far : Nat → Int) (y : Nat → Int), l_X10_slipsOf_2 n v1 v2 v3 mN_lengths mN_signs mN_table = some y → S 170 [some (2, Int.ofNat 0), some (0, v1), some (0, v2), none, none, none] [] [M0, M1, ([mN_names], [mN_lengths, mN_spelt, mN_signs, y, mN_far]), M3, M4, M5, M6] → S 2 [some (2, Int.ofNat 0), some (0, v1), some (0, v2), some (0, v3), none, none] [] [M0, M1, ([mN_names], [mN_lengths, mN_spelt, mN_signs, mN_table, mN_far]), M3, M4, M5, M6] := by
    intro n
    induction n with
    | zero =>
      intro v1 v2 v3 mN_names mN_lengths mN_spelt mN_signs mN_table mN_far y h k
      rw [l_X10_slipsOf_2] at h
      cases h
    | succ n ih =>
      intro v1 v2 v3 mN_names mN_lengths mN_spelt mN_signs mN_table mN_far y h k
      rw [l_X10_slipsOf_2] at h
      obtain ⟨g1_0, h⟩ := zgd h
      refine ri false 1 (q := (mN_lengths (Int.toNat v1)) < v3) (t1 := 170) (t2 := 12) rfl rfl g1_0 (fun c => ?_) (fun c => ?_)
      · replace h := zif1 c h
        refine rmk [true, true, true, false, false, false] (L2 := [some (2, Int.ofNat 0), some (0, v1), some (0, v2), none, none, none]) rfl ?_
        obtain rfl := Option.some.inj h
        exact k
      · replace h := zif2 c h
        refine rb false 2 (L2 := [some (2, Int.ofNat 0), some (0, v1), some (0, v2), some (0, v3), some (0, 0), none]) rfl rfl trivial ?_
        obtain ⟨x20, hx20, h⟩ := zbd h
        refine LP15 zN v1 v2 v3 0 mN_names mN_lengths mN_spelt mN_signs mN_table mN_far x20 hx20 ?_
        obtain ⟨g21_0, h⟩ := zgd h
        refine rg false 14 (t := 2) (L2 := [some (2, Int.ofNat 0), some (0, v1), some (0, v2), some (0, (v3 + 1)), none, none]) rfl rfl rfl g21_0 ?_
        exact ih v1 v2 (v3 + 1) mN_names mN_lengths mN_spelt mN_signs x20 mN_far y h k
  unfold f_X10_slipsOf at h
  refine rb false 0 (L2 := [some (2, Int.ofNat 0), some (0, p1), some (0, p2), some (0, 0), none, none]) rfl rfl trivial ?_
  obtain ⟨x22, hx22, h⟩ := zbd h
  refine LP2 zN p1 p2 0 mN_names mN_lengths mN_spelt mN_signs mN_table mN_far x22 hx22 ?_
  obtain ⟨⟨g23_0, g23_1, g23_2⟩, h⟩ := zgd h
  obtain rfl := Option.some.inj h
  exact r1 false 15 rfl rfl rfl rfl rfl rfl (And.intro g23_0 (And.intro g23_1 g23_2))
def bX10_slips : zB := [(0, [(.aload_n 0, 1), (.iload_n 1, 1)], 2, .invokevirtual 196, 3), (5, [], 5, .ifCond .eq 20, 3), (8, [(.aload_n 0, 1), (.iload_n 2, 1)], 10, .invokevirtual 196, 3), (13, [], 13, .ifCond .eq 12, 3), (16, [(.aload_n 0, 1), (.iload_n 1, 1), (.iload_n 2, 1)], 19, .invokevirtual 199, 3), (22, [], 22, .goto 5, 3), (25, [(.bipush (-2), 2)], 27, .nop, 0), (27, [], 27, .ireturn, 1)]
theorem bX10_slips_ok : zBok cX10_slips 3 bX10_slips = true := by decide +kernel
abbrev wX10_slips : List Cond := Cond.code yX10_slips cX10_slips 3 (some .int) :: uU
def rX10_slips : Room := { frames := 2, cells := 0, slots := 0, locals := 46 }
set_option maxRecDepth 20000 in
set_option maxHeartbeats 4000000 in
theorem m_M_X10_slips (l : Launch) (M0 : zM) (M1 : zM) (M3 : zM) (M4 : zM) (M5 : zM) (M6 : zM) (p1 : Int) (p2 : Int) (mN_names : Int) (mN_lengths : Nat → Int) (mN_spelt : Nat → Int) (mN_signs : Nat → Int) (mN_table : Nat → Int) (mN_far : Nat → Int) (x : Int × (Nat → Int)) (h : f_X10_slips p1 p2 mN_names mN_lengths mN_signs mN_table = some x) : zD l yX10_slips wX10_slips rX10_slips lamM shpM [(2, Int.ofNat 0), (0, p1), (0, p2)] [M0, M1, ([mN_names], [mN_lengths, mN_spelt, mN_signs, mN_table, mN_far]), M3, M4, M5, M6] (some (0, x.1)) [M0, M1, ([mN_names], [mN_lengths, mN_spelt, mN_signs, x.2, mN_far]), M3, M4, M5, M6] := by
  refine zD_of (B := bX10_slips) (E := eX10) (by decide) rfl lokM (eX10_ok _) bX10_slips_ok (Or.inl rfl) rfl (fun S R => ?_)
  obtain ⟨rb, rg, ri, rv, rs, r0, r1, r2, r3, rt, rmk⟩ := R
  show S 0 [some (2, Int.ofNat 0), some (0, p1), some (0, p2)] [] [M0, M1, ([mN_names], [mN_lengths, mN_spelt, mN_signs, mN_table, mN_far]), M3, M4, M5, M6]
  unfold f_X10_slips at h
  obtain ⟨x1, hx1, h⟩ := zbd h
  refine rv false 0 1 rfl rfl trivial rfl (m_M_X10_isName l M0 M1 M3 M4 M5 M6 p1 mN_names mN_lengths mN_spelt mN_signs mN_table mN_far x1 hx1) ⟨_, _, _, _, rfl, rfl, rfl, by decide +kernel, ⟨Nat.le_of_ble_eq_true rfl, Nat.le_of_ble_eq_true rfl⟩, uGin u_22_15 u_22_16 u_22_17 u_1_5 u_22_18⟩ ⟨rfl, _, _, _, rfl, rfl⟩ ?_
  refine ri false 1 (q := x1 = 0) (t1 := 25) (t2 := 8) rfl rfl trivial (fun c => ?_) (fun c => ?_)
  · replace h := zif1 c h
    refine rb false 6 (st2 := [(0, (-2))]) rfl rfl trivial ?_
    obtain rfl := Option.some.inj h
    exact r1 false 7 rfl rfl rfl rfl rfl rfl trivial
  · replace h := zif2 c h
    obtain ⟨x2, hx2, h⟩ := zbd h
    refine rv false 2 1 rfl rfl trivial rfl (m_M_X10_isName l M0 M1 M3 M4 M5 M6 p2 mN_names mN_lengths mN_spelt mN_signs mN_table mN_far x2 hx2) ⟨_, _, _, _, rfl, rfl, rfl, by decide +kernel, ⟨Nat.le_of_ble_eq_true rfl, Nat.le_of_ble_eq_true rfl⟩, uGin u_22_15 u_22_16 u_22_17 u_1_5 u_22_18⟩ ⟨rfl, _, _, _, rfl, rfl⟩ ?_
    refine ri false 3 (q := x2 = 0) (t1 := 25) (t2 := 16) rfl rfl trivial (fun c => ?_) (fun c => ?_)
    · replace h := zif1 c h
      refine rb false 6 (st2 := [(0, (-2))]) rfl rfl trivial ?_
      obtain rfl := Option.some.inj h
      exact r1 false 7 rfl rfl rfl rfl rfl rfl trivial
    · replace h := zif2 c h
      obtain ⟨x3, hx3, h⟩ := zbd h
      refine rv false 4 2 rfl rfl trivial rfl (m_M_X10_slipsOf l M0 M1 M3 M4 M5 M6 p1 p2 mN_names mN_lengths mN_spelt mN_signs mN_table mN_far x3 hx3) ⟨_, _, _, _, rfl, rfl, rfl, by decide +kernel, ⟨Nat.le_of_ble_eq_true rfl, Nat.le_of_ble_eq_true rfl⟩, uGin u_22_19 u_22_20 u_22_21 u_1_5 u_22_22⟩ ⟨rfl, _, _, _, rfl, rfl⟩ ?_
      refine rg false 5 (t := 27) (st2 := [(0, x3.1)]) rfl rfl rfl trivial ?_
      obtain rfl := Option.some.inj h
      exact r1 false 7 rfl rfl rfl rfl rfl rfl trivial
def bX10_step : zB := [(0, [(.aload_n 0, 1), (.iload_n 1, 1), (.iload_n 2, 1)], 3, .invokevirtual 199, 3), (6, [(.istore_n 3, 1), (.bipush 100, 2), (.iload_n 3, 1), (.imul, 1), (.iload_n 3, 1), (.imul, 1), (.iconst 1, 1), (.iadd, 1)], 15, .ireturn, 1)]
theorem bX10_step_ok : zBok cX10_step 4 bX10_step = true := by decide +kernel
abbrev wX10_step : List Cond := Cond.code yX10_step cX10_step 4 (some .int) :: uU
def rX10_step : Room := { frames := 2, cells := 0, slots := 0, locals := 46 }
set_option maxRecDepth 20000 in
set_option maxHeartbeats 4000000 in
theorem m_M_X10_step (l : Launch) (M0 : zM) (M1 : zM) (M3 : zM) (M4 : zM) (M5 : zM) (M6 : zM) (p1 : Int) (p2 : Int) (mN_names : Int) (mN_lengths : Nat → Int) (mN_spelt : Nat → Int) (mN_signs : Nat → Int) (mN_table : Nat → Int) (mN_far : Nat → Int) (x : Int × (Nat → Int)) (h : f_X10_step p1 p2 mN_lengths mN_signs mN_table = some x) : zD l yX10_step wX10_step rX10_step lamM shpM [(2, Int.ofNat 0), (0, p1), (0, p2)] [M0, M1, ([mN_names], [mN_lengths, mN_spelt, mN_signs, mN_table, mN_far]), M3, M4, M5, M6] (some (0, x.1)) [M0, M1, ([mN_names], [mN_lengths, mN_spelt, mN_signs, x.2, mN_far]), M3, M4, M5, M6] := by
  refine zD_of (B := bX10_step) (E := eX10) (by decide) rfl lokM (eX10_ok _) bX10_step_ok (Or.inl rfl) rfl (fun S R => ?_)
  obtain ⟨rb, rg, ri, rv, rs, r0, r1, r2, r3, rt, rmk⟩ := R
  show S 0 [some (2, Int.ofNat 0), some (0, p1), some (0, p2), none] [] [M0, M1, ([mN_names], [mN_lengths, mN_spelt, mN_signs, mN_table, mN_far]), M3, M4, M5, M6]
  unfold f_X10_step at h
  obtain ⟨x1, hx1, h⟩ := zbd h
  refine rv false 0 2 rfl rfl trivial rfl (m_M_X10_slipsOf l M0 M1 M3 M4 M5 M6 p1 p2 mN_names mN_lengths mN_spelt mN_signs mN_table mN_far x1 hx1) ⟨_, _, _, _, rfl, rfl, rfl, by decide +kernel, ⟨Nat.le_of_ble_eq_true rfl, Nat.le_of_ble_eq_true rfl⟩, uGin u_22_19 u_22_20 u_22_21 u_1_5 u_22_22⟩ ⟨rfl, _, _, _, rfl, rfl⟩ ?_
  obtain ⟨g2_0, h⟩ := zgd h
  obtain rfl := Option.some.inj h
  exact r1 false 1 (L2 := [some (2, Int.ofNat 0), some (0, p1), some (0, p2), some (0, x1.1)]) rfl rfl rfl rfl rfl rfl g2_0
def bX10_worn : zB := [(0, [(.aload_n 0, 1), (.iload_n 1, 1)], 2, .invokevirtual 196, 3), (5, [], 5, .ifCond .eq 16, 3), (8, [(.aload_n 0, 1), (.iload_n 2, 1)], 10, .invokevirtual 196, 3), (13, [], 13, .ifCond .eq 8, 3), (16, [(.iload_n 3, 1), (.iconst (-1), 1)], 18, .if_icmp .ge 6, 3), (21, [(.bipush (-10), 2)], 23, .ireturn, 1), (24, [(.iconst 0, 1), (.istore 4, 2)], 27, .nop, 0), (27, [(.iload 4, 2), (.aload_n 0, 1), (.getfield 190, 3)], 33, .if_icmp .ge 28, 3), (36, [(.aload_n 0, 1), (.getfield 55, 3), (.iload 4, 2), (.iload 4, 2), (.iload_n 2, 1)], 45, .if_icmp .ne 7, 3), (48, [(.iconst 0, 1)], 49, .goto 5, 3), (52, [(.ldc 174, 2)], 54, .nop, 0), (54, [(.iastore, 1), (.iinc 4 1, 3)], 58, .goto (-31), 3), (61, [(.iconst 0, 1), (.istore 4, 2)], 64, .nop, 0), (64, [(.iload 4, 2), (.aload_n 0, 1), (.getfield 190, 3)], 70, .if_icmp .ge 106, 3), (73, [(.iconst 0, 1), (.istore 5, 2)], 76, .nop, 0), (76, [(.iload 5, 2), (.aload_n 0, 1), (.getfield 190, 3)], 82, .if_icmp .ge 88, 3), (85, [(.iconst 0, 1), (.istore 6, 2)], 88, .nop, 0), (88, [(.iload 6, 2), (.aload_n 0, 1), (.getfield 190, 3)], 94, .if_icmp .ge 70, 3), (97, [(.iload 6, 2), (.iload 5, 2)], 101, .if_icmp .ne 8, 3), (104, [(.ldc 174, 2)], 106, .goto 19, 3), (109, [(.aload_n 0, 1), (.getfield 55, 3), (.iload 6, 2), (.iaload, 1), (.aload_n 0, 1), (.iload 5, 2), (.iload 6, 2)], 121, .invokevirtual 202, 3), (124, [(.iadd, 1)], 125, .nop, 0), (125, [(.istore 7, 2), (.aload_n 0, 1), (.getfield 55, 3), (.iload 5, 2), (.iload 7, 2), (.aload_n 0, 1), (.getfield 55, 3), (.iload 5, 2), (.iaload, 1)], 142, .if_icmp .ge 8, 3), (145, [(.iload 7, 2)], 147, .goto 10, 3), (150, [(.aload_n 0, 1), (.getfield 55, 3), (.iload 5, 2), (.iaload, 1)], 157, .nop, 0), (157, [(.iastore, 1), (.iinc 6 1, 3)], 161, .goto (-73), 3), (164, [(.iinc 5 1, 3)], 167, .goto (-91), 3), (170, [(.iinc 4 1, 3)], 173, .goto (-109), 3), (176, [(.iload_n 3, 1), (.iconst (-1), 1)], 178, .if_icmp .ne 13, 3), (181, [(.aload_n 0, 1), (.getfield 55, 3), (.iload_n 1, 1), (.iaload, 1), (.bipush 100, 2), (.idiv, 1)], 190, .ireturn, 1), (191, [(.iload_n 1, 1), (.istore 4, 2), (.iconst 0, 1), (.istore 5, 2)], 197, .nop, 0), (197, [(.iload 5, 2), (.iload_n 3, 1)], 200, .if_icmp .ge 86, 3), (203, [(.iload 4, 2), (.iload_n 2, 1)], 206, .if_icmp .ne 6, 3), (209, [(.bipush (-5), 2)], 211, .ireturn, 1), (212, [(.iconst (-1), 1), (.istore 6, 2), (.aload_n 0, 1), (.getfield 190, 3), (.iconst 1, 1), (.isub, 1), (.istore 7, 2)], 223, .nop, 0), (223, [(.iload 7, 2)], 225, .ifCond .lt 51, 3), (228, [(.iload 7, 2), (.iload 4, 2)], 232, .if_icmp .eq 34, 3), (235, [(.aload_n 0, 1), (.getfield 55, 3), (.iload 7, 2), (.iaload, 1), (.aload_n 0, 1), (.iload 4, 2), (.iload 7, 2)], 247, .invokevirtual 202, 3), (250, [(.iadd, 1), (.aload_n 0, 1), (.getfield 55, 3), (.iload 4, 2), (.iaload, 1)], 258, .if_icmp .ne 8, 3), (261, [(.iload 7, 2)], 263, .goto 5, 3), (266, [(.iload 6, 2)], 268, .nop, 0), (268, [(.istore 6, 2), (.iinc 7 (-1), 3)], 273, .goto (-50), 3), (276, [(.iload 6, 2), (.istore 4, 2), (.iinc 5 1, 3)], 283, .goto (-86), 3), (286, [(.iload 4, 2)], 288, .ireturn, 1)]
theorem bX10_worn_ok : zBok cX10_worn 8 bX10_worn = true := by decide +kernel
abbrev wX10_worn : List Cond := Cond.code yX10_worn cX10_worn 8 (some .int) :: uU
def rX10_worn : Room := { frames := 3, cells := 0, slots := 0, locals := 69 }
set_option maxRecDepth 20000 in
set_option maxHeartbeats 4000000 in
theorem m_M_X10_worn (l : Launch) (M0 : zM) (M1 : zM) (M3 : zM) (M4 : zM) (M5 : zM) (M6 : zM) (p1 : Int) (p2 : Int) (p3 : Int) (mN_names : Int) (mN_lengths : Nat → Int) (mN_spelt : Nat → Int) (mN_signs : Nat → Int) (mN_table : Nat → Int) (mN_far : Nat → Int) (x : Int × (Nat → Int) × (Nat → Int)) (h : f_X10_worn p1 p2 p3 mN_names mN_lengths mN_signs mN_table mN_far = some x) : zD l yX10_worn wX10_worn rX10_worn lamM shpM [(2, Int.ofNat 0), (0, p1), (0, p2), (0, p3)] [M0, M1, ([mN_names], [mN_lengths, mN_spelt, mN_signs, mN_table, mN_far]), M3, M4, M5, M6] (some (0, x.1)) [M0, M1, ([mN_names], [mN_lengths, mN_spelt, mN_signs, x.2.1, x.2.2]), M3, M4, M5, M6] := by
  refine zD_of (B := bX10_worn) (E := eX10) (by decide) rfl lokM (eX10_ok _) bX10_worn_ok (Or.inl rfl) rfl (fun S R => ?_)
  obtain ⟨rb, rg, ri, rv, rs, r0, r1, r2, r3, rt, rmk⟩ := R
  show S 0 [some (2, Int.ofNat 0), some (0, p1), some (0, p2), some (0, p3), none, none, none, none] [] [M0, M1, ([mN_names], [mN_lengths, mN_spelt, mN_signs, mN_table, mN_far]), M3, M4, M5, M6]
  have LP27 : ∀ (n : Nat) (v1 : Int) (v2 : Int) (v3 : Int) (v4 : Int) (mN_names : Int) (mN_lengths : Nat → Int) (mN_spelt : Nat → Int) (mN_signs : Nat → Int) (mN_table : Nat → Int) (mN_far : Nat → Int) (y : Nat → Int), l_X10_worn_27 n v1 v2 v3 v4 mN_names mN_far = some y → S 61 [some (2, Int.ofNat 0), some (0, v1), some (0, v2), some (0, v3), none, none, none, none] [] [M0, M1, ([mN_names], [mN_lengths, mN_spelt, mN_signs, mN_table, y]), M3, M4, M5, M6] → S 27 [some (2, Int.ofNat 0), some (0, v1), some (0, v2), some (0, v3), some (0, v4), none, none, none] [] [M0, M1, ([mN_names], [mN_lengths, mN_spelt, mN_signs, mN_table, mN_far]), M3, M4, M5, M6] := by
    intro n
    induction n with
    | zero =>
      intro v1 v2 v3 v4 mN_names mN_lengths mN_spelt mN_signs mN_table mN_far y h k
      rw [l_X10_worn_27] at h
      cases h
    | succ n ih =>
      intro v1 v2 v3 v4 mN_names mN_lengths mN_spelt mN_signs mN_table mN_far y h k
      rw [l_X10_worn_27] at h
      refine ri false 7 (q := v4 < mN_names) (t1 := 36) (t2 := 61) rfl rfl trivial (fun c => ?_) (fun c => ?_)
      · replace h := zif1 c h
        refine ri false 8 (q := v4 = v2) (t1 := 48) (t2 := 52) (st2 := [(0, v4), (2, Int.ofNat 16)]) rfl rfl trivial (fun c => ?_) (fun c => ?_)
        · replace h := zif1 c h
          refine rg false 9 (t := 54) (st2 := [(0, 0), (0, v4), (2, Int.ofNat 16)]) rfl rfl rfl trivial ?_
          obtain ⟨⟨g3_0, g3_1⟩, h⟩ := zgd h
          refine rg false 11 (t := 27) (L2 := [some (2, Int.ofNat 0), some (0, v1), some (0, v2), some (0, v3), some (0, (v4 + 1)), none, none, none]) (σ2 := [M0, M1, ([mN_names], [mN_lengths, mN_spelt, mN_signs, mN_table, (zu mN_far (Int.toNat v4) 0)]), M3, M4, M5, M6]) rfl rfl rfl (And.intro g3_0 g3_1) ?_
          exact ih v1 v2 v3 (v4 + 1) mN_names mN_lengths mN_spelt mN_signs mN_table (zu mN_far (Int.toNat v4) 0) y h k
        · replace h := zif2 c h
          refine rb false 10 (st2 := [(0, 1000000), (0, v4), (2, Int.ofNat 16)]) rfl rfl trivial ?_
          obtain ⟨⟨g4_0, g4_1⟩, h⟩ := zgd h
          refine rg false 11 (t := 27) (L2 := [some (2, Int.ofNat 0), some (0, v1), some (0, v2), some (0, v3), some (0, (v4 + 1)), none, none, none]) (σ2 := [M0, M1, ([mN_names], [mN_lengths, mN_spelt, mN_signs, mN_table, (zu mN_far (Int.toNat v4) 1000000)]), M3, M4, M5, M6]) rfl rfl rfl (And.intro g4_0 g4_1) ?_
          exact ih v1 v2 v3 (v4 + 1) mN_names mN_lengths mN_spelt mN_signs mN_table (zu mN_far (Int.toNat v4) 1000000) y h k
      · replace h := zif2 c h
        refine rmk [true, true, true, true, false, false, false, false] (L2 := [some (2, Int.ofNat 0), some (0, v1), some (0, v2), some (0, v3), none, none, none, none]) rfl ?_
        obtain rfl := Option.some.inj h
        exact k
  have LP88 : ∀ (n : Nat) (v1 : Int) (v2 : Int) (v3 : Int) (v4 : Int) (v5 : Int) (v6 : Int) (mN_names : Int) (mN_lengths : Nat → Int) (mN_spelt : Nat → Int) (mN_signs : Nat → Int) (mN_table : Nat → Int) (mN_far : Nat → Int) (y : (Nat → Int) × (Nat → Int)), l_X10_worn_88 n v1 v2 v3 v4 v5 v6 mN_names mN_lengths mN_signs mN_table mN_far = some y → S 164 [some (2, Int.ofNat 0), some (0, v1), some (0, v2), some (0, v3), some (0, v4), some (0, v5), none, none] [] [M0, M1, ([mN_names], [mN_lengths, mN_spelt, mN_signs, y.1, y.2]), M3, M4, M5, M6] → S 88 [some (2, Int.ofNat 0), some (0, v1), some (0, v2), some (0, v3), some (0, v4), some (0, v5), some (0, v6), none] [] [M0, M1, ([mN_names], [mN_lengths, mN_spelt, mN_signs, mN_table, mN_far]), M3, M4, M5, M6] := by
    intro n
    induction n with
    | zero =>
      intro v1 v2 v3 v4 v5 v6 mN_names mN_lengths mN_spelt mN_signs mN_table mN_far y h k
      rw [l_X10_worn_88] at h
      cases h
    | succ n ih =>
      intro v1 v2 v3 v4 v5 v6 mN_names mN_lengths mN_spelt mN_signs mN_table mN_far y h k
      rw [l_X10_worn_88] at h
      refine ri false 17 (q := v6 < mN_names) (t1 := 97) (t2 := 164) rfl rfl trivial (fun c => ?_) (fun c => ?_)
      · replace h := zif1 c h
        refine ri false 18 (q := v6 = v5) (t1 := 104) (t2 := 109) rfl rfl trivial (fun c => ?_) (fun c => ?_)
        · replace h := zif1 c h
          refine rg false 19 (t := 125) (st2 := [(0, 1000000)]) rfl rfl rfl trivial ?_
          obtain ⟨g6_0, h⟩ := zgd h
          refine ri false 22 (q := (1000000 : Int) < (mN_far (Int.toNat v5))) (t1 := 145) (t2 := 150) (L2 := [some (2, Int.ofNat 0), some (0, v1), some (0, v2), some (0, v3), some (0, v4), some (0, v5), some (0, v6), some (0, 1000000)]) (st2 := [(0, v5), (2, Int.ofNat 16)]) rfl rfl g6_0 (fun c => ?_) (fun c => ?_)
          · replace h := zif1 c h
            refine rg false 23 (t := 157) (st2 := [(0, 1000000), (0, v5), (2, Int.ofNat 16)]) rfl rfl rfl trivial ?_
            obtain ⟨⟨g7_0, g7_1⟩, h⟩ := zgd h
            refine rg false 25 (t := 88) (L2 := [some (2, Int.ofNat 0), some (0, v1), some (0, v2), some (0, v3), some (0, v4), some (0, v5), some (0, (v6 + 1)), some (0, 1000000)]) (σ2 := [M0, M1, ([mN_names], [mN_lengths, mN_spelt, mN_signs, mN_table, (zu mN_far (Int.toNat v5) 1000000)]), M3, M4, M5, M6]) rfl rfl rfl (And.intro g7_0 g7_1) ?_
            refine rmk [true, true, true, true, true, true, true, false] (L2 := [some (2, Int.ofNat 0), some (0, v1), some (0, v2), some (0, v3), some (0, v4), some (0, v5), some (0, (v6 + 1)), none]) rfl ?_
            exact ih v1 v2 v3 v4 v5 (v6 + 1) mN_names mN_lengths mN_spelt mN_signs mN_table (zu mN_far (Int.toNat v5) 1000000) y h k
          · replace h := zif2 c h
            obtain ⟨g8_0, h⟩ := zgd h
            refine rb false 24 (st2 := [(0, (mN_far (Int.toNat v5))), (0, v5), (2, Int.ofNat 16)]) rfl rfl g8_0 ?_
            obtain ⟨⟨g9_0, g9_1⟩, h⟩ := zgd h
            refine rg false 25 (t := 88) (L2 := [some (2, Int.ofNat 0), some (0, v1), some (0, v2), some (0, v3), some (0, v4), some (0, v5), some (0, (v6 + 1)), some (0, 1000000)]) (σ2 := [M0, M1, ([mN_names], [mN_lengths, mN_spelt, mN_signs, mN_table, (zu mN_far (Int.toNat v5) (mN_far (Int.toNat v5)))]), M3, M4, M5, M6]) rfl rfl rfl (And.intro g9_0 g9_1) ?_
            refine rmk [true, true, true, true, true, true, true, false] (L2 := [some (2, Int.ofNat 0), some (0, v1), some (0, v2), some (0, v3), some (0, v4), some (0, v5), some (0, (v6 + 1)), none]) rfl ?_
            exact ih v1 v2 v3 v4 v5 (v6 + 1) mN_names mN_lengths mN_spelt mN_signs mN_table (zu mN_far (Int.toNat v5) (mN_far (Int.toNat v5))) y h k
        · replace h := zif2 c h
          obtain ⟨g11_0, h⟩ := zgd h
          obtain ⟨x10, hx10, h⟩ := zbd h
          refine rv false 20 2 (rest := [(0, (mN_far (Int.toNat v6)))]) rfl rfl g11_0 rfl (m_M_X10_step l M0 M1 M3 M4 M5 M6 v5 v6 mN_names mN_lengths mN_spelt mN_signs mN_table mN_far x10 hx10) ⟨_, _, _, _, rfl, rfl, rfl, by decide +kernel, ⟨Nat.le_of_ble_eq_true rfl, Nat.le_of_ble_eq_true rfl⟩, uGin u_24_6 u_24_7 u_24_8 u_1_5 u_24_9⟩ ⟨rfl, _, _, _, rfl, rfl⟩ ?_
          refine rb false 21 (st2 := [(3, ((mN_far (Int.toNat v6)) + x10.1))]) rfl rfl trivial ?_
          obtain ⟨⟨g12_0, g12_1⟩, h⟩ := zgd h
          refine ri false 22 (q := ((mN_far (Int.toNat v6)) + x10.1) < (mN_far (Int.toNat v5))) (t1 := 145) (t2 := 150) (L2 := [some (2, Int.ofNat 0), some (0, v1), some (0, v2), some (0, v3), some (0, v4), some (0, v5), some (0, v6), some (0, ((mN_far (Int.toNat v6)) + x10.1))]) (st2 := [(0, v5), (2, Int.ofNat 16)]) rfl rfl (And.intro g12_0 g12_1) (fun c => ?_) (fun c => ?_)
          · replace h := zif1 c h
            refine rg false 23 (t := 157) (st2 := [(0, ((mN_far (Int.toNat v6)) + x10.1)), (0, v5), (2, Int.ofNat 16)]) rfl rfl rfl trivial ?_
            obtain ⟨⟨g13_0, g13_1⟩, h⟩ := zgd h
            refine rg false 25 (t := 88) (L2 := [some (2, Int.ofNat 0), some (0, v1), some (0, v2), some (0, v3), some (0, v4), some (0, v5), some (0, (v6 + 1)), some (0, ((mN_far (Int.toNat v6)) + x10.1))]) (σ2 := [M0, M1, ([mN_names], [mN_lengths, mN_spelt, mN_signs, x10.2, (zu mN_far (Int.toNat v5) ((mN_far (Int.toNat v6)) + x10.1))]), M3, M4, M5, M6]) rfl rfl rfl (And.intro g13_0 g13_1) ?_
            refine rmk [true, true, true, true, true, true, true, false] (L2 := [some (2, Int.ofNat 0), some (0, v1), some (0, v2), some (0, v3), some (0, v4), some (0, v5), some (0, (v6 + 1)), none]) rfl ?_
            exact ih v1 v2 v3 v4 v5 (v6 + 1) mN_names mN_lengths mN_spelt mN_signs x10.2 (zu mN_far (Int.toNat v5) ((mN_far (Int.toNat v6)) + x10.1)) y h k
          · replace h := zif2 c h
            obtain ⟨g14_0, h⟩ := zgd h
            refine rb false 24 (st2 := [(0, (mN_far (Int.toNat v5))), (0, v5), (2, Int.ofNat 16)]) rfl rfl g14_0 ?_
            obtain ⟨⟨g15_0, g15_1⟩, h⟩ := zgd h
            refine rg false 25 (t := 88) (L2 := [some (2, Int.ofNat 0), some (0, v1), some (0, v2), some (0, v3), some (0, v4), some (0, v5), some (0, (v6 + 1)), some (0, ((mN_far (Int.toNat v6)) + x10.1))]) (σ2 := [M0, M1, ([mN_names], [mN_lengths, mN_spelt, mN_signs, x10.2, (zu mN_far (Int.toNat v5) (mN_far (Int.toNat v5)))]), M3, M4, M5, M6]) rfl rfl rfl (And.intro g15_0 g15_1) ?_
            refine rmk [true, true, true, true, true, true, true, false] (L2 := [some (2, Int.ofNat 0), some (0, v1), some (0, v2), some (0, v3), some (0, v4), some (0, v5), some (0, (v6 + 1)), none]) rfl ?_
            exact ih v1 v2 v3 v4 v5 (v6 + 1) mN_names mN_lengths mN_spelt mN_signs x10.2 (zu mN_far (Int.toNat v5) (mN_far (Int.toNat v5))) y h k
      · replace h := zif2 c h
        refine rmk [true, true, true, true, true, true, false, false] (L2 := [some (2, Int.ofNat 0), some (0, v1), some (0, v2), some (0, v3), some (0, v4), some (0, v5), none, none]) rfl ?_
        obtain rfl := Option.some.inj h
        exact k
  have LP76 : ∀ (n : Nat) (v1 : Int) (v2 : Int) (v3 : Int) (v4 : Int) (v5 : Int) (mN_names : Int) (mN_lengths : Nat → Int) (mN_spelt : Nat → Int) (mN_signs : Nat → Int) (mN_table : Nat → Int) (mN_far : Nat → Int) (y : (Nat → Int) × (Nat → Int)), l_X10_worn_76 n v1 v2 v3 v4 v5 mN_names mN_lengths mN_signs mN_table mN_far = some y → S 170 [some (2, Int.ofNat 0), some (0, v1), some (0, v2), some (0, v3), some (0, v4), none, none, none] [] [M0, M1, ([mN_names], [mN_lengths, mN_spelt, mN_signs, y.1, y.2]), M3, M4, M5, M6] → S 76 [some (2, Int.ofNat 0), some (0, v1), some (0, v2), some (0, v3), some (0, v4), some (0, v5), none, none] [] [M0, M1, ([mN_names], [mN_lengths, mN_spelt, mN_signs, mN_table, mN_far]), M3, M4, M5, M6] := by
    intro n
    induction n with
    | zero =>
      intro v1 v2 v3 v4 v5 mN_names mN_lengths mN_spelt mN_signs mN_table mN_far y h k
      rw [l_X10_worn_76] at h
      cases h
    | succ n ih =>
      intro v1 v2 v3 v4 v5 mN_names mN_lengths mN_spelt mN_signs mN_table mN_far y h k
      rw [l_X10_worn_76] at h
      refine ri false 15 (q := v5 < mN_names) (t1 := 85) (t2 := 170) rfl rfl trivial (fun c => ?_) (fun c => ?_)
      · replace h := zif1 c h
        refine rb false 16 (L2 := [some (2, Int.ofNat 0), some (0, v1), some (0, v2), some (0, v3), some (0, v4), some (0, v5), some (0, 0), none]) rfl rfl trivial ?_
        obtain ⟨x16, hx16, h⟩ := zbd h
        refine LP88 zN v1 v2 v3 v4 v5 0 mN_names mN_lengths mN_spelt mN_signs mN_table mN_far x16 hx16 ?_
        obtain ⟨g17_0, h⟩ := zgd h
        refine rg false 26 (t := 76) (L2 := [some (2, Int.ofNat 0), some (0, v1), some (0, v2), some (0, v3), some (0, v4), some (0, (v5 + 1)), none, none]) rfl rfl rfl g17_0 ?_
        exact ih v1 v2 v3 v4 (v5 + 1) mN_names mN_lengths mN_spelt mN_signs x16.1 x16.2 y h k
      · replace h := zif2 c h
        refine rmk [true, true, true, true, true, false, false, false] (L2 := [some (2, Int.ofNat 0), some (0, v1), some (0, v2), some (0, v3), some (0, v4), none, none, none]) rfl ?_
        obtain rfl := Option.some.inj h
        exact k
  have LP64 : ∀ (n : Nat) (v1 : Int) (v2 : Int) (v3 : Int) (v4 : Int) (mN_names : Int) (mN_lengths : Nat → Int) (mN_spelt : Nat → Int) (mN_signs : Nat → Int) (mN_table : Nat → Int) (mN_far : Nat → Int) (y : (Nat → Int) × (Nat → Int)), l_X10_worn_64 n v1 v2 v3 v4 mN_names mN_lengths mN_signs mN_table mN_far = some y → S 176 [some (2, Int.ofNat 0), some (0, v1), some (0, v2), some (0, v3), none, none, none, none] [] [M0, M1, ([mN_names], [mN_lengths, mN_spelt, mN_signs, y.1, y.2]), M3, M4, M5, M6] → S 64 [some (2, Int.ofNat 0), some (0, v1), some (0, v2), some (0, v3), some (0, v4), none, none, none] [] [M0, M1, ([mN_names], [mN_lengths, mN_spelt, mN_signs, mN_table, mN_far]), M3, M4, M5, M6] := by
    intro n
    induction n with
    | zero =>
      intro v1 v2 v3 v4 mN_names mN_lengths mN_spelt mN_signs mN_table mN_far y h k
      rw [l_X10_worn_64] at h
      cases h
    | succ n ih =>
      intro v1 v2 v3 v4 mN_names mN_lengths mN_spelt mN_signs mN_table mN_far y h k
      rw [l_X10_worn_64] at h
      refine ri false 13 (q := v4 < mN_names) (t1 := 73) (t2 := 176) rfl rfl trivial (fun c => ?_) (fun c => ?_)
      · replace h := zif1 c h
        refine rb false 14 (L2 := [some (2, Int.ofNat 0), some (0, v1), some (0, v2), some (0, v3), some (0, v4), some (0, 0), none, none]) rfl rfl trivial ?_
        obtain ⟨x18, hx18, h⟩ := zbd h
        refine LP76 zN v1 v2 v3 v4 0 mN_names mN_lengths mN_spelt mN_signs mN_table mN_far x18 hx18 ?_
        obtain ⟨g19_0, h⟩ := zgd h
        refine rg false 27 (t := 64) (L2 := [some (2, Int.ofNat 0), some (0, v1), some (0, v2), some (0, v3), some (0, (v4 + 1)), none, none, none]) rfl rfl rfl g19_0 ?_
        exact ih v1 v2 v3 (v4 + 1) mN_names mN_lengths mN_spelt mN_signs x18.1 x18.2 y h k
      · replace h := zif2 c h
        refine rmk [true, true, true, true, false, false, false, false] (L2 := [some (2, Int.ofNat 0), some (0, v1), some (0, v2), some (0, v3), none, none, none, none]) rfl ?_
        obtain rfl := Option.some.inj h
        exact k
  have LP223 : ∀ (n : Nat) (v2 : Int) (v3 : Int) (v4 : Int) (v5 : Int) (v6 : Int) (v7 : Int) (mN_names : Int) (mN_lengths : Nat → Int) (mN_spelt : Nat → Int) (mN_signs : Nat → Int) (mN_table : Nat → Int) (mN_far : Nat → Int) (y : Int × (Nat → Int)), l_X10_worn_223 n v2 v3 v4 v5 v6 v7 mN_lengths mN_signs mN_table mN_far = some y → S 276 [some (2, Int.ofNat 0), none, some (0, v2), some (0, v3), none, some (0, v5), some (0, y.1), none] [] [M0, M1, ([mN_names], [mN_lengths, mN_spelt, mN_signs, y.2, mN_far]), M3, M4, M5, M6] → S 223 [some (2, Int.ofNat 0), none, some (0, v2), some (0, v3), some (0, v4), some (0, v5), some (0, v6), some (0, v7)] [] [M0, M1, ([mN_names], [mN_lengths, mN_spelt, mN_signs, mN_table, mN_far]), M3, M4, M5, M6] := by
    intro n
    induction n with
    | zero =>
      intro v2 v3 v4 v5 v6 v7 mN_names mN_lengths mN_spelt mN_signs mN_table mN_far y h k
      rw [l_X10_worn_223] at h
      cases h
    | succ n ih =>
      intro v2 v3 v4 v5 v6 v7 mN_names mN_lengths mN_spelt mN_signs mN_table mN_far y h k
      rw [l_X10_worn_223] at h
      refine ri false 35 (q := v7 < 0) (t1 := 276) (t2 := 228) rfl rfl trivial (fun c => ?_) (fun c => ?_)
      · replace h := zif1 c h
        refine rmk [true, false, true, true, false, true, true, false] (L2 := [some (2, Int.ofNat 0), none, some (0, v2), some (0, v3), none, some (0, v5), some (0, v6), none]) rfl ?_
        obtain rfl := Option.some.inj h
        exact k
      · replace h := zif2 c h
        refine ri false 36 (q := v7 = v4) (t1 := 266) (t2 := 235) rfl rfl trivial (fun c => ?_) (fun c => ?_)
        · replace h := zif1 c h
          refine rb false 40 (st2 := [(0, v6)]) rfl rfl trivial ?_
          obtain ⟨g23_0, h⟩ := zgd h
          refine rg false 41 (t := 223) (L2 := [some (2, Int.ofNat 0), none, some (0, v2), some (0, v3), some (0, v4), some (0, v5), some (0, v6), some (0, (v7 + (-1)))]) rfl rfl rfl g23_0 ?_
          exact ih v2 v3 v4 v5 v6 (v7 + (-1)) mN_names mN_lengths mN_spelt mN_signs mN_table mN_far y h k
        · replace h := zif2 c h
          obtain ⟨g25_0, h⟩ := zgd h
          obtain ⟨x24, hx24, h⟩ := zbd h
          refine rv false 37 2 (rest := [(0, (mN_far (Int.toNat v7)))]) rfl rfl g25_0 rfl (m_M_X10_step l M0 M1 M3 M4 M5 M6 v4 v7 mN_names mN_lengths mN_spelt mN_signs mN_table mN_far x24 hx24) ⟨_, _, _, _, rfl, rfl, rfl, by decide +kernel, ⟨Nat.le_of_ble_eq_true rfl, Nat.le_of_ble_eq_true rfl⟩, uGin u_24_6 u_24_7 u_24_8 u_1_5 u_24_9⟩ ⟨rfl, _, _, _, rfl, rfl⟩ ?_
          obtain ⟨⟨g26_0, g26_1⟩, h⟩ := zgd h
          refine ri false 38 (q := ((mN_far (Int.toNat v7)) + x24.1) = (mN_far (Int.toNat v4))) (t1 := 261) (t2 := 266) rfl rfl (And.intro g26_0 g26_1) (fun c => ?_) (fun c => ?_)
          · replace h := zif1 c h
            refine rg false 39 (t := 268) (st2 := [(0, v7)]) rfl rfl rfl trivial ?_
            obtain ⟨g27_0, h⟩ := zgd h
            refine rg false 41 (t := 223) (L2 := [some (2, Int.ofNat 0), none, some (0, v2), some (0, v3), some (0, v4), some (0, v5), some (0, v7), some (0, (v7 + (-1)))]) rfl rfl rfl g27_0 ?_
            exact ih v2 v3 v4 v5 v7 (v7 + (-1)) mN_names mN_lengths mN_spelt mN_signs x24.2 mN_far y h k
          · replace h := zif2 c h
            refine rb false 40 (st2 := [(0, v6)]) rfl rfl trivial ?_
            obtain ⟨g28_0, h⟩ := zgd h
            refine rg false 41 (t := 223) (L2 := [some (2, Int.ofNat 0), none, some (0, v2), some (0, v3), some (0, v4), some (0, v5), some (0, v6), some (0, (v7 + (-1)))]) rfl rfl rfl g28_0 ?_
            exact ih v2 v3 v4 v5 v6 (v7 + (-1)) mN_names mN_lengths mN_spelt mN_signs x24.2 mN_far y h k
  have LP197 : ∀ (n : Nat) (v2 : Int) (v3 : Int) (v4 : Int) (v5 : Int) (mN_table : Nat → Int) (mN_far : Nat → Int), l_X10_worn_197 n v2 v3 v4 v5 mN_names mN_lengths mN_signs mN_table mN_far = some x → S 197 [some (2, Int.ofNat 0), none, some (0, v2), some (0, v3), some (0, v4), some (0, v5), none, none] [] [M0, M1, ([mN_names], [mN_lengths, mN_spelt, mN_signs, mN_table, mN_far]), M3, M4, M5, M6] := by
    intro n
    induction n with
    | zero =>
      intro v2 v3 v4 v5 mN_table mN_far h
      rw [l_X10_worn_197] at h
      cases h
    | succ n ih =>
      intro v2 v3 v4 v5 mN_table mN_far h
      rw [l_X10_worn_197] at h
      refine ri false 31 (q := v5 < v3) (t1 := 203) (t2 := 286) rfl rfl trivial (fun c => ?_) (fun c => ?_)
      · replace h := zif1 c h
        refine ri false 32 (q := v4 = v2) (t1 := 209) (t2 := 212) rfl rfl trivial (fun c => ?_) (fun c => ?_)
        · replace h := zif1 c h
          obtain rfl := Option.some.inj h
          exact r1 false 33 rfl rfl rfl rfl rfl rfl trivial
        · replace h := zif2 c h
          obtain ⟨g22_0, h⟩ := zgd h
          refine rb false 34 (L2 := [some (2, Int.ofNat 0), none, some (0, v2), some (0, v3), some (0, v4), some (0, v5), some (0, (-1)), some (0, (mN_names - 1))]) rfl rfl g22_0 ?_
          obtain ⟨x29, hx29, h⟩ := zbd h
          refine LP223 zN v2 v3 v4 v5 (-1) (mN_names - 1) mN_names mN_lengths mN_spelt mN_signs mN_table mN_far x29 hx29 ?_
          obtain ⟨g30_0, h⟩ := zgd h
          refine rg false 42 (t := 197) (L2 := [some (2, Int.ofNat 0), none, some (0, v2), some (0, v3), some (0, x29.1), some (0, (v5 + 1)), some (0, x29.1), none]) rfl rfl rfl g30_0 ?_
          refine rmk [true, false, true, true, true, true, false, false] (L2 := [some (2, Int.ofNat 0), none, some (0, v2), some (0, v3), some (0, x29.1), some (0, (v5 + 1)), none, none]) rfl ?_
          exact ih v2 v3 x29.1 (v5 + 1) x29.2 mN_far h
      · replace h := zif2 c h
        obtain rfl := Option.some.inj h
        exact r1 false 43 rfl rfl rfl rfl rfl rfl trivial
  unfold f_X10_worn at h
  obtain ⟨x1, hx1, h⟩ := zbd h
  refine rv false 0 1 rfl rfl trivial rfl (m_M_X10_isName l M0 M1 M3 M4 M5 M6 p1 mN_names mN_lengths mN_spelt mN_signs mN_table mN_far x1 hx1) ⟨_, _, _, _, rfl, rfl, rfl, by decide +kernel, ⟨Nat.le_of_ble_eq_true rfl, Nat.le_of_ble_eq_true rfl⟩, uGin u_22_15 u_22_16 u_22_17 u_1_5 u_22_18⟩ ⟨rfl, _, _, _, rfl, rfl⟩ ?_
  refine ri false 1 (q := x1 = 0) (t1 := 21) (t2 := 8) rfl rfl trivial (fun c => ?_) (fun c => ?_)
  · replace h := zif1 c h
    obtain rfl := Option.some.inj h
    exact r1 false 5 rfl rfl rfl rfl rfl rfl trivial
  · replace h := zif2 c h
    obtain ⟨x2, hx2, h⟩ := zbd h
    refine rv false 2 1 rfl rfl trivial rfl (m_M_X10_isName l M0 M1 M3 M4 M5 M6 p2 mN_names mN_lengths mN_spelt mN_signs mN_table mN_far x2 hx2) ⟨_, _, _, _, rfl, rfl, rfl, by decide +kernel, ⟨Nat.le_of_ble_eq_true rfl, Nat.le_of_ble_eq_true rfl⟩, uGin u_22_15 u_22_16 u_22_17 u_1_5 u_22_18⟩ ⟨rfl, _, _, _, rfl, rfl⟩ ?_
    refine ri false 3 (q := x2 = 0) (t1 := 21) (t2 := 16) rfl rfl trivial (fun c => ?_) (fun c => ?_)
    · replace h := zif1 c h
      obtain rfl := Option.some.inj h
      exact r1 false 5 rfl rfl rfl rfl rfl rfl trivial
    · replace h := zif2 c h
      refine ri false 4 (q := p3 < (-1)) (t1 := 21) (t2 := 24) rfl rfl trivial (fun c => ?_) (fun c => ?_)
      · replace h := zif1 c h
        obtain rfl := Option.some.inj h
        exact r1 false 5 rfl rfl rfl rfl rfl rfl trivial
      · replace h := zif2 c h
        refine rb false 6 (L2 := [some (2, Int.ofNat 0), some (0, p1), some (0, p2), some (0, p3), some (0, 0), none, none, none]) rfl rfl trivial ?_
        obtain ⟨x5, hx5, h⟩ := zbd h
        refine LP27 zN p1 p2 p3 0 mN_names mN_lengths mN_spelt mN_signs mN_table mN_far x5 hx5 ?_
        refine rb false 12 (L2 := [some (2, Int.ofNat 0), some (0, p1), some (0, p2), some (0, p3), some (0, 0), none, none, none]) rfl rfl trivial ?_
        obtain ⟨x20, hx20, h⟩ := zbd h
        refine LP64 zN p1 p2 p3 0 mN_names mN_lengths mN_spelt mN_signs mN_table x5 x20 hx20 ?_
        refine ri false 28 (q := p3 = (-1)) (t1 := 181) (t2 := 191) rfl rfl trivial (fun c => ?_) (fun c => ?_)
        · replace h := zif1 c h
          obtain ⟨⟨g21_0, g21_1⟩, h⟩ := zgd h
          obtain rfl := Option.some.inj h
          exact r1 false 29 rfl rfl rfl rfl rfl rfl (And.intro g21_0 (And.intro (show (100 : Int) ≠ 0 by decide) g21_1))
        · replace h := zif2 c h
          refine rb false 30 (L2 := [some (2, Int.ofNat 0), some (0, p1), some (0, p2), some (0, p3), some (0, p1), some (0, 0), none, none]) rfl rfl trivial ?_
          refine rmk [true, false, true, true, true, true, false, false] (L2 := [some (2, Int.ofNat 0), none, some (0, p2), some (0, p3), some (0, p1), some (0, 0), none, none]) rfl ?_
          exact LP197 zN p2 p3 p1 0 x20.1 x20.2 h
def bX10_habit : zB := [(0, [(.iload_n 1, 1), (.i2l, 1), (.lconst 0, 1), (.ldc2_w 140, 3)], 6, .invokestatic 123, 3), (9, [], 9, .ifCond .eq 15, 3), (12, [(.iload_n 2, 1), (.i2l, 1), (.lconst 0, 1), (.ldc2_w 205, 3)], 18, .invokestatic 123, 3), (21, [], 21, .ifCond .ne 6, 3), (24, [(.bipush (-2), 2)], 26, .ireturn, 1), (27, [(.aload_n 0, 1), (.getfield 58, 3), (.iload_n 1, 1), (.iaload, 1), (.istore_n 3, 1), (.aload_n 0, 1), (.getfield 58, 3), (.iload_n 1, 1), (.iload_n 2, 1), (.iastore, 1)], 41, .nop, 0), (41, [(.iload_n 3, 1)], 42, .ireturn, 1)]
theorem bX10_habit_ok : zBok cX10_habit 4 bX10_habit = true := by decide +kernel
abbrev wX10_habit : List Cond := Cond.code yX10_habit cX10_habit 4 (some .int) :: uU
def rX10_habit : Room := { frames := 1, cells := 0, slots := 0, locals := 25 }
set_option maxRecDepth 20000 in
set_option maxHeartbeats 4000000 in
theorem m_M_X10_habit (l : Launch) (M0 : zM) (M1 : zM) (M2 : zM) (M4 : zM) (M5 : zM) (M6 : zM) (p1 : Int) (p2 : Int) (mH_habits : Nat → Int) (x : Int × (Nat → Int)) (h : f_X10_habit p1 p2 mH_habits = some x) : zD l yX10_habit wX10_habit rX10_habit lamM shpM [(2, Int.ofNat 0), (0, p1), (0, p2)] [M0, M1, M2, ([], [mH_habits]), M4, M5, M6] (some (0, x.1)) [M0, M1, M2, ([], [x.2]), M4, M5, M6] := by
  refine zD_of (B := bX10_habit) (E := eX10) (by decide) rfl lokM (eX10_ok _) bX10_habit_ok (Or.inl rfl) rfl (fun S R => ?_)
  obtain ⟨rb, rg, ri, rv, rs, r0, r1, r2, r3, rt, rmk⟩ := R
  show S 0 [some (2, Int.ofNat 0), some (0, p1), some (0, p2), none] [] [M0, M1, M2, ([], [mH_habits]), M4, M5, M6]
  unfold f_X10_habit at h
  obtain ⟨x1, hx1, h⟩ := zbd h
  refine rs false 0 3 rfl rfl trivial rfl (m_M_X10_in l M0 M1 M2 ([], [mH_habits]) M4 M5 M6 p1 0 9 x1 hx1) ⟨_, _, _, _, rfl, rfl, rfl, by decide +kernel, ⟨Nat.le_of_ble_eq_true rfl, Nat.le_of_ble_eq_true rfl⟩, uGinS u_9_14 u_9_15 u_1_5 u_9_16⟩ ?_
  refine ri false 1 (q := x1 = 0) (t1 := 24) (t2 := 12) rfl rfl trivial (fun c => ?_) (fun c => ?_)
  · replace h := zif1 c h
    obtain rfl := Option.some.inj h
    exact r1 false 4 rfl rfl rfl rfl rfl rfl trivial
  · replace h := zif2 c h
    obtain ⟨x2, hx2, h⟩ := zbd h
    refine rs false 2 3 rfl rfl trivial rfl (m_M_X10_in l M0 M1 M2 ([], [mH_habits]) M4 M5 M6 p2 0 100 x2 hx2) ⟨_, _, _, _, rfl, rfl, rfl, by decide +kernel, ⟨Nat.le_of_ble_eq_true rfl, Nat.le_of_ble_eq_true rfl⟩, uGinS u_9_14 u_9_15 u_1_5 u_9_16⟩ ?_
    refine ri false 3 (q := x2 = 0) (t1 := 24) (t2 := 27) rfl rfl trivial (fun c => ?_) (fun c => ?_)
    · replace h := zif1 c h
      obtain rfl := Option.some.inj h
      exact r1 false 4 rfl rfl rfl rfl rfl rfl trivial
    · replace h := zif2 c h
      obtain ⟨⟨g3_0, g3_1⟩, h⟩ := zgd h
      refine rb false 5 (L2 := [some (2, Int.ofNat 0), some (0, p1), some (0, p2), some (0, (mH_habits (Int.toNat p1)))]) (σ2 := [M0, M1, M2, ([], [(zu mH_habits (Int.toNat p1) p2)]), M4, M5, M6]) rfl rfl (And.intro g3_0 g3_1) ?_
      obtain rfl := Option.some.inj h
      exact r1 false 6 rfl rfl rfl rfl rfl rfl trivial
def bX10_weights : zB := [(0, [(.iconst 0, 1), (.istore_n 1, 1), (.iconst 0, 1), (.istore_n 2, 1)], 4, .nop, 0), (4, [(.iload_n 2, 1), (.bipush 10, 2)], 7, .if_icmp .ge 18, 3), (10, [(.iload_n 1, 1), (.aload_n 0, 1), (.getfield 58, 3), (.iload_n 2, 1), (.iaload, 1), (.iadd, 1), (.istore_n 1, 1), (.iinc 2 1, 3)], 22, .goto (-18), 3), (25, [(.iload_n 1, 1)], 26, .ireturn, 1)]
theorem bX10_weights_ok : zBok cX10_weights 3 bX10_weights = true := by decide +kernel
abbrev wX10_weights : List Cond := Cond.code yX10_weights cX10_weights 3 (some .int) :: uU
def rX10_weights : Room := { frames := 0, cells := 0, slots := 0, locals := 0 }
set_option maxRecDepth 20000 in
set_option maxHeartbeats 4000000 in
theorem m_M_X10_weights (l : Launch) (M0 : zM) (M1 : zM) (M2 : zM) (M4 : zM) (M5 : zM) (M6 : zM) (mH_habits : Nat → Int) (x : Int) (h : f_X10_weights mH_habits = some x) : zD l yX10_weights wX10_weights rX10_weights lamM shpM [(2, Int.ofNat 0)] [M0, M1, M2, ([], [mH_habits]), M4, M5, M6] (some (0, x)) [M0, M1, M2, ([], [mH_habits]), M4, M5, M6] := by
  refine zD_of (B := bX10_weights) (E := eX10) (by decide) rfl lokM (eX10_ok _) bX10_weights_ok (Or.inl rfl) rfl (fun S R => ?_)
  obtain ⟨rb, rg, ri, rv, rs, r0, r1, r2, r3, rt, rmk⟩ := R
  show S 0 [some (2, Int.ofNat 0), none, none] [] [M0, M1, M2, ([], [mH_habits]), M4, M5, M6]
  have LP4 : ∀ (n : Nat) (v1 : Int) (v2 : Int) (mH_habits : Nat → Int) (y : Int), l_X10_weights_4 n v1 v2 mH_habits = some y → S 25 [none, some (0, y), none] [] [M0, M1, M2, ([], [mH_habits]), M4, M5, M6] → S 4 [some (2, Int.ofNat 0), some (0, v1), some (0, v2)] [] [M0, M1, M2, ([], [mH_habits]), M4, M5, M6] := by
    intro n
    induction n with
    | zero =>
      intro v1 v2 mH_habits y h k
      rw [l_X10_weights_4] at h
      cases h
    | succ n ih =>
      intro v1 v2 mH_habits y h k
      rw [l_X10_weights_4] at h
      refine ri false 1 (q := v2 < 10) (t1 := 10) (t2 := 25) rfl rfl trivial (fun c => ?_) (fun c => ?_)
      · replace h := zif1 c h
        obtain ⟨⟨g1_0, g1_1, g1_2⟩, h⟩ := zgd h
        refine rg false 2 (t := 4) (L2 := [some (2, Int.ofNat 0), some (0, (v1 + (mH_habits (Int.toNat v2)))), some (0, (v2 + 1))]) rfl rfl rfl (And.intro g1_0 (And.intro g1_1 g1_2)) ?_
        exact ih (v1 + (mH_habits (Int.toNat v2))) (v2 + 1) mH_habits y h k
      · replace h := zif2 c h
        refine rmk [false, true, false] (L2 := [none, some (0, v1), none]) rfl ?_
        obtain rfl := Option.some.inj h
        exact k
  unfold f_X10_weights at h
  refine rb false 0 (L2 := [some (2, Int.ofNat 0), some (0, 0), some (0, 0)]) rfl rfl trivial ?_
  obtain ⟨x2, hx2, h⟩ := zbd h
  refine LP4 zN 0 0 mH_habits x2 hx2 ?_
  obtain rfl := Option.some.inj h
  exact r1 false 3 rfl rfl rfl rfl rfl rfl trivial
def bX10_copiesOfAll : zB := [(0, [(.iconst 0, 1), (.istore_n 1, 1), (.iconst 0, 1), (.istore_n 2, 1)], 4, .nop, 0), (4, [(.iload_n 2, 1), (.bipush 10, 2)], 7, .if_icmp .ge 20, 3), (10, [(.iload_n 1, 1), (.iload_n 2, 1), (.aload_n 0, 1), (.getfield 58, 3), (.iload_n 2, 1), (.iaload, 1), (.imul, 1), (.iadd, 1), (.istore_n 1, 1)], 21, .nop, 0), (21, [(.iinc 2 1, 3)], 24, .goto (-20), 3), (27, [(.iload_n 1, 1)], 28, .ireturn, 1)]
theorem bX10_copiesOfAll_ok : zBok cX10_copiesOfAll 3 bX10_copiesOfAll = true := by decide +kernel
abbrev wX10_copiesOfAll : List Cond := Cond.code yX10_copiesOfAll cX10_copiesOfAll 3 (some .int) :: uU
def rX10_copiesOfAll : Room := { frames := 0, cells := 0, slots := 0, locals := 0 }
set_option maxRecDepth 20000 in
set_option maxHeartbeats 4000000 in
theorem m_M_X10_copiesOfAll (l : Launch) (M0 : zM) (M1 : zM) (M2 : zM) (M4 : zM) (M5 : zM) (M6 : zM) (mH_habits : Nat → Int) (x : Int) (h : f_X10_copiesOfAll mH_habits = some x) : zD l yX10_copiesOfAll wX10_copiesOfAll rX10_copiesOfAll lamM shpM [(2, Int.ofNat 0)] [M0, M1, M2, ([], [mH_habits]), M4, M5, M6] (some (0, x)) [M0, M1, M2, ([], [mH_habits]), M4, M5, M6] := by
  refine zD_of (B := bX10_copiesOfAll) (E := eX10) (by decide) rfl lokM (eX10_ok _) bX10_copiesOfAll_ok (Or.inl rfl) rfl (fun S R => ?_)
  obtain ⟨rb, rg, ri, rv, rs, r0, r1, r2, r3, rt, rmk⟩ := R
  show S 0 [some (2, Int.ofNat 0), none, none] [] [M0, M1, M2, ([], [mH_habits]), M4, M5, M6]
  have LP4 : ∀ (n : Nat) (v1 : Int) (v2 : Int) (mH_habits : Nat → Int) (y : Int), l_X10_copiesOfAll_4 n v1 v2 mH_habits = some y → S 27 [none, some (0, y), none] [] [M0, M1, M2, ([], [mH_habits]), M4, M5, M6] → S 4 [some (2, Int.ofNat 0), some (0, v1), some (0, v2)] [] [M0, M1, M2, ([], [mH_habits]), M4, M5, M6] := by
    intro n
    induction n with
    | zero =>
      intro v1 v2 mH_habits y h k
      rw [l_X10_copiesOfAll_4] at h
      cases h
    | succ n ih =>
      intro v1 v2 mH_habits y h k
      rw [l_X10_copiesOfAll_4] at h
      refine ri false 1 (q := v2 < 10) (t1 := 10) (t2 := 27) rfl rfl trivial (fun c => ?_) (fun c => ?_)
      · replace h := zif1 c h
        obtain ⟨⟨g1_0, g1_1⟩, h⟩ := zgd h
        refine rb false 2 (L2 := [some (2, Int.ofNat 0), some (0, (v1 + (v2 * (mH_habits (Int.toNat v2))))), some (0, v2)]) rfl rfl (And.intro g1_0 g1_1) ?_
        obtain ⟨g2_0, h⟩ := zgd h
        refine rg false 3 (t := 4) (L2 := [some (2, Int.ofNat 0), some (0, (v1 + (v2 * (mH_habits (Int.toNat v2))))), some (0, (v2 + 1))]) rfl rfl rfl g2_0 ?_
        exact ih (v1 + (v2 * (mH_habits (Int.toNat v2)))) (v2 + 1) mH_habits y h k
      · replace h := zif2 c h
        refine rmk [false, true, false] (L2 := [none, some (0, v1), none]) rfl ?_
        obtain rfl := Option.some.inj h
        exact k
  unfold f_X10_copiesOfAll at h
  refine rb false 0 (L2 := [some (2, Int.ofNat 0), some (0, 0), some (0, 0)]) rfl rfl trivial ?_
  obtain ⟨x3, hx3, h⟩ := zbd h
  refine LP4 zN 0 0 mH_habits x3 hx3 ?_
  obtain rfl := Option.some.inj h
  exact r1 false 4 rfl rfl rfl rfl rfl rfl trivial
def bX10_lives : zB := [(0, [(.aload_n 0, 1)], 1, .invokevirtual 207, 3), (4, [(.istore_n 1, 1), (.aload_n 0, 1)], 6, .invokevirtual 210, 3), (9, [(.istore_n 2, 1), (.iload_n 1, 1)], 11, .ifCond .eq 8, 3), (14, [(.iload_n 2, 1), (.iload_n 1, 1)], 16, .if_icmp .ge 7, 3), (19, [(.iconst 0, 1)], 20, .goto 13, 3), (23, [(.iload_n 2, 1), (.iload_n 1, 1)], 25, .if_icmp .ne 7, 3), (28, [(.iconst 1, 1)], 29, .goto 4, 3), (32, [(.iconst 2, 1)], 33, .nop, 0), (33, [], 33, .ireturn, 1)]
theorem bX10_lives_ok : zBok cX10_lives 3 bX10_lives = true := by decide +kernel
abbrev wX10_lives : List Cond := Cond.code yX10_lives cX10_lives 3 (some .int) :: uU
def rX10_lives : Room := { frames := 1, cells := 0, slots := 0, locals := 22 }
set_option maxRecDepth 20000 in
set_option maxHeartbeats 4000000 in
theorem m_M_X10_lives (l : Launch) (M0 : zM) (M1 : zM) (M2 : zM) (M4 : zM) (M5 : zM) (M6 : zM) (mH_habits : Nat → Int) (x : Int) (h : f_X10_lives mH_habits = some x) : zD l yX10_lives wX10_lives rX10_lives lamM shpM [(2, Int.ofNat 0)] [M0, M1, M2, ([], [mH_habits]), M4, M5, M6] (some (0, x)) [M0, M1, M2, ([], [mH_habits]), M4, M5, M6] := by
  refine zD_of (B := bX10_lives) (E := eX10) (by decide) rfl lokM (eX10_ok _) bX10_lives_ok (Or.inl rfl) rfl (fun S R => ?_)
  obtain ⟨rb, rg, ri, rv, rs, r0, r1, r2, r3, rt, rmk⟩ := R
  show S 0 [some (2, Int.ofNat 0), none, none] [] [M0, M1, M2, ([], [mH_habits]), M4, M5, M6]
  unfold f_X10_lives at h
  obtain ⟨x1, hx1, h⟩ := zbd h
  refine rv false 0 0 rfl rfl trivial rfl (m_M_X10_weights l M0 M1 M2 M4 M5 M6 mH_habits x1 hx1) ⟨_, _, _, _, rfl, rfl, rfl, by decide +kernel, ⟨Nat.le_of_ble_eq_true rfl, Nat.le_of_ble_eq_true rfl⟩, uGin u_25_15 u_25_16 u_25_17 u_1_5 u_25_18⟩ ⟨rfl, _, _, _, rfl, rfl⟩ ?_
  obtain ⟨x2, hx2, h⟩ := zbd h
  refine rv false 1 0 (L2 := [some (2, Int.ofNat 0), some (0, x1), none]) rfl rfl trivial rfl (m_M_X10_copiesOfAll l M0 M1 M2 M4 M5 M6 mH_habits x2 hx2) ⟨_, _, _, _, rfl, rfl, rfl, by decide +kernel, ⟨Nat.le_of_ble_eq_true rfl, Nat.le_of_ble_eq_true rfl⟩, uGin u_25_19 u_25_20 u_25_21 u_1_5 u_25_22⟩ ⟨rfl, _, _, _, rfl, rfl⟩ ?_
  refine ri false 2 (q := x1 = 0) (t1 := 19) (t2 := 14) (L2 := [some (2, Int.ofNat 0), some (0, x1), some (0, x2)]) rfl rfl trivial (fun c => ?_) (fun c => ?_)
  · replace h := zif1 c h
    refine rg false 4 (t := 33) (st2 := [(0, 0)]) rfl rfl rfl trivial ?_
    obtain rfl := Option.some.inj h
    exact r1 false 8 rfl rfl rfl rfl rfl rfl trivial
  · replace h := zif2 c h
    refine ri false 3 (q := x2 < x1) (t1 := 19) (t2 := 23) rfl rfl trivial (fun c => ?_) (fun c => ?_)
    · replace h := zif1 c h
      refine rg false 4 (t := 33) (st2 := [(0, 0)]) rfl rfl rfl trivial ?_
      obtain rfl := Option.some.inj h
      exact r1 false 8 rfl rfl rfl rfl rfl rfl trivial
    · replace h := zif2 c h
      refine ri false 5 (q := x2 = x1) (t1 := 28) (t2 := 32) rfl rfl trivial (fun c => ?_) (fun c => ?_)
      · replace h := zif1 c h
        refine rg false 6 (t := 33) (st2 := [(0, 1)]) rfl rfl rfl trivial ?_
        obtain rfl := Option.some.inj h
        exact r1 false 8 rfl rfl rfl rfl rfl rfl trivial
      · replace h := zif2 c h
        refine rb false 7 (st2 := [(0, 2)]) rfl rfl trivial ?_
        obtain rfl := Option.some.inj h
        exact r1 false 8 rfl rfl rfl rfl rfl rfl trivial
def bX10_trims : zB := [(0, [(.aload_n 0, 1), (.getfield 13, 3), (.iload_n 1, 1), (.iaload, 1)], 6, .ifCond .le 37, 3), (9, [(.aload_n 0, 1), (.getfield 7, 3), (.bipush 70, 2), (.iload_n 1, 1), (.imul, 1), (.aload_n 0, 1), (.getfield 13, 3), (.iload_n 1, 1), (.iaload, 1), (.iadd, 1), (.iconst 1, 1), (.isub, 1), (.iaload, 1)], 27, .ifCond .ne 16, 3), (30, [(.aload_n 0, 1), (.getfield 13, 3), (.iload_n 1, 1), (.dup2, 1), (.iaload, 1), (.iconst 1, 1), (.isub, 1), (.iastore, 1)], 40, .goto (-40), 3), (43, [], 43, .return_, 1)]
theorem bX10_trims_ok : zBok cX10_trims 2 bX10_trims = true := by decide +kernel
abbrev wX10_trims : List Cond := Cond.code yX10_trims cX10_trims 2 none :: uU
def rX10_trims : Room := { frames := 0, cells := 0, slots := 0, locals := 0 }
set_option maxRecDepth 20000 in
set_option maxHeartbeats 4000000 in
theorem m_M_X10_trims (l : Launch) (M1 : zM) (M2 : zM) (M3 : zM) (M4 : zM) (M5 : zM) (M6 : zM) (p1 : Int) (mK_limbs : Nat → Int) (mK_wide : Nat → Int) (x : Nat → Int) (h : f_X10_trims p1 mK_limbs mK_wide = some x) : zD l yX10_trims wX10_trims rX10_trims lamM shpM [(2, Int.ofNat 0), (0, p1)] [([], [mK_limbs, mK_wide]), M1, M2, M3, M4, M5, M6] (none) [([], [mK_limbs, x]), M1, M2, M3, M4, M5, M6] := by
  refine zD_of (B := bX10_trims) (E := eX10) (by decide) rfl lokM (eX10_ok _) bX10_trims_ok (Or.inl rfl) rfl (fun S R => ?_)
  obtain ⟨rb, rg, ri, rv, rs, r0, r1, r2, r3, rt, rmk⟩ := R
  show S 0 [some (2, Int.ofNat 0), some (0, p1)] [] [([], [mK_limbs, mK_wide]), M1, M2, M3, M4, M5, M6]
  have LP0 : ∀ (n : Nat) (v1 : Int) (mK_limbs : Nat → Int) (mK_wide : Nat → Int) (y : Nat → Int), l_X10_trims_0 n v1 mK_limbs mK_wide = some y → S 43 [none, none] [] [([], [mK_limbs, y]), M1, M2, M3, M4, M5, M6] → S 0 [some (2, Int.ofNat 0), some (0, v1)] [] [([], [mK_limbs, mK_wide]), M1, M2, M3, M4, M5, M6] := by
    intro n
    induction n with
    | zero =>
      intro v1 mK_limbs mK_wide y h k
      rw [l_X10_trims_0] at h
      cases h
    | succ n ih =>
      intro v1 mK_limbs mK_wide y h k
      rw [l_X10_trims_0] at h
      obtain ⟨g1_0, h⟩ := zgd h
      refine ri false 0 (q := (0 : Int) < (mK_wide (Int.toNat v1))) (t1 := 9) (t2 := 43) rfl rfl g1_0 (fun c => ?_) (fun c => ?_)
      · replace h := zif1 c h
        obtain ⟨⟨g2_0, g2_1⟩, h⟩ := zgd h
        refine ri false 1 (q := (mK_limbs (Int.toNat (((70 * v1) + (mK_wide (Int.toNat v1))) - 1))) = 0) (t1 := 30) (t2 := 43) rfl rfl (And.intro g2_0 g2_1) (fun c => ?_) (fun c => ?_)
        · replace h := zif1 c h
          obtain ⟨⟨g3_0, g3_1, g3_2⟩, h⟩ := zgd h
          refine rg false 2 (t := 0) (σ2 := [([], [mK_limbs, (zu mK_wide (Int.toNat v1) ((mK_wide (Int.toNat v1)) - 1))]), M1, M2, M3, M4, M5, M6]) rfl rfl rfl (And.intro g3_0 (And.intro g3_1 g3_2)) ?_
          exact ih v1 mK_limbs (zu mK_wide (Int.toNat v1) ((mK_wide (Int.toNat v1)) - 1)) y h k
        · replace h := zif2 c h
          refine rmk [false, false] (L2 := [none, none]) rfl ?_
          obtain rfl := Option.some.inj h
          exact k
      · replace h := zif2 c h
        refine rmk [false, false] (L2 := [none, none]) rfl ?_
        obtain rfl := Option.some.inj h
        exact k
  unfold f_X10_trims at h
  obtain ⟨x4, hx4, h⟩ := zbd h
  refine LP0 zN p1 mK_limbs mK_wide x4 hx4 ?_
  obtain rfl := Option.some.inj h
  exact r0 false 3 rfl rfl rfl rfl trivial
def bX10_sets : zB := [(0, [(.iconst 0, 1), (.istore 4, 2)], 3, .nop, 0), (3, [(.iload 4, 2), (.bipush 70, 2)], 7, .if_icmp .ge 43, 3), (10, [(.aload_n 0, 1), (.getfield 7, 3), (.bipush 70, 2), (.iload_n 1, 1), (.imul, 1), (.iload 4, 2), (.iadd, 1), (.iload 4, 2), (.iconst 3, 1)], 24, .if_icmp .ge 18, 3), (27, [(.lload_n 2, 1), (.bipush 30, 2), (.iload 4, 2), (.imul, 1), (.lshr, 1), (.ldc2_w 92, 3), (.land, 1), (.l2i, 1)], 39, .goto 4, 3), (42, [(.iconst 0, 1)], 43, .nop, 0), (43, [(.iastore, 1), (.iinc 4 1, 3)], 47, .goto (-44), 3), (50, [(.aload_n 0, 1), (.getfield 13, 3), (.iload_n 1, 1), (.iconst 3, 1), (.iastore, 1), (.aload_n 0, 1), (.iload_n 1, 1)], 59, .invokevirtual 94, 3), (62, [], 62, .return_, 1)]
theorem bX10_sets_ok : zBok cX10_sets 5 bX10_sets = true := by decide +kernel
abbrev wX10_sets : List Cond := Cond.code yX10_sets cX10_sets 5 none :: uU
def rX10_sets : Room := { frames := 1, cells := 0, slots := 0, locals := 21 }
set_option maxRecDepth 20000 in
set_option maxHeartbeats 4000000 in
theorem m_M_X10_sets (l : Launch) (M1 : zM) (M2 : zM) (M3 : zM) (M4 : zM) (M5 : zM) (M6 : zM) (p1 : Int) (p2 : Int) (mK_limbs : Nat → Int) (mK_wide : Nat → Int) (x : (Nat → Int) × (Nat → Int)) (h : f_X10_sets p1 p2 mK_limbs mK_wide = some x) : zD l yX10_sets wX10_sets rX10_sets lamM shpM [(2, Int.ofNat 0), (0, p1), (1, p2)] [([], [mK_limbs, mK_wide]), M1, M2, M3, M4, M5, M6] (none) [([], [x.1, x.2]), M1, M2, M3, M4, M5, M6] := by
  refine zD_of (B := bX10_sets) (E := eX10) (by decide) rfl lokM (eX10_ok _) bX10_sets_ok (Or.inl rfl) rfl (fun S R => ?_)
  obtain ⟨rb, rg, ri, rv, rs, r0, r1, r2, r3, rt, rmk⟩ := R
  show S 0 [some (2, Int.ofNat 0), some (0, p1), some (1, p2), none, none] [] [([], [mK_limbs, mK_wide]), M1, M2, M3, M4, M5, M6]
  have LP3 : ∀ (n : Nat) (v1 : Int) (v2 : Int) (v4 : Int) (mK_limbs : Nat → Int) (mK_wide : Nat → Int) (y : Nat → Int), l_X10_sets_3 n v1 v2 v4 mK_limbs = some y → S 50 [some (2, Int.ofNat 0), some (0, v1), none, none, none] [] [([], [y, mK_wide]), M1, M2, M3, M4, M5, M6] → S 3 [some (2, Int.ofNat 0), some (0, v1), some (1, v2), none, some (0, v4)] [] [([], [mK_limbs, mK_wide]), M1, M2, M3, M4, M5, M6] := by
    intro n
    induction n with
    | zero =>
      intro v1 v2 v4 mK_limbs mK_wide y h k
      rw [l_X10_sets_3] at h
      cases h
    | succ n ih =>
      intro v1 v2 v4 mK_limbs mK_wide y h k
      rw [l_X10_sets_3] at h
      refine ri false 1 (q := v4 < 70) (t1 := 10) (t2 := 50) rfl rfl trivial (fun c => ?_) (fun c => ?_)
      · replace h := zif1 c h
        refine ri false 2 (q := v4 < 3) (t1 := 27) (t2 := 42) (st2 := [(3, ((70 * v1) + v4)), (2, Int.ofNat 1)]) rfl rfl trivial (fun c => ?_) (fun c => ?_)
        · replace h := zif1 c h
          refine rg false 3 (t := 43) (st2 := [(3, (zandl (zshrl v2 (30 * v4)) 1073741823)), (3, ((70 * v1) + v4)), (2, Int.ofNat 1)]) rfl rfl rfl trivial ?_
          obtain ⟨⟨g1_0, g1_1, g1_2⟩, h⟩ := zgd h
          refine rg false 5 (t := 3) (L2 := [some (2, Int.ofNat 0), some (0, v1), some (1, v2), none, some (0, (v4 + 1))]) (σ2 := [([], [(zu mK_limbs (Int.toNat ((70 * v1) + v4)) (zandl (zshrl v2 (30 * v4)) 1073741823)), mK_wide]), M1, M2, M3, M4, M5, M6]) rfl rfl rfl (And.intro g1_0 (And.intro g1_1 g1_2)) ?_
          exact ih v1 v2 (v4 + 1) (zu mK_limbs (Int.toNat ((70 * v1) + v4)) (zandl (zshrl v2 (30 * v4)) 1073741823)) mK_wide y h k
        · replace h := zif2 c h
          refine rb false 4 (st2 := [(0, 0), (3, ((70 * v1) + v4)), (2, Int.ofNat 1)]) rfl rfl trivial ?_
          obtain ⟨⟨g2_0, g2_1⟩, h⟩ := zgd h
          refine rg false 5 (t := 3) (L2 := [some (2, Int.ofNat 0), some (0, v1), some (1, v2), none, some (0, (v4 + 1))]) (σ2 := [([], [(zu mK_limbs (Int.toNat ((70 * v1) + v4)) 0), mK_wide]), M1, M2, M3, M4, M5, M6]) rfl rfl rfl (And.intro g2_0 g2_1) ?_
          exact ih v1 v2 (v4 + 1) (zu mK_limbs (Int.toNat ((70 * v1) + v4)) 0) mK_wide y h k
      · replace h := zif2 c h
        refine rmk [true, true, false, false, false] (L2 := [some (2, Int.ofNat 0), some (0, v1), none, none, none]) rfl ?_
        obtain rfl := Option.some.inj h
        exact k
  unfold f_X10_sets at h
  refine rb false 0 (L2 := [some (2, Int.ofNat 0), some (0, p1), some (1, p2), none, some (0, 0)]) rfl rfl trivial ?_
  obtain ⟨x3, hx3, h⟩ := zbd h
  refine LP3 zN p1 p2 0 mK_limbs mK_wide x3 hx3 ?_
  obtain ⟨g5_0, h⟩ := zgd h
  obtain ⟨x4, hx4, h⟩ := zbd h
  refine rv false 6 1 (σ2 := [([], [x3, (zu mK_wide (Int.toNat p1) 3)]), M1, M2, M3, M4, M5, M6]) rfl rfl g5_0 rfl (m_M_X10_trims l M1 M2 M3 M4 M5 M6 p1 x3 (zu mK_wide (Int.toNat p1) 3) x4 hx4) ⟨_, _, _, _, rfl, rfl, rfl, by decide +kernel, ⟨Nat.le_of_ble_eq_true rfl, Nat.le_of_ble_eq_true rfl⟩, uGin u_8_8 u_8_9 u_8_10 u_1_5 u_8_11⟩ ⟨rfl, _, _, _, rfl, rfl⟩ ?_
  obtain rfl := Option.some.inj h
  exact r0 false 7 rfl rfl rfl rfl trivial
def bX10_isEven : zB := [(0, [(.aload_n 0, 1), (.getfield 7, 3), (.bipush 70, 2), (.iload_n 1, 1), (.imul, 1), (.iaload, 1), (.iconst 1, 1), (.iand, 1)], 11, .ifCond .ne 7, 3), (14, [(.iconst 1, 1)], 15, .goto 4, 3), (18, [(.iconst 0, 1)], 19, .nop, 0), (19, [], 19, .ireturn, 1)]
theorem bX10_isEven_ok : zBok cX10_isEven 2 bX10_isEven = true := by decide +kernel
abbrev wX10_isEven : List Cond := Cond.code yX10_isEven cX10_isEven 2 (some .boolean) :: uU
def rX10_isEven : Room := { frames := 0, cells := 0, slots := 0, locals := 0 }
set_option maxRecDepth 20000 in
set_option maxHeartbeats 4000000 in
theorem m_M_X10_isEven (l : Launch) (M1 : zM) (M2 : zM) (M3 : zM) (M4 : zM) (M5 : zM) (M6 : zM) (p1 : Int) (mK_limbs : Nat → Int) (mK_wide : Nat → Int) (x : Int) (h : f_X10_isEven p1 mK_limbs = some x) : zD l yX10_isEven wX10_isEven rX10_isEven lamM shpM [(2, Int.ofNat 0), (0, p1)] [([], [mK_limbs, mK_wide]), M1, M2, M3, M4, M5, M6] (some (0, x)) [([], [mK_limbs, mK_wide]), M1, M2, M3, M4, M5, M6] := by
  refine zD_of (B := bX10_isEven) (E := eX10) (by decide) rfl lokM (eX10_ok _) bX10_isEven_ok (Or.inl rfl) rfl (fun S R => ?_)
  obtain ⟨rb, rg, ri, rv, rs, r0, r1, r2, r3, rt, rmk⟩ := R
  show S 0 [some (2, Int.ofNat 0), some (0, p1)] [] [([], [mK_limbs, mK_wide]), M1, M2, M3, M4, M5, M6]
  unfold f_X10_isEven at h
  obtain ⟨g1_0, h⟩ := zgd h
  refine ri false 0 (q := (zand (mK_limbs (Int.toNat (70 * p1))) 1) = 0) (t1 := 14) (t2 := 18) rfl rfl g1_0 (fun c => ?_) (fun c => ?_)
  · replace h := zif1 c h
    refine rg false 1 (t := 19) (st2 := [(0, 1)]) rfl rfl rfl trivial ?_
    obtain rfl := Option.some.inj h
    exact r2 false 3 rfl rfl rfl rfl trivial (by decide)
  · replace h := zif2 c h
    refine rb false 2 (st2 := [(0, 0)]) rfl rfl trivial ?_
    obtain rfl := Option.some.inj h
    exact r2 false 3 rfl rfl rfl rfl trivial (by decide)
def bX10_halves : zB := [(0, [(.iconst 0, 1), (.istore_n 2, 1)], 2, .nop, 0), (2, [(.iload_n 2, 1), (.aload_n 0, 1), (.getfield 13, 3), (.iload_n 1, 1), (.iaload, 1)], 9, .if_icmp .ge 70, 3), (12, [(.iload_n 2, 1), (.iconst 1, 1), (.iadd, 1), (.aload_n 0, 1), (.getfield 13, 3), (.iload_n 1, 1), (.iaload, 1)], 21, .if_icmp .ge 21, 3), (24, [(.aload_n 0, 1), (.getfield 7, 3), (.bipush 70, 2), (.iload_n 1, 1), (.imul, 1), (.iload_n 2, 1), (.iadd, 1), (.iconst 1, 1), (.iadd, 1), (.iaload, 1), (.iconst 1, 1), (.iand, 1)], 39, .goto 4, 3), (42, [(.iconst 0, 1)], 43, .nop, 0), (43, [(.istore_n 3, 1), (.aload_n 0, 1), (.getfield 7, 3), (.bipush 70, 2), (.iload_n 1, 1), (.imul, 1), (.iload_n 2, 1), (.iadd, 1), (.aload_n 0, 1), (.getfield 7, 3), (.bipush 70, 2), (.iload_n 1, 1), (.imul, 1), (.iload_n 2, 1), (.iadd, 1), (.iaload, 1), (.iconst 1, 1), (.ishr, 1), (.iload_n 3, 1), (.bipush 29, 2), (.ishl, 1), (.ior, 1), (.iastore, 1)], 73, .nop, 0), (73, [(.iinc 2 1, 3)], 76, .goto (-74), 3), (79, [(.aload_n 0, 1), (.iload_n 1, 1)], 81, .invokevirtual 94, 3), (84, [], 84, .return_, 1)]
theorem bX10_halves_ok : zBok cX10_halves 4 bX10_halves = true := by decide +kernel
abbrev wX10_halves : List Cond := Cond.code yX10_halves cX10_halves 4 none :: uU
def rX10_halves : Room := { frames := 1, cells := 0, slots := 0, locals := 21 }
set_option maxRecDepth 20000 in
set_option maxHeartbeats 4000000 in
theorem m_M_X10_halves (l : Launch) (M1 : zM) (M2 : zM) (M3 : zM) (M4 : zM) (M5 : zM) (M6 : zM) (p1 : Int) (mK_limbs : Nat → Int) (mK_wide : Nat → Int) (x : (Nat → Int) × (Nat → Int)) (h : f_X10_halves p1 mK_limbs mK_wide = some x) : zD l yX10_halves wX10_halves rX10_halves lamM shpM [(2, Int.ofNat 0), (0, p1)] [([], [mK_limbs, mK_wide]), M1, M2, M3, M4, M5, M6] (none) [([], [x.1, x.2]), M1, M2, M3, M4, M5, M6] := by
  refine zD_of (B := bX10_halves) (E := eX10) (by decide) rfl lokM (eX10_ok _) bX10_halves_ok (Or.inl rfl) rfl (fun S R => ?_)
  obtain ⟨rb, rg, ri, rv, rs, r0, r1, r2, r3, rt, rmk⟩ := R
  show S 0 [some (2, Int.ofNat 0), some (0, p1), none, none] [] [([], [mK_limbs, mK_wide]), M1, M2, M3, M4, M5, M6]
  have LP2 : ∀ (n : Nat) (v1 : Int) (v2 : Int) (mK_limbs : Nat → Int) (mK_wide : Nat → Int) (y : Nat → Int), l_X10_halves_2 n v1 v2 mK_limbs mK_wide = some y → S 79 [some (2, Int.ofNat 0), some (0, v1), none, none] [] [([], [y, mK_wide]), M1, M2, M3, M4, M5, M6] → S 2 [some (2, Int.ofNat 0), some (0, v1), some (0, v2), none] [] [([], [mK_limbs, mK_wide]), M1, M2, M3, M4, M5, M6] := by
    intro n
    induction n with
    | zero =>
      intro v1 v2 mK_limbs mK_wide y h k
      rw [l_X10_halves_2] at h
      cases h
    | succ n ih =>
      intro v1 v2 mK_limbs mK_wide y h k
      rw [l_X10_halves_2] at h
      obtain ⟨g1_0, h⟩ := zgd h
      refine ri false 1 (q := v2 < (mK_wide (Int.toNat v1))) (t1 := 12) (t2 := 79) rfl rfl g1_0 (fun c => ?_) (fun c => ?_)
      · replace h := zif1 c h
        obtain ⟨⟨g2_0, g2_1⟩, h⟩ := zgd h
        refine ri false 2 (q := (v2 + 1) < (mK_wide (Int.toNat v1))) (t1 := 24) (t2 := 42) rfl rfl (And.intro g2_0 g2_1) (fun c => ?_) (fun c => ?_)
        · replace h := zif1 c h
          obtain ⟨g3_0, h⟩ := zgd h
          refine rg false 3 (t := 43) (st2 := [(0, (zand (mK_limbs (Int.toNat (((70 * v1) + v2) + 1))) 1))]) rfl rfl rfl g3_0 ?_
          obtain ⟨⟨g4_0, g4_1⟩, h⟩ := zgd h
          refine rb false 5 (L2 := [some (2, Int.ofNat 0), some (0, v1), some (0, v2), some (0, (zand (mK_limbs (Int.toNat (((70 * v1) + v2) + 1))) 1))]) (σ2 := [([], [(zu mK_limbs (Int.toNat ((70 * v1) + v2)) (zor (zshr (mK_limbs (Int.toNat ((70 * v1) + v2))) 1) (zshl (zand (mK_limbs (Int.toNat (((70 * v1) + v2) + 1))) 1) 29))), mK_wide]), M1, M2, M3, M4, M5, M6]) rfl rfl (And.intro g4_0 g4_1) ?_
          obtain ⟨g5_0, h⟩ := zgd h
          refine rg false 6 (t := 2) (L2 := [some (2, Int.ofNat 0), some (0, v1), some (0, (v2 + 1)), some (0, (zand (mK_limbs (Int.toNat (((70 * v1) + v2) + 1))) 1))]) rfl rfl rfl g5_0 ?_
          refine rmk [true, true, true, false] (L2 := [some (2, Int.ofNat 0), some (0, v1), some (0, (v2 + 1)), none]) rfl ?_
          exact ih v1 (v2 + 1) (zu mK_limbs (Int.toNat ((70 * v1) + v2)) (zor (zshr (mK_limbs (Int.toNat ((70 * v1) + v2))) 1) (zshl (zand (mK_limbs (Int.toNat (((70 * v1) + v2) + 1))) 1) 29))) mK_wide y h k
        · replace h := zif2 c h
          refine rb false 4 (st2 := [(0, 0)]) rfl rfl trivial ?_
          obtain ⟨⟨g6_0, g6_1⟩, h⟩ := zgd h
          refine rb false 5 (L2 := [some (2, Int.ofNat 0), some (0, v1), some (0, v2), some (0, 0)]) (σ2 := [([], [(zu mK_limbs (Int.toNat ((70 * v1) + v2)) (zor (zshr (mK_limbs (Int.toNat ((70 * v1) + v2))) 1) (zshl 0 29))), mK_wide]), M1, M2, M3, M4, M5, M6]) rfl rfl (And.intro g6_0 g6_1) ?_
          obtain ⟨g7_0, h⟩ := zgd h
          refine rg false 6 (t := 2) (L2 := [some (2, Int.ofNat 0), some (0, v1), some (0, (v2 + 1)), some (0, 0)]) rfl rfl rfl g7_0 ?_
          refine rmk [true, true, true, false] (L2 := [some (2, Int.ofNat 0), some (0, v1), some (0, (v2 + 1)), none]) rfl ?_
          exact ih v1 (v2 + 1) (zu mK_limbs (Int.toNat ((70 * v1) + v2)) (zor (zshr (mK_limbs (Int.toNat ((70 * v1) + v2))) 1) (zshl 0 29))) mK_wide y h k
      · replace h := zif2 c h
        refine rmk [true, true, false, false] (L2 := [some (2, Int.ofNat 0), some (0, v1), none, none]) rfl ?_
        obtain rfl := Option.some.inj h
        exact k
  unfold f_X10_halves at h
  refine rb false 0 (L2 := [some (2, Int.ofNat 0), some (0, p1), some (0, 0), none]) rfl rfl trivial ?_
  obtain ⟨x8, hx8, h⟩ := zbd h
  refine LP2 zN p1 0 mK_limbs mK_wide x8 hx8 ?_
  obtain ⟨x9, hx9, h⟩ := zbd h
  refine rv false 7 1 rfl rfl trivial rfl (m_M_X10_trims l M1 M2 M3 M4 M5 M6 p1 x8 mK_wide x9 hx9) ⟨_, _, _, _, rfl, rfl, rfl, by decide +kernel, ⟨Nat.le_of_ble_eq_true rfl, Nat.le_of_ble_eq_true rfl⟩, uGin u_8_8 u_8_9 u_8_10 u_1_5 u_8_11⟩ ⟨rfl, _, _, _, rfl, rfl⟩ ?_
  obtain rfl := Option.some.inj h
  exact r0 false 8 rfl rfl rfl rfl trivial
def bX10_takes : zB := [(0, [(.iconst 0, 1), (.istore_n 3, 1)], 2, .nop, 0), (2, [(.iload_n 3, 1), (.bipush 70, 2)], 5, .if_icmp .ge 31, 3), (8, [(.aload_n 0, 1), (.getfield 7, 3), (.bipush 70, 2), (.iload_n 1, 1), (.imul, 1), (.iload_n 3, 1), (.iadd, 1), (.aload_n 0, 1), (.getfield 7, 3), (.bipush 70, 2), (.iload_n 2, 1), (.imul, 1), (.iload_n 3, 1), (.iadd, 1), (.iaload, 1), (.iastore, 1)], 30, .nop, 0), (30, [(.iinc 3 1, 3)], 33, .goto (-31), 3), (36, [(.aload_n 0, 1), (.getfield 13, 3), (.iload_n 1, 1), (.aload_n 0, 1), (.getfield 13, 3), (.iload_n 2, 1), (.iaload, 1), (.iastore, 1)], 48, .return_, 1)]
theorem bX10_takes_ok : zBok cX10_takes 4 bX10_takes = true := by decide +kernel
abbrev wX10_takes : List Cond := Cond.code yX10_takes cX10_takes 4 none :: uU
def rX10_takes : Room := { frames := 0, cells := 0, slots := 0, locals := 0 }
set_option maxRecDepth 20000 in
set_option maxHeartbeats 4000000 in
theorem m_M_X10_takes (l : Launch) (M1 : zM) (M2 : zM) (M3 : zM) (M4 : zM) (M5 : zM) (M6 : zM) (p1 : Int) (p2 : Int) (mK_limbs : Nat → Int) (mK_wide : Nat → Int) (x : (Nat → Int) × (Nat → Int)) (h : f_X10_takes p1 p2 mK_limbs mK_wide = some x) : zD l yX10_takes wX10_takes rX10_takes lamM shpM [(2, Int.ofNat 0), (0, p1), (0, p2)] [([], [mK_limbs, mK_wide]), M1, M2, M3, M4, M5, M6] (none) [([], [x.1, x.2]), M1, M2, M3, M4, M5, M6] := by
  refine zD_of (B := bX10_takes) (E := eX10) (by decide) rfl lokM (eX10_ok _) bX10_takes_ok (Or.inl rfl) rfl (fun S R => ?_)
  obtain ⟨rb, rg, ri, rv, rs, r0, r1, r2, r3, rt, rmk⟩ := R
  show S 0 [some (2, Int.ofNat 0), some (0, p1), some (0, p2), none] [] [([], [mK_limbs, mK_wide]), M1, M2, M3, M4, M5, M6]
  have LP2 : ∀ (n : Nat) (v1 : Int) (v2 : Int) (v3 : Int) (mK_limbs : Nat → Int) (mK_wide : Nat → Int) (y : Nat → Int), l_X10_takes_2 n v1 v2 v3 mK_limbs = some y → S 36 [some (2, Int.ofNat 0), some (0, v1), some (0, v2), none] [] [([], [y, mK_wide]), M1, M2, M3, M4, M5, M6] → S 2 [some (2, Int.ofNat 0), some (0, v1), some (0, v2), some (0, v3)] [] [([], [mK_limbs, mK_wide]), M1, M2, M3, M4, M5, M6] := by
    intro n
    induction n with
    | zero =>
      intro v1 v2 v3 mK_limbs mK_wide y h k
      rw [l_X10_takes_2] at h
      cases h
    | succ n ih =>
      intro v1 v2 v3 mK_limbs mK_wide y h k
      rw [l_X10_takes_2] at h
      refine ri false 1 (q := v3 < 70) (t1 := 8) (t2 := 36) rfl rfl trivial (fun c => ?_) (fun c => ?_)
      · replace h := zif1 c h
        obtain ⟨⟨g1_0, g1_1⟩, h⟩ := zgd h
        refine rb false 2 (σ2 := [([], [(zu mK_limbs (Int.toNat ((70 * v1) + v3)) (mK_limbs (Int.toNat ((70 * v2) + v3)))), mK_wide]), M1, M2, M3, M4, M5, M6]) rfl rfl (And.intro g1_0 g1_1) ?_
        obtain ⟨g2_0, h⟩ := zgd h
        refine rg false 3 (t := 2) (L2 := [some (2, Int.ofNat 0), some (0, v1), some (0, v2), some (0, (v3 + 1))]) rfl rfl rfl g2_0 ?_
        exact ih v1 v2 (v3 + 1) (zu mK_limbs (Int.toNat ((70 * v1) + v3)) (mK_limbs (Int.toNat ((70 * v2) + v3)))) mK_wide y h k
      · replace h := zif2 c h
        refine rmk [true, true, true, false] (L2 := [some (2, Int.ofNat 0), some (0, v1), some (0, v2), none]) rfl ?_
        obtain rfl := Option.some.inj h
        exact k
  unfold f_X10_takes at h
  refine rb false 0 (L2 := [some (2, Int.ofNat 0), some (0, p1), some (0, p2), some (0, 0)]) rfl rfl trivial ?_
  obtain ⟨x3, hx3, h⟩ := zbd h
  refine LP2 zN p1 p2 0 mK_limbs mK_wide x3 hx3 ?_
  obtain ⟨⟨g4_0, g4_1⟩, h⟩ := zgd h
  obtain rfl := Option.some.inj h
  exact r0 false 4 rfl rfl rfl rfl (And.intro g4_0 g4_1)
def bX10_against : zB := [(0, [(.aload_n 0, 1), (.getfield 13, 3), (.iload_n 1, 1), (.iaload, 1), (.aload_n 0, 1), (.getfield 13, 3), (.iload_n 2, 1), (.iaload, 1)], 12, .if_icmp .eq 24, 3), (15, [(.aload_n 0, 1), (.getfield 13, 3), (.iload_n 1, 1), (.iaload, 1), (.aload_n 0, 1), (.getfield 13, 3), (.iload_n 2, 1), (.iaload, 1)], 27, .if_icmp .ge 7, 3), (30, [(.iconst (-1), 1)], 31, .goto 4, 3), (34, [(.iconst 1, 1)], 35, .nop, 0), (35, [], 35, .ireturn, 1), (36, [(.aload_n 0, 1), (.getfield 13, 3), (.iload_n 1, 1), (.iaload, 1), (.iconst 1, 1), (.isub, 1), (.istore_n 3, 1)], 45, .nop, 0), (45, [(.iload_n 3, 1)], 46, .ifCond .lt 65, 3), (49, [(.aload_n 0, 1), (.getfield 7, 3), (.bipush 70, 2), (.iload_n 1, 1), (.imul, 1), (.iload_n 3, 1), (.iadd, 1), (.iaload, 1), (.aload_n 0, 1), (.getfield 7, 3), (.bipush 70, 2), (.iload_n 2, 1), (.imul, 1), (.iload_n 3, 1), (.iadd, 1), (.iaload, 1)], 71, .if_icmp .eq 34, 3), (74, [(.aload_n 0, 1), (.getfield 7, 3), (.bipush 70, 2), (.iload_n 1, 1), (.imul, 1), (.iload_n 3, 1), (.iadd, 1), (.iaload, 1), (.aload_n 0, 1), (.getfield 7, 3), (.bipush 70, 2), (.iload_n 2, 1), (.imul, 1), (.iload_n 3, 1), (.iadd, 1), (.iaload, 1)], 96, .if_icmp .ge 7, 3), (99, [(.iconst (-1), 1)], 100, .goto 4, 3), (103, [(.iconst 1, 1)], 104, .nop, 0), (104, [], 104, .ireturn, 1), (105, [(.iinc 3 (-1), 3)], 108, .goto (-63), 3), (111, [(.iconst 0, 1)], 112, .ireturn, 1)]
theorem bX10_against_ok : zBok cX10_against 4 bX10_against = true := by decide +kernel
abbrev wX10_against : List Cond := Cond.code yX10_against cX10_against 4 (some .int) :: uU
def rX10_against : Room := { frames := 0, cells := 0, slots := 0, locals := 0 }
set_option maxRecDepth 20000 in
set_option maxHeartbeats 4000000 in
theorem m_M_X10_against (l : Launch) (M1 : zM) (M2 : zM) (M3 : zM) (M4 : zM) (M5 : zM) (M6 : zM) (p1 : Int) (p2 : Int) (mK_limbs : Nat → Int) (mK_wide : Nat → Int) (x : Int) (h : f_X10_against p1 p2 mK_limbs mK_wide = some x) : zD l yX10_against wX10_against rX10_against lamM shpM [(2, Int.ofNat 0), (0, p1), (0, p2)] [([], [mK_limbs, mK_wide]), M1, M2, M3, M4, M5, M6] (some (0, x)) [([], [mK_limbs, mK_wide]), M1, M2, M3, M4, M5, M6] := by
  refine zD_of (B := bX10_against) (E := eX10) (by decide) rfl lokM (eX10_ok _) bX10_against_ok (Or.inl rfl) rfl (fun S R => ?_)
  obtain ⟨rb, rg, ri, rv, rs, r0, r1, r2, r3, rt, rmk⟩ := R
  show S 0 [some (2, Int.ofNat 0), some (0, p1), some (0, p2), none] [] [([], [mK_limbs, mK_wide]), M1, M2, M3, M4, M5, M6]
  have LP45 : ∀ (n : Nat) (v1 : Int) (v2 : Int) (v3 : Int), l_X10_against_45 n v1 v2 v3 mK_limbs = some x → S 45 [some (2, Int.ofNat 0), some (0, v1), some (0, v2), some (0, v3)] [] [([], [mK_limbs, mK_wide]), M1, M2, M3, M4, M5, M6] := by
    intro n
    induction n with
    | zero =>
      intro v1 v2 v3 h
      rw [l_X10_against_45] at h
      cases h
    | succ n ih =>
      intro v1 v2 v3 h
      rw [l_X10_against_45] at h
      refine ri false 6 (q := v3 < 0) (t1 := 111) (t2 := 49) rfl rfl trivial (fun c => ?_) (fun c => ?_)
      · replace h := zif1 c h
        obtain rfl := Option.some.inj h
        exact r1 false 13 rfl rfl rfl rfl rfl rfl trivial
      · replace h := zif2 c h
        obtain ⟨⟨g3_0, g3_1⟩, h⟩ := zgd h
        refine ri false 7 (q := (mK_limbs (Int.toNat ((70 * v1) + v3))) = (mK_limbs (Int.toNat ((70 * v2) + v3)))) (t1 := 105) (t2 := 74) rfl rfl (And.intro g3_0 g3_1) (fun c => ?_) (fun c => ?_)
        · replace h := zif1 c h
          obtain ⟨g4_0, h⟩ := zgd h
          refine rg false 12 (t := 45) (L2 := [some (2, Int.ofNat 0), some (0, v1), some (0, v2), some (0, (v3 + (-1)))]) rfl rfl rfl g4_0 ?_
          exact ih v1 v2 (v3 + (-1)) h
        · replace h := zif2 c h
          obtain ⟨⟨g5_0, g5_1⟩, h⟩ := zgd h
          refine ri false 8 (q := (mK_limbs (Int.toNat ((70 * v1) + v3))) < (mK_limbs (Int.toNat ((70 * v2) + v3)))) (t1 := 99) (t2 := 103) rfl rfl (And.intro g5_0 g5_1) (fun c => ?_) (fun c => ?_)
          · replace h := zif1 c h
            refine rg false 9 (t := 104) (st2 := [(0, (-1))]) rfl rfl rfl trivial ?_
            obtain rfl := Option.some.inj h
            exact r1 false 11 rfl rfl rfl rfl rfl rfl trivial
          · replace h := zif2 c h
            refine rb false 10 (st2 := [(0, 1)]) rfl rfl trivial ?_
            obtain rfl := Option.some.inj h
            exact r1 false 11 rfl rfl rfl rfl rfl rfl trivial
  unfold f_X10_against at h
  obtain ⟨⟨g1_0, g1_1⟩, h⟩ := zgd h
  refine ri false 0 (q := (mK_wide (Int.toNat p1)) = (mK_wide (Int.toNat p2))) (t1 := 36) (t2 := 15) rfl rfl (And.intro g1_0 g1_1) (fun c => ?_) (fun c => ?_)
  · replace h := zif1 c h
    obtain ⟨⟨g2_0, g2_1⟩, h⟩ := zgd h
    refine rb false 5 (L2 := [some (2, Int.ofNat 0), some (0, p1), some (0, p2), some (0, ((mK_wide (Int.toNat p1)) - 1))]) rfl rfl (And.intro g2_0 g2_1) ?_
    exact LP45 zN p1 p2 ((mK_wide (Int.toNat p1)) - 1) h
  · replace h := zif2 c h
    obtain ⟨⟨g6_0, g6_1⟩, h⟩ := zgd h
    refine ri false 1 (q := (mK_wide (Int.toNat p1)) < (mK_wide (Int.toNat p2))) (t1 := 30) (t2 := 34) rfl rfl (And.intro g6_0 g6_1) (fun c => ?_) (fun c => ?_)
    · replace h := zif1 c h
      refine rg false 2 (t := 35) (st2 := [(0, (-1))]) rfl rfl rfl trivial ?_
      obtain rfl := Option.some.inj h
      exact r1 false 4 rfl rfl rfl rfl rfl rfl trivial
    · replace h := zif2 c h
      refine rb false 3 (st2 := [(0, 1)]) rfl rfl trivial ?_
      obtain rfl := Option.some.inj h
      exact r1 false 4 rfl rfl rfl rfl rfl rfl trivial
def bX10_lessens : zB := [(0, [(.iconst 0, 1), (.istore_n 3, 1), (.iconst 0, 1), (.istore 4, 2)], 5, .nop, 0), (5, [(.iload 4, 2), (.aload_n 0, 1), (.getfield 13, 3), (.iload_n 1, 1), (.iaload, 1)], 13, .if_icmp .ge 66, 3), (16, [(.aload_n 0, 1), (.getfield 7, 3), (.bipush 70, 2), (.iload_n 1, 1), (.imul, 1), (.iload 4, 2), (.iadd, 1), (.iaload, 1), (.aload_n 0, 1), (.getfield 7, 3), (.bipush 70, 2), (.iload_n 2, 1), (.imul, 1), (.iload 4, 2), (.iadd, 1), (.iaload, 1), (.isub, 1), (.iload_n 3, 1), (.isub, 1), (.istore 5, 2)], 45, .nop, 0), (45, [(.aload_n 0, 1), (.getfield 7, 3), (.bipush 70, 2), (.iload_n 1, 1), (.imul, 1), (.iload 4, 2), (.iadd, 1), (.iload 5, 2), (.ldc 102, 2), (.iand, 1), (.iastore, 1)], 62, .nop, 0), (62, [(.iload 5, 2)], 64, .ifCond .ge 7, 3), (67, [(.iconst 1, 1)], 68, .goto 4, 3), (71, [(.iconst 0, 1)], 72, .nop, 0), (72, [(.istore_n 3, 1), (.iinc 4 1, 3)], 76, .goto (-71), 3), (79, [(.aload_n 0, 1), (.iload_n 1, 1)], 81, .invokevirtual 94, 3), (84, [], 84, .return_, 1)]
theorem bX10_lessens_ok : zBok cX10_lessens 6 bX10_lessens = true := by decide +kernel
abbrev wX10_lessens : List Cond := Cond.code yX10_lessens cX10_lessens 6 none :: uU
def rX10_lessens : Room := { frames := 1, cells := 0, slots := 0, locals := 21 }
set_option maxRecDepth 20000 in
set_option maxHeartbeats 4000000 in
theorem m_M_X10_lessens (l : Launch) (M1 : zM) (M2 : zM) (M3 : zM) (M4 : zM) (M5 : zM) (M6 : zM) (p1 : Int) (p2 : Int) (mK_limbs : Nat → Int) (mK_wide : Nat → Int) (x : (Nat → Int) × (Nat → Int)) (h : f_X10_lessens p1 p2 mK_limbs mK_wide = some x) : zD l yX10_lessens wX10_lessens rX10_lessens lamM shpM [(2, Int.ofNat 0), (0, p1), (0, p2)] [([], [mK_limbs, mK_wide]), M1, M2, M3, M4, M5, M6] (none) [([], [x.1, x.2]), M1, M2, M3, M4, M5, M6] := by
  refine zD_of (B := bX10_lessens) (E := eX10) (by decide) rfl lokM (eX10_ok _) bX10_lessens_ok (Or.inl rfl) rfl (fun S R => ?_)
  obtain ⟨rb, rg, ri, rv, rs, r0, r1, r2, r3, rt, rmk⟩ := R
  show S 0 [some (2, Int.ofNat 0), some (0, p1), some (0, p2), none, none, none] [] [([], [mK_limbs, mK_wide]), M1, M2, M3, M4, M5, M6]
  have LP5 : ∀ (n : Nat) (v1 : Int) (v2 : Int) (v3 : Int) (v4 : Int) (mK_limbs : Nat → Int) (mK_wide : Nat → Int) (y : Nat → Int), l_X10_lessens_5 n v1 v2 v3 v4 mK_limbs mK_wide = some y → S 79 [some (2, Int.ofNat 0), some (0, v1), none, none, none, none] [] [([], [y, mK_wide]), M1, M2, M3, M4, M5, M6] → S 5 [some (2, Int.ofNat 0), some (0, v1), some (0, v2), some (0, v3), some (0, v4), none] [] [([], [mK_limbs, mK_wide]), M1, M2, M3, M4, M5, M6] := by
    intro n
    induction n with
    | zero =>
      intro v1 v2 v3 v4 mK_limbs mK_wide y h k
      rw [l_X10_lessens_5] at h
      cases h
    | succ n ih =>
      intro v1 v2 v3 v4 mK_limbs mK_wide y h k
      rw [l_X10_lessens_5] at h
      obtain ⟨g1_0, h⟩ := zgd h
      refine ri false 1 (q := v4 < (mK_wide (Int.toNat v1))) (t1 := 16) (t2 := 79) rfl rfl g1_0 (fun c => ?_) (fun c => ?_)
      · replace h := zif1 c h
        obtain ⟨⟨g2_0, g2_1, g2_2⟩, h⟩ := zgd h
        refine rb false 2 (L2 := [some (2, Int.ofNat 0), some (0, v1), some (0, v2), some (0, v3), some (0, v4), some (0, (((mK_limbs (Int.toNat ((70 * v1) + v4))) - (mK_limbs (Int.toNat ((70 * v2) + v4)))) - v3))]) rfl rfl (And.intro g2_0 (And.intro g2_1 g2_2)) ?_
        obtain ⟨g3_0, h⟩ := zgd h
        refine rb false 3 (σ2 := [([], [(zu mK_limbs (Int.toNat ((70 * v1) + v4)) (zand (((mK_limbs (Int.toNat ((70 * v1) + v4))) - (mK_limbs (Int.toNat ((70 * v2) + v4)))) - v3) 1073741823)), mK_wide]), M1, M2, M3, M4, M5, M6]) rfl rfl g3_0 ?_
        refine ri false 4 (q := (((mK_limbs (Int.toNat ((70 * v1) + v4))) - (mK_limbs (Int.toNat ((70 * v2) + v4)))) - v3) < 0) (t1 := 67) (t2 := 71) rfl rfl trivial (fun c => ?_) (fun c => ?_)
        · replace h := zif1 c h
          refine rg false 5 (t := 72) (st2 := [(0, 1)]) rfl rfl rfl trivial ?_
          obtain ⟨g4_0, h⟩ := zgd h
          refine rg false 7 (t := 5) (L2 := [some (2, Int.ofNat 0), some (0, v1), some (0, v2), some (0, 1), some (0, (v4 + 1)), some (0, (((mK_limbs (Int.toNat ((70 * v1) + v4))) - (mK_limbs (Int.toNat ((70 * v2) + v4)))) - v3))]) rfl rfl rfl g4_0 ?_
          refine rmk [true, true, true, true, true, false] (L2 := [some (2, Int.ofNat 0), some (0, v1), some (0, v2), some (0, 1), some (0, (v4 + 1)), none]) rfl ?_
          exact ih v1 v2 1 (v4 + 1) (zu mK_limbs (Int.toNat ((70 * v1) + v4)) (zand (((mK_limbs (Int.toNat ((70 * v1) + v4))) - (mK_limbs (Int.toNat ((70 * v2) + v4)))) - v3) 1073741823)) mK_wide y h k
        · replace h := zif2 c h
          refine rb false 6 (st2 := [(0, 0)]) rfl rfl trivial ?_
          obtain ⟨g5_0, h⟩ := zgd h
          refine rg false 7 (t := 5) (L2 := [some (2, Int.ofNat 0), some (0, v1), some (0, v2), some (0, 0), some (0, (v4 + 1)), some (0, (((mK_limbs (Int.toNat ((70 * v1) + v4))) - (mK_limbs (Int.toNat ((70 * v2) + v4)))) - v3))]) rfl rfl rfl g5_0 ?_
          refine rmk [true, true, true, true, true, false] (L2 := [some (2, Int.ofNat 0), some (0, v1), some (0, v2), some (0, 0), some (0, (v4 + 1)), none]) rfl ?_
          exact ih v1 v2 0 (v4 + 1) (zu mK_limbs (Int.toNat ((70 * v1) + v4)) (zand (((mK_limbs (Int.toNat ((70 * v1) + v4))) - (mK_limbs (Int.toNat ((70 * v2) + v4)))) - v3) 1073741823)) mK_wide y h k
      · replace h := zif2 c h
        refine rmk [true, true, false, false, false, false] (L2 := [some (2, Int.ofNat 0), some (0, v1), none, none, none, none]) rfl ?_
        obtain rfl := Option.some.inj h
        exact k
  unfold f_X10_lessens at h
  refine rb false 0 (L2 := [some (2, Int.ofNat 0), some (0, p1), some (0, p2), some (0, 0), some (0, 0), none]) rfl rfl trivial ?_
  obtain ⟨x6, hx6, h⟩ := zbd h
  refine LP5 zN p1 p2 0 0 mK_limbs mK_wide x6 hx6 ?_
  obtain ⟨x7, hx7, h⟩ := zbd h
  refine rv false 8 1 rfl rfl trivial rfl (m_M_X10_trims l M1 M2 M3 M4 M5 M6 p1 x6 mK_wide x7 hx7) ⟨_, _, _, _, rfl, rfl, rfl, by decide +kernel, ⟨Nat.le_of_ble_eq_true rfl, Nat.le_of_ble_eq_true rfl⟩, uGin u_8_8 u_8_9 u_8_10 u_1_5 u_8_11⟩ ⟨rfl, _, _, _, rfl, rfl⟩ ?_
  obtain rfl := Option.some.inj h
  exact r0 false 9 rfl rfl rfl rfl trivial
def bX10_parts : zB := [(0, [(.iconst 1, 1), (.istore_n 2, 1), (.iconst 0, 1), (.istore_n 3, 1)], 4, .nop, 0), (4, [(.iload_n 3, 1), (.iconst 5, 1)], 6, .if_icmp .ge 24, 3), (9, [(.iload_n 2, 1), (.iconst 2, 1), (.aload_n 0, 1), (.getfield 7, 3), (.sipush 210, 3), (.iaload, 1), (.iload_n 2, 1), (.imul, 1), (.isub, 1), (.imul, 1), (.istore_n 2, 1)], 24, .nop, 0), (24, [(.iinc 3 1, 3)], 27, .goto (-23), 3), (30, [(.aload_n 0, 1), (.getfield 13, 3), (.iload_n 1, 1), (.iaload, 1), (.istore_n 3, 1), (.iconst 0, 1), (.istore 4, 2)], 40, .nop, 0), (40, [(.iload 4, 2), (.iload_n 3, 1)], 43, .if_icmp .ge 149, 3), (46, [(.aload_n 0, 1), (.getfield 7, 3), (.bipush 70, 2), (.iload_n 1, 1), (.imul, 1), (.iload 4, 2), (.iadd, 1), (.iaload, 1), (.iload_n 2, 1), (.imul, 1), (.ldc 102, 2), (.iand, 1), (.istore 5, 2)], 65, .nop, 0), (65, [(.lconst 0, 1), (.lstore 6, 2), (.iconst 0, 1), (.istore 8, 2)], 71, .nop, 0), (71, [(.iload 4, 2), (.iload 8, 2), (.iadd, 1), (.iload_n 3, 1)], 77, .if_icmp .ge 96, 3), (80, [(.iload 8, 2), (.aload_n 0, 1), (.getfield 13, 3), (.iconst 3, 1), (.iaload, 1)], 88, .if_icmp .ge 22, 3), (91, [(.iload 5, 2), (.i2l, 1), (.aload_n 0, 1), (.getfield 7, 3), (.sipush 210, 3), (.iload 8, 2), (.iadd, 1), (.iaload, 1), (.i2l, 1), (.lmul, 1)], 107, .goto 4, 3), (110, [(.lconst 0, 1)], 111, .nop, 0), (111, [(.lstore 9, 2), (.aload_n 0, 1), (.getfield 7, 3), (.bipush 70, 2), (.iload_n 1, 1), (.imul, 1), (.iload 4, 2), (.iadd, 1), (.iload 8, 2), (.iadd, 1), (.iaload, 1), (.i2l, 1), (.lload 9, 2), (.lsub, 1), (.lload 6, 2), (.lsub, 1), (.lstore 11, 2)], 137, .nop, 0), (137, [(.aload_n 0, 1), (.getfield 7, 3), (.bipush 70, 2), (.iload_n 1, 1), (.imul, 1), (.iload 4, 2), (.iadd, 1), (.iload 8, 2), (.iadd, 1), (.lload 11, 2), (.ldc2_w 92, 3), (.land, 1), (.l2i, 1), (.iastore, 1)], 159, .nop, 0), (159, [(.lload 11, 2), (.bipush 30, 2), (.lshr, 1), (.lneg, 1), (.lstore 6, 2), (.iinc 8 1, 3)], 170, .goto (-99), 3), (173, [(.aload_n 0, 1), (.getfield 7, 3), (.sipush 280, 3), (.iload 4, 2), (.iadd, 1), (.iload 5, 2), (.iastore, 1), (.iinc 4 1, 3)], 189, .goto (-149), 3), (192, [(.iconst 0, 1), (.istore 4, 2)], 195, .nop, 0), (195, [(.iload 4, 2), (.iload_n 3, 1)], 198, .if_icmp .ge 32, 3), (201, [(.aload_n 0, 1), (.getfield 7, 3), (.bipush 70, 2), (.iload_n 1, 1), (.imul, 1), (.iload 4, 2), (.iadd, 1), (.aload_n 0, 1), (.getfield 7, 3), (.sipush 280, 3), (.iload 4, 2), (.iadd, 1), (.iaload, 1), (.iastore, 1)], 224, .nop, 0), (224, [(.iinc 4 1, 3)], 227, .goto (-32), 3), (230, [(.aload_n 0, 1), (.iload_n 1, 1)], 232, .invokevirtual 94, 3), (235, [], 235, .return_, 1)]
theorem bX10_parts_ok : zBok cX10_parts 13 bX10_parts = true := by decide +kernel
abbrev wX10_parts : List Cond := Cond.code yX10_parts cX10_parts 13 none :: uU
def rX10_parts : Room := { frames := 1, cells := 0, slots := 0, locals := 21 }
set_option maxRecDepth 20000 in
set_option maxHeartbeats 4000000 in
theorem m_M_X10_parts (l : Launch) (M1 : zM) (M2 : zM) (M3 : zM) (M4 : zM) (M5 : zM) (M6 : zM) (p1 : Int) (mK_limbs : Nat → Int) (mK_wide : Nat → Int) (x : (Nat → Int) × (Nat → Int)) (h : f_X10_parts p1 mK_limbs mK_wide = some x) : zD l yX10_parts wX10_parts rX10_parts lamM shpM [(2, Int.ofNat 0), (0, p1)] [([], [mK_limbs, mK_wide]), M1, M2, M3, M4, M5, M6] (none) [([], [x.1, x.2]), M1, M2, M3, M4, M5, M6] := by
  refine zD_of (B := bX10_parts) (E := eX10) (by decide) rfl lokM (eX10_ok _) bX10_parts_ok (Or.inl rfl) rfl (fun S R => ?_)
  obtain ⟨rb, rg, ri, rv, rs, r0, r1, r2, r3, rt, rmk⟩ := R
  show S 0 [some (2, Int.ofNat 0), some (0, p1), none, none, none, none, none, none, none, none, none, none, none] [] [([], [mK_limbs, mK_wide]), M1, M2, M3, M4, M5, M6]
  have LP4 : ∀ (n : Nat) (v1 : Int) (v2 : Int) (v3 : Int) (mK_limbs : Nat → Int) (mK_wide : Nat → Int) (y : Int), l_X10_parts_4 n v1 v2 v3 mK_limbs = some y → S 30 [some (2, Int.ofNat 0), some (0, v1), some (0, y), none, none, none, none, none, none, none, none, none, none] [] [([], [mK_limbs, mK_wide]), M1, M2, M3, M4, M5, M6] → S 4 [some (2, Int.ofNat 0), some (0, v1), some (0, v2), some (0, v3), none, none, none, none, none, none, none, none, none] [] [([], [mK_limbs, mK_wide]), M1, M2, M3, M4, M5, M6] := by
    intro n
    induction n with
    | zero =>
      intro v1 v2 v3 mK_limbs mK_wide y h k
      rw [l_X10_parts_4] at h
      cases h
    | succ n ih =>
      intro v1 v2 v3 mK_limbs mK_wide y h k
      rw [l_X10_parts_4] at h
      refine ri false 1 (q := v3 < 5) (t1 := 9) (t2 := 30) rfl rfl trivial (fun c => ?_) (fun c => ?_)
      · replace h := zif1 c h
        refine rb true 2 (L2 := [some (2, Int.ofNat 0), some (0, v1), some (0, (zw (v2 * (2 - ((mK_limbs (Int.toNat 210)) * v2))))), some (0, v3), none, none, none, none, none, none, none, none, none]) rfl rfl (show zin 210 630 by decide) ?_
        obtain ⟨g1_0, h⟩ := zgd h
        refine rg false 3 (t := 4) (L2 := [some (2, Int.ofNat 0), some (0, v1), some (0, (zw (v2 * (2 - ((mK_limbs (Int.toNat 210)) * v2))))), some (0, (v3 + 1)), none, none, none, none, none, none, none, none, none]) rfl rfl rfl g1_0 ?_
        exact ih v1 (zw (v2 * (2 - ((mK_limbs (Int.toNat 210)) * v2)))) (v3 + 1) mK_limbs mK_wide y h k
      · replace h := zif2 c h
        refine rmk [true, true, true, false, false, false, false, false, false, false, false, false, false] (L2 := [some (2, Int.ofNat 0), some (0, v1), some (0, v2), none, none, none, none, none, none, none, none, none, none]) rfl ?_
        obtain rfl := Option.some.inj h
        exact k
  have LP71 : ∀ (n : Nat) (v1 : Int) (v2 : Int) (v3 : Int) (v4 : Int) (v5 : Int) (v6 : Int) (v8 : Int) (mK_limbs : Nat → Int) (mK_wide : Nat → Int) (y : Nat → Int), l_X10_parts_71 n v1 v2 v3 v4 v5 v6 v8 mK_limbs mK_wide = some y → S 173 [some (2, Int.ofNat 0), some (0, v1), some (0, v2), some (0, v3), some (0, v4), some (0, v5), none, none, none, none, none, none, none] [] [([], [y, mK_wide]), M1, M2, M3, M4, M5, M6] → S 71 [some (2, Int.ofNat 0), some (0, v1), some (0, v2), some (0, v3), some (0, v4), some (0, v5), some (1, v6), none, some (0, v8), none, none, none, none] [] [([], [mK_limbs, mK_wide]), M1, M2, M3, M4, M5, M6] := by
    intro n
    induction n with
    | zero =>
      intro v1 v2 v3 v4 v5 v6 v8 mK_limbs mK_wide y h k
      rw [l_X10_parts_71] at h
      cases h
    | succ n ih =>
      intro v1 v2 v3 v4 v5 v6 v8 mK_limbs mK_wide y h k
      rw [l_X10_parts_71] at h
      obtain ⟨g5_0, h⟩ := zgd h
      refine ri false 8 (q := (v4 + v8) < v3) (t1 := 80) (t2 := 173) rfl rfl g5_0 (fun c => ?_) (fun c => ?_)
      · replace h := zif1 c h
        refine ri false 9 (q := v8 < (mK_wide (Int.toNat 3))) (t1 := 91) (t2 := 110) rfl rfl (show zin 3 9 by decide) (fun c => ?_) (fun c => ?_)
        · replace h := zif1 c h
          obtain ⟨g6_0, h⟩ := zgd h
          refine rg false 10 (t := 111) (st2 := [(4, (v5 * (mK_limbs (Int.toNat (210 + v8)))))]) rfl rfl rfl g6_0 ?_
          obtain ⟨⟨g7_0, g7_1, g7_2⟩, h⟩ := zgd h
          refine rb false 12 (L2 := [some (2, Int.ofNat 0), some (0, v1), some (0, v2), some (0, v3), some (0, v4), some (0, v5), some (1, v6), none, some (0, v8), some (1, (v5 * (mK_limbs (Int.toNat (210 + v8))))), none, some (1, (((mK_limbs (Int.toNat (((70 * v1) + v4) + v8))) - (v5 * (mK_limbs (Int.toNat (210 + v8))))) - v6)), none]) rfl rfl (And.intro g7_0 (And.intro g7_1 g7_2)) ?_
          obtain ⟨⟨g8_0, g8_1⟩, h⟩ := zgd h
          refine rb false 13 (σ2 := [([], [(zu mK_limbs (Int.toNat (((70 * v1) + v4) + v8)) (zandl (((mK_limbs (Int.toNat (((70 * v1) + v4) + v8))) - (v5 * (mK_limbs (Int.toNat (210 + v8))))) - v6) 1073741823)), mK_wide]), M1, M2, M3, M4, M5, M6]) rfl rfl (And.intro g8_0 g8_1) ?_
          obtain ⟨⟨g9_0, g9_1⟩, h⟩ := zgd h
          refine rg false 14 (t := 71) (L2 := [some (2, Int.ofNat 0), some (0, v1), some (0, v2), some (0, v3), some (0, v4), some (0, v5), some (1, (-(zshrl (((mK_limbs (Int.toNat (((70 * v1) + v4) + v8))) - (v5 * (mK_limbs (Int.toNat (210 + v8))))) - v6) 30))), none, some (0, (v8 + 1)), some (1, (v5 * (mK_limbs (Int.toNat (210 + v8))))), none, some (1, (((mK_limbs (Int.toNat (((70 * v1) + v4) + v8))) - (v5 * (mK_limbs (Int.toNat (210 + v8))))) - v6)), none]) rfl rfl rfl (And.intro g9_0 g9_1) ?_
          refine rmk [true, true, true, true, true, true, true, false, true, false, false, false, false] (L2 := [some (2, Int.ofNat 0), some (0, v1), some (0, v2), some (0, v3), some (0, v4), some (0, v5), some (1, (-(zshrl (((mK_limbs (Int.toNat (((70 * v1) + v4) + v8))) - (v5 * (mK_limbs (Int.toNat (210 + v8))))) - v6) 30))), none, some (0, (v8 + 1)), none, none, none, none]) rfl ?_
          exact ih v1 v2 v3 v4 v5 (-(zshrl (((mK_limbs (Int.toNat (((70 * v1) + v4) + v8))) - (v5 * (mK_limbs (Int.toNat (210 + v8))))) - v6) 30)) (v8 + 1) (zu mK_limbs (Int.toNat (((70 * v1) + v4) + v8)) (zandl (((mK_limbs (Int.toNat (((70 * v1) + v4) + v8))) - (v5 * (mK_limbs (Int.toNat (210 + v8))))) - v6) 1073741823)) mK_wide y h k
        · replace h := zif2 c h
          refine rb false 11 (st2 := [(1, 0)]) rfl rfl trivial ?_
          obtain ⟨⟨g10_0, g10_1⟩, h⟩ := zgd h
          refine rb false 12 (L2 := [some (2, Int.ofNat 0), some (0, v1), some (0, v2), some (0, v3), some (0, v4), some (0, v5), some (1, v6), none, some (0, v8), some (1, 0), none, some (1, (((mK_limbs (Int.toNat (((70 * v1) + v4) + v8))) - 0) - v6)), none]) rfl rfl (And.intro g10_0 g10_1) ?_
          obtain ⟨⟨g11_0, g11_1⟩, h⟩ := zgd h
          refine rb false 13 (σ2 := [([], [(zu mK_limbs (Int.toNat (((70 * v1) + v4) + v8)) (zandl (((mK_limbs (Int.toNat (((70 * v1) + v4) + v8))) - 0) - v6) 1073741823)), mK_wide]), M1, M2, M3, M4, M5, M6]) rfl rfl (And.intro g11_0 g11_1) ?_
          obtain ⟨⟨g12_0, g12_1⟩, h⟩ := zgd h
          refine rg false 14 (t := 71) (L2 := [some (2, Int.ofNat 0), some (0, v1), some (0, v2), some (0, v3), some (0, v4), some (0, v5), some (1, (-(zshrl (((mK_limbs (Int.toNat (((70 * v1) + v4) + v8))) - 0) - v6) 30))), none, some (0, (v8 + 1)), some (1, 0), none, some (1, (((mK_limbs (Int.toNat (((70 * v1) + v4) + v8))) - 0) - v6)), none]) rfl rfl rfl (And.intro g12_0 g12_1) ?_
          refine rmk [true, true, true, true, true, true, true, false, true, false, false, false, false] (L2 := [some (2, Int.ofNat 0), some (0, v1), some (0, v2), some (0, v3), some (0, v4), some (0, v5), some (1, (-(zshrl (((mK_limbs (Int.toNat (((70 * v1) + v4) + v8))) - 0) - v6) 30))), none, some (0, (v8 + 1)), none, none, none, none]) rfl ?_
          exact ih v1 v2 v3 v4 v5 (-(zshrl (((mK_limbs (Int.toNat (((70 * v1) + v4) + v8))) - 0) - v6) 30)) (v8 + 1) (zu mK_limbs (Int.toNat (((70 * v1) + v4) + v8)) (zandl (((mK_limbs (Int.toNat (((70 * v1) + v4) + v8))) - 0) - v6) 1073741823)) mK_wide y h k
      · replace h := zif2 c h
        refine rmk [true, true, true, true, true, true, false, false, false, false, false, false, false] (L2 := [some (2, Int.ofNat 0), some (0, v1), some (0, v2), some (0, v3), some (0, v4), some (0, v5), none, none, none, none, none, none, none]) rfl ?_
        obtain rfl := Option.some.inj h
        exact k
  have LP40 : ∀ (n : Nat) (v1 : Int) (v2 : Int) (v3 : Int) (v4 : Int) (mK_limbs : Nat → Int) (mK_wide : Nat → Int) (y : Nat → Int), l_X10_parts_40 n v1 v2 v3 v4 mK_limbs mK_wide = some y → S 192 [some (2, Int.ofNat 0), some (0, v1), none, some (0, v3), none, none, none, none, none, none, none, none, none] [] [([], [y, mK_wide]), M1, M2, M3, M4, M5, M6] → S 40 [some (2, Int.ofNat 0), some (0, v1), some (0, v2), some (0, v3), some (0, v4), none, none, none, none, none, none, none, none] [] [([], [mK_limbs, mK_wide]), M1, M2, M3, M4, M5, M6] := by
    intro n
    induction n with
    | zero =>
      intro v1 v2 v3 v4 mK_limbs mK_wide y h k
      rw [l_X10_parts_40] at h
      cases h
    | succ n ih =>
      intro v1 v2 v3 v4 mK_limbs mK_wide y h k
      rw [l_X10_parts_40] at h
      refine ri false 5 (q := v4 < v3) (t1 := 46) (t2 := 192) rfl rfl trivial (fun c => ?_) (fun c => ?_)
      · replace h := zif1 c h
        obtain ⟨g4_0, h⟩ := zgd h
        refine rb false 6 (L2 := [some (2, Int.ofNat 0), some (0, v1), some (0, v2), some (0, v3), some (0, v4), some (0, (zand ((mK_limbs (Int.toNat ((70 * v1) + v4))) * v2) 1073741823)), none, none, none, none, none, none, none]) rfl rfl g4_0 ?_
        refine rb false 7 (L2 := [some (2, Int.ofNat 0), some (0, v1), some (0, v2), some (0, v3), some (0, v4), some (0, (zand ((mK_limbs (Int.toNat ((70 * v1) + v4))) * v2) 1073741823)), some (1, 0), none, some (0, 0), none, none, none, none]) rfl rfl trivial ?_
        obtain ⟨x13, hx13, h⟩ := zbd h
        refine LP71 zN v1 v2 v3 v4 (zand ((mK_limbs (Int.toNat ((70 * v1) + v4))) * v2) 1073741823) 0 0 mK_limbs mK_wide x13 hx13 ?_
        obtain ⟨⟨g14_0, g14_1⟩, h⟩ := zgd h
        refine rg false 15 (t := 40) (L2 := [some (2, Int.ofNat 0), some (0, v1), some (0, v2), some (0, v3), some (0, (v4 + 1)), some (0, (zand ((mK_limbs (Int.toNat ((70 * v1) + v4))) * v2) 1073741823)), none, none, none, none, none, none, none]) (σ2 := [([], [(zu x13 (Int.toNat (280 + v4)) (zand ((mK_limbs (Int.toNat ((70 * v1) + v4))) * v2) 1073741823)), mK_wide]), M1, M2, M3, M4, M5, M6]) rfl rfl rfl (And.intro g14_0 g14_1) ?_
        refine rmk [true, true, true, true, true, false, false, false, false, false, false, false, false] (L2 := [some (2, Int.ofNat 0), some (0, v1), some (0, v2), some (0, v3), some (0, (v4 + 1)), none, none, none, none, none, none, none, none]) rfl ?_
        exact ih v1 v2 v3 (v4 + 1) (zu x13 (Int.toNat (280 + v4)) (zand ((mK_limbs (Int.toNat ((70 * v1) + v4))) * v2) 1073741823)) mK_wide y h k
      · replace h := zif2 c h
        refine rmk [true, true, false, true, false, false, false, false, false, false, false, false, false] (L2 := [some (2, Int.ofNat 0), some (0, v1), none, some (0, v3), none, none, none, none, none, none, none, none, none]) rfl ?_
        obtain rfl := Option.some.inj h
        exact k
  have LP195 : ∀ (n : Nat) (v1 : Int) (v3 : Int) (v4 : Int) (mK_limbs : Nat → Int) (mK_wide : Nat → Int) (y : Nat → Int), l_X10_parts_195 n v1 v3 v4 mK_limbs = some y → S 230 [some (2, Int.ofNat 0), some (0, v1), none, none, none, none, none, none, none, none, none, none, none] [] [([], [y, mK_wide]), M1, M2, M3, M4, M5, M6] → S 195 [some (2, Int.ofNat 0), some (0, v1), none, some (0, v3), some (0, v4), none, none, none, none, none, none, none, none] [] [([], [mK_limbs, mK_wide]), M1, M2, M3, M4, M5, M6] := by
    intro n
    induction n with
    | zero =>
      intro v1 v3 v4 mK_limbs mK_wide y h k
      rw [l_X10_parts_195] at h
      cases h
    | succ n ih =>
      intro v1 v3 v4 mK_limbs mK_wide y h k
      rw [l_X10_parts_195] at h
      refine ri false 17 (q := v4 < v3) (t1 := 201) (t2 := 230) rfl rfl trivial (fun c => ?_) (fun c => ?_)
      · replace h := zif1 c h
        obtain ⟨⟨g16_0, g16_1⟩, h⟩ := zgd h
        refine rb false 18 (σ2 := [([], [(zu mK_limbs (Int.toNat ((70 * v1) + v4)) (mK_limbs (Int.toNat (280 + v4)))), mK_wide]), M1, M2, M3, M4, M5, M6]) rfl rfl (And.intro g16_0 g16_1) ?_
        obtain ⟨g17_0, h⟩ := zgd h
        refine rg false 19 (t := 195) (L2 := [some (2, Int.ofNat 0), some (0, v1), none, some (0, v3), some (0, (v4 + 1)), none, none, none, none, none, none, none, none]) rfl rfl rfl g17_0 ?_
        exact ih v1 v3 (v4 + 1) (zu mK_limbs (Int.toNat ((70 * v1) + v4)) (mK_limbs (Int.toNat (280 + v4)))) mK_wide y h k
      · replace h := zif2 c h
        refine rmk [true, true, false, false, false, false, false, false, false, false, false, false, false] (L2 := [some (2, Int.ofNat 0), some (0, v1), none, none, none, none, none, none, none, none, none, none, none]) rfl ?_
        obtain rfl := Option.some.inj h
        exact k
  unfold f_X10_parts at h
  refine rb false 0 (L2 := [some (2, Int.ofNat 0), some (0, p1), some (0, 1), some (0, 0), none, none, none, none, none, none, none, none, none]) rfl rfl trivial ?_
  obtain ⟨x2, hx2, h⟩ := zbd h
  refine LP4 zN p1 1 0 mK_limbs mK_wide x2 hx2 ?_
  obtain ⟨g3_0, h⟩ := zgd h
  refine rb false 4 (L2 := [some (2, Int.ofNat 0), some (0, p1), some (0, x2), some (0, (mK_wide (Int.toNat p1))), some (0, 0), none, none, none, none, none, none, none, none]) rfl rfl g3_0 ?_
  obtain ⟨x15, hx15, h⟩ := zbd h
  refine LP40 zN p1 x2 (mK_wide (Int.toNat p1)) 0 mK_limbs mK_wide x15 hx15 ?_
  refine rb false 16 (L2 := [some (2, Int.ofNat 0), some (0, p1), none, some (0, (mK_wide (Int.toNat p1))), some (0, 0), none, none, none, none, none, none, none, none]) rfl rfl trivial ?_
  obtain ⟨x18, hx18, h⟩ := zbd h
  refine LP195 zN p1 (mK_wide (Int.toNat p1)) 0 x15 mK_wide x18 hx18 ?_
  obtain ⟨x19, hx19, h⟩ := zbd h
  refine rv false 20 1 rfl rfl trivial rfl (m_M_X10_trims l M1 M2 M3 M4 M5 M6 p1 x18 mK_wide x19 hx19) ⟨_, _, _, _, rfl, rfl, rfl, by decide +kernel, ⟨Nat.le_of_ble_eq_true rfl, Nat.le_of_ble_eq_true rfl⟩, uGin u_8_8 u_8_9 u_8_10 u_1_5 u_8_11⟩ ⟨rfl, _, _, _, rfl, rfl⟩ ?_
  obtain rfl := Option.some.inj h
  exact r0 false 21 rfl rfl rfl rfl trivial
def bX10_lowers : zB := [(0, [(.aload_n 0, 1), (.getfield 13, 3), (.iconst 0, 1), (.iaload, 1)], 6, .ifCond .ne 10, 3), (9, [(.aload_n 0, 1), (.iconst 1, 1), (.lconst 1, 1)], 12, .invokevirtual 88, 3), (15, [], 15, .return_, 1), (16, [(.aload_n 0, 1), (.iconst 0, 1)], 18, .invokevirtual 103, 3), (21, [], 21, .ifCond .eq 24, 3), (24, [(.aload_n 0, 1), (.iconst 1, 1)], 26, .invokevirtual 103, 3), (29, [], 29, .ifCond .eq 16, 3), (32, [(.aload_n 0, 1), (.iconst 0, 1)], 34, .invokevirtual 107, 3), (37, [(.aload_n 0, 1), (.iconst 1, 1)], 39, .invokevirtual 107, 3), (42, [], 42, .goto (-26), 3), (45, [(.aload_n 0, 1), (.iconst 2, 1), (.iconst 0, 1)], 48, .invokevirtual 98, 3), (51, [(.aload_n 0, 1), (.iconst 3, 1), (.iconst 1, 1)], 54, .invokevirtual 98, 3), (57, [(.aload_n 0, 1), (.getfield 13, 3), (.iconst 2, 1), (.iaload, 1)], 63, .ifCond .le 82, 3), (66, [(.aload_n 0, 1), (.iconst 2, 1)], 68, .invokevirtual 103, 3), (71, [], 71, .ifCond .eq 11, 3), (74, [(.aload_n 0, 1), (.iconst 2, 1)], 76, .invokevirtual 107, 3), (79, [], 79, .goto (-13), 3), (82, [(.aload_n 0, 1), (.iconst 3, 1)], 84, .invokevirtual 103, 3), (87, [], 87, .ifCond .eq 11, 3), (90, [(.aload_n 0, 1), (.iconst 3, 1)], 92, .invokevirtual 107, 3), (95, [], 95, .goto (-13), 3), (98, [(.aload_n 0, 1), (.iconst 2, 1), (.iconst 3, 1)], 101, .invokevirtual 110, 3), (104, [], 104, .ifCond .lt 7, 3), (107, [(.iconst 2, 1)], 108, .goto 4, 3), (111, [(.iconst 3, 1)], 112, .nop, 0), (112, [(.istore_n 1, 1), (.aload_n 0, 1), (.iload_n 1, 1), (.iconst 5, 1), (.iload_n 1, 1), (.isub, 1)], 118, .invokevirtual 114, 3), (121, [(.aload_n 0, 1), (.getfield 13, 3), (.iconst 3, 1), (.iaload, 1)], 127, .ifCond .ne 15, 3), (130, [(.aload_n 0, 1), (.iconst 3, 1), (.iconst 2, 1)], 133, .invokevirtual 98, 3), (136, [(.aload_n 0, 1), (.iconst 2, 1), (.lconst 0, 1)], 139, .invokevirtual 88, 3), (142, [], 142, .goto (-85), 3), (145, [(.aload_n 0, 1), (.iconst 0, 1)], 147, .invokevirtual 117, 3), (150, [(.aload_n 0, 1), (.iconst 1, 1)], 152, .invokevirtual 117, 3), (155, [], 155, .return_, 1)]
theorem bX10_lowers_ok : zBok cX10_lowers 2 bX10_lowers = true := by decide +kernel
abbrev wX10_lowers : List Cond := Cond.code yX10_lowers cX10_lowers 2 none :: uU
def rX10_lowers : Room := { frames := 2, cells := 0, slots := 0, locals := 53 }
set_option maxRecDepth 20000 in
set_option maxHeartbeats 4000000 in
theorem m_M_X10_lowers (l : Launch) (M1 : zM) (M2 : zM) (M3 : zM) (M4 : zM) (M5 : zM) (M6 : zM) (mK_limbs : Nat → Int) (mK_wide : Nat → Int) (x : (Nat → Int) × (Nat → Int)) (h : f_X10_lowers mK_limbs mK_wide = some x) : zD l yX10_lowers wX10_lowers rX10_lowers lamM shpM [(2, Int.ofNat 0)] [([], [mK_limbs, mK_wide]), M1, M2, M3, M4, M5, M6] (none) [([], [x.1, x.2]), M1, M2, M3, M4, M5, M6] := by
  refine zD_of (B := bX10_lowers) (E := eX10) (by decide) rfl lokM (eX10_ok _) bX10_lowers_ok (Or.inl rfl) rfl (fun S R => ?_)
  obtain ⟨rb, rg, ri, rv, rs, r0, r1, r2, r3, rt, rmk⟩ := R
  show S 0 [some (2, Int.ofNat 0), none] [] [([], [mK_limbs, mK_wide]), M1, M2, M3, M4, M5, M6]
  have LP16 : ∀ (n : Nat) (mK_limbs : Nat → Int) (mK_wide : Nat → Int) (y : (Nat → Int) × (Nat → Int)), l_X10_lowers_16 n mK_limbs mK_wide = some y → S 45 [some (2, Int.ofNat 0), none] [] [([], [y.1, y.2]), M1, M2, M3, M4, M5, M6] → S 16 [some (2, Int.ofNat 0), none] [] [([], [mK_limbs, mK_wide]), M1, M2, M3, M4, M5, M6] := by
    intro n
    induction n with
    | zero =>
      intro mK_limbs mK_wide y h k
      rw [l_X10_lowers_16] at h
      cases h
    | succ n ih =>
      intro mK_limbs mK_wide y h k
      rw [l_X10_lowers_16] at h
      obtain ⟨x2, hx2, h⟩ := zbd h
      refine rv false 3 1 rfl rfl trivial rfl (m_M_X10_isEven l M1 M2 M3 M4 M5 M6 0 mK_limbs mK_wide x2 hx2) ⟨_, _, _, _, rfl, rfl, rfl, by decide +kernel, ⟨Nat.le_of_ble_eq_true rfl, Nat.le_of_ble_eq_true rfl⟩, uGin u_26_22 u_26_23 u_27_0 u_1_5 u_27_1⟩ ⟨rfl, _, _, _, rfl, rfl⟩ ?_
      refine ri false 4 (q := x2 = 0) (t1 := 45) (t2 := 24) rfl rfl trivial (fun c => ?_) (fun c => ?_)
      · replace h := zif1 c h
        obtain rfl := Option.some.inj h
        exact k
      · replace h := zif2 c h
        obtain ⟨x3, hx3, h⟩ := zbd h
        refine rv false 5 1 rfl rfl trivial rfl (m_M_X10_isEven l M1 M2 M3 M4 M5 M6 1 mK_limbs mK_wide x3 hx3) ⟨_, _, _, _, rfl, rfl, rfl, by decide +kernel, ⟨Nat.le_of_ble_eq_true rfl, Nat.le_of_ble_eq_true rfl⟩, uGin u_26_22 u_26_23 u_27_0 u_1_5 u_27_1⟩ ⟨rfl, _, _, _, rfl, rfl⟩ ?_
        refine ri false 6 (q := x3 = 0) (t1 := 45) (t2 := 32) rfl rfl trivial (fun c => ?_) (fun c => ?_)
        · replace h := zif1 c h
          obtain rfl := Option.some.inj h
          exact k
        · replace h := zif2 c h
          obtain ⟨x4, hx4, h⟩ := zbd h
          refine rv false 7 1 rfl rfl trivial rfl (m_M_X10_halves l M1 M2 M3 M4 M5 M6 0 mK_limbs mK_wide x4 hx4) ⟨_, _, _, _, rfl, rfl, rfl, by decide +kernel, ⟨Nat.le_of_ble_eq_true rfl, Nat.le_of_ble_eq_true rfl⟩, uGin u_27_2 u_27_3 u_27_4 u_1_5 u_27_5⟩ ⟨rfl, _, _, _, rfl, rfl⟩ ?_
          obtain ⟨x5, hx5, h⟩ := zbd h
          refine rv false 8 1 rfl rfl trivial rfl (m_M_X10_halves l M1 M2 M3 M4 M5 M6 1 x4.1 x4.2 x5 hx5) ⟨_, _, _, _, rfl, rfl, rfl, by decide +kernel, ⟨Nat.le_of_ble_eq_true rfl, Nat.le_of_ble_eq_true rfl⟩, uGin u_27_2 u_27_3 u_27_4 u_1_5 u_27_5⟩ ⟨rfl, _, _, _, rfl, rfl⟩ ?_
          refine rg false 9 (t := 16) rfl rfl rfl trivial ?_
          exact ih x5.1 x5.2 y h k
  have LP66 : ∀ (n : Nat) (mK_limbs : Nat → Int) (mK_wide : Nat → Int) (y : (Nat → Int) × (Nat → Int)), l_X10_lowers_66 n mK_limbs mK_wide = some y → S 82 [some (2, Int.ofNat 0), none] [] [([], [y.1, y.2]), M1, M2, M3, M4, M5, M6] → S 66 [some (2, Int.ofNat 0), none] [] [([], [mK_limbs, mK_wide]), M1, M2, M3, M4, M5, M6] := by
    intro n
    induction n with
    | zero =>
      intro mK_limbs mK_wide y h k
      rw [l_X10_lowers_66] at h
      cases h
    | succ n ih =>
      intro mK_limbs mK_wide y h k
      rw [l_X10_lowers_66] at h
      obtain ⟨x9, hx9, h⟩ := zbd h
      refine rv false 13 1 rfl rfl trivial rfl (m_M_X10_isEven l M1 M2 M3 M4 M5 M6 2 mK_limbs mK_wide x9 hx9) ⟨_, _, _, _, rfl, rfl, rfl, by decide +kernel, ⟨Nat.le_of_ble_eq_true rfl, Nat.le_of_ble_eq_true rfl⟩, uGin u_26_22 u_26_23 u_27_0 u_1_5 u_27_1⟩ ⟨rfl, _, _, _, rfl, rfl⟩ ?_
      refine ri false 14 (q := x9 = 0) (t1 := 82) (t2 := 74) rfl rfl trivial (fun c => ?_) (fun c => ?_)
      · replace h := zif1 c h
        obtain rfl := Option.some.inj h
        exact k
      · replace h := zif2 c h
        obtain ⟨x10, hx10, h⟩ := zbd h
        refine rv false 15 1 rfl rfl trivial rfl (m_M_X10_halves l M1 M2 M3 M4 M5 M6 2 mK_limbs mK_wide x10 hx10) ⟨_, _, _, _, rfl, rfl, rfl, by decide +kernel, ⟨Nat.le_of_ble_eq_true rfl, Nat.le_of_ble_eq_true rfl⟩, uGin u_27_2 u_27_3 u_27_4 u_1_5 u_27_5⟩ ⟨rfl, _, _, _, rfl, rfl⟩ ?_
        refine rg false 16 (t := 66) rfl rfl rfl trivial ?_
        exact ih x10.1 x10.2 y h k
  have LP82 : ∀ (n : Nat) (mK_limbs : Nat → Int) (mK_wide : Nat → Int) (y : (Nat → Int) × (Nat → Int)), l_X10_lowers_82 n mK_limbs mK_wide = some y → S 98 [some (2, Int.ofNat 0), none] [] [([], [y.1, y.2]), M1, M2, M3, M4, M5, M6] → S 82 [some (2, Int.ofNat 0), none] [] [([], [mK_limbs, mK_wide]), M1, M2, M3, M4, M5, M6] := by
    intro n
    induction n with
    | zero =>
      intro mK_limbs mK_wide y h k
      rw [l_X10_lowers_82] at h
      cases h
    | succ n ih =>
      intro mK_limbs mK_wide y h k
      rw [l_X10_lowers_82] at h
      obtain ⟨x12, hx12, h⟩ := zbd h
      refine rv false 17 1 rfl rfl trivial rfl (m_M_X10_isEven l M1 M2 M3 M4 M5 M6 3 mK_limbs mK_wide x12 hx12) ⟨_, _, _, _, rfl, rfl, rfl, by decide +kernel, ⟨Nat.le_of_ble_eq_true rfl, Nat.le_of_ble_eq_true rfl⟩, uGin u_26_22 u_26_23 u_27_0 u_1_5 u_27_1⟩ ⟨rfl, _, _, _, rfl, rfl⟩ ?_
      refine ri false 18 (q := x12 = 0) (t1 := 98) (t2 := 90) rfl rfl trivial (fun c => ?_) (fun c => ?_)
      · replace h := zif1 c h
        obtain rfl := Option.some.inj h
        exact k
      · replace h := zif2 c h
        obtain ⟨x13, hx13, h⟩ := zbd h
        refine rv false 19 1 rfl rfl trivial rfl (m_M_X10_halves l M1 M2 M3 M4 M5 M6 3 mK_limbs mK_wide x13 hx13) ⟨_, _, _, _, rfl, rfl, rfl, by decide +kernel, ⟨Nat.le_of_ble_eq_true rfl, Nat.le_of_ble_eq_true rfl⟩, uGin u_27_2 u_27_3 u_27_4 u_1_5 u_27_5⟩ ⟨rfl, _, _, _, rfl, rfl⟩ ?_
        refine rg false 20 (t := 82) rfl rfl rfl trivial ?_
        exact ih x13.1 x13.2 y h k
  have LP57 : ∀ (n : Nat) (mK_limbs : Nat → Int) (mK_wide : Nat → Int) (y : (Nat → Int) × (Nat → Int)), l_X10_lowers_57 n mK_limbs mK_wide = some y → S 145 [some (2, Int.ofNat 0), none] [] [([], [y.1, y.2]), M1, M2, M3, M4, M5, M6] → S 57 [some (2, Int.ofNat 0), none] [] [([], [mK_limbs, mK_wide]), M1, M2, M3, M4, M5, M6] := by
    intro n
    induction n with
    | zero =>
      intro mK_limbs mK_wide y h k
      rw [l_X10_lowers_57] at h
      cases h
    | succ n ih =>
      intro mK_limbs mK_wide y h k
      rw [l_X10_lowers_57] at h
      refine ri false 12 (q := (0 : Int) < (mK_wide (Int.toNat 2))) (t1 := 66) (t2 := 145) rfl rfl (show zin 2 9 by decide) (fun c => ?_) (fun c => ?_)
      · replace h := zif1 c h
        obtain ⟨x11, hx11, h⟩ := zbd h
        refine LP66 zN mK_limbs mK_wide x11 hx11 ?_
        obtain ⟨x14, hx14, h⟩ := zbd h
        refine LP82 zN x11.1 x11.2 x14 hx14 ?_
        obtain ⟨x15, hx15, h⟩ := zbd h
        refine rv false 21 2 rfl rfl trivial rfl (m_M_X10_against l M1 M2 M3 M4 M5 M6 2 3 x14.1 x14.2 x15 hx15) ⟨_, _, _, _, rfl, rfl, rfl, by decide +kernel, ⟨Nat.le_of_ble_eq_true rfl, Nat.le_of_ble_eq_true rfl⟩, uGin u_27_10 u_27_11 u_27_12 u_1_5 u_27_13⟩ ⟨rfl, _, _, _, rfl, rfl⟩ ?_
        refine ri false 22 (q := x15 < 0) (t1 := 111) (t2 := 107) rfl rfl trivial (fun c => ?_) (fun c => ?_)
        · replace h := zif1 c h
          refine rb false 24 (st2 := [(0, 3)]) rfl rfl trivial ?_
          obtain ⟨g17_0, h⟩ := zgd h
          obtain ⟨x16, hx16, h⟩ := zbd h
          refine rv false 25 2 (L2 := [some (2, Int.ofNat 0), some (0, 3)]) rfl rfl g17_0 rfl (m_M_X10_lessens l M1 M2 M3 M4 M5 M6 3 (5 - 3) x14.1 x14.2 x16 hx16) ⟨_, _, _, _, rfl, rfl, rfl, by decide +kernel, ⟨Nat.le_of_ble_eq_true rfl, Nat.le_of_ble_eq_true rfl⟩, uGin u_27_14 u_27_15 u_27_16 u_1_5 u_27_17⟩ ⟨rfl, _, _, _, rfl, rfl⟩ ?_
          refine ri false 26 (q := (x16.2 (Int.toNat 3)) = 0) (t1 := 130) (t2 := 142) rfl rfl (show zin 3 9 by decide) (fun c => ?_) (fun c => ?_)
          · replace h := zif1 c h
            obtain ⟨x18, hx18, h⟩ := zbd h
            refine rv false 27 2 rfl rfl trivial rfl (m_M_X10_takes l M1 M2 M3 M4 M5 M6 3 2 x16.1 x16.2 x18 hx18) ⟨_, _, _, _, rfl, rfl, rfl, by decide +kernel, ⟨Nat.le_of_ble_eq_true rfl, Nat.le_of_ble_eq_true rfl⟩, uGin u_27_6 u_27_7 u_27_8 u_1_5 u_27_9⟩ ⟨rfl, _, _, _, rfl, rfl⟩ ?_
            obtain ⟨x19, hx19, h⟩ := zbd h
            refine rv false 28 2 rfl rfl trivial rfl (m_M_X10_sets l M1 M2 M3 M4 M5 M6 2 0 x18.1 x18.2 x19 hx19) ⟨_, _, _, _, rfl, rfl, rfl, by decide +kernel, ⟨Nat.le_of_ble_eq_true rfl, Nat.le_of_ble_eq_true rfl⟩, uGin u_8_3 u_8_4 u_8_5 u_1_5 u_8_6⟩ ⟨rfl, _, _, _, rfl, rfl⟩ ?_
            refine rg false 29 (t := 57) rfl rfl rfl trivial ?_
            refine rmk [true, false] (L2 := [some (2, Int.ofNat 0), none]) rfl ?_
            exact ih x19.1 x19.2 y h k
          · replace h := zif2 c h
            refine rg false 29 (t := 57) rfl rfl rfl trivial ?_
            refine rmk [true, false] (L2 := [some (2, Int.ofNat 0), none]) rfl ?_
            exact ih x16.1 x16.2 y h k
        · replace h := zif2 c h
          refine rg false 23 (t := 112) (st2 := [(0, 2)]) rfl rfl rfl trivial ?_
          obtain ⟨g21_0, h⟩ := zgd h
          obtain ⟨x20, hx20, h⟩ := zbd h
          refine rv false 25 2 (L2 := [some (2, Int.ofNat 0), some (0, 2)]) rfl rfl g21_0 rfl (m_M_X10_lessens l M1 M2 M3 M4 M5 M6 2 (5 - 2) x14.1 x14.2 x20 hx20) ⟨_, _, _, _, rfl, rfl, rfl, by decide +kernel, ⟨Nat.le_of_ble_eq_true rfl, Nat.le_of_ble_eq_true rfl⟩, uGin u_27_14 u_27_15 u_27_16 u_1_5 u_27_17⟩ ⟨rfl, _, _, _, rfl, rfl⟩ ?_
          refine ri false 26 (q := (x20.2 (Int.toNat 3)) = 0) (t1 := 130) (t2 := 142) rfl rfl (show zin 3 9 by decide) (fun c => ?_) (fun c => ?_)
          · replace h := zif1 c h
            obtain ⟨x22, hx22, h⟩ := zbd h
            refine rv false 27 2 rfl rfl trivial rfl (m_M_X10_takes l M1 M2 M3 M4 M5 M6 3 2 x20.1 x20.2 x22 hx22) ⟨_, _, _, _, rfl, rfl, rfl, by decide +kernel, ⟨Nat.le_of_ble_eq_true rfl, Nat.le_of_ble_eq_true rfl⟩, uGin u_27_6 u_27_7 u_27_8 u_1_5 u_27_9⟩ ⟨rfl, _, _, _, rfl, rfl⟩ ?_
            obtain ⟨x23, hx23, h⟩ := zbd h
            refine rv false 28 2 rfl rfl trivial rfl (m_M_X10_sets l M1 M2 M3 M4 M5 M6 2 0 x22.1 x22.2 x23 hx23) ⟨_, _, _, _, rfl, rfl, rfl, by decide +kernel, ⟨Nat.le_of_ble_eq_true rfl, Nat.le_of_ble_eq_true rfl⟩, uGin u_8_3 u_8_4 u_8_5 u_1_5 u_8_6⟩ ⟨rfl, _, _, _, rfl, rfl⟩ ?_
            refine rg false 29 (t := 57) rfl rfl rfl trivial ?_
            refine rmk [true, false] (L2 := [some (2, Int.ofNat 0), none]) rfl ?_
            exact ih x23.1 x23.2 y h k
          · replace h := zif2 c h
            refine rg false 29 (t := 57) rfl rfl rfl trivial ?_
            refine rmk [true, false] (L2 := [some (2, Int.ofNat 0), none]) rfl ?_
            exact ih x20.1 x20.2 y h k
      · replace h := zif2 c h
        obtain rfl := Option.some.inj h
        exact k
  unfold f_X10_lowers at h
  refine ri false 0 (q := (mK_wide (Int.toNat 0)) = 0) (t1 := 9) (t2 := 16) rfl rfl (show zin 0 9 by decide) (fun c => ?_) (fun c => ?_)
  · replace h := zif1 c h
    obtain ⟨x1, hx1, h⟩ := zbd h
    refine rv false 1 2 rfl rfl trivial rfl (m_M_X10_sets l M1 M2 M3 M4 M5 M6 1 1 mK_limbs mK_wide x1 hx1) ⟨_, _, _, _, rfl, rfl, rfl, by decide +kernel, ⟨Nat.le_of_ble_eq_true rfl, Nat.le_of_ble_eq_true rfl⟩, uGin u_8_3 u_8_4 u_8_5 u_1_5 u_8_6⟩ ⟨rfl, _, _, _, rfl, rfl⟩ ?_
    obtain rfl := Option.some.inj h
    exact r0 false 2 rfl rfl rfl rfl trivial
  · replace h := zif2 c h
    obtain ⟨x6, hx6, h⟩ := zbd h
    refine LP16 zN mK_limbs mK_wide x6 hx6 ?_
    obtain ⟨x7, hx7, h⟩ := zbd h
    refine rv false 10 2 rfl rfl trivial rfl (m_M_X10_takes l M1 M2 M3 M4 M5 M6 2 0 x6.1 x6.2 x7 hx7) ⟨_, _, _, _, rfl, rfl, rfl, by decide +kernel, ⟨Nat.le_of_ble_eq_true rfl, Nat.le_of_ble_eq_true rfl⟩, uGin u_27_6 u_27_7 u_27_8 u_1_5 u_27_9⟩ ⟨rfl, _, _, _, rfl, rfl⟩ ?_
    obtain ⟨x8, hx8, h⟩ := zbd h
    refine rv false 11 2 rfl rfl trivial rfl (m_M_X10_takes l M1 M2 M3 M4 M5 M6 3 1 x7.1 x7.2 x8 hx8) ⟨_, _, _, _, rfl, rfl, rfl, by decide +kernel, ⟨Nat.le_of_ble_eq_true rfl, Nat.le_of_ble_eq_true rfl⟩, uGin u_27_6 u_27_7 u_27_8 u_1_5 u_27_9⟩ ⟨rfl, _, _, _, rfl, rfl⟩ ?_
    obtain ⟨x24, hx24, h⟩ := zbd h
    refine LP57 zN x8.1 x8.2 x24 hx24 ?_
    obtain ⟨x25, hx25, h⟩ := zbd h
    refine rv false 30 1 rfl rfl trivial rfl (m_M_X10_parts l M1 M2 M3 M4 M5 M6 0 x24.1 x24.2 x25 hx25) ⟨_, _, _, _, rfl, rfl, rfl, by decide +kernel, ⟨Nat.le_of_ble_eq_true rfl, Nat.le_of_ble_eq_true rfl⟩, uGin u_27_19 u_27_20 u_27_21 u_1_5 u_27_22⟩ ⟨rfl, _, _, _, rfl, rfl⟩ ?_
    obtain ⟨x26, hx26, h⟩ := zbd h
    refine rv false 31 1 rfl rfl trivial rfl (m_M_X10_parts l M1 M2 M3 M4 M5 M6 1 x25.1 x25.2 x26 hx26) ⟨_, _, _, _, rfl, rfl, rfl, by decide +kernel, ⟨Nat.le_of_ble_eq_true rfl, Nat.le_of_ble_eq_true rfl⟩, uGin u_27_19 u_27_20 u_27_21 u_1_5 u_27_22⟩ ⟨rfl, _, _, _, rfl, rfl⟩ ?_
    obtain rfl := Option.some.inj h
    exact r0 false 32 rfl rfl rfl rfl trivial
def bX10_tells : zB := [(0, [(.aload_n 0, 1), (.iconst 0, 1), (.lload_n 1, 1)], 3, .invokevirtual 88, 3), (6, [(.aload_n 0, 1), (.iconst 1, 1), (.lload_n 3, 1)], 9, .invokevirtual 88, 3), (12, [(.aload_n 0, 1)], 13, .invokevirtual 120, 3), (16, [(.iconst 1, 1)], 17, .ireturn, 1)]
theorem bX10_tells_ok : zBok cX10_tells 5 bX10_tells = true := by decide +kernel
abbrev wX10_tells : List Cond := Cond.code yX10_tells cX10_tells 5 (some .int) :: uU
def rX10_tells : Room := { frames := 3, cells := 0, slots := 0, locals := 74 }
set_option maxRecDepth 20000 in
set_option maxHeartbeats 4000000 in
theorem m_M_X10_tells (l : Launch) (M1 : zM) (M2 : zM) (M3 : zM) (M4 : zM) (M5 : zM) (M6 : zM) (p1 : Int) (p3 : Int) (mK_limbs : Nat → Int) (mK_wide : Nat → Int) (x : Int × (Nat → Int) × (Nat → Int)) (h : f_X10_tells p1 p3 mK_limbs mK_wide = some x) : zD l yX10_tells wX10_tells rX10_tells lamM shpM [(2, Int.ofNat 0), (1, p1), (1, p3)] [([], [mK_limbs, mK_wide]), M1, M2, M3, M4, M5, M6] (some (0, x.1)) [([], [x.2.1, x.2.2]), M1, M2, M3, M4, M5, M6] := by
  refine zD_of (B := bX10_tells) (E := eX10) (by decide) rfl lokM (eX10_ok _) bX10_tells_ok (Or.inl rfl) rfl (fun S R => ?_)
  obtain ⟨rb, rg, ri, rv, rs, r0, r1, r2, r3, rt, rmk⟩ := R
  show S 0 [some (2, Int.ofNat 0), some (1, p1), none, some (1, p3), none] [] [([], [mK_limbs, mK_wide]), M1, M2, M3, M4, M5, M6]
  unfold f_X10_tells at h
  obtain ⟨x1, hx1, h⟩ := zbd h
  refine rv false 0 2 rfl rfl trivial rfl (m_M_X10_sets l M1 M2 M3 M4 M5 M6 0 p1 mK_limbs mK_wide x1 hx1) ⟨_, _, _, _, rfl, rfl, rfl, by decide +kernel, ⟨Nat.le_of_ble_eq_true rfl, Nat.le_of_ble_eq_true rfl⟩, uGin u_8_3 u_8_4 u_8_5 u_1_5 u_8_6⟩ ⟨rfl, _, _, _, rfl, rfl⟩ ?_
  obtain ⟨x2, hx2, h⟩ := zbd h
  refine rv false 1 2 rfl rfl trivial rfl (m_M_X10_sets l M1 M2 M3 M4 M5 M6 1 p3 x1.1 x1.2 x2 hx2) ⟨_, _, _, _, rfl, rfl, rfl, by decide +kernel, ⟨Nat.le_of_ble_eq_true rfl, Nat.le_of_ble_eq_true rfl⟩, uGin u_8_3 u_8_4 u_8_5 u_1_5 u_8_6⟩ ⟨rfl, _, _, _, rfl, rfl⟩ ?_
  obtain ⟨x3, hx3, h⟩ := zbd h
  refine rv false 2 0 rfl rfl trivial rfl (m_M_X10_lowers l M1 M2 M3 M4 M5 M6 x2.1 x2.2 x3 hx3) ⟨_, _, _, _, rfl, rfl, rfl, by decide +kernel, ⟨Nat.le_of_ble_eq_true rfl, Nat.le_of_ble_eq_true rfl⟩, uGin u_26_18 u_26_19 u_26_20 u_1_5 u_26_21⟩ ⟨rfl, _, _, _, rfl, rfl⟩ ?_
  obtain rfl := Option.some.inj h
  exact r1 false 3 rfl rfl rfl rfl rfl rfl trivial
def bX10_mean : zB := [(0, [(.aload_n 0, 1)], 1, .invokevirtual 207, 3), (4, [], 4, .ifCond .ne 8, 3), (7, [(.bipush (-3), 2)], 9, .goto 17, 3), (12, [(.aload_n 0, 1), (.aload_n 0, 1)], 14, .invokevirtual 210, 3), (17, [(.i2l, 1), (.aload_n 0, 1)], 19, .invokevirtual 207, 3), (22, [(.i2l, 1)], 23, .invokevirtual 213, 3), (26, [], 26, .ireturn, 1)]
theorem bX10_mean_ok : zBok cX10_mean 1 bX10_mean = true := by decide +kernel
abbrev wX10_mean : List Cond := Cond.code yX10_mean cX10_mean 1 (some .int) :: uU
def rX10_mean : Room := { frames := 4, cells := 0, slots := 0, locals := 98 }
set_option maxRecDepth 20000 in
set_option maxHeartbeats 4000000 in
theorem m_M_X10_mean (l : Launch) (M1 : zM) (M2 : zM) (M4 : zM) (M5 : zM) (M6 : zM) (mK_limbs : Nat → Int) (mK_wide : Nat → Int) (mH_habits : Nat → Int) (x : Int × (Nat → Int) × (Nat → Int)) (h : f_X10_mean mK_limbs mK_wide mH_habits = some x) : zD l yX10_mean wX10_mean rX10_mean lamM shpM [(2, Int.ofNat 0)] [([], [mK_limbs, mK_wide]), M1, M2, ([], [mH_habits]), M4, M5, M6] (some (0, x.1)) [([], [x.2.1, x.2.2]), M1, M2, ([], [mH_habits]), M4, M5, M6] := by
  refine zD_of (B := bX10_mean) (E := eX10) (by decide) rfl lokM (eX10_ok _) bX10_mean_ok (Or.inl rfl) rfl (fun S R => ?_)
  obtain ⟨rb, rg, ri, rv, rs, r0, r1, r2, r3, rt, rmk⟩ := R
  show S 0 [some (2, Int.ofNat 0)] [] [([], [mK_limbs, mK_wide]), M1, M2, ([], [mH_habits]), M4, M5, M6]
  unfold f_X10_mean at h
  obtain ⟨x1, hx1, h⟩ := zbd h
  refine rv false 0 0 rfl rfl trivial rfl (m_M_X10_weights l ([], [mK_limbs, mK_wide]) M1 M2 M4 M5 M6 mH_habits x1 hx1) ⟨_, _, _, _, rfl, rfl, rfl, by decide +kernel, ⟨Nat.le_of_ble_eq_true rfl, Nat.le_of_ble_eq_true rfl⟩, uGin u_25_15 u_25_16 u_25_17 u_1_5 u_25_18⟩ ⟨rfl, _, _, _, rfl, rfl⟩ ?_
  refine ri false 1 (q := x1 = 0) (t1 := 7) (t2 := 12) rfl rfl trivial (fun c => ?_) (fun c => ?_)
  · replace h := zif1 c h
    refine rg false 2 (t := 26) (st2 := [(0, (-3))]) rfl rfl rfl trivial ?_
    obtain rfl := Option.some.inj h
    exact r1 false 6 rfl rfl rfl rfl rfl rfl trivial
  · replace h := zif2 c h
    obtain ⟨x2, hx2, h⟩ := zbd h
    refine rv false 3 0 (rest := [(2, Int.ofNat 0)]) rfl rfl trivial rfl (m_M_X10_copiesOfAll l ([], [mK_limbs, mK_wide]) M1 M2 M4 M5 M6 mH_habits x2 hx2) ⟨_, _, _, _, rfl, rfl, rfl, by decide +kernel, ⟨Nat.le_of_ble_eq_true rfl, Nat.le_of_ble_eq_true rfl⟩, uGin u_25_19 u_25_20 u_25_21 u_1_5 u_25_22⟩ ⟨rfl, _, _, _, rfl, rfl⟩ ?_
    obtain ⟨x3, hx3, h⟩ := zbd h
    refine rv false 4 0 (rest := [(1, x2), (2, Int.ofNat 0)]) rfl rfl trivial rfl (m_M_X10_weights l ([], [mK_limbs, mK_wide]) M1 M2 M4 M5 M6 mH_habits x3 hx3) ⟨_, _, _, _, rfl, rfl, rfl, by decide +kernel, ⟨Nat.le_of_ble_eq_true rfl, Nat.le_of_ble_eq_true rfl⟩, uGin u_25_15 u_25_16 u_25_17 u_1_5 u_25_18⟩ ⟨rfl, _, _, _, rfl, rfl⟩ ?_
    obtain ⟨x4, hx4, h⟩ := zbd h
    refine rv false 5 2 rfl rfl trivial rfl (m_M_X10_tells l M1 M2 ([], [mH_habits]) M4 M5 M6 x2 x3 mK_limbs mK_wide x4 hx4) ⟨_, _, _, _, rfl, rfl, rfl, by decide +kernel, ⟨Nat.le_of_ble_eq_true rfl, Nat.le_of_ble_eq_true rfl⟩, uGin u_26_14 u_26_15 u_26_16 u_1_5 u_26_17⟩ ⟨rfl, _, _, _, rfl, rfl⟩ ?_
    obtain rfl := Option.some.inj h
    exact r1 false 6 rfl rfl rfl rfl rfl rfl trivial
def bX10_multiplies : zB := [(0, [(.aload_n 0, 1), (.iconst 4, 1), (.lconst 0, 1)], 3, .invokevirtual 88, 3), (6, [(.iconst 0, 1), (.istore_n 3, 1)], 8, .nop, 0), (8, [(.iload_n 3, 1), (.aload_n 0, 1), (.getfield 13, 3), (.iload_n 1, 1), (.iaload, 1)], 15, .if_icmp .ge 131, 3), (18, [(.lconst 0, 1), (.lstore 4, 2), (.iconst 0, 1), (.istore 6, 2)], 24, .nop, 0), (24, [(.iload 6, 2), (.aload_n 0, 1), (.getfield 13, 3), (.iload_n 2, 1), (.iaload, 1)], 32, .if_icmp .lt 10, 3), (35, [(.lload 4, 2), (.lconst 0, 1), (.lcmp, 1)], 39, .ifCond .le 101, 3), (42, [(.iload 6, 2), (.aload_n 0, 1), (.getfield 13, 3), (.iload_n 2, 1), (.iaload, 1)], 50, .if_icmp .ge 32, 3), (53, [(.aload_n 0, 1), (.getfield 7, 3), (.bipush 70, 2), (.iload_n 1, 1), (.imul, 1), (.iload_n 3, 1), (.iadd, 1), (.iaload, 1), (.i2l, 1), (.aload_n 0, 1), (.getfield 7, 3), (.bipush 70, 2), (.iload_n 2, 1), (.imul, 1), (.iload 6, 2), (.iadd, 1), (.iaload, 1), (.i2l, 1), (.lmul, 1)], 79, .goto 4, 3), (82, [(.lconst 0, 1)], 83, .nop, 0), (83, [(.lstore 7, 2), (.aload_n 0, 1), (.getfield 7, 3), (.sipush 280, 3), (.iload_n 3, 1), (.iadd, 1), (.iload 6, 2), (.iadd, 1), (.iaload, 1), (.i2l, 1), (.lload 7, 2), (.ladd, 1), (.lload 4, 2), (.ladd, 1), (.lstore 9, 2)], 107, .nop, 0), (107, [(.aload_n 0, 1), (.getfield 7, 3), (.sipush 280, 3), (.iload_n 3, 1), (.iadd, 1), (.iload 6, 2), (.iadd, 1), (.lload 9, 2), (.ldc2_w 92, 3), (.land, 1), (.l2i, 1), (.iastore, 1)], 127, .nop, 0), (127, [(.lload 9, 2), (.bipush 30, 2), (.lshr, 1), (.lstore 4, 2), (.iinc 6 1, 3)], 137, .goto (-113), 3), (140, [(.iinc 3 1, 3)], 143, .goto (-135), 3), (146, [(.aload_n 0, 1), (.getfield 13, 3), (.iconst 4, 1), (.aload_n 0, 1), (.getfield 13, 3), (.iload_n 1, 1), (.iaload, 1), (.aload_n 0, 1), (.getfield 13, 3), (.iload_n 2, 1), (.iaload, 1), (.iadd, 1), (.iastore, 1)], 165, .nop, 0), (165, [(.aload_n 0, 1), (.iconst 4, 1)], 167, .invokevirtual 94, 3), (170, [(.aload_n 0, 1), (.iload_n 1, 1), (.iconst 4, 1)], 173, .invokevirtual 98, 3), (176, [], 176, .return_, 1)]
theorem bX10_multiplies_ok : zBok cX10_multiplies 11 bX10_multiplies = true := by decide +kernel
abbrev wX10_multiplies : List Cond := Cond.code yX10_multiplies cX10_multiplies 11 none :: uU
def rX10_multiplies : Room := { frames := 2, cells := 0, slots := 0, locals := 45 }
set_option maxRecDepth 20000 in
set_option maxHeartbeats 4000000 in
theorem m_M_X10_multiplies (l : Launch) (M1 : zM) (M2 : zM) (M3 : zM) (M4 : zM) (M5 : zM) (M6 : zM) (p1 : Int) (p2 : Int) (mK_limbs : Nat → Int) (mK_wide : Nat → Int) (x : (Nat → Int) × (Nat → Int)) (h : f_X10_multiplies p1 p2 mK_limbs mK_wide = some x) : zD l yX10_multiplies wX10_multiplies rX10_multiplies lamM shpM [(2, Int.ofNat 0), (0, p1), (0, p2)] [([], [mK_limbs, mK_wide]), M1, M2, M3, M4, M5, M6] (none) [([], [x.1, x.2]), M1, M2, M3, M4, M5, M6] := by
  refine zD_of (B := bX10_multiplies) (E := eX10) (by decide) rfl lokM (eX10_ok _) bX10_multiplies_ok (Or.inl rfl) rfl (fun S R => ?_)
  obtain ⟨rb, rg, ri, rv, rs, r0, r1, r2, r3, rt, rmk⟩ := R
  show S 0 [some (2, Int.ofNat 0), some (0, p1), some (0, p2), none, none, none, none, none, none, none, none] [] [([], [mK_limbs, mK_wide]), M1, M2, M3, M4, M5, M6]
  have LP24 : ∀ (n : Nat) (v1 : Int) (v2 : Int) (v3 : Int) (v4 : Int) (v6 : Int) (mK_limbs : Nat → Int) (mK_wide : Nat → Int) (y : Nat → Int), l_X10_multiplies_24 n v1 v2 v3 v4 v6 mK_limbs mK_wide = some y → S 140 [some (2, Int.ofNat 0), some (0, v1), some (0, v2), some (0, v3), none, none, none, none, none, none, none] [] [([], [y, mK_wide]), M1, M2, M3, M4, M5, M6] → S 24 [some (2, Int.ofNat 0), some (0, v1), some (0, v2), some (0, v3), some (1, v4), none, some (0, v6), none, none, none, none] [] [([], [mK_limbs, mK_wide]), M1, M2, M3, M4, M5, M6] := by
    intro n
    induction n with
    | zero =>
      intro v1 v2 v3 v4 v6 mK_limbs mK_wide y h k
      rw [l_X10_multiplies_24] at h
      cases h
    | succ n ih =>
      intro v1 v2 v3 v4 v6 mK_limbs mK_wide y h k
      rw [l_X10_multiplies_24] at h
      obtain ⟨g3_0, h⟩ := zgd h
      refine ri false 4 (q := v6 < (mK_wide (Int.toNat v2))) (t1 := 42) (t2 := 35) rfl rfl g3_0 (fun c => ?_) (fun c => ?_)
      · replace h := zif1 c h
        obtain ⟨g4_0, h⟩ := zgd h
        refine ri false 6 (q := v6 < (mK_wide (Int.toNat v2))) (t1 := 53) (t2 := 82) rfl rfl g4_0 (fun c => ?_) (fun c => ?_)
        · replace h := zif1 c h
          obtain ⟨⟨g5_0, g5_1⟩, h⟩ := zgd h
          refine rg false 7 (t := 83) (st2 := [(4, ((mK_limbs (Int.toNat ((70 * v1) + v3))) * (mK_limbs (Int.toNat ((70 * v2) + v6)))))]) rfl rfl rfl (And.intro g5_0 g5_1) ?_
          obtain ⟨⟨g6_0, g6_1, g6_2⟩, h⟩ := zgd h
          refine rb false 9 (L2 := [some (2, Int.ofNat 0), some (0, v1), some (0, v2), some (0, v3), some (1, v4), none, some (0, v6), some (1, ((mK_limbs (Int.toNat ((70 * v1) + v3))) * (mK_limbs (Int.toNat ((70 * v2) + v6))))), none, some (1, (((mK_limbs (Int.toNat ((280 + v3) + v6))) + ((mK_limbs (Int.toNat ((70 * v1) + v3))) * (mK_limbs (Int.toNat ((70 * v2) + v6))))) + v4)), none]) rfl rfl (And.intro g6_0 (And.intro g6_1 g6_2)) ?_
          obtain ⟨⟨g7_0, g7_1⟩, h⟩ := zgd h
          refine rb false 10 (σ2 := [([], [(zu mK_limbs (Int.toNat ((280 + v3) + v6)) (zandl (((mK_limbs (Int.toNat ((280 + v3) + v6))) + ((mK_limbs (Int.toNat ((70 * v1) + v3))) * (mK_limbs (Int.toNat ((70 * v2) + v6))))) + v4) 1073741823)), mK_wide]), M1, M2, M3, M4, M5, M6]) rfl rfl (And.intro g7_0 g7_1) ?_
          obtain ⟨g8_0, h⟩ := zgd h
          refine rg false 11 (t := 24) (L2 := [some (2, Int.ofNat 0), some (0, v1), some (0, v2), some (0, v3), some (1, (zshrl (((mK_limbs (Int.toNat ((280 + v3) + v6))) + ((mK_limbs (Int.toNat ((70 * v1) + v3))) * (mK_limbs (Int.toNat ((70 * v2) + v6))))) + v4) 30)), none, some (0, (v6 + 1)), some (1, ((mK_limbs (Int.toNat ((70 * v1) + v3))) * (mK_limbs (Int.toNat ((70 * v2) + v6))))), none, some (1, (((mK_limbs (Int.toNat ((280 + v3) + v6))) + ((mK_limbs (Int.toNat ((70 * v1) + v3))) * (mK_limbs (Int.toNat ((70 * v2) + v6))))) + v4)), none]) rfl rfl rfl g8_0 ?_
          refine rmk [true, true, true, true, true, false, true, false, false, false, false] (L2 := [some (2, Int.ofNat 0), some (0, v1), some (0, v2), some (0, v3), some (1, (zshrl (((mK_limbs (Int.toNat ((280 + v3) + v6))) + ((mK_limbs (Int.toNat ((70 * v1) + v3))) * (mK_limbs (Int.toNat ((70 * v2) + v6))))) + v4) 30)), none, some (0, (v6 + 1)), none, none, none, none]) rfl ?_
          exact ih v1 v2 v3 (zshrl (((mK_limbs (Int.toNat ((280 + v3) + v6))) + ((mK_limbs (Int.toNat ((70 * v1) + v3))) * (mK_limbs (Int.toNat ((70 * v2) + v6))))) + v4) 30) (v6 + 1) (zu mK_limbs (Int.toNat ((280 + v3) + v6)) (zandl (((mK_limbs (Int.toNat ((280 + v3) + v6))) + ((mK_limbs (Int.toNat ((70 * v1) + v3))) * (mK_limbs (Int.toNat ((70 * v2) + v6))))) + v4) 1073741823)) mK_wide y h k
        · replace h := zif2 c h
          refine rb false 8 (st2 := [(1, 0)]) rfl rfl trivial ?_
          obtain ⟨⟨g9_0, g9_1⟩, h⟩ := zgd h
          refine rb false 9 (L2 := [some (2, Int.ofNat 0), some (0, v1), some (0, v2), some (0, v3), some (1, v4), none, some (0, v6), some (1, 0), none, some (1, (((mK_limbs (Int.toNat ((280 + v3) + v6))) + 0) + v4)), none]) rfl rfl (And.intro g9_0 g9_1) ?_
          obtain ⟨⟨g10_0, g10_1⟩, h⟩ := zgd h
          refine rb false 10 (σ2 := [([], [(zu mK_limbs (Int.toNat ((280 + v3) + v6)) (zandl (((mK_limbs (Int.toNat ((280 + v3) + v6))) + 0) + v4) 1073741823)), mK_wide]), M1, M2, M3, M4, M5, M6]) rfl rfl (And.intro g10_0 g10_1) ?_
          obtain ⟨g11_0, h⟩ := zgd h
          refine rg false 11 (t := 24) (L2 := [some (2, Int.ofNat 0), some (0, v1), some (0, v2), some (0, v3), some (1, (zshrl (((mK_limbs (Int.toNat ((280 + v3) + v6))) + 0) + v4) 30)), none, some (0, (v6 + 1)), some (1, 0), none, some (1, (((mK_limbs (Int.toNat ((280 + v3) + v6))) + 0) + v4)), none]) rfl rfl rfl g11_0 ?_
          refine rmk [true, true, true, true, true, false, true, false, false, false, false] (L2 := [some (2, Int.ofNat 0), some (0, v1), some (0, v2), some (0, v3), some (1, (zshrl (((mK_limbs (Int.toNat ((280 + v3) + v6))) + 0) + v4) 30)), none, some (0, (v6 + 1)), none, none, none, none]) rfl ?_
          exact ih v1 v2 v3 (zshrl (((mK_limbs (Int.toNat ((280 + v3) + v6))) + 0) + v4) 30) (v6 + 1) (zu mK_limbs (Int.toNat ((280 + v3) + v6)) (zandl (((mK_limbs (Int.toNat ((280 + v3) + v6))) + 0) + v4) 1073741823)) mK_wide y h k
      · replace h := zif2 c h
        refine ri false 5 (q := (0 : Int) < (zlc v4 0)) (t1 := 42) (t2 := 140) rfl rfl trivial (fun c => ?_) (fun c => ?_)
        · replace h := zif1 c h
          obtain ⟨g12_0, h⟩ := zgd h
          refine ri false 6 (q := v6 < (mK_wide (Int.toNat v2))) (t1 := 53) (t2 := 82) rfl rfl g12_0 (fun c => ?_) (fun c => ?_)
          · replace h := zif1 c h
            obtain ⟨⟨g13_0, g13_1⟩, h⟩ := zgd h
            refine rg false 7 (t := 83) (st2 := [(4, ((mK_limbs (Int.toNat ((70 * v1) + v3))) * (mK_limbs (Int.toNat ((70 * v2) + v6)))))]) rfl rfl rfl (And.intro g13_0 g13_1) ?_
            obtain ⟨⟨g14_0, g14_1, g14_2⟩, h⟩ := zgd h
            refine rb false 9 (L2 := [some (2, Int.ofNat 0), some (0, v1), some (0, v2), some (0, v3), some (1, v4), none, some (0, v6), some (1, ((mK_limbs (Int.toNat ((70 * v1) + v3))) * (mK_limbs (Int.toNat ((70 * v2) + v6))))), none, some (1, (((mK_limbs (Int.toNat ((280 + v3) + v6))) + ((mK_limbs (Int.toNat ((70 * v1) + v3))) * (mK_limbs (Int.toNat ((70 * v2) + v6))))) + v4)), none]) rfl rfl (And.intro g14_0 (And.intro g14_1 g14_2)) ?_
            obtain ⟨⟨g15_0, g15_1⟩, h⟩ := zgd h
            refine rb false 10 (σ2 := [([], [(zu mK_limbs (Int.toNat ((280 + v3) + v6)) (zandl (((mK_limbs (Int.toNat ((280 + v3) + v6))) + ((mK_limbs (Int.toNat ((70 * v1) + v3))) * (mK_limbs (Int.toNat ((70 * v2) + v6))))) + v4) 1073741823)), mK_wide]), M1, M2, M3, M4, M5, M6]) rfl rfl (And.intro g15_0 g15_1) ?_
            obtain ⟨g16_0, h⟩ := zgd h
            refine rg false 11 (t := 24) (L2 := [some (2, Int.ofNat 0), some (0, v1), some (0, v2), some (0, v3), some (1, (zshrl (((mK_limbs (Int.toNat ((280 + v3) + v6))) + ((mK_limbs (Int.toNat ((70 * v1) + v3))) * (mK_limbs (Int.toNat ((70 * v2) + v6))))) + v4) 30)), none, some (0, (v6 + 1)), some (1, ((mK_limbs (Int.toNat ((70 * v1) + v3))) * (mK_limbs (Int.toNat ((70 * v2) + v6))))), none, some (1, (((mK_limbs (Int.toNat ((280 + v3) + v6))) + ((mK_limbs (Int.toNat ((70 * v1) + v3))) * (mK_limbs (Int.toNat ((70 * v2) + v6))))) + v4)), none]) rfl rfl rfl g16_0 ?_
            refine rmk [true, true, true, true, true, false, true, false, false, false, false] (L2 := [some (2, Int.ofNat 0), some (0, v1), some (0, v2), some (0, v3), some (1, (zshrl (((mK_limbs (Int.toNat ((280 + v3) + v6))) + ((mK_limbs (Int.toNat ((70 * v1) + v3))) * (mK_limbs (Int.toNat ((70 * v2) + v6))))) + v4) 30)), none, some (0, (v6 + 1)), none, none, none, none]) rfl ?_
            exact ih v1 v2 v3 (zshrl (((mK_limbs (Int.toNat ((280 + v3) + v6))) + ((mK_limbs (Int.toNat ((70 * v1) + v3))) * (mK_limbs (Int.toNat ((70 * v2) + v6))))) + v4) 30) (v6 + 1) (zu mK_limbs (Int.toNat ((280 + v3) + v6)) (zandl (((mK_limbs (Int.toNat ((280 + v3) + v6))) + ((mK_limbs (Int.toNat ((70 * v1) + v3))) * (mK_limbs (Int.toNat ((70 * v2) + v6))))) + v4) 1073741823)) mK_wide y h k
          · replace h := zif2 c h
            refine rb false 8 (st2 := [(1, 0)]) rfl rfl trivial ?_
            obtain ⟨⟨g17_0, g17_1⟩, h⟩ := zgd h
            refine rb false 9 (L2 := [some (2, Int.ofNat 0), some (0, v1), some (0, v2), some (0, v3), some (1, v4), none, some (0, v6), some (1, 0), none, some (1, (((mK_limbs (Int.toNat ((280 + v3) + v6))) + 0) + v4)), none]) rfl rfl (And.intro g17_0 g17_1) ?_
            obtain ⟨⟨g18_0, g18_1⟩, h⟩ := zgd h
            refine rb false 10 (σ2 := [([], [(zu mK_limbs (Int.toNat ((280 + v3) + v6)) (zandl (((mK_limbs (Int.toNat ((280 + v3) + v6))) + 0) + v4) 1073741823)), mK_wide]), M1, M2, M3, M4, M5, M6]) rfl rfl (And.intro g18_0 g18_1) ?_
            obtain ⟨g19_0, h⟩ := zgd h
            refine rg false 11 (t := 24) (L2 := [some (2, Int.ofNat 0), some (0, v1), some (0, v2), some (0, v3), some (1, (zshrl (((mK_limbs (Int.toNat ((280 + v3) + v6))) + 0) + v4) 30)), none, some (0, (v6 + 1)), some (1, 0), none, some (1, (((mK_limbs (Int.toNat ((280 + v3) + v6))) + 0) + v4)), none]) rfl rfl rfl g19_0 ?_
            refine rmk [true, true, true, true, true, false, true, false, false, false, false] (L2 := [some (2, Int.ofNat 0), some (0, v1), some (0, v2), some (0, v3), some (1, (zshrl (((mK_limbs (Int.toNat ((280 + v3) + v6))) + 0) + v4) 30)), none, some (0, (v6 + 1)), none, none, none, none]) rfl ?_
            exact ih v1 v2 v3 (zshrl (((mK_limbs (Int.toNat ((280 + v3) + v6))) + 0) + v4) 30) (v6 + 1) (zu mK_limbs (Int.toNat ((280 + v3) + v6)) (zandl (((mK_limbs (Int.toNat ((280 + v3) + v6))) + 0) + v4) 1073741823)) mK_wide y h k
        · replace h := zif2 c h
          refine rmk [true, true, true, true, false, false, false, false, false, false, false] (L2 := [some (2, Int.ofNat 0), some (0, v1), some (0, v2), some (0, v3), none, none, none, none, none, none, none]) rfl ?_
          obtain rfl := Option.some.inj h
          exact k
  have LP8 : ∀ (n : Nat) (v1 : Int) (v2 : Int) (v3 : Int) (mK_limbs : Nat → Int) (mK_wide : Nat → Int) (y : Nat → Int), l_X10_multiplies_8 n v1 v2 v3 mK_limbs mK_wide = some y → S 146 [some (2, Int.ofNat 0), some (0, v1), some (0, v2), none, none, none, none, none, none, none, none] [] [([], [y, mK_wide]), M1, M2, M3, M4, M5, M6] → S 8 [some (2, Int.ofNat 0), some (0, v1), some (0, v2), some (0, v3), none, none, none, none, none, none, none] [] [([], [mK_limbs, mK_wide]), M1, M2, M3, M4, M5, M6] := by
    intro n
    induction n with
    | zero =>
      intro v1 v2 v3 mK_limbs mK_wide y h k
      rw [l_X10_multiplies_8] at h
      cases h
    | succ n ih =>
      intro v1 v2 v3 mK_limbs mK_wide y h k
      rw [l_X10_multiplies_8] at h
      obtain ⟨g2_0, h⟩ := zgd h
      refine ri false 2 (q := v3 < (mK_wide (Int.toNat v1))) (t1 := 18) (t2 := 146) rfl rfl g2_0 (fun c => ?_) (fun c => ?_)
      · replace h := zif1 c h
        refine rb false 3 (L2 := [some (2, Int.ofNat 0), some (0, v1), some (0, v2), some (0, v3), some (1, 0), none, some (0, 0), none, none, none, none]) rfl rfl trivial ?_
        obtain ⟨x20, hx20, h⟩ := zbd h
        refine LP24 zN v1 v2 v3 0 0 mK_limbs mK_wide x20 hx20 ?_
        obtain ⟨g21_0, h⟩ := zgd h
        refine rg false 12 (t := 8) (L2 := [some (2, Int.ofNat 0), some (0, v1), some (0, v2), some (0, (v3 + 1)), none, none, none, none, none, none, none]) rfl rfl rfl g21_0 ?_
        exact ih v1 v2 (v3 + 1) x20 mK_wide y h k
      · replace h := zif2 c h
        refine rmk [true, true, true, false, false, false, false, false, false, false, false] (L2 := [some (2, Int.ofNat 0), some (0, v1), some (0, v2), none, none, none, none, none, none, none, none]) rfl ?_
        obtain rfl := Option.some.inj h
        exact k
  unfold f_X10_multiplies at h
  obtain ⟨x1, hx1, h⟩ := zbd h
  refine rv false 0 2 rfl rfl trivial rfl (m_M_X10_sets l M1 M2 M3 M4 M5 M6 4 0 mK_limbs mK_wide x1 hx1) ⟨_, _, _, _, rfl, rfl, rfl, by decide +kernel, ⟨Nat.le_of_ble_eq_true rfl, Nat.le_of_ble_eq_true rfl⟩, uGin u_8_3 u_8_4 u_8_5 u_1_5 u_8_6⟩ ⟨rfl, _, _, _, rfl, rfl⟩ ?_
  refine rb false 1 (L2 := [some (2, Int.ofNat 0), some (0, p1), some (0, p2), some (0, 0), none, none, none, none, none, none, none]) rfl rfl trivial ?_
  obtain ⟨x22, hx22, h⟩ := zbd h
  refine LP8 zN p1 p2 0 x1.1 x1.2 x22 hx22 ?_
  obtain ⟨⟨g23_0, g23_1, g23_2⟩, h⟩ := zgd h
  refine rb false 13 (σ2 := [([], [x22, (zu x1.2 (Int.toNat 4) ((x1.2 (Int.toNat p1)) + (x1.2 (Int.toNat p2))))]), M1, M2, M3, M4, M5, M6]) rfl rfl (And.intro g23_0 (And.intro g23_1 (And.intro (show zin 4 9 by decide) g23_2))) ?_
  obtain ⟨x24, hx24, h⟩ := zbd h
  refine rv false 14 1 rfl rfl trivial rfl (m_M_X10_trims l M1 M2 M3 M4 M5 M6 4 x22 (zu x1.2 (Int.toNat 4) ((x1.2 (Int.toNat p1)) + (x1.2 (Int.toNat p2)))) x24 hx24) ⟨_, _, _, _, rfl, rfl, rfl, by decide +kernel, ⟨Nat.le_of_ble_eq_true rfl, Nat.le_of_ble_eq_true rfl⟩, uGin u_8_8 u_8_9 u_8_10 u_1_5 u_8_11⟩ ⟨rfl, _, _, _, rfl, rfl⟩ ?_
  obtain ⟨x25, hx25, h⟩ := zbd h
  refine rv false 15 2 rfl rfl trivial rfl (m_M_X10_takes l M1 M2 M3 M4 M5 M6 p1 4 x22 x24 x25 hx25) ⟨_, _, _, _, rfl, rfl, rfl, by decide +kernel, ⟨Nat.le_of_ble_eq_true rfl, Nat.le_of_ble_eq_true rfl⟩, uGin u_27_6 u_27_7 u_27_8 u_1_5 u_27_9⟩ ⟨rfl, _, _, _, rfl, rfl⟩ ?_
  obtain rfl := Option.some.inj h
  exact r0 false 16 rfl rfl rfl rfl trivial
def bX10_adds : zB := [(0, [(.iconst 0, 1), (.istore_n 3, 1), (.aload_n 0, 1), (.getfield 13, 3), (.iload_n 1, 1), (.iaload, 1), (.aload_n 0, 1), (.getfield 13, 3), (.iload_n 2, 1), (.iaload, 1)], 14, .if_icmp .le 12, 3), (17, [(.aload_n 0, 1), (.getfield 13, 3), (.iload_n 1, 1), (.iaload, 1)], 23, .goto 9, 3), (26, [(.aload_n 0, 1), (.getfield 13, 3), (.iload_n 2, 1), (.iaload, 1)], 32, .nop, 0), (32, [(.istore 4, 2), (.iconst 0, 1), (.istore 5, 2)], 37, .nop, 0), (37, [(.iload 5, 2), (.iload 4, 2)], 41, .if_icmp .ge 61, 3), (44, [(.aload_n 0, 1), (.getfield 7, 3), (.bipush 70, 2), (.iload_n 1, 1), (.imul, 1), (.iload 5, 2), (.iadd, 1), (.iaload, 1), (.aload_n 0, 1), (.getfield 7, 3), (.bipush 70, 2), (.iload_n 2, 1), (.imul, 1), (.iload 5, 2), (.iadd, 1), (.iaload, 1), (.iadd, 1), (.iload_n 3, 1), (.iadd, 1), (.istore 6, 2)], 73, .nop, 0), (73, [(.aload_n 0, 1), (.getfield 7, 3), (.bipush 70, 2), (.iload_n 1, 1), (.imul, 1), (.iload 5, 2), (.iadd, 1), (.iload 6, 2), (.ldc 102, 2), (.iand, 1), (.iastore, 1)], 90, .nop, 0), (90, [(.iload 6, 2), (.bipush 30, 2), (.iushr, 1), (.istore_n 3, 1), (.iinc 5 1, 3)], 99, .goto (-62), 3), (102, [(.aload_n 0, 1), (.getfield 7, 3), (.bipush 70, 2), (.iload_n 1, 1), (.imul, 1), (.iload 4, 2), (.iadd, 1), (.iload_n 3, 1), (.iastore, 1)], 115, .nop, 0), (115, [(.aload_n 0, 1), (.getfield 13, 3), (.iload_n 1, 1), (.iload 4, 2), (.iload_n 3, 1), (.iadd, 1), (.iastore, 1), (.aload_n 0, 1), (.iload_n 1, 1)], 127, .invokevirtual 94, 3), (130, [], 130, .return_, 1)]
theorem bX10_adds_ok : zBok cX10_adds 7 bX10_adds = true := by decide +kernel
abbrev wX10_adds : List Cond := Cond.code yX10_adds cX10_adds 7 none :: uU
def rX10_adds : Room := { frames := 1, cells := 0, slots := 0, locals := 21 }
set_option maxRecDepth 20000 in
set_option maxHeartbeats 4000000 in
theorem m_M_X10_adds (l : Launch) (M1 : zM) (M2 : zM) (M3 : zM) (M4 : zM) (M5 : zM) (M6 : zM) (p1 : Int) (p2 : Int) (mK_limbs : Nat → Int) (mK_wide : Nat → Int) (x : (Nat → Int) × (Nat → Int)) (h : f_X10_adds p1 p2 mK_limbs mK_wide = some x) : zD l yX10_adds wX10_adds rX10_adds lamM shpM [(2, Int.ofNat 0), (0, p1), (0, p2)] [([], [mK_limbs, mK_wide]), M1, M2, M3, M4, M5, M6] (none) [([], [x.1, x.2]), M1, M2, M3, M4, M5, M6] := by
  refine zD_of (B := bX10_adds) (E := eX10) (by decide) rfl lokM (eX10_ok _) bX10_adds_ok (Or.inl rfl) rfl (fun S R => ?_)
  obtain ⟨rb, rg, ri, rv, rs, r0, r1, r2, r3, rt, rmk⟩ := R
  show S 0 [some (2, Int.ofNat 0), some (0, p1), some (0, p2), none, none, none, none] [] [([], [mK_limbs, mK_wide]), M1, M2, M3, M4, M5, M6]
  have LP37 : ∀ (n : Nat) (v1 : Int) (v2 : Int) (v4 : Int) (v3 : Int) (v5 : Int) (mK_limbs : Nat → Int) (mK_wide : Nat → Int) (y : Int × (Nat → Int)), l_X10_adds_37 n v1 v2 v4 v3 v5 mK_limbs = some y → S 102 [some (2, Int.ofNat 0), some (0, v1), none, some (0, y.1), some (0, v4), none, none] [] [([], [y.2, mK_wide]), M1, M2, M3, M4, M5, M6] → S 37 [some (2, Int.ofNat 0), some (0, v1), some (0, v2), some (0, v3), some (0, v4), some (0, v5), none] [] [([], [mK_limbs, mK_wide]), M1, M2, M3, M4, M5, M6] := by
    intro n
    induction n with
    | zero =>
      intro v1 v2 v4 v3 v5 mK_limbs mK_wide y h k
      rw [l_X10_adds_37] at h
      cases h
    | succ n ih =>
      intro v1 v2 v4 v3 v5 mK_limbs mK_wide y h k
      rw [l_X10_adds_37] at h
      refine ri false 4 (q := v5 < v4) (t1 := 44) (t2 := 102) rfl rfl trivial (fun c => ?_) (fun c => ?_)
      · replace h := zif1 c h
        obtain ⟨⟨g3_0, g3_1, g3_2⟩, h⟩ := zgd h
        refine rb false 5 (L2 := [some (2, Int.ofNat 0), some (0, v1), some (0, v2), some (0, v3), some (0, v4), some (0, v5), some (0, (((mK_limbs (Int.toNat ((70 * v1) + v5))) + (mK_limbs (Int.toNat ((70 * v2) + v5)))) + v3))]) rfl rfl (And.intro g3_0 (And.intro g3_1 g3_2)) ?_
        obtain ⟨g4_0, h⟩ := zgd h
        refine rb false 6 (σ2 := [([], [(zu mK_limbs (Int.toNat ((70 * v1) + v5)) (zand (((mK_limbs (Int.toNat ((70 * v1) + v5))) + (mK_limbs (Int.toNat ((70 * v2) + v5)))) + v3) 1073741823)), mK_wide]), M1, M2, M3, M4, M5, M6]) rfl rfl g4_0 ?_
        obtain ⟨g5_0, h⟩ := zgd h
        refine rg false 7 (t := 37) (L2 := [some (2, Int.ofNat 0), some (0, v1), some (0, v2), some (0, (zushr (((mK_limbs (Int.toNat ((70 * v1) + v5))) + (mK_limbs (Int.toNat ((70 * v2) + v5)))) + v3) 30)), some (0, v4), some (0, (v5 + 1)), some (0, (((mK_limbs (Int.toNat ((70 * v1) + v5))) + (mK_limbs (Int.toNat ((70 * v2) + v5)))) + v3))]) rfl rfl rfl g5_0 ?_
        refine rmk [true, true, true, true, true, true, false] (L2 := [some (2, Int.ofNat 0), some (0, v1), some (0, v2), some (0, (zushr (((mK_limbs (Int.toNat ((70 * v1) + v5))) + (mK_limbs (Int.toNat ((70 * v2) + v5)))) + v3) 30)), some (0, v4), some (0, (v5 + 1)), none]) rfl ?_
        exact ih v1 v2 v4 (zushr (((mK_limbs (Int.toNat ((70 * v1) + v5))) + (mK_limbs (Int.toNat ((70 * v2) + v5)))) + v3) 30) (v5 + 1) (zu mK_limbs (Int.toNat ((70 * v1) + v5)) (zand (((mK_limbs (Int.toNat ((70 * v1) + v5))) + (mK_limbs (Int.toNat ((70 * v2) + v5)))) + v3) 1073741823)) mK_wide y h k
      · replace h := zif2 c h
        refine rmk [true, true, false, true, true, false, false] (L2 := [some (2, Int.ofNat 0), some (0, v1), none, some (0, v3), some (0, v4), none, none]) rfl ?_
        obtain rfl := Option.some.inj h
        exact k
  unfold f_X10_adds at h
  obtain ⟨⟨g1_0, g1_1⟩, h⟩ := zgd h
  refine ri false 0 (q := (mK_wide (Int.toNat p2)) < (mK_wide (Int.toNat p1))) (t1 := 17) (t2 := 26) (L2 := [some (2, Int.ofNat 0), some (0, p1), some (0, p2), some (0, 0), none, none, none]) rfl rfl (And.intro g1_0 g1_1) (fun c => ?_) (fun c => ?_)
  · replace h := zif1 c h
    obtain ⟨g2_0, h⟩ := zgd h
    refine rg false 1 (t := 32) (st2 := [(0, (mK_wide (Int.toNat p1)))]) rfl rfl rfl g2_0 ?_
    refine rb false 3 (L2 := [some (2, Int.ofNat 0), some (0, p1), some (0, p2), some (0, 0), some (0, (mK_wide (Int.toNat p1))), some (0, 0), none]) rfl rfl trivial ?_
    obtain ⟨x6, hx6, h⟩ := zbd h
    refine LP37 zN p1 p2 (mK_wide (Int.toNat p1)) 0 0 mK_limbs mK_wide x6 hx6 ?_
    obtain ⟨g7_0, h⟩ := zgd h
    refine rb false 8 (σ2 := [([], [(zu x6.2 (Int.toNat ((70 * p1) + (mK_wide (Int.toNat p1)))) x6.1), mK_wide]), M1, M2, M3, M4, M5, M6]) rfl rfl g7_0 ?_
    obtain ⟨⟨g9_0, g9_1⟩, h⟩ := zgd h
    obtain ⟨x8, hx8, h⟩ := zbd h
    refine rv false 9 1 (σ2 := [([], [(zu x6.2 (Int.toNat ((70 * p1) + (mK_wide (Int.toNat p1)))) x6.1), (zu mK_wide (Int.toNat p1) ((mK_wide (Int.toNat p1)) + x6.1))]), M1, M2, M3, M4, M5, M6]) rfl rfl (And.intro g9_0 g9_1) rfl (m_M_X10_trims l M1 M2 M3 M4 M5 M6 p1 (zu x6.2 (Int.toNat ((70 * p1) + (mK_wide (Int.toNat p1)))) x6.1) (zu mK_wide (Int.toNat p1) ((mK_wide (Int.toNat p1)) + x6.1)) x8 hx8) ⟨_, _, _, _, rfl, rfl, rfl, by decide +kernel, ⟨Nat.le_of_ble_eq_true rfl, Nat.le_of_ble_eq_true rfl⟩, uGin u_8_8 u_8_9 u_8_10 u_1_5 u_8_11⟩ ⟨rfl, _, _, _, rfl, rfl⟩ ?_
    obtain rfl := Option.some.inj h
    exact r0 false 10 rfl rfl rfl rfl trivial
  · replace h := zif2 c h
    obtain ⟨g10_0, h⟩ := zgd h
    refine rb false 2 (st2 := [(0, (mK_wide (Int.toNat p2)))]) rfl rfl g10_0 ?_
    refine rb false 3 (L2 := [some (2, Int.ofNat 0), some (0, p1), some (0, p2), some (0, 0), some (0, (mK_wide (Int.toNat p2))), some (0, 0), none]) rfl rfl trivial ?_
    obtain ⟨x11, hx11, h⟩ := zbd h
    refine LP37 zN p1 p2 (mK_wide (Int.toNat p2)) 0 0 mK_limbs mK_wide x11 hx11 ?_
    obtain ⟨g12_0, h⟩ := zgd h
    refine rb false 8 (σ2 := [([], [(zu x11.2 (Int.toNat ((70 * p1) + (mK_wide (Int.toNat p2)))) x11.1), mK_wide]), M1, M2, M3, M4, M5, M6]) rfl rfl g12_0 ?_
    obtain ⟨⟨g14_0, g14_1⟩, h⟩ := zgd h
    obtain ⟨x13, hx13, h⟩ := zbd h
    refine rv false 9 1 (σ2 := [([], [(zu x11.2 (Int.toNat ((70 * p1) + (mK_wide (Int.toNat p2)))) x11.1), (zu mK_wide (Int.toNat p1) ((mK_wide (Int.toNat p2)) + x11.1))]), M1, M2, M3, M4, M5, M6]) rfl rfl (And.intro g14_0 g14_1) rfl (m_M_X10_trims l M1 M2 M3 M4 M5 M6 p1 (zu x11.2 (Int.toNat ((70 * p1) + (mK_wide (Int.toNat p2)))) x11.1) (zu mK_wide (Int.toNat p1) ((mK_wide (Int.toNat p2)) + x11.1)) x13 hx13) ⟨_, _, _, _, rfl, rfl, rfl, by decide +kernel, ⟨Nat.le_of_ble_eq_true rfl, Nat.le_of_ble_eq_true rfl⟩, uGin u_8_8 u_8_9 u_8_10 u_1_5 u_8_11⟩ ⟨rfl, _, _, _, rfl, rfl⟩ ?_
    obtain rfl := Option.some.inj h
    exact r0 false 10 rfl rfl rfl rfl trivial
def bX10_rounds : zB := [(0, [(.aload_n 0, 1), (.bipush 7, 2), (.lconst 0, 1)], 4, .invokevirtual 88, 3), (7, [(.iconst 0, 1), (.istore_n 1, 1)], 9, .nop, 0), (9, [(.iload_n 1, 1), (.bipush 10, 2)], 12, .if_icmp .ge 70, 3), (15, [(.aload_n 0, 1), (.getfield 58, 3), (.iload_n 1, 1), (.iaload, 1)], 21, .ifCond .le 55, 3), (24, [(.aload_n 0, 1), (.bipush 8, 2), (.aload_n 0, 1), (.getfield 58, 3), (.iload_n 1, 1), (.iaload, 1), (.i2l, 1)], 34, .invokevirtual 88, 3), (37, [(.iconst 0, 1), (.istore_n 2, 1)], 39, .nop, 0), (39, [(.iload_n 2, 1), (.bipush 9, 2)], 42, .if_icmp .ge 26, 3), (45, [(.aload_n 0, 1), (.bipush 8, 2), (.iload_n 2, 1), (.iload_n 1, 1)], 50, .if_icmp .ge 7, 3), (53, [(.iconst 5, 1)], 54, .goto 5, 3), (57, [(.bipush 6, 2)], 59, .nop, 0), (59, [], 59, .invokevirtual 222, 3), (62, [(.iinc 2 1, 3)], 65, .goto (-26), 3), (68, [(.aload_n 0, 1), (.bipush 7, 2), (.bipush 8, 2)], 73, .invokevirtual 225, 3), (76, [(.iinc 1 1, 3)], 79, .goto (-70), 3), (82, [(.aload_n 0, 1), (.bipush 8, 2), (.aload_n 0, 1)], 86, .invokevirtual 207, 3), (89, [(.i2l, 1)], 90, .invokevirtual 88, 3), (93, [(.iconst 0, 1), (.istore_n 1, 1)], 95, .nop, 0), (95, [(.iload_n 1, 1), (.bipush 9, 2)], 98, .if_icmp .ge 17, 3), (101, [(.aload_n 0, 1), (.bipush 8, 2), (.bipush 6, 2)], 106, .invokevirtual 222, 3), (109, [(.iinc 1 1, 3)], 112, .goto (-17), 3), (115, [(.aload_n 0, 1), (.iconst 5, 1), (.bipush 7, 2)], 119, .invokevirtual 98, 3), (122, [(.aload_n 0, 1), (.bipush 6, 2), (.bipush 8, 2)], 127, .invokevirtual 98, 3), (130, [], 130, .return_, 1)]
theorem bX10_rounds_ok : zBok cX10_rounds 3 bX10_rounds = true := by decide +kernel
abbrev wX10_rounds : List Cond := Cond.code yX10_rounds cX10_rounds 3 none :: uU
def rX10_rounds : Room := { frames := 3, cells := 0, slots := 0, locals := 75 }
set_option maxRecDepth 20000 in
set_option maxHeartbeats 4000000 in
theorem m_M_X10_rounds (l : Launch) (M1 : zM) (M2 : zM) (M4 : zM) (M5 : zM) (M6 : zM) (mK_limbs : Nat → Int) (mK_wide : Nat → Int) (mH_habits : Nat → Int) (x : (Nat → Int) × (Nat → Int)) (h : f_X10_rounds mK_limbs mK_wide mH_habits = some x) : zD l yX10_rounds wX10_rounds rX10_rounds lamM shpM [(2, Int.ofNat 0)] [([], [mK_limbs, mK_wide]), M1, M2, ([], [mH_habits]), M4, M5, M6] (none) [([], [x.1, x.2]), M1, M2, ([], [mH_habits]), M4, M5, M6] := by
  refine zD_of (B := bX10_rounds) (E := eX10) (by decide) rfl lokM (eX10_ok _) bX10_rounds_ok (Or.inl rfl) rfl (fun S R => ?_)
  obtain ⟨rb, rg, ri, rv, rs, r0, r1, r2, r3, rt, rmk⟩ := R
  show S 0 [some (2, Int.ofNat 0), none, none] [] [([], [mK_limbs, mK_wide]), M1, M2, ([], [mH_habits]), M4, M5, M6]
  have LP39 : ∀ (n : Nat) (v1 : Int) (v2 : Int) (mK_limbs : Nat → Int) (mK_wide : Nat → Int) (mH_habits : Nat → Int) (y : (Nat → Int) × (Nat → Int)), l_X10_rounds_39 n v1 v2 mK_limbs mK_wide = some y → S 68 [some (2, Int.ofNat 0), some (0, v1), none] [] [([], [y.1, y.2]), M1, M2, ([], [mH_habits]), M4, M5, M6] → S 39 [some (2, Int.ofNat 0), some (0, v1), some (0, v2)] [] [([], [mK_limbs, mK_wide]), M1, M2, ([], [mH_habits]), M4, M5, M6] := by
    intro n
    induction n with
    | zero =>
      intro v1 v2 mK_limbs mK_wide mH_habits y h k
      rw [l_X10_rounds_39] at h
      cases h
    | succ n ih =>
      intro v1 v2 mK_limbs mK_wide mH_habits y h k
      rw [l_X10_rounds_39] at h
      refine ri false 6 (q := v2 < 9) (t1 := 45) (t2 := 68) rfl rfl trivial (fun c => ?_) (fun c => ?_)
      · replace h := zif1 c h
        refine ri false 7 (q := v2 < v1) (t1 := 53) (t2 := 57) (st2 := [(0, 8), (2, Int.ofNat 0)]) rfl rfl trivial (fun c => ?_) (fun c => ?_)
        · replace h := zif1 c h
          refine rg false 8 (t := 59) (st2 := [(0, 5), (0, 8), (2, Int.ofNat 0)]) rfl rfl rfl trivial ?_
          obtain ⟨x5, hx5, h⟩ := zbd h
          refine rv false 10 2 rfl rfl trivial rfl (m_M_X10_multiplies l M1 M2 ([], [mH_habits]) M4 M5 M6 8 5 mK_limbs mK_wide x5 hx5) ⟨_, _, _, _, rfl, rfl, rfl, by decide +kernel, ⟨Nat.le_of_ble_eq_true rfl, Nat.le_of_ble_eq_true rfl⟩, uGin u_30_6 u_30_7 u_30_8 u_1_5 u_30_9⟩ ⟨rfl, _, _, _, rfl, rfl⟩ ?_
          obtain ⟨g6_0, h⟩ := zgd h
          refine rg false 11 (t := 39) (L2 := [some (2, Int.ofNat 0), some (0, v1), some (0, (v2 + 1))]) rfl rfl rfl g6_0 ?_
          exact ih v1 (v2 + 1) x5.1 x5.2 mH_habits y h k
        · replace h := zif2 c h
          refine rb false 9 (st2 := [(0, 6), (0, 8), (2, Int.ofNat 0)]) rfl rfl trivial ?_
          obtain ⟨x7, hx7, h⟩ := zbd h
          refine rv false 10 2 rfl rfl trivial rfl (m_M_X10_multiplies l M1 M2 ([], [mH_habits]) M4 M5 M6 8 6 mK_limbs mK_wide x7 hx7) ⟨_, _, _, _, rfl, rfl, rfl, by decide +kernel, ⟨Nat.le_of_ble_eq_true rfl, Nat.le_of_ble_eq_true rfl⟩, uGin u_30_6 u_30_7 u_30_8 u_1_5 u_30_9⟩ ⟨rfl, _, _, _, rfl, rfl⟩ ?_
          obtain ⟨g8_0, h⟩ := zgd h
          refine rg false 11 (t := 39) (L2 := [some (2, Int.ofNat 0), some (0, v1), some (0, (v2 + 1))]) rfl rfl rfl g8_0 ?_
          exact ih v1 (v2 + 1) x7.1 x7.2 mH_habits y h k
      · replace h := zif2 c h
        refine rmk [true, true, false] (L2 := [some (2, Int.ofNat 0), some (0, v1), none]) rfl ?_
        obtain rfl := Option.some.inj h
        exact k
  have LP9 : ∀ (n : Nat) (v1 : Int) (mK_limbs : Nat → Int) (mK_wide : Nat → Int) (mH_habits : Nat → Int) (y : (Nat → Int) × (Nat → Int)), l_X10_rounds_9 n v1 mK_limbs mK_wide mH_habits = some y → S 82 [some (2, Int.ofNat 0), none, none] [] [([], [y.1, y.2]), M1, M2, ([], [mH_habits]), M4, M5, M6] → S 9 [some (2, Int.ofNat 0), some (0, v1), none] [] [([], [mK_limbs, mK_wide]), M1, M2, ([], [mH_habits]), M4, M5, M6] := by
    intro n
    induction n with
    | zero =>
      intro v1 mK_limbs mK_wide mH_habits y h k
      rw [l_X10_rounds_9] at h
      cases h
    | succ n ih =>
      intro v1 mK_limbs mK_wide mH_habits y h k
      rw [l_X10_rounds_9] at h
      refine ri false 2 (q := v1 < 10) (t1 := 15) (t2 := 82) rfl rfl trivial (fun c => ?_) (fun c => ?_)
      · replace h := zif1 c h
        obtain ⟨g2_0, h⟩ := zgd h
        refine ri false 3 (q := (0 : Int) < (mH_habits (Int.toNat v1))) (t1 := 24) (t2 := 76) rfl rfl g2_0 (fun c => ?_) (fun c => ?_)
        · replace h := zif1 c h
          obtain ⟨g4_0, h⟩ := zgd h
          obtain ⟨x3, hx3, h⟩ := zbd h
          refine rv false 4 2 rfl rfl g4_0 rfl (m_M_X10_sets l M1 M2 ([], [mH_habits]) M4 M5 M6 8 (mH_habits (Int.toNat v1)) mK_limbs mK_wide x3 hx3) ⟨_, _, _, _, rfl, rfl, rfl, by decide +kernel, ⟨Nat.le_of_ble_eq_true rfl, Nat.le_of_ble_eq_true rfl⟩, uGin u_8_3 u_8_4 u_8_5 u_1_5 u_8_6⟩ ⟨rfl, _, _, _, rfl, rfl⟩ ?_
          refine rb false 5 (L2 := [some (2, Int.ofNat 0), some (0, v1), some (0, 0)]) rfl rfl trivial ?_
          obtain ⟨x9, hx9, h⟩ := zbd h
          refine LP39 zN v1 0 x3.1 x3.2 mH_habits x9 hx9 ?_
          obtain ⟨x10, hx10, h⟩ := zbd h
          refine rv false 12 2 rfl rfl trivial rfl (m_M_X10_adds l M1 M2 ([], [mH_habits]) M4 M5 M6 7 8 x9.1 x9.2 x10 hx10) ⟨_, _, _, _, rfl, rfl, rfl, by decide +kernel, ⟨Nat.le_of_ble_eq_true rfl, Nat.le_of_ble_eq_true rfl⟩, uGin u_30_10 u_30_11 u_30_12 u_1_5 u_30_13⟩ ⟨rfl, _, _, _, rfl, rfl⟩ ?_
          obtain ⟨g11_0, h⟩ := zgd h
          refine rg false 13 (t := 9) (L2 := [some (2, Int.ofNat 0), some (0, (v1 + 1)), none]) rfl rfl rfl g11_0 ?_
          exact ih (v1 + 1) x10.1 x10.2 mH_habits y h k
        · replace h := zif2 c h
          obtain ⟨g12_0, h⟩ := zgd h
          refine rg false 13 (t := 9) (L2 := [some (2, Int.ofNat 0), some (0, (v1 + 1)), none]) rfl rfl rfl g12_0 ?_
          exact ih (v1 + 1) mK_limbs mK_wide mH_habits y h k
      · replace h := zif2 c h
        refine rmk [true, false, false] (L2 := [some (2, Int.ofNat 0), none, none]) rfl ?_
        obtain rfl := Option.some.inj h
        exact k
  have LP95 : ∀ (n : Nat) (v1 : Int) (mK_limbs : Nat → Int) (mK_wide : Nat → Int) (mH_habits : Nat → Int) (y : (Nat → Int) × (Nat → Int)), l_X10_rounds_95 n v1 mK_limbs mK_wide = some y → S 115 [some (2, Int.ofNat 0), none, none] [] [([], [y.1, y.2]), M1, M2, ([], [mH_habits]), M4, M5, M6] → S 95 [some (2, Int.ofNat 0), some (0, v1), none] [] [([], [mK_limbs, mK_wide]), M1, M2, ([], [mH_habits]), M4, M5, M6] := by
    intro n
    induction n with
    | zero =>
      intro v1 mK_limbs mK_wide mH_habits y h k
      rw [l_X10_rounds_95] at h
      cases h
    | succ n ih =>
      intro v1 mK_limbs mK_wide mH_habits y h k
      rw [l_X10_rounds_95] at h
      refine ri false 17 (q := v1 < 9) (t1 := 101) (t2 := 115) rfl rfl trivial (fun c => ?_) (fun c => ?_)
      · replace h := zif1 c h
        obtain ⟨x16, hx16, h⟩ := zbd h
        refine rv false 18 2 rfl rfl trivial rfl (m_M_X10_multiplies l M1 M2 ([], [mH_habits]) M4 M5 M6 8 6 mK_limbs mK_wide x16 hx16) ⟨_, _, _, _, rfl, rfl, rfl, by decide +kernel, ⟨Nat.le_of_ble_eq_true rfl, Nat.le_of_ble_eq_true rfl⟩, uGin u_30_6 u_30_7 u_30_8 u_1_5 u_30_9⟩ ⟨rfl, _, _, _, rfl, rfl⟩ ?_
        obtain ⟨g17_0, h⟩ := zgd h
        refine rg false 19 (t := 95) (L2 := [some (2, Int.ofNat 0), some (0, (v1 + 1)), none]) rfl rfl rfl g17_0 ?_
        exact ih (v1 + 1) x16.1 x16.2 mH_habits y h k
      · replace h := zif2 c h
        refine rmk [true, false, false] (L2 := [some (2, Int.ofNat 0), none, none]) rfl ?_
        obtain rfl := Option.some.inj h
        exact k
  unfold f_X10_rounds at h
  obtain ⟨x1, hx1, h⟩ := zbd h
  refine rv false 0 2 rfl rfl trivial rfl (m_M_X10_sets l M1 M2 ([], [mH_habits]) M4 M5 M6 7 0 mK_limbs mK_wide x1 hx1) ⟨_, _, _, _, rfl, rfl, rfl, by decide +kernel, ⟨Nat.le_of_ble_eq_true rfl, Nat.le_of_ble_eq_true rfl⟩, uGin u_8_3 u_8_4 u_8_5 u_1_5 u_8_6⟩ ⟨rfl, _, _, _, rfl, rfl⟩ ?_
  refine rb false 1 (L2 := [some (2, Int.ofNat 0), some (0, 0), none]) rfl rfl trivial ?_
  obtain ⟨x13, hx13, h⟩ := zbd h
  refine LP9 zN 0 x1.1 x1.2 mH_habits x13 hx13 ?_
  obtain ⟨x14, hx14, h⟩ := zbd h
  refine rv false 14 0 (rest := [(0, 8), (2, Int.ofNat 0)]) rfl rfl trivial rfl (m_M_X10_weights l ([], [x13.1, x13.2]) M1 M2 M4 M5 M6 mH_habits x14 hx14) ⟨_, _, _, _, rfl, rfl, rfl, by decide +kernel, ⟨Nat.le_of_ble_eq_true rfl, Nat.le_of_ble_eq_true rfl⟩, uGin u_25_15 u_25_16 u_25_17 u_1_5 u_25_18⟩ ⟨rfl, _, _, _, rfl, rfl⟩ ?_
  obtain ⟨x15, hx15, h⟩ := zbd h
  refine rv false 15 2 rfl rfl trivial rfl (m_M_X10_sets l M1 M2 ([], [mH_habits]) M4 M5 M6 8 x14 x13.1 x13.2 x15 hx15) ⟨_, _, _, _, rfl, rfl, rfl, by decide +kernel, ⟨Nat.le_of_ble_eq_true rfl, Nat.le_of_ble_eq_true rfl⟩, uGin u_8_3 u_8_4 u_8_5 u_1_5 u_8_6⟩ ⟨rfl, _, _, _, rfl, rfl⟩ ?_
  refine rb false 16 (L2 := [some (2, Int.ofNat 0), some (0, 0), none]) rfl rfl trivial ?_
  obtain ⟨x18, hx18, h⟩ := zbd h
  refine LP95 zN 0 x15.1 x15.2 mH_habits x18 hx18 ?_
  obtain ⟨x19, hx19, h⟩ := zbd h
  refine rv false 20 2 rfl rfl trivial rfl (m_M_X10_takes l M1 M2 ([], [mH_habits]) M4 M5 M6 5 7 x18.1 x18.2 x19 hx19) ⟨_, _, _, _, rfl, rfl, rfl, by decide +kernel, ⟨Nat.le_of_ble_eq_true rfl, Nat.le_of_ble_eq_true rfl⟩, uGin u_27_6 u_27_7 u_27_8 u_1_5 u_27_9⟩ ⟨rfl, _, _, _, rfl, rfl⟩ ?_
  obtain ⟨x20, hx20, h⟩ := zbd h
  refine rv false 21 2 rfl rfl trivial rfl (m_M_X10_takes l M1 M2 ([], [mH_habits]) M4 M5 M6 6 8 x19.1 x19.2 x20 hx20) ⟨_, _, _, _, rfl, rfl, rfl, by decide +kernel, ⟨Nat.le_of_ble_eq_true rfl, Nat.le_of_ble_eq_true rfl⟩, uGin u_27_6 u_27_7 u_27_8 u_1_5 u_27_9⟩ ⟨rfl, _, _, _, rfl, rfl⟩ ?_
  obtain rfl := Option.some.inj h
  exact r0 false 22 rfl rfl rfl rfl trivial
def bX10_gone : zB := [(0, [(.iload_n 1, 1), (.i2l, 1), (.lconst 0, 1), (.ldc2_w 217, 3)], 6, .invokestatic 123, 3), (9, [], 9, .ifCond .ne 6, 3), (12, [(.bipush (-2), 2)], 14, .ireturn, 1), (15, [(.aload_n 0, 1)], 16, .invokevirtual 207, 3), (19, [], 19, .ifCond .ne 6, 3), (22, [(.bipush (-3), 2)], 24, .ireturn, 1), (25, [(.aload_n 0, 1), (.iconst 5, 1), (.lconst 0, 1)], 28, .invokevirtual 88, 3), (31, [(.aload_n 0, 1), (.bipush 6, 2), (.lconst 1, 1)], 35, .invokevirtual 88, 3), (38, [(.iconst 0, 1), (.istore_n 2, 1)], 40, .nop, 0), (40, [(.iload_n 2, 1), (.iload_n 1, 1)], 42, .if_icmp .ge 13, 3), (45, [(.aload_n 0, 1)], 46, .invokevirtual 219, 3), (49, [(.iinc 2 1, 3)], 52, .goto (-12), 3), (55, [(.aload_n 0, 1), (.iconst 0, 1), (.iconst 5, 1)], 58, .invokevirtual 98, 3), (61, [(.aload_n 0, 1), (.iconst 1, 1), (.bipush 6, 2)], 65, .invokevirtual 98, 3), (68, [(.aload_n 0, 1)], 69, .invokevirtual 120, 3), (72, [(.iconst 1, 1)], 73, .ireturn, 1)]
theorem bX10_gone_ok : zBok cX10_gone 3 bX10_gone = true := by decide +kernel
abbrev wX10_gone : List Cond := Cond.code yX10_gone cX10_gone 3 (some .int) :: uU
def rX10_gone : Room := { frames := 4, cells := 0, slots := 0, locals := 97 }
set_option maxRecDepth 20000 in
set_option maxHeartbeats 4000000 in
theorem m_M_X10_gone (l : Launch) (M1 : zM) (M2 : zM) (M4 : zM) (M5 : zM) (M6 : zM) (p1 : Int) (mK_limbs : Nat → Int) (mK_wide : Nat → Int) (mH_habits : Nat → Int) (x : Int × (Nat → Int) × (Nat → Int)) (h : f_X10_gone p1 mK_limbs mK_wide mH_habits = some x) : zD l yX10_gone wX10_gone rX10_gone lamM shpM [(2, Int.ofNat 0), (0, p1)] [([], [mK_limbs, mK_wide]), M1, M2, ([], [mH_habits]), M4, M5, M6] (some (0, x.1)) [([], [x.2.1, x.2.2]), M1, M2, ([], [mH_habits]), M4, M5, M6] := by
  refine zD_of (B := bX10_gone) (E := eX10) (by decide) rfl lokM (eX10_ok _) bX10_gone_ok (Or.inl rfl) rfl (fun S R => ?_)
  obtain ⟨rb, rg, ri, rv, rs, r0, r1, r2, r3, rt, rmk⟩ := R
  show S 0 [some (2, Int.ofNat 0), some (0, p1), none] [] [([], [mK_limbs, mK_wide]), M1, M2, ([], [mH_habits]), M4, M5, M6]
  have LP40 : ∀ (n : Nat) (v1 : Int) (v2 : Int) (mK_limbs : Nat → Int) (mK_wide : Nat → Int) (mH_habits : Nat → Int) (y : (Nat → Int) × (Nat → Int)), l_X10_gone_40 n v1 v2 mK_limbs mK_wide mH_habits = some y → S 55 [some (2, Int.ofNat 0), none, none] [] [([], [y.1, y.2]), M1, M2, ([], [mH_habits]), M4, M5, M6] → S 40 [some (2, Int.ofNat 0), some (0, v1), some (0, v2)] [] [([], [mK_limbs, mK_wide]), M1, M2, ([], [mH_habits]), M4, M5, M6] := by
    intro n
    induction n with
    | zero =>
      intro v1 v2 mK_limbs mK_wide mH_habits y h k
      rw [l_X10_gone_40] at h
      cases h
    | succ n ih =>
      intro v1 v2 mK_limbs mK_wide mH_habits y h k
      rw [l_X10_gone_40] at h
      refine ri false 9 (q := v2 < v1) (t1 := 45) (t2 := 55) rfl rfl trivial (fun c => ?_) (fun c => ?_)
      · replace h := zif1 c h
        obtain ⟨x5, hx5, h⟩ := zbd h
        refine rv false 10 0 rfl rfl trivial rfl (m_M_X10_rounds l M1 M2 M4 M5 M6 mK_limbs mK_wide mH_habits x5 hx5) ⟨_, _, _, _, rfl, rfl, rfl, by decide +kernel, ⟨Nat.le_of_ble_eq_true rfl, Nat.le_of_ble_eq_true rfl⟩, uGin u_30_2 u_30_3 u_30_4 u_1_5 u_30_5⟩ ⟨rfl, _, _, _, rfl, rfl⟩ ?_
        obtain ⟨g6_0, h⟩ := zgd h
        refine rg false 11 (t := 40) (L2 := [some (2, Int.ofNat 0), some (0, v1), some (0, (v2 + 1))]) rfl rfl rfl g6_0 ?_
        exact ih v1 (v2 + 1) x5.1 x5.2 mH_habits y h k
      · replace h := zif2 c h
        refine rmk [true, false, false] (L2 := [some (2, Int.ofNat 0), none, none]) rfl ?_
        obtain rfl := Option.some.inj h
        exact k
  unfold f_X10_gone at h
  obtain ⟨x1, hx1, h⟩ := zbd h
  refine rs false 0 3 rfl rfl trivial rfl (m_M_X10_in l ([], [mK_limbs, mK_wide]) M1 M2 ([], [mH_habits]) M4 M5 M6 p1 0 3 x1 hx1) ⟨_, _, _, _, rfl, rfl, rfl, by decide +kernel, ⟨Nat.le_of_ble_eq_true rfl, Nat.le_of_ble_eq_true rfl⟩, uGinS u_9_14 u_9_15 u_1_5 u_9_16⟩ ?_
  refine ri false 1 (q := x1 = 0) (t1 := 12) (t2 := 15) rfl rfl trivial (fun c => ?_) (fun c => ?_)
  · replace h := zif1 c h
    obtain rfl := Option.some.inj h
    exact r1 false 2 rfl rfl rfl rfl rfl rfl trivial
  · replace h := zif2 c h
    obtain ⟨x2, hx2, h⟩ := zbd h
    refine rv false 3 0 rfl rfl trivial rfl (m_M_X10_weights l ([], [mK_limbs, mK_wide]) M1 M2 M4 M5 M6 mH_habits x2 hx2) ⟨_, _, _, _, rfl, rfl, rfl, by decide +kernel, ⟨Nat.le_of_ble_eq_true rfl, Nat.le_of_ble_eq_true rfl⟩, uGin u_25_15 u_25_16 u_25_17 u_1_5 u_25_18⟩ ⟨rfl, _, _, _, rfl, rfl⟩ ?_
    refine ri false 4 (q := x2 = 0) (t1 := 22) (t2 := 25) rfl rfl trivial (fun c => ?_) (fun c => ?_)
    · replace h := zif1 c h
      obtain rfl := Option.some.inj h
      exact r1 false 5 rfl rfl rfl rfl rfl rfl trivial
    · replace h := zif2 c h
      obtain ⟨x3, hx3, h⟩ := zbd h
      refine rv false 6 2 rfl rfl trivial rfl (m_M_X10_sets l M1 M2 ([], [mH_habits]) M4 M5 M6 5 0 mK_limbs mK_wide x3 hx3) ⟨_, _, _, _, rfl, rfl, rfl, by decide +kernel, ⟨Nat.le_of_ble_eq_true rfl, Nat.le_of_ble_eq_true rfl⟩, uGin u_8_3 u_8_4 u_8_5 u_1_5 u_8_6⟩ ⟨rfl, _, _, _, rfl, rfl⟩ ?_
      obtain ⟨x4, hx4, h⟩ := zbd h
      refine rv false 7 2 rfl rfl trivial rfl (m_M_X10_sets l M1 M2 ([], [mH_habits]) M4 M5 M6 6 1 x3.1 x3.2 x4 hx4) ⟨_, _, _, _, rfl, rfl, rfl, by decide +kernel, ⟨Nat.le_of_ble_eq_true rfl, Nat.le_of_ble_eq_true rfl⟩, uGin u_8_3 u_8_4 u_8_5 u_1_5 u_8_6⟩ ⟨rfl, _, _, _, rfl, rfl⟩ ?_
      refine rb false 8 (L2 := [some (2, Int.ofNat 0), some (0, p1), some (0, 0)]) rfl rfl trivial ?_
      obtain ⟨x7, hx7, h⟩ := zbd h
      refine LP40 zN p1 0 x4.1 x4.2 mH_habits x7 hx7 ?_
      obtain ⟨x8, hx8, h⟩ := zbd h
      refine rv false 12 2 rfl rfl trivial rfl (m_M_X10_takes l M1 M2 ([], [mH_habits]) M4 M5 M6 0 5 x7.1 x7.2 x8 hx8) ⟨_, _, _, _, rfl, rfl, rfl, by decide +kernel, ⟨Nat.le_of_ble_eq_true rfl, Nat.le_of_ble_eq_true rfl⟩, uGin u_27_6 u_27_7 u_27_8 u_1_5 u_27_9⟩ ⟨rfl, _, _, _, rfl, rfl⟩ ?_
      obtain ⟨x9, hx9, h⟩ := zbd h
      refine rv false 13 2 rfl rfl trivial rfl (m_M_X10_takes l M1 M2 ([], [mH_habits]) M4 M5 M6 1 6 x8.1 x8.2 x9 hx9) ⟨_, _, _, _, rfl, rfl, rfl, by decide +kernel, ⟨Nat.le_of_ble_eq_true rfl, Nat.le_of_ble_eq_true rfl⟩, uGin u_27_6 u_27_7 u_27_8 u_1_5 u_27_9⟩ ⟨rfl, _, _, _, rfl, rfl⟩ ?_
      obtain ⟨x10, hx10, h⟩ := zbd h
      refine rv false 14 0 rfl rfl trivial rfl (m_M_X10_lowers l M1 M2 ([], [mH_habits]) M4 M5 M6 x9.1 x9.2 x10 hx10) ⟨_, _, _, _, rfl, rfl, rfl, by decide +kernel, ⟨Nat.le_of_ble_eq_true rfl, Nat.le_of_ble_eq_true rfl⟩, uGin u_26_18 u_26_19 u_26_20 u_1_5 u_26_21⟩ ⟨rfl, _, _, _, rfl, rfl⟩ ?_
      obtain rfl := Option.some.inj h
      exact r1 false 15 rfl rfl rfl rfl rfl rfl trivial
def bX10_asking : zB := [(0, [(.iload_n 1, 1), (.i2l, 1), (.lconst 1, 1), (.ldc2_w 140, 3)], 6, .invokestatic 123, 3), (9, [], 9, .ifCond .eq 26, 3), (12, [(.iload_n 3, 1), (.i2l, 1), (.lconst 1, 1), (.ldc2_w 205, 3)], 18, .invokestatic 123, 3), (21, [], 21, .ifCond .eq 14, 3), (24, [(.iload_n 2, 1), (.i2l, 1), (.lconst 0, 1), (.iload_n 3, 1), (.i2l, 1)], 29, .invokestatic 123, 3), (32, [], 32, .ifCond .ne 6, 3), (35, [(.bipush (-2), 2)], 37, .ireturn, 1), (38, [(.aload_n 0, 1), (.getfield 61, 3), (.iload_n 1, 1), (.iload_n 2, 1), (.iastore, 1), (.aload_n 0, 1), (.getfield 64, 3), (.iload_n 1, 1), (.iload_n 3, 1), (.iastore, 1)], 52, .nop, 0), (52, [(.iconst 1, 1)], 53, .ireturn, 1)]
theorem bX10_asking_ok : zBok cX10_asking 4 bX10_asking = true := by decide +kernel
abbrev wX10_asking : List Cond := Cond.code yX10_asking cX10_asking 4 (some .int) :: uU
def rX10_asking : Room := { frames := 1, cells := 0, slots := 0, locals := 25 }
set_option maxRecDepth 20000 in
set_option maxHeartbeats 4000000 in
theorem m_M_X10_asking (l : Launch) (M0 : zM) (M1 : zM) (M2 : zM) (M3 : zM) (M5 : zM) (M6 : zM) (p1 : Int) (p2 : Int) (p3 : Int) (mA_doIt : Nat → Int) (mA_askOf : Nat → Int) (x : Int × (Nat → Int) × (Nat → Int)) (h : f_X10_asking p1 p2 p3 mA_doIt mA_askOf = some x) : zD l yX10_asking wX10_asking rX10_asking lamM shpM [(2, Int.ofNat 0), (0, p1), (0, p2), (0, p3)] [M0, M1, M2, M3, ([], [mA_doIt, mA_askOf]), M5, M6] (some (0, x.1)) [M0, M1, M2, M3, ([], [x.2.1, x.2.2]), M5, M6] := by
  refine zD_of (B := bX10_asking) (E := eX10) (by decide) rfl lokM (eX10_ok _) bX10_asking_ok (Or.inl rfl) rfl (fun S R => ?_)
  obtain ⟨rb, rg, ri, rv, rs, r0, r1, r2, r3, rt, rmk⟩ := R
  show S 0 [some (2, Int.ofNat 0), some (0, p1), some (0, p2), some (0, p3)] [] [M0, M1, M2, M3, ([], [mA_doIt, mA_askOf]), M5, M6]
  unfold f_X10_asking at h
  obtain ⟨x1, hx1, h⟩ := zbd h
  refine rs false 0 3 rfl rfl trivial rfl (m_M_X10_in l M0 M1 M2 M3 ([], [mA_doIt, mA_askOf]) M5 M6 p1 1 9 x1 hx1) ⟨_, _, _, _, rfl, rfl, rfl, by decide +kernel, ⟨Nat.le_of_ble_eq_true rfl, Nat.le_of_ble_eq_true rfl⟩, uGinS u_9_14 u_9_15 u_1_5 u_9_16⟩ ?_
  refine ri false 1 (q := x1 = 0) (t1 := 35) (t2 := 12) rfl rfl trivial (fun c => ?_) (fun c => ?_)
  · replace h := zif1 c h
    obtain rfl := Option.some.inj h
    exact r1 false 6 rfl rfl rfl rfl rfl rfl trivial
  · replace h := zif2 c h
    obtain ⟨x2, hx2, h⟩ := zbd h
    refine rs false 2 3 rfl rfl trivial rfl (m_M_X10_in l M0 M1 M2 M3 ([], [mA_doIt, mA_askOf]) M5 M6 p3 1 100 x2 hx2) ⟨_, _, _, _, rfl, rfl, rfl, by decide +kernel, ⟨Nat.le_of_ble_eq_true rfl, Nat.le_of_ble_eq_true rfl⟩, uGinS u_9_14 u_9_15 u_1_5 u_9_16⟩ ?_
    refine ri false 3 (q := x2 = 0) (t1 := 35) (t2 := 24) rfl rfl trivial (fun c => ?_) (fun c => ?_)
    · replace h := zif1 c h
      obtain rfl := Option.some.inj h
      exact r1 false 6 rfl rfl rfl rfl rfl rfl trivial
    · replace h := zif2 c h
      obtain ⟨x3, hx3, h⟩ := zbd h
      refine rs false 4 3 rfl rfl trivial rfl (m_M_X10_in l M0 M1 M2 M3 ([], [mA_doIt, mA_askOf]) M5 M6 p2 0 p3 x3 hx3) ⟨_, _, _, _, rfl, rfl, rfl, by decide +kernel, ⟨Nat.le_of_ble_eq_true rfl, Nat.le_of_ble_eq_true rfl⟩, uGinS u_9_14 u_9_15 u_1_5 u_9_16⟩ ?_
      refine ri false 5 (q := x3 = 0) (t1 := 35) (t2 := 38) rfl rfl trivial (fun c => ?_) (fun c => ?_)
      · replace h := zif1 c h
        obtain rfl := Option.some.inj h
        exact r1 false 6 rfl rfl rfl rfl rfl rfl trivial
      · replace h := zif2 c h
        obtain ⟨⟨g4_0, g4_1⟩, h⟩ := zgd h
        refine rb false 7 (σ2 := [M0, M1, M2, M3, ([], [(zu mA_doIt (Int.toNat p1) p2), (zu mA_askOf (Int.toNat p1) p3)]), M5, M6]) rfl rfl (And.intro g4_0 g4_1) ?_
        obtain rfl := Option.some.inj h
        exact r1 false 8 rfl rfl rfl rfl rfl rfl trivial
def bX10_best : zB := [(0, [(.iload_n 1, 1), (.i2l, 1), (.lconst 0, 1), (.lconst 1, 1)], 4, .invokestatic 123, 3), (7, [], 7, .ifCond .ne 6, 3), (10, [(.bipush (-2), 2)], 12, .ireturn, 1), (13, [(.iconst 1, 1), (.istore_n 2, 1), (.iconst 2, 1), (.istore_n 3, 1)], 17, .nop, 0), (17, [(.iload_n 3, 1), (.bipush 10, 2)], 20, .if_icmp .ge 48, 3), (23, [(.iload_n 3, 1), (.aload_n 0, 1), (.getfield 61, 3), (.iload_n 3, 1), (.iaload, 1), (.imul, 1), (.aload_n 0, 1), (.getfield 64, 3), (.iload_n 2, 1), (.iaload, 1), (.imul, 1), (.iload_n 2, 1), (.aload_n 0, 1), (.getfield 61, 3), (.iload_n 2, 1), (.iaload, 1), (.imul, 1), (.aload_n 0, 1), (.getfield 64, 3), (.iload_n 3, 1), (.iaload, 1), (.imul, 1)], 53, .if_icmp .le 7, 3), (56, [(.iload_n 3, 1)], 57, .goto 4, 3), (60, [(.iload_n 2, 1)], 61, .nop, 0), (61, [(.istore_n 2, 1), (.iinc 3 1, 3)], 65, .goto (-48), 3), (68, [(.iload_n 1, 1)], 69, .ifCond .ne 7, 3), (72, [(.iload_n 2, 1)], 73, .goto 23, 3), (76, [(.aload_n 0, 1), (.iload_n 2, 1), (.aload_n 0, 1), (.getfield 61, 3), (.iload_n 2, 1), (.iaload, 1), (.imul, 1), (.i2l, 1), (.aload_n 0, 1), (.getfield 64, 3), (.iload_n 2, 1), (.iaload, 1), (.i2l, 1)], 93, .invokevirtual 213, 3), (96, [], 96, .ireturn, 1)]
theorem bX10_best_ok : zBok cX10_best 4 bX10_best = true := by decide +kernel
abbrev wX10_best : List Cond := Cond.code yX10_best cX10_best 4 (some .int) :: uU
def rX10_best : Room := { frames := 4, cells := 0, slots := 0, locals := 98 }
set_option maxRecDepth 20000 in
set_option maxHeartbeats 4000000 in
theorem m_M_X10_best (l : Launch) (M1 : zM) (M2 : zM) (M3 : zM) (M5 : zM) (M6 : zM) (p1 : Int) (mK_limbs : Nat → Int) (mK_wide : Nat → Int) (mA_doIt : Nat → Int) (mA_askOf : Nat → Int) (x : Int × (Nat → Int) × (Nat → Int)) (h : f_X10_best p1 mK_limbs mK_wide mA_doIt mA_askOf = some x) : zD l yX10_best wX10_best rX10_best lamM shpM [(2, Int.ofNat 0), (0, p1)] [([], [mK_limbs, mK_wide]), M1, M2, M3, ([], [mA_doIt, mA_askOf]), M5, M6] (some (0, x.1)) [([], [x.2.1, x.2.2]), M1, M2, M3, ([], [mA_doIt, mA_askOf]), M5, M6] := by
  refine zD_of (B := bX10_best) (E := eX10) (by decide) rfl lokM (eX10_ok _) bX10_best_ok (Or.inl rfl) rfl (fun S R => ?_)
  obtain ⟨rb, rg, ri, rv, rs, r0, r1, r2, r3, rt, rmk⟩ := R
  show S 0 [some (2, Int.ofNat 0), some (0, p1), none, none] [] [([], [mK_limbs, mK_wide]), M1, M2, M3, ([], [mA_doIt, mA_askOf]), M5, M6]
  have LP17 : ∀ (n : Nat) (v1 : Int) (v2 : Int) (v3 : Int) (mK_limbs : Nat → Int) (mK_wide : Nat → Int) (mA_doIt : Nat → Int) (mA_askOf : Nat → Int) (y : Int), l_X10_best_17 n v1 v2 v3 mA_doIt mA_askOf = some y → S 68 [some (2, Int.ofNat 0), some (0, v1), some (0, y), none] [] [([], [mK_limbs, mK_wide]), M1, M2, M3, ([], [mA_doIt, mA_askOf]), M5, M6] → S 17 [some (2, Int.ofNat 0), some (0, v1), some (0, v2), some (0, v3)] [] [([], [mK_limbs, mK_wide]), M1, M2, M3, ([], [mA_doIt, mA_askOf]), M5, M6] := by
    intro n
    induction n with
    | zero =>
      intro v1 v2 v3 mK_limbs mK_wide mA_doIt mA_askOf y h k
      rw [l_X10_best_17] at h
      cases h
    | succ n ih =>
      intro v1 v2 v3 mK_limbs mK_wide mA_doIt mA_askOf y h k
      rw [l_X10_best_17] at h
      refine ri false 4 (q := v3 < 10) (t1 := 23) (t2 := 68) rfl rfl trivial (fun c => ?_) (fun c => ?_)
      · replace h := zif1 c h
        obtain ⟨⟨g2_0, g2_1, g2_2, g2_3, g2_4, g2_5⟩, h⟩ := zgd h
        refine ri false 5 (q := ((v2 * (mA_doIt (Int.toNat v2))) * (mA_askOf (Int.toNat v3))) < ((v3 * (mA_doIt (Int.toNat v3))) * (mA_askOf (Int.toNat v2)))) (t1 := 56) (t2 := 60) rfl rfl (And.intro g2_0 (And.intro g2_1 (And.intro g2_2 (And.intro g2_3 (And.intro g2_4 g2_5))))) (fun c => ?_) (fun c => ?_)
        · replace h := zif1 c h
          refine rg false 6 (t := 61) (st2 := [(0, v3)]) rfl rfl rfl trivial ?_
          obtain ⟨g3_0, h⟩ := zgd h
          refine rg false 8 (t := 17) (L2 := [some (2, Int.ofNat 0), some (0, v1), some (0, v3), some (0, (v3 + 1))]) rfl rfl rfl g3_0 ?_
          exact ih v1 v3 (v3 + 1) mK_limbs mK_wide mA_doIt mA_askOf y h k
        · replace h := zif2 c h
          refine rb false 7 (st2 := [(0, v2)]) rfl rfl trivial ?_
          obtain ⟨g4_0, h⟩ := zgd h
          refine rg false 8 (t := 17) (L2 := [some (2, Int.ofNat 0), some (0, v1), some (0, v2), some (0, (v3 + 1))]) rfl rfl rfl g4_0 ?_
          exact ih v1 v2 (v3 + 1) mK_limbs mK_wide mA_doIt mA_askOf y h k
      · replace h := zif2 c h
        refine rmk [true, true, true, false] (L2 := [some (2, Int.ofNat 0), some (0, v1), some (0, v2), none]) rfl ?_
        obtain rfl := Option.some.inj h
        exact k
  unfold f_X10_best at h
  obtain ⟨x1, hx1, h⟩ := zbd h
  refine rs false 0 3 rfl rfl trivial rfl (m_M_X10_in l ([], [mK_limbs, mK_wide]) M1 M2 M3 ([], [mA_doIt, mA_askOf]) M5 M6 p1 0 1 x1 hx1) ⟨_, _, _, _, rfl, rfl, rfl, by decide +kernel, ⟨Nat.le_of_ble_eq_true rfl, Nat.le_of_ble_eq_true rfl⟩, uGinS u_9_14 u_9_15 u_1_5 u_9_16⟩ ?_
  refine ri false 1 (q := x1 = 0) (t1 := 10) (t2 := 13) rfl rfl trivial (fun c => ?_) (fun c => ?_)
  · replace h := zif1 c h
    obtain rfl := Option.some.inj h
    exact r1 false 2 rfl rfl rfl rfl rfl rfl trivial
  · replace h := zif2 c h
    refine rb false 3 (L2 := [some (2, Int.ofNat 0), some (0, p1), some (0, 1), some (0, 2)]) rfl rfl trivial ?_
    obtain ⟨x5, hx5, h⟩ := zbd h
    refine LP17 zN p1 1 2 mK_limbs mK_wide mA_doIt mA_askOf x5 hx5 ?_
    refine ri false 9 (q := p1 = 0) (t1 := 72) (t2 := 76) rfl rfl trivial (fun c => ?_) (fun c => ?_)
    · replace h := zif1 c h
      refine rg false 10 (t := 96) (st2 := [(0, x5)]) rfl rfl rfl trivial ?_
      obtain rfl := Option.some.inj h
      exact r1 false 12 rfl rfl rfl rfl rfl rfl trivial
    · replace h := zif2 c h
      obtain ⟨⟨g7_0, g7_1, g7_2⟩, h⟩ := zgd h
      obtain ⟨x6, hx6, h⟩ := zbd h
      refine rv false 11 2 rfl rfl (And.intro g7_0 (And.intro g7_1 g7_2)) rfl (m_M_X10_tells l M1 M2 M3 ([], [mA_doIt, mA_askOf]) M5 M6 (x5 * (mA_doIt (Int.toNat x5))) (mA_askOf (Int.toNat x5)) mK_limbs mK_wide x6 hx6) ⟨_, _, _, _, rfl, rfl, rfl, by decide +kernel, ⟨Nat.le_of_ble_eq_true rfl, Nat.le_of_ble_eq_true rfl⟩, uGin u_26_14 u_26_15 u_26_16 u_1_5 u_26_17⟩ ⟨rfl, _, _, _, rfl, rfl⟩ ?_
      obtain rfl := Option.some.inj h
      exact r1 false 12 rfl rfl rfl rfl rfl rfl trivial
def bX10_power : zB := [(0, [(.lconst 1, 1), (.lstore_n 2, 1), (.iconst 0, 1), (.istore 4, 2)], 5, .nop, 0), (5, [(.iload 4, 2), (.iload_n 1, 1)], 8, .if_icmp .ge 14, 3), (11, [(.lload_n 2, 1), (.iload_n 0, 1), (.i2l, 1), (.lmul, 1), (.lstore_n 2, 1), (.iinc 4 1, 3)], 19, .goto (-14), 3), (22, [(.lload_n 2, 1)], 23, .lreturn, 1)]
theorem bX10_power_ok : zBok cX10_power 5 bX10_power = true := by decide +kernel
abbrev wX10_power : List Cond := Cond.code yX10_power cX10_power 5 (some .long) :: uU
def rX10_power : Room := { frames := 0, cells := 0, slots := 0, locals := 0 }
set_option maxRecDepth 20000 in
set_option maxHeartbeats 4000000 in
theorem m_M_X10_power (l : Launch) (M0 : zM) (M1 : zM) (M2 : zM) (M3 : zM) (M4 : zM) (M5 : zM) (M6 : zM) (p0 : Int) (p1 : Int) (x : Int) (h : f_X10_power p0 p1 = some x) : zD l yX10_power wX10_power rX10_power lamM shpM [(0, p0), (0, p1)] [M0, M1, M2, M3, M4, M5, M6] (some (1, x)) [M0, M1, M2, M3, M4, M5, M6] := by
  refine zD_of (B := bX10_power) (E := eX10) (by decide) rfl lokM (eX10_ok _) bX10_power_ok (Or.inl rfl) rfl (fun S R => ?_)
  obtain ⟨rb, rg, ri, rv, rs, r0, r1, r2, r3, rt, rmk⟩ := R
  show S 0 [some (0, p0), some (0, p1), none, none, none] [] [M0, M1, M2, M3, M4, M5, M6]
  have LP5 : ∀ (n : Nat) (v0 : Int) (v1 : Int) (v2 : Int) (v4 : Int) (y : Int), l_X10_power_5 n v0 v1 v2 v4 = some y → S 22 [none, none, some (1, y), none, none] [] [M0, M1, M2, M3, M4, M5, M6] → S 5 [some (0, v0), some (0, v1), some (1, v2), none, some (0, v4)] [] [M0, M1, M2, M3, M4, M5, M6] := by
    intro n
    induction n with
    | zero =>
      intro v0 v1 v2 v4 y h k
      rw [l_X10_power_5] at h
      cases h
    | succ n ih =>
      intro v0 v1 v2 v4 y h k
      rw [l_X10_power_5] at h
      refine ri false 1 (q := v4 < v1) (t1 := 11) (t2 := 22) rfl rfl trivial (fun c => ?_) (fun c => ?_)
      · replace h := zif1 c h
        obtain ⟨⟨g1_0, g1_1⟩, h⟩ := zgd h
        refine rg false 2 (t := 5) (L2 := [some (0, v0), some (0, v1), some (1, (v2 * v0)), none, some (0, (v4 + 1))]) rfl rfl rfl (And.intro g1_0 g1_1) ?_
        exact ih v0 v1 (v2 * v0) (v4 + 1) y h k
      · replace h := zif2 c h
        refine rmk [false, false, true, false, false] (L2 := [none, none, some (1, v2), none, none]) rfl ?_
        obtain rfl := Option.some.inj h
        exact k
  unfold f_X10_power at h
  refine rb false 0 (L2 := [some (0, p0), some (0, p1), some (1, 1), none, some (0, 0)]) rfl rfl trivial ?_
  obtain ⟨x2, hx2, h⟩ := zbd h
  refine LP5 zN p0 p1 1 0 x2 hx2 ?_
  obtain rfl := Option.some.inj h
  exact r3 false 3 rfl rfl rfl rfl rfl rfl trivial
def bX10_round : zB := [(0, [(.iload_n 1, 1), (.i2l, 1), (.lconst 1, 1), (.ldc2_w 140, 3)], 6, .invokestatic 123, 3), (9, [], 9, .ifCond .eq 23, 3), (12, [(.iload_n 2, 1), (.i2l, 1), (.lconst 0, 1), (.ldc2_w 228, 3)], 18, .invokestatic 123, 3), (21, [], 21, .ifCond .eq 11, 3), (24, [(.iload_n 1, 1), (.iload_n 2, 1)], 26, .invokestatic 230, 3), (29, [], 29, .goto 6, 3), (32, [(.ldc2_w 138, 3)], 35, .nop, 0), (35, [], 35, .lreturn, 1)]
theorem bX10_round_ok : zBok cX10_round 3 bX10_round = true := by decide +kernel
abbrev wX10_round : List Cond := Cond.code yX10_round cX10_round 3 (some .long) :: uU
def rX10_round : Room := { frames := 1, cells := 0, slots := 0, locals := 25 }
set_option maxRecDepth 20000 in
set_option maxHeartbeats 4000000 in
theorem m_M_X10_round (l : Launch) (M0 : zM) (M1 : zM) (M2 : zM) (M3 : zM) (M4 : zM) (M5 : zM) (M6 : zM) (p1 : Int) (p2 : Int) (x : Int) (h : f_X10_round p1 p2 = some x) : zD l yX10_round wX10_round rX10_round lamM shpM [(2, Int.ofNat 0), (0, p1), (0, p2)] [M0, M1, M2, M3, M4, M5, M6] (some (1, x)) [M0, M1, M2, M3, M4, M5, M6] := by
  refine zD_of (B := bX10_round) (E := eX10) (by decide) rfl lokM (eX10_ok _) bX10_round_ok (Or.inl rfl) rfl (fun S R => ?_)
  obtain ⟨rb, rg, ri, rv, rs, r0, r1, r2, r3, rt, rmk⟩ := R
  show S 0 [some (2, Int.ofNat 0), some (0, p1), some (0, p2)] [] [M0, M1, M2, M3, M4, M5, M6]
  unfold f_X10_round at h
  obtain ⟨x1, hx1, h⟩ := zbd h
  refine rs false 0 3 rfl rfl trivial rfl (m_M_X10_in l M0 M1 M2 M3 M4 M5 M6 p1 1 9 x1 hx1) ⟨_, _, _, _, rfl, rfl, rfl, by decide +kernel, ⟨Nat.le_of_ble_eq_true rfl, Nat.le_of_ble_eq_true rfl⟩, uGinS u_9_14 u_9_15 u_1_5 u_9_16⟩ ?_
  refine ri false 1 (q := x1 = 0) (t1 := 32) (t2 := 12) rfl rfl trivial (fun c => ?_) (fun c => ?_)
  · replace h := zif1 c h
    refine rb false 6 (st2 := [(1, (-1))]) rfl rfl trivial ?_
    obtain rfl := Option.some.inj h
    exact r3 false 7 rfl rfl rfl rfl rfl rfl trivial
  · replace h := zif2 c h
    obtain ⟨x2, hx2, h⟩ := zbd h
    refine rs false 2 3 rfl rfl trivial rfl (m_M_X10_in l M0 M1 M2 M3 M4 M5 M6 p2 0 18 x2 hx2) ⟨_, _, _, _, rfl, rfl, rfl, by decide +kernel, ⟨Nat.le_of_ble_eq_true rfl, Nat.le_of_ble_eq_true rfl⟩, uGinS u_9_14 u_9_15 u_1_5 u_9_16⟩ ?_
    refine ri false 3 (q := x2 = 0) (t1 := 32) (t2 := 24) rfl rfl trivial (fun c => ?_) (fun c => ?_)
    · replace h := zif1 c h
      refine rb false 6 (st2 := [(1, (-1))]) rfl rfl trivial ?_
      obtain rfl := Option.some.inj h
      exact r3 false 7 rfl rfl rfl rfl rfl rfl trivial
    · replace h := zif2 c h
      obtain ⟨x3, hx3, h⟩ := zbd h
      refine rs false 4 2 rfl rfl trivial rfl (m_M_X10_power l M0 M1 M2 M3 M4 M5 M6 p1 p2 x3 hx3) ⟨_, _, _, _, rfl, rfl, rfl, by decide +kernel, ⟨Nat.le_of_ble_eq_true rfl, Nat.le_of_ble_eq_true rfl⟩, uGinS u_32_8 u_32_9 u_1_5 u_32_10⟩ ?_
      refine rg false 5 (t := 35) (st2 := [(1, x3)]) rfl rfl rfl trivial ?_
      obtain rfl := Option.some.inj h
      exact r3 false 7 rfl rfl rfl rfl rfl rfl trivial
def bX10_outrun : zB := [(0, [(.iload_n 1, 1), (.i2l, 1), (.lconst 1, 1), (.ldc2_w 140, 3)], 6, .invokestatic 123, 3), (9, [], 9, .ifCond .eq 14, 3), (12, [(.lload_n 2, 1), (.lconst 1, 1), (.ldc2_w 234, 3)], 17, .invokestatic 123, 3), (20, [], 20, .ifCond .ne 6, 3), (23, [(.bipush (-2), 2)], 25, .ireturn, 1), (26, [(.lconst 0, 1), (.lstore 4, 2), (.iconst 0, 1), (.istore 6, 2)], 32, .nop, 0), (32, [(.iload 6, 2), (.bipush 19, 2)], 36, .if_icmp .ge 30, 3), (39, [(.lload 4, 2), (.iload_n 1, 1), (.iload 6, 2)], 44, .invokestatic 230, 3), (47, [(.ladd, 1), (.lstore 4, 2), (.lload 4, 2), (.lload_n 2, 1), (.lcmp, 1)], 54, .ifCond .le 6, 3), (57, [(.iload 6, 2)], 59, .ireturn, 1), (60, [(.iinc 6 1, 3)], 63, .goto (-31), 3), (66, [(.iconst (-1), 1)], 67, .ireturn, 1)]
theorem bX10_outrun_ok : zBok cX10_outrun 7 bX10_outrun = true := by decide +kernel
abbrev wX10_outrun : List Cond := Cond.code yX10_outrun cX10_outrun 7 (some .int) :: uU
def rX10_outrun : Room := { frames := 1, cells := 0, slots := 0, locals := 25 }
set_option maxRecDepth 20000 in
set_option maxHeartbeats 4000000 in
theorem m_M_X10_outrun (l : Launch) (M0 : zM) (M1 : zM) (M2 : zM) (M3 : zM) (M4 : zM) (M5 : zM) (M6 : zM) (p1 : Int) (p2 : Int) (x : Int) (h : f_X10_outrun p1 p2 = some x) : zD l yX10_outrun wX10_outrun rX10_outrun lamM shpM [(2, Int.ofNat 0), (0, p1), (1, p2)] [M0, M1, M2, M3, M4, M5, M6] (some (0, x)) [M0, M1, M2, M3, M4, M5, M6] := by
  refine zD_of (B := bX10_outrun) (E := eX10) (by decide) rfl lokM (eX10_ok _) bX10_outrun_ok (Or.inl rfl) rfl (fun S R => ?_)
  obtain ⟨rb, rg, ri, rv, rs, r0, r1, r2, r3, rt, rmk⟩ := R
  show S 0 [some (2, Int.ofNat 0), some (0, p1), some (1, p2), none, none, none, none] [] [M0, M1, M2, M3, M4, M5, M6]
  have LP32 : ∀ (n : Nat) (v1 : Int) (v2 : Int) (v4 : Int) (v6 : Int), l_X10_outrun_32 n v1 v2 v4 v6 = some x → S 32 [none, some (0, v1), some (1, v2), none, some (1, v4), none, some (0, v6)] [] [M0, M1, M2, M3, M4, M5, M6] := by
    intro n
    induction n with
    | zero =>
      intro v1 v2 v4 v6 h
      rw [l_X10_outrun_32] at h
      cases h
    | succ n ih =>
      intro v1 v2 v4 v6 h
      rw [l_X10_outrun_32] at h
      refine ri false 6 (q := v6 < 19) (t1 := 39) (t2 := 66) rfl rfl trivial (fun c => ?_) (fun c => ?_)
      · replace h := zif1 c h
        obtain ⟨x3, hx3, h⟩ := zbd h
        refine rs false 7 2 (rest := [(1, v4)]) rfl rfl trivial rfl (m_M_X10_power l M0 M1 M2 M3 M4 M5 M6 v1 v6 x3 hx3) ⟨_, _, _, _, rfl, rfl, rfl, by decide +kernel, ⟨Nat.le_of_ble_eq_true rfl, Nat.le_of_ble_eq_true rfl⟩, uGinS u_32_8 u_32_9 u_1_5 u_32_10⟩ ?_
        obtain ⟨g4_0, h⟩ := zgd h
        refine ri false 8 (q := (0 : Int) < (zlc (v4 + x3) v2)) (t1 := 57) (t2 := 60) (L2 := [none, some (0, v1), some (1, v2), none, some (1, (v4 + x3)), none, some (0, v6)]) rfl rfl g4_0 (fun c => ?_) (fun c => ?_)
        · replace h := zif1 c h
          obtain rfl := Option.some.inj h
          exact r1 false 9 rfl rfl rfl rfl rfl rfl trivial
        · replace h := zif2 c h
          obtain ⟨g5_0, h⟩ := zgd h
          refine rg false 10 (t := 32) (L2 := [none, some (0, v1), some (1, v2), none, some (1, (v4 + x3)), none, some (0, (v6 + 1))]) rfl rfl rfl g5_0 ?_
          exact ih v1 v2 (v4 + x3) (v6 + 1) h
      · replace h := zif2 c h
        obtain rfl := Option.some.inj h
        exact r1 false 11 rfl rfl rfl rfl rfl rfl trivial
  unfold f_X10_outrun at h
  obtain ⟨x1, hx1, h⟩ := zbd h
  refine rs false 0 3 rfl rfl trivial rfl (m_M_X10_in l M0 M1 M2 M3 M4 M5 M6 p1 1 9 x1 hx1) ⟨_, _, _, _, rfl, rfl, rfl, by decide +kernel, ⟨Nat.le_of_ble_eq_true rfl, Nat.le_of_ble_eq_true rfl⟩, uGinS u_9_14 u_9_15 u_1_5 u_9_16⟩ ?_
  refine ri false 1 (q := x1 = 0) (t1 := 23) (t2 := 12) rfl rfl trivial (fun c => ?_) (fun c => ?_)
  · replace h := zif1 c h
    obtain rfl := Option.some.inj h
    exact r1 false 4 rfl rfl rfl rfl rfl rfl trivial
  · replace h := zif2 c h
    obtain ⟨x2, hx2, h⟩ := zbd h
    refine rs false 2 3 rfl rfl trivial rfl (m_M_X10_in l M0 M1 M2 M3 M4 M5 M6 p2 1 10000000000 x2 hx2) ⟨_, _, _, _, rfl, rfl, rfl, by decide +kernel, ⟨Nat.le_of_ble_eq_true rfl, Nat.le_of_ble_eq_true rfl⟩, uGinS u_9_14 u_9_15 u_1_5 u_9_16⟩ ?_
    refine ri false 3 (q := x2 = 0) (t1 := 23) (t2 := 26) rfl rfl trivial (fun c => ?_) (fun c => ?_)
    · replace h := zif1 c h
      obtain rfl := Option.some.inj h
      exact r1 false 4 rfl rfl rfl rfl rfl rfl trivial
    · replace h := zif2 c h
      refine rb false 5 (L2 := [some (2, Int.ofNat 0), some (0, p1), some (1, p2), none, some (1, 0), none, some (0, 0)]) rfl rfl trivial ?_
      refine rmk [false, true, true, false, true, false, true] (L2 := [none, some (0, p1), some (1, p2), none, some (1, 0), none, some (0, 0)]) rfl ?_
      exact LP32 zN p1 p2 0 0 h
def bX10_isPerson : zB := [(0, [(.iload_n 0, 1), (.i2l, 1), (.lconst 0, 1), (.ldc2_w 140, 3)], 6, .invokestatic 123, 3), (9, [], 9, .ireturn, 1)]
theorem bX10_isPerson_ok : zBok cX10_isPerson 1 bX10_isPerson = true := by decide +kernel
abbrev wX10_isPerson : List Cond := Cond.code yX10_isPerson cX10_isPerson 1 (some .boolean) :: uU
def rX10_isPerson : Room := { frames := 1, cells := 0, slots := 0, locals := 25 }
set_option maxRecDepth 20000 in
set_option maxHeartbeats 4000000 in
theorem m_M_X10_isPerson (l : Launch) (M0 : zM) (M1 : zM) (M2 : zM) (M3 : zM) (M4 : zM) (M5 : zM) (M6 : zM) (p0 : Int) (x : Int) (h : f_X10_isPerson p0 = some x) : zD l yX10_isPerson wX10_isPerson rX10_isPerson lamM shpM [(0, p0)] [M0, M1, M2, M3, M4, M5, M6] (some (0, x)) [M0, M1, M2, M3, M4, M5, M6] := by
  refine zD_of (B := bX10_isPerson) (E := eX10) (by decide) rfl lokM (eX10_ok _) bX10_isPerson_ok (Or.inl rfl) rfl (fun S R => ?_)
  obtain ⟨rb, rg, ri, rv, rs, r0, r1, r2, r3, rt, rmk⟩ := R
  show S 0 [some (0, p0)] [] [M0, M1, M2, M3, M4, M5, M6]
  unfold f_X10_isPerson at h
  obtain ⟨x1, hx1, h⟩ := zbd h
  refine rs false 0 3 rfl rfl trivial rfl (m_M_X10_in l M0 M1 M2 M3 M4 M5 M6 p0 0 9 x1 hx1) ⟨_, _, _, _, rfl, rfl, rfl, by decide +kernel, ⟨Nat.le_of_ble_eq_true rfl, Nat.le_of_ble_eq_true rfl⟩, uGinS u_9_14 u_9_15 u_1_5 u_9_16⟩ ?_
  obtain ⟨gb2, h⟩ := zgd h
  obtain rfl := Option.some.inj h
  exact r2 false 1 rfl rfl rfl rfl trivial gb2
def bX10_sends : zB := [(0, [(.iload_n 1, 1)], 1, .invokestatic 236, 3), (4, [], 4, .ifCond .eq 15, 3), (7, [(.iload_n 2, 1), (.i2l, 1), (.lconst 0, 1), (.ldc2_w 239, 3)], 13, .invokestatic 123, 3), (16, [], 16, .ifCond .ne 6, 3), (19, [(.bipush (-2), 2)], 21, .ireturn, 1), (22, [(.aload_n 0, 1), (.getfield 67, 3), (.iload_n 1, 1), (.iaload, 1), (.istore_n 3, 1), (.aload_n 0, 1), (.getfield 67, 3), (.iload_n 1, 1), (.iload_n 2, 1), (.iastore, 1)], 36, .nop, 0), (36, [(.iload_n 3, 1)], 37, .ireturn, 1)]
theorem bX10_sends_ok : zBok cX10_sends 4 bX10_sends = true := by decide +kernel
abbrev wX10_sends : List Cond := Cond.code yX10_sends cX10_sends 4 (some .int) :: uU
def rX10_sends : Room := { frames := 2, cells := 0, slots := 0, locals := 45 }
set_option maxRecDepth 20000 in
set_option maxHeartbeats 4000000 in
theorem m_M_X10_sends (l : Launch) (M0 : zM) (M1 : zM) (M2 : zM) (M3 : zM) (M4 : zM) (M6 : zM) (p1 : Int) (p2 : Int) (mE_others : Nat → Int) (mE_copies : Nat → Int) (mE_odds : Nat → Int) (mE_often : Nat → Int) (mE_got : Nat → Int) (mE_did : Nat → Int) (x : Int × (Nat → Int)) (h : f_X10_sends p1 p2 mE_others = some x) : zD l yX10_sends wX10_sends rX10_sends lamM shpM [(2, Int.ofNat 0), (0, p1), (0, p2)] [M0, M1, M2, M3, M4, ([], [mE_others, mE_copies, mE_odds, mE_often, mE_got, mE_did]), M6] (some (0, x.1)) [M0, M1, M2, M3, M4, ([], [x.2, mE_copies, mE_odds, mE_often, mE_got, mE_did]), M6] := by
  refine zD_of (B := bX10_sends) (E := eX10) (by decide) rfl lokM (eX10_ok _) bX10_sends_ok (Or.inl rfl) rfl (fun S R => ?_)
  obtain ⟨rb, rg, ri, rv, rs, r0, r1, r2, r3, rt, rmk⟩ := R
  show S 0 [some (2, Int.ofNat 0), some (0, p1), some (0, p2), none] [] [M0, M1, M2, M3, M4, ([], [mE_others, mE_copies, mE_odds, mE_often, mE_got, mE_did]), M6]
  unfold f_X10_sends at h
  obtain ⟨x1, hx1, h⟩ := zbd h
  refine rs false 0 1 rfl rfl trivial rfl (m_M_X10_isPerson l M0 M1 M2 M3 M4 ([], [mE_others, mE_copies, mE_odds, mE_often, mE_got, mE_did]) M6 p1 x1 hx1) ⟨_, _, _, _, rfl, rfl, rfl, by decide +kernel, ⟨Nat.le_of_ble_eq_true rfl, Nat.le_of_ble_eq_true rfl⟩, uGinS u_33_13 u_33_14 u_1_5 u_33_15⟩ ?_
  refine ri false 1 (q := x1 = 0) (t1 := 19) (t2 := 7) rfl rfl trivial (fun c => ?_) (fun c => ?_)
  · replace h := zif1 c h
    obtain rfl := Option.some.inj h
    exact r1 false 4 rfl rfl rfl rfl rfl rfl trivial
  · replace h := zif2 c h
    obtain ⟨x2, hx2, h⟩ := zbd h
    refine rs false 2 3 rfl rfl trivial rfl (m_M_X10_in l M0 M1 M2 M3 M4 ([], [mE_others, mE_copies, mE_odds, mE_often, mE_got, mE_did]) M6 p2 0 1023 x2 hx2) ⟨_, _, _, _, rfl, rfl, rfl, by decide +kernel, ⟨Nat.le_of_ble_eq_true rfl, Nat.le_of_ble_eq_true rfl⟩, uGinS u_9_14 u_9_15 u_1_5 u_9_16⟩ ?_
    refine ri false 3 (q := x2 = 0) (t1 := 19) (t2 := 22) rfl rfl trivial (fun c => ?_) (fun c => ?_)
    · replace h := zif1 c h
      obtain rfl := Option.some.inj h
      exact r1 false 4 rfl rfl rfl rfl rfl rfl trivial
    · replace h := zif2 c h
      obtain ⟨⟨g3_0, g3_1⟩, h⟩ := zgd h
      refine rb false 5 (L2 := [some (2, Int.ofNat 0), some (0, p1), some (0, p2), some (0, (mE_others (Int.toNat p1)))]) (σ2 := [M0, M1, M2, M3, M4, ([], [(zu mE_others (Int.toNat p1) p2), mE_copies, mE_odds, mE_often, mE_got, mE_did]), M6]) rfl rfl (And.intro g3_0 g3_1) ?_
      obtain rfl := Option.some.inj h
      exact r1 false 6 rfl rfl rfl rfl rfl rfl trivial
def bX10_copies : zB := [(0, [(.iload_n 1, 1)], 1, .invokestatic 236, 3), (4, [], 4, .ifCond .eq 40, 3), (7, [(.iload_n 2, 1), (.i2l, 1), (.lconst 0, 1), (.ldc2_w 140, 3)], 13, .invokestatic 123, 3), (16, [], 16, .ifCond .eq 28, 3), (19, [(.iload_n 3, 1), (.i2l, 1), (.lconst 0, 1), (.ldc2_w 205, 3)], 25, .invokestatic 123, 3), (28, [], 28, .ifCond .eq 16, 3), (31, [(.iload 4, 2), (.i2l, 1), (.lconst 1, 1), (.ldc2_w 140, 3)], 38, .invokestatic 123, 3), (41, [], 41, .ifCond .ne 6, 3), (44, [(.bipush (-2), 2)], 46, .ireturn, 1), (47, [(.aload_n 0, 1), (.getfield 70, 3), (.iload_n 1, 1), (.iload_n 2, 1), (.iastore, 1), (.aload_n 0, 1), (.getfield 73, 3), (.iload_n 1, 1), (.iload_n 3, 1), (.iastore, 1)], 61, .nop, 0), (61, [(.aload_n 0, 1), (.getfield 76, 3), (.iload_n 1, 1), (.iload 4, 2), (.iastore, 1), (.iconst 1, 1)], 70, .ireturn, 1)]
theorem bX10_copies_ok : zBok cX10_copies 5 bX10_copies = true := by decide +kernel
abbrev wX10_copies : List Cond := Cond.code yX10_copies cX10_copies 5 (some .int) :: uU
def rX10_copies : Room := { frames := 2, cells := 0, slots := 0, locals := 45 }
set_option maxRecDepth 20000 in
set_option maxHeartbeats 4000000 in
theorem m_M_X10_copies (l : Launch) (M0 : zM) (M1 : zM) (M2 : zM) (M3 : zM) (M4 : zM) (M6 : zM) (p1 : Int) (p2 : Int) (p3 : Int) (p4 : Int) (mE_others : Nat → Int) (mE_copies : Nat → Int) (mE_odds : Nat → Int) (mE_often : Nat → Int) (mE_got : Nat → Int) (mE_did : Nat → Int) (x : Int × (Nat → Int) × (Nat → Int) × (Nat → Int)) (h : f_X10_copies p1 p2 p3 p4 mE_copies mE_odds mE_often = some x) : zD l yX10_copies wX10_copies rX10_copies lamM shpM [(2, Int.ofNat 0), (0, p1), (0, p2), (0, p3), (0, p4)] [M0, M1, M2, M3, M4, ([], [mE_others, mE_copies, mE_odds, mE_often, mE_got, mE_did]), M6] (some (0, x.1)) [M0, M1, M2, M3, M4, ([], [mE_others, x.2.1, x.2.2.1, x.2.2.2, mE_got, mE_did]), M6] := by
  refine zD_of (B := bX10_copies) (E := eX10) (by decide) rfl lokM (eX10_ok _) bX10_copies_ok (Or.inl rfl) rfl (fun S R => ?_)
  obtain ⟨rb, rg, ri, rv, rs, r0, r1, r2, r3, rt, rmk⟩ := R
  show S 0 [some (2, Int.ofNat 0), some (0, p1), some (0, p2), some (0, p3), some (0, p4)] [] [M0, M1, M2, M3, M4, ([], [mE_others, mE_copies, mE_odds, mE_often, mE_got, mE_did]), M6]
  unfold f_X10_copies at h
  obtain ⟨x1, hx1, h⟩ := zbd h
  refine rs false 0 1 rfl rfl trivial rfl (m_M_X10_isPerson l M0 M1 M2 M3 M4 ([], [mE_others, mE_copies, mE_odds, mE_often, mE_got, mE_did]) M6 p1 x1 hx1) ⟨_, _, _, _, rfl, rfl, rfl, by decide +kernel, ⟨Nat.le_of_ble_eq_true rfl, Nat.le_of_ble_eq_true rfl⟩, uGinS u_33_13 u_33_14 u_1_5 u_33_15⟩ ?_
  refine ri false 1 (q := x1 = 0) (t1 := 44) (t2 := 7) rfl rfl trivial (fun c => ?_) (fun c => ?_)
  · replace h := zif1 c h
    obtain rfl := Option.some.inj h
    exact r1 false 8 rfl rfl rfl rfl rfl rfl trivial
  · replace h := zif2 c h
    obtain ⟨x2, hx2, h⟩ := zbd h
    refine rs false 2 3 rfl rfl trivial rfl (m_M_X10_in l M0 M1 M2 M3 M4 ([], [mE_others, mE_copies, mE_odds, mE_often, mE_got, mE_did]) M6 p2 0 9 x2 hx2) ⟨_, _, _, _, rfl, rfl, rfl, by decide +kernel, ⟨Nat.le_of_ble_eq_true rfl, Nat.le_of_ble_eq_true rfl⟩, uGinS u_9_14 u_9_15 u_1_5 u_9_16⟩ ?_
    refine ri false 3 (q := x2 = 0) (t1 := 44) (t2 := 19) rfl rfl trivial (fun c => ?_) (fun c => ?_)
    · replace h := zif1 c h
      obtain rfl := Option.some.inj h
      exact r1 false 8 rfl rfl rfl rfl rfl rfl trivial
    · replace h := zif2 c h
      obtain ⟨x3, hx3, h⟩ := zbd h
      refine rs false 4 3 rfl rfl trivial rfl (m_M_X10_in l M0 M1 M2 M3 M4 ([], [mE_others, mE_copies, mE_odds, mE_often, mE_got, mE_did]) M6 p3 0 100 x3 hx3) ⟨_, _, _, _, rfl, rfl, rfl, by decide +kernel, ⟨Nat.le_of_ble_eq_true rfl, Nat.le_of_ble_eq_true rfl⟩, uGinS u_9_14 u_9_15 u_1_5 u_9_16⟩ ?_
      refine ri false 5 (q := x3 = 0) (t1 := 44) (t2 := 31) rfl rfl trivial (fun c => ?_) (fun c => ?_)
      · replace h := zif1 c h
        obtain rfl := Option.some.inj h
        exact r1 false 8 rfl rfl rfl rfl rfl rfl trivial
      · replace h := zif2 c h
        obtain ⟨x4, hx4, h⟩ := zbd h
        refine rs false 6 3 rfl rfl trivial rfl (m_M_X10_in l M0 M1 M2 M3 M4 ([], [mE_others, mE_copies, mE_odds, mE_often, mE_got, mE_did]) M6 p4 1 9 x4 hx4) ⟨_, _, _, _, rfl, rfl, rfl, by decide +kernel, ⟨Nat.le_of_ble_eq_true rfl, Nat.le_of_ble_eq_true rfl⟩, uGinS u_9_14 u_9_15 u_1_5 u_9_16⟩ ?_
        refine ri false 7 (q := x4 = 0) (t1 := 44) (t2 := 47) rfl rfl trivial (fun c => ?_) (fun c => ?_)
        · replace h := zif1 c h
          obtain rfl := Option.some.inj h
          exact r1 false 8 rfl rfl rfl rfl rfl rfl trivial
        · replace h := zif2 c h
          obtain ⟨⟨g5_0, g5_1⟩, h⟩ := zgd h
          refine rb false 9 (σ2 := [M0, M1, M2, M3, M4, ([], [mE_others, (zu mE_copies (Int.toNat p1) p2), (zu mE_odds (Int.toNat p1) p3), mE_often, mE_got, mE_did]), M6]) rfl rfl (And.intro g5_0 g5_1) ?_
          obtain ⟨g6_0, h⟩ := zgd h
          obtain rfl := Option.some.inj h
          exact r1 false 10 rfl rfl rfl rfl rfl rfl g6_0
def bX10_goesTo : zB := [(0, [(.iconst 0, 1), (.istore_n 2, 1), (.aload_n 0, 1), (.getfield 70, 3), (.iload_n 1, 1), (.iaload, 1), (.istore_n 3, 1), (.iconst 1, 1), (.istore 4, 2)], 12, .nop, 0), (12, [(.iload 4, 2), (.bipush 10, 2)], 16, .if_icmp .ge 47, 3), (19, [(.iload_n 1, 1), (.iload 4, 2), (.iadd, 1), (.bipush 10, 2), (.irem, 1), (.istore 5, 2), (.iload_n 3, 1)], 29, .ifCond .le 28, 3), (32, [(.aload_n 0, 1), (.getfield 67, 3), (.iload_n 1, 1), (.iaload, 1), (.iload 5, 2), (.ishr, 1), (.iconst 1, 1), (.iand, 1), (.iconst 1, 1)], 44, .if_icmp .ne 13, 3), (47, [(.iload_n 2, 1), (.iconst 1, 1), (.iload 5, 2), (.ishl, 1), (.ior, 1), (.istore_n 2, 1), (.iinc 3 (-1), 3)], 57, .nop, 0), (57, [(.iinc 4 1, 3)], 60, .goto (-48), 3), (63, [(.iload_n 2, 1)], 64, .ireturn, 1)]
theorem bX10_goesTo_ok : zBok cX10_goesTo 6 bX10_goesTo = true := by decide +kernel
abbrev wX10_goesTo : List Cond := Cond.code yX10_goesTo cX10_goesTo 6 (some .int) :: uU
def rX10_goesTo : Room := { frames := 0, cells := 0, slots := 0, locals := 0 }
set_option maxRecDepth 20000 in
set_option maxHeartbeats 4000000 in
theorem m_M_X10_goesTo (l : Launch) (M0 : zM) (M1 : zM) (M2 : zM) (M3 : zM) (M4 : zM) (M6 : zM) (p1 : Int) (mE_others : Nat → Int) (mE_copies : Nat → Int) (mE_odds : Nat → Int) (mE_often : Nat → Int) (mE_got : Nat → Int) (mE_did : Nat → Int) (x : Int) (h : f_X10_goesTo p1 mE_others mE_copies = some x) : zD l yX10_goesTo wX10_goesTo rX10_goesTo lamM shpM [(2, Int.ofNat 0), (0, p1)] [M0, M1, M2, M3, M4, ([], [mE_others, mE_copies, mE_odds, mE_often, mE_got, mE_did]), M6] (some (0, x)) [M0, M1, M2, M3, M4, ([], [mE_others, mE_copies, mE_odds, mE_often, mE_got, mE_did]), M6] := by
  refine zD_of (B := bX10_goesTo) (E := eX10) (by decide) rfl lokM (eX10_ok _) bX10_goesTo_ok (Or.inl rfl) rfl (fun S R => ?_)
  obtain ⟨rb, rg, ri, rv, rs, r0, r1, r2, r3, rt, rmk⟩ := R
  show S 0 [some (2, Int.ofNat 0), some (0, p1), none, none, none, none] [] [M0, M1, M2, M3, M4, ([], [mE_others, mE_copies, mE_odds, mE_often, mE_got, mE_did]), M6]
  have LP12 : ∀ (n : Nat) (v1 : Int) (v2 : Int) (v3 : Int) (v4 : Int) (mE_others : Nat → Int) (mE_copies : Nat → Int) (mE_odds : Nat → Int) (mE_often : Nat → Int) (mE_got : Nat → Int) (mE_did : Nat → Int) (y : Int), l_X10_goesTo_12 n v1 v2 v3 v4 mE_others = some y → S 63 [none, none, some (0, y), none, none, none] [] [M0, M1, M2, M3, M4, ([], [mE_others, mE_copies, mE_odds, mE_often, mE_got, mE_did]), M6] → S 12 [some (2, Int.ofNat 0), some (0, v1), some (0, v2), some (0, v3), some (0, v4), none] [] [M0, M1, M2, M3, M4, ([], [mE_others, mE_copies, mE_odds, mE_often, mE_got, mE_did]), M6] := by
    intro n
    induction n with
    | zero =>
      intro v1 v2 v3 v4 mE_others mE_copies mE_odds mE_often mE_got mE_did y h k
      rw [l_X10_goesTo_12] at h
      cases h
    | succ n ih =>
      intro v1 v2 v3 v4 mE_others mE_copies mE_odds mE_often mE_got mE_did y h k
      rw [l_X10_goesTo_12] at h
      refine ri false 1 (q := v4 < 10) (t1 := 19) (t2 := 63) rfl rfl trivial (fun c => ?_) (fun c => ?_)
      · replace h := zif1 c h
        obtain ⟨g2_0, h⟩ := zgd h
        refine ri false 2 (q := (0 : Int) < v3) (t1 := 32) (t2 := 57) (L2 := [some (2, Int.ofNat 0), some (0, v1), some (0, v2), some (0, v3), some (0, v4), some (0, (Int.tmod (v1 + v4) 10))]) rfl rfl (And.intro g2_0 (show (10 : Int) ≠ 0 by decide)) (fun c => ?_) (fun c => ?_)
        · replace h := zif1 c h
          obtain ⟨g3_0, h⟩ := zgd h
          refine ri false 3 (q := (zand (zshr (mE_others (Int.toNat v1)) (Int.tmod (v1 + v4) 10)) 1) = 1) (t1 := 47) (t2 := 57) rfl rfl g3_0 (fun c => ?_) (fun c => ?_)
          · replace h := zif1 c h
            obtain ⟨g4_0, h⟩ := zgd h
            refine rb false 4 (L2 := [some (2, Int.ofNat 0), some (0, v1), some (0, (zor v2 (zshl 1 (Int.tmod (v1 + v4) 10)))), some (0, (v3 + (-1))), some (0, v4), some (0, (Int.tmod (v1 + v4) 10))]) rfl rfl g4_0 ?_
            obtain ⟨g5_0, h⟩ := zgd h
            refine rg false 5 (t := 12) (L2 := [some (2, Int.ofNat 0), some (0, v1), some (0, (zor v2 (zshl 1 (Int.tmod (v1 + v4) 10)))), some (0, (v3 + (-1))), some (0, (v4 + 1)), some (0, (Int.tmod (v1 + v4) 10))]) rfl rfl rfl g5_0 ?_
            refine rmk [true, true, true, true, true, false] (L2 := [some (2, Int.ofNat 0), some (0, v1), some (0, (zor v2 (zshl 1 (Int.tmod (v1 + v4) 10)))), some (0, (v3 + (-1))), some (0, (v4 + 1)), none]) rfl ?_
            exact ih v1 (zor v2 (zshl 1 (Int.tmod (v1 + v4) 10))) (v3 + (-1)) (v4 + 1) mE_others mE_copies mE_odds mE_often mE_got mE_did y h k
          · replace h := zif2 c h
            obtain ⟨g6_0, h⟩ := zgd h
            refine rg false 5 (t := 12) (L2 := [some (2, Int.ofNat 0), some (0, v1), some (0, v2), some (0, v3), some (0, (v4 + 1)), some (0, (Int.tmod (v1 + v4) 10))]) rfl rfl rfl g6_0 ?_
            refine rmk [true, true, true, true, true, false] (L2 := [some (2, Int.ofNat 0), some (0, v1), some (0, v2), some (0, v3), some (0, (v4 + 1)), none]) rfl ?_
            exact ih v1 v2 v3 (v4 + 1) mE_others mE_copies mE_odds mE_often mE_got mE_did y h k
        · replace h := zif2 c h
          obtain ⟨g7_0, h⟩ := zgd h
          refine rg false 5 (t := 12) (L2 := [some (2, Int.ofNat 0), some (0, v1), some (0, v2), some (0, v3), some (0, (v4 + 1)), some (0, (Int.tmod (v1 + v4) 10))]) rfl rfl rfl g7_0 ?_
          refine rmk [true, true, true, true, true, false] (L2 := [some (2, Int.ofNat 0), some (0, v1), some (0, v2), some (0, v3), some (0, (v4 + 1)), none]) rfl ?_
          exact ih v1 v2 v3 (v4 + 1) mE_others mE_copies mE_odds mE_often mE_got mE_did y h k
      · replace h := zif2 c h
        refine rmk [false, false, true, false, false, false] (L2 := [none, none, some (0, v2), none, none, none]) rfl ?_
        obtain rfl := Option.some.inj h
        exact k
  unfold f_X10_goesTo at h
  obtain ⟨g1_0, h⟩ := zgd h
  refine rb false 0 (L2 := [some (2, Int.ofNat 0), some (0, p1), some (0, 0), some (0, (mE_copies (Int.toNat p1))), some (0, 1), none]) rfl rfl g1_0 ?_
  obtain ⟨x8, hx8, h⟩ := zbd h
  refine LP12 zN p1 0 (mE_copies (Int.toNat p1)) 1 mE_others mE_copies mE_odds mE_often mE_got mE_did x8 hx8 ?_
  obtain rfl := Option.some.inj h
  exact r1 false 6 rfl rfl rfl rfl rfl rfl trivial
def bX10_run : zB := [(0, [(.iload_n 1, 1)], 1, .invokestatic 236, 3), (4, [], 4, .ifCond .eq 17, 3), (7, [(.iload_n 3, 1), (.i2l, 1), (.ldc2_w 138, 3), (.ldc2_w 140, 3)], 15, .invokestatic 123, 3), (18, [], 18, .ifCond .ne 6, 3), (21, [(.bipush (-2), 2)], 23, .ireturn, 1), (24, [(.iconst 0, 1), (.istore 4, 2)], 27, .nop, 0), (27, [(.iload 4, 2), (.bipush 10, 2)], 31, .if_icmp .ge 35, 3), (34, [(.aload_n 0, 1), (.getfield 79, 3), (.iload 4, 2), (.iload 4, 2), (.iload_n 1, 1)], 43, .if_icmp .ne 7, 3), (46, [(.iconst 1, 1)], 47, .goto 4, 3), (50, [(.iconst 0, 1)], 51, .nop, 0), (51, [(.iastore, 1), (.aload_n 0, 1), (.getfield 82, 3), (.iload 4, 2), (.iconst 0, 1), (.iastore, 1), (.iinc 4 1, 3)], 63, .goto (-36), 3), (66, [(.iconst 1, 1), (.iload_n 1, 1), (.ishl, 1), (.istore 4, 2), (.iload_n 2, 1), (.istore 5, 2), (.iconst 0, 1), (.istore 6, 2), (.iconst 1, 1), (.istore 7, 2)], 80, .nop, 0), (80, [(.iload 7, 2), (.bipush 60, 2)], 84, .if_icmp .gt 163, 3), (87, [(.iload 4, 2)], 89, .ifCond .eq 158, 3), (92, [(.iconst 0, 1), (.istore 8, 2), (.iconst 0, 1), (.istore 9, 2)], 98, .nop, 0), (98, [(.iload 9, 2), (.bipush 10, 2)], 102, .if_icmp .ge 88, 3), (105, [(.iload 4, 2), (.iload 9, 2), (.ishr, 1), (.iconst 1, 1), (.iand, 1), (.iconst 1, 1)], 113, .if_icmp .ne 71, 3), (116, [(.iload 5, 2), (.ldc 241, 2), (.imul, 1), (.sipush 12345, 3), (.iadd, 1), (.istore 5, 2), (.iload 5, 2), (.bipush 16, 2), (.iushr, 1), (.bipush 100, 2), (.irem, 1), (.aload_n 0, 1), (.getfield 73, 3), (.iload 9, 2), (.iaload, 1)], 142, .if_icmp .ge 42, 3), (145, [(.aload_n 0, 1), (.getfield 82, 3), (.iload 9, 2), (.iaload, 1), (.aload_n 0, 1), (.getfield 76, 3), (.iload 9, 2), (.iaload, 1)], 159, .if_icmp .ge 25, 3), (162, [(.aload_n 0, 1), (.getfield 82, 3), (.iload 9, 2), (.dup2, 1), (.iaload, 1), (.iconst 1, 1), (.iadd, 1), (.iastore, 1), (.iload 8, 2), (.aload_n 0, 1), (.iload 9, 2)], 178, .invokevirtual 242, 3), (181, [(.ior, 1), (.istore 8, 2)], 184, .nop, 0), (184, [(.iinc 9 1, 3)], 187, .goto (-89), 3), (190, [(.iconst 0, 1), (.istore 9, 2)], 193, .nop, 0), (193, [(.iload 9, 2), (.bipush 10, 2)], 197, .if_icmp .ge 26, 3), (200, [(.aload_n 0, 1), (.getfield 79, 3), (.iload 9, 2), (.dup2, 1), (.iaload, 1), (.iload 8, 2), (.iload 9, 2), (.ishr, 1), (.iconst 1, 1), (.iand, 1), (.iadd, 1), (.iastore, 1)], 217, .nop, 0), (217, [(.iinc 9 1, 3)], 220, .goto (-27), 3), (223, [(.iload 8, 2)], 225, .ifCond .eq 8, 3), (228, [(.iload 7, 2)], 230, .goto 5, 3), (233, [(.iload 6, 2)], 235, .nop, 0), (235, [(.istore 6, 2), (.iload 8, 2), (.istore 4, 2), (.iinc 7 1, 3)], 244, .goto (-164), 3), (247, [(.iload_n 3, 1), (.iconst (-1), 1)], 249, .if_icmp .ne 8, 3), (252, [(.iload 6, 2)], 254, .goto 9, 3), (257, [(.aload_n 0, 1), (.getfield 79, 3), (.iload_n 3, 1), (.iaload, 1)], 263, .nop, 0), (263, [], 263, .ireturn, 1)]
theorem bX10_run_ok : zBok cX10_run 10 bX10_run = true := by decide +kernel
abbrev wX10_run : List Cond := Cond.code yX10_run cX10_run 10 (some .int) :: uU
def rX10_run : Room := { frames := 2, cells := 0, slots := 0, locals := 45 }
set_option maxRecDepth 20000 in
set_option maxHeartbeats 4000000 in
theorem m_M_X10_run (l : Launch) (M0 : zM) (M1 : zM) (M2 : zM) (M3 : zM) (M4 : zM) (M6 : zM) (p1 : Int) (p2 : Int) (p3 : Int) (mE_others : Nat → Int) (mE_copies : Nat → Int) (mE_odds : Nat → Int) (mE_often : Nat → Int) (mE_got : Nat → Int) (mE_did : Nat → Int) (x : Int × (Nat → Int) × (Nat → Int)) (h : f_X10_run p1 p2 p3 mE_others mE_copies mE_odds mE_often mE_got mE_did = some x) : zD l yX10_run wX10_run rX10_run lamM shpM [(2, Int.ofNat 0), (0, p1), (0, p2), (0, p3)] [M0, M1, M2, M3, M4, ([], [mE_others, mE_copies, mE_odds, mE_often, mE_got, mE_did]), M6] (some (0, x.1)) [M0, M1, M2, M3, M4, ([], [mE_others, mE_copies, mE_odds, mE_often, x.2.1, x.2.2]), M6] := by
  refine zD_of (B := bX10_run) (E := eX10) (by decide) rfl lokM (eX10_ok _) bX10_run_ok (Or.inl rfl) rfl (fun S R => ?_)
  obtain ⟨rb, rg, ri, rv, rs, r0, r1, r2, r3, rt, rmk⟩ := R
  show S 0 [some (2, Int.ofNat 0), some (0, p1), some (0, p2), some (0, p3), none, none, none, none, none, none] [] [M0, M1, M2, M3, M4, ([], [mE_others, mE_copies, mE_odds, mE_often, mE_got, mE_did]), M6]
  have LP27 : ∀ (n : Nat) (v1 : Int) (v2 : Int) (v3 : Int) (v4 : Int) (mE_others : Nat → Int) (mE_copies : Nat → Int) (mE_odds : Nat → Int) (mE_often : Nat → Int) (mE_got : Nat → Int) (mE_did : Nat → Int) (y : (Nat → Int) × (Nat → Int)), l_X10_run_27 n v1 v2 v3 v4 mE_got mE_did = some y → S 66 [some (2, Int.ofNat 0), some (0, v1), some (0, v2), some (0, v3), none, none, none, none, none, none] [] [M0, M1, M2, M3, M4, ([], [mE_others, mE_copies, mE_odds, mE_often, y.1, y.2]), M6] → S 27 [some (2, Int.ofNat 0), some (0, v1), some (0, v2), some (0, v3), some (0, v4), none, none, none, none, none] [] [M0, M1, M2, M3, M4, ([], [mE_others, mE_copies, mE_odds, mE_often, mE_got, mE_did]), M6] := by
    intro n
    induction n with
    | zero =>
      intro v1 v2 v3 v4 mE_others mE_copies mE_odds mE_often mE_got mE_did y h k
      rw [l_X10_run_27] at h
      cases h
    | succ n ih =>
      intro v1 v2 v3 v4 mE_others mE_copies mE_odds mE_often mE_got mE_did y h k
      rw [l_X10_run_27] at h
      refine ri false 6 (q := v4 < 10) (t1 := 34) (t2 := 66) rfl rfl trivial (fun c => ?_) (fun c => ?_)
      · replace h := zif1 c h
        refine ri false 7 (q := v4 = v1) (t1 := 46) (t2 := 50) (st2 := [(0, v4), (2, Int.ofNat 24)]) rfl rfl trivial (fun c => ?_) (fun c => ?_)
        · replace h := zif1 c h
          refine rg false 8 (t := 51) (st2 := [(0, 1), (0, v4), (2, Int.ofNat 24)]) rfl rfl rfl trivial ?_
          obtain ⟨⟨g3_0, g3_1, g3_2⟩, h⟩ := zgd h
          refine rg false 10 (t := 27) (L2 := [some (2, Int.ofNat 0), some (0, v1), some (0, v2), some (0, v3), some (0, (v4 + 1)), none, none, none, none, none]) (σ2 := [M0, M1, M2, M3, M4, ([], [mE_others, mE_copies, mE_odds, mE_often, (zu mE_got (Int.toNat v4) 1), (zu mE_did (Int.toNat v4) 0)]), M6]) rfl rfl rfl (And.intro g3_0 (And.intro g3_1 g3_2)) ?_
          exact ih v1 v2 v3 (v4 + 1) mE_others mE_copies mE_odds mE_often (zu mE_got (Int.toNat v4) 1) (zu mE_did (Int.toNat v4) 0) y h k
        · replace h := zif2 c h
          refine rb false 9 (st2 := [(0, 0), (0, v4), (2, Int.ofNat 24)]) rfl rfl trivial ?_
          obtain ⟨⟨g4_0, g4_1, g4_2⟩, h⟩ := zgd h
          refine rg false 10 (t := 27) (L2 := [some (2, Int.ofNat 0), some (0, v1), some (0, v2), some (0, v3), some (0, (v4 + 1)), none, none, none, none, none]) (σ2 := [M0, M1, M2, M3, M4, ([], [mE_others, mE_copies, mE_odds, mE_often, (zu mE_got (Int.toNat v4) 0), (zu mE_did (Int.toNat v4) 0)]), M6]) rfl rfl rfl (And.intro g4_0 (And.intro g4_1 g4_2)) ?_
          exact ih v1 v2 v3 (v4 + 1) mE_others mE_copies mE_odds mE_often (zu mE_got (Int.toNat v4) 0) (zu mE_did (Int.toNat v4) 0) y h k
      · replace h := zif2 c h
        refine rmk [true, true, true, true, false, false, false, false, false, false] (L2 := [some (2, Int.ofNat 0), some (0, v1), some (0, v2), some (0, v3), none, none, none, none, none, none]) rfl ?_
        obtain rfl := Option.some.inj h
        exact k
  have LP98 : ∀ (n : Nat) (v3 : Int) (v4 : Int) (v6 : Int) (v7 : Int) (v5 : Int) (v8 : Int) (v9 : Int) (mE_others : Nat → Int) (mE_copies : Nat → Int) (mE_odds : Nat → Int) (mE_often : Nat → Int) (mE_got : Nat → Int) (mE_did : Nat → Int) (y : Int × Int × (Nat → Int)), l_X10_run_98 n v3 v4 v6 v7 v5 v8 v9 mE_others mE_copies mE_odds mE_often mE_did = some y → S 190 [some (2, Int.ofNat 0), none, none, some (0, v3), none, some (0, y.1), some (0, v6), some (0, v7), some (0, y.2.1), none] [] [M0, M1, M2, M3, M4, ([], [mE_others, mE_copies, mE_odds, mE_often, mE_got, y.2.2]), M6] → S 98 [some (2, Int.ofNat 0), none, none, some (0, v3), some (0, v4), some (0, v5), some (0, v6), some (0, v7), some (0, v8), some (0, v9)] [] [M0, M1, M2, M3, M4, ([], [mE_others, mE_copies, mE_odds, mE_often, mE_got, mE_did]), M6] := by
    intro n
    induction n with
    | zero =>
      intro v3 v4 v6 v7 v5 v8 v9 mE_others mE_copies mE_odds mE_often mE_got mE_did y h k
      rw [l_X10_run_98] at h
      cases h
    | succ n ih =>
      intro v3 v4 v6 v7 v5 v8 v9 mE_others mE_copies mE_odds mE_often mE_got mE_did y h k
      rw [l_X10_run_98] at h
      refine ri false 15 (q := v9 < 10) (t1 := 105) (t2 := 190) rfl rfl trivial (fun c => ?_) (fun c => ?_)
      · replace h := zif1 c h
        refine ri false 16 (q := (zand (zshr v4 v9) 1) = 1) (t1 := 116) (t2 := 184) rfl rfl trivial (fun c => ?_) (fun c => ?_)
        · replace h := zif1 c h
          obtain ⟨g6_0, h⟩ := zgd h
          refine ri true 17 (q := (Int.tmod (zushr (zw ((v5 * 1103515245) + 12345)) 16) 100) < (mE_odds (Int.toNat v9))) (t1 := 145) (t2 := 184) (L2 := [some (2, Int.ofNat 0), none, none, some (0, v3), some (0, v4), some (0, (zw ((v5 * 1103515245) + 12345))), some (0, v6), some (0, v7), some (0, v8), some (0, v9)]) rfl rfl (And.intro (show (100 : Int) ≠ 0 by decide) g6_0) (fun c => ?_) (fun c => ?_)
          · replace h := zif1 c h
            obtain ⟨⟨g7_0, g7_1⟩, h⟩ := zgd h
            refine ri false 18 (q := (mE_did (Int.toNat v9)) < (mE_often (Int.toNat v9))) (t1 := 162) (t2 := 184) rfl rfl (And.intro g7_0 g7_1) (fun c => ?_) (fun c => ?_)
            · replace h := zif1 c h
              obtain ⟨⟨g9_0, g9_1, g9_2⟩, h⟩ := zgd h
              obtain ⟨x8, hx8, h⟩ := zbd h
              refine rv false 19 1 (σ2 := [M0, M1, M2, M3, M4, ([], [mE_others, mE_copies, mE_odds, mE_often, mE_got, (zu mE_did (Int.toNat v9) ((mE_did (Int.toNat v9)) + 1))]), M6]) (rest := [(0, v8)]) rfl rfl (And.intro g9_0 (And.intro g9_1 g9_2)) rfl (m_M_X10_goesTo l M0 M1 M2 M3 M4 M6 v9 mE_others mE_copies mE_odds mE_often mE_got (zu mE_did (Int.toNat v9) ((mE_did (Int.toNat v9)) + 1)) x8 hx8) ⟨_, _, _, _, rfl, rfl, rfl, by decide +kernel, ⟨Nat.le_of_ble_eq_true rfl, Nat.le_of_ble_eq_true rfl⟩, uGin u_35_6 u_35_7 u_35_8 u_1_5 u_35_9⟩ ⟨rfl, _, _, _, rfl, rfl⟩ ?_
              refine rb false 20 (L2 := [some (2, Int.ofNat 0), none, none, some (0, v3), some (0, v4), some (0, (zw ((v5 * 1103515245) + 12345))), some (0, v6), some (0, v7), some (0, (zor v8 x8)), some (0, v9)]) rfl rfl trivial ?_
              obtain ⟨g10_0, h⟩ := zgd h
              refine rg false 21 (t := 98) (L2 := [some (2, Int.ofNat 0), none, none, some (0, v3), some (0, v4), some (0, (zw ((v5 * 1103515245) + 12345))), some (0, v6), some (0, v7), some (0, (zor v8 x8)), some (0, (v9 + 1))]) rfl rfl rfl g10_0 ?_
              exact ih v3 v4 v6 v7 (zw ((v5 * 1103515245) + 12345)) (zor v8 x8) (v9 + 1) mE_others mE_copies mE_odds mE_often mE_got (zu mE_did (Int.toNat v9) ((mE_did (Int.toNat v9)) + 1)) y h k
            · replace h := zif2 c h
              obtain ⟨g11_0, h⟩ := zgd h
              refine rg false 21 (t := 98) (L2 := [some (2, Int.ofNat 0), none, none, some (0, v3), some (0, v4), some (0, (zw ((v5 * 1103515245) + 12345))), some (0, v6), some (0, v7), some (0, v8), some (0, (v9 + 1))]) rfl rfl rfl g11_0 ?_
              exact ih v3 v4 v6 v7 (zw ((v5 * 1103515245) + 12345)) v8 (v9 + 1) mE_others mE_copies mE_odds mE_often mE_got mE_did y h k
          · replace h := zif2 c h
            obtain ⟨g12_0, h⟩ := zgd h
            refine rg false 21 (t := 98) (L2 := [some (2, Int.ofNat 0), none, none, some (0, v3), some (0, v4), some (0, (zw ((v5 * 1103515245) + 12345))), some (0, v6), some (0, v7), some (0, v8), some (0, (v9 + 1))]) rfl rfl rfl g12_0 ?_
            exact ih v3 v4 v6 v7 (zw ((v5 * 1103515245) + 12345)) v8 (v9 + 1) mE_others mE_copies mE_odds mE_often mE_got mE_did y h k
        · replace h := zif2 c h
          obtain ⟨g13_0, h⟩ := zgd h
          refine rg false 21 (t := 98) (L2 := [some (2, Int.ofNat 0), none, none, some (0, v3), some (0, v4), some (0, v5), some (0, v6), some (0, v7), some (0, v8), some (0, (v9 + 1))]) rfl rfl rfl g13_0 ?_
          exact ih v3 v4 v6 v7 v5 v8 (v9 + 1) mE_others mE_copies mE_odds mE_often mE_got mE_did y h k
      · replace h := zif2 c h
        refine rmk [true, false, false, true, false, true, true, true, true, false] (L2 := [some (2, Int.ofNat 0), none, none, some (0, v3), none, some (0, v5), some (0, v6), some (0, v7), some (0, v8), none]) rfl ?_
        obtain rfl := Option.some.inj h
        exact k
  have LP193 : ∀ (n : Nat) (v3 : Int) (v5 : Int) (v6 : Int) (v7 : Int) (v8 : Int) (v9 : Int) (mE_others : Nat → Int) (mE_copies : Nat → Int) (mE_odds : Nat → Int) (mE_often : Nat → Int) (mE_got : Nat → Int) (mE_did : Nat → Int) (y : Nat → Int), l_X10_run_193 n v3 v5 v6 v7 v8 v9 mE_got = some y → S 223 [some (2, Int.ofNat 0), none, none, some (0, v3), none, some (0, v5), some (0, v6), some (0, v7), some (0, v8), none] [] [M0, M1, M2, M3, M4, ([], [mE_others, mE_copies, mE_odds, mE_often, y, mE_did]), M6] → S 193 [some (2, Int.ofNat 0), none, none, some (0, v3), none, some (0, v5), some (0, v6), some (0, v7), some (0, v8), some (0, v9)] [] [M0, M1, M2, M3, M4, ([], [mE_others, mE_copies, mE_odds, mE_often, mE_got, mE_did]), M6] := by
    intro n
    induction n with
    | zero =>
      intro v3 v5 v6 v7 v8 v9 mE_others mE_copies mE_odds mE_often mE_got mE_did y h k
      rw [l_X10_run_193] at h
      cases h
    | succ n ih =>
      intro v3 v5 v6 v7 v8 v9 mE_others mE_copies mE_odds mE_often mE_got mE_did y h k
      rw [l_X10_run_193] at h
      refine ri false 23 (q := v9 < 10) (t1 := 200) (t2 := 223) rfl rfl trivial (fun c => ?_) (fun c => ?_)
      · replace h := zif1 c h
        obtain ⟨⟨g15_0, g15_1, g15_2⟩, h⟩ := zgd h
        refine rb false 24 (σ2 := [M0, M1, M2, M3, M4, ([], [mE_others, mE_copies, mE_odds, mE_often, (zu mE_got (Int.toNat v9) ((mE_got (Int.toNat v9)) + (zand (zshr v8 v9) 1))), mE_did]), M6]) rfl rfl (And.intro g15_0 (And.intro g15_1 g15_2)) ?_
        obtain ⟨g16_0, h⟩ := zgd h
        refine rg false 25 (t := 193) (L2 := [some (2, Int.ofNat 0), none, none, some (0, v3), none, some (0, v5), some (0, v6), some (0, v7), some (0, v8), some (0, (v9 + 1))]) rfl rfl rfl g16_0 ?_
        exact ih v3 v5 v6 v7 v8 (v9 + 1) mE_others mE_copies mE_odds mE_often (zu mE_got (Int.toNat v9) ((mE_got (Int.toNat v9)) + (zand (zshr v8 v9) 1))) mE_did y h k
      · replace h := zif2 c h
        refine rmk [true, false, false, true, false, true, true, true, true, false] (L2 := [some (2, Int.ofNat 0), none, none, some (0, v3), none, some (0, v5), some (0, v6), some (0, v7), some (0, v8), none]) rfl ?_
        obtain rfl := Option.some.inj h
        exact k
  have LP80 : ∀ (n : Nat) (v3 : Int) (v4 : Int) (v5 : Int) (v6 : Int) (v7 : Int) (mE_others : Nat → Int) (mE_copies : Nat → Int) (mE_odds : Nat → Int) (mE_often : Nat → Int) (mE_got : Nat → Int) (mE_did : Nat → Int) (y : Int × (Nat → Int) × (Nat → Int)), l_X10_run_80 n v3 v4 v5 v6 v7 mE_others mE_copies mE_odds mE_often mE_got mE_did = some y → S 247 [some (2, Int.ofNat 0), none, none, some (0, v3), none, none, some (0, y.1), none, none, none] [] [M0, M1, M2, M3, M4, ([], [mE_others, mE_copies, mE_odds, mE_often, y.2.1, y.2.2]), M6] → S 80 [some (2, Int.ofNat 0), none, none, some (0, v3), some (0, v4), some (0, v5), some (0, v6), some (0, v7), none, none] [] [M0, M1, M2, M3, M4, ([], [mE_others, mE_copies, mE_odds, mE_often, mE_got, mE_did]), M6] := by
    intro n
    induction n with
    | zero =>
      intro v3 v4 v5 v6 v7 mE_others mE_copies mE_odds mE_often mE_got mE_did y h k
      rw [l_X10_run_80] at h
      cases h
    | succ n ih =>
      intro v3 v4 v5 v6 v7 mE_others mE_copies mE_odds mE_often mE_got mE_did y h k
      rw [l_X10_run_80] at h
      refine ri false 12 (q := (60 : Int) < v7) (t1 := 247) (t2 := 87) rfl rfl trivial (fun c => ?_) (fun c => ?_)
      · replace h := zif1 c h
        refine rmk [true, false, false, true, false, false, true, false, false, false] (L2 := [some (2, Int.ofNat 0), none, none, some (0, v3), none, none, some (0, v6), none, none, none]) rfl ?_
        obtain rfl := Option.some.inj h
        exact k
      · replace h := zif2 c h
        refine ri false 13 (q := v4 = 0) (t1 := 247) (t2 := 92) rfl rfl trivial (fun c => ?_) (fun c => ?_)
        · replace h := zif1 c h
          refine rmk [true, false, false, true, false, false, true, false, false, false] (L2 := [some (2, Int.ofNat 0), none, none, some (0, v3), none, none, some (0, v6), none, none, none]) rfl ?_
          obtain rfl := Option.some.inj h
          exact k
        · replace h := zif2 c h
          refine rb false 14 (L2 := [some (2, Int.ofNat 0), none, none, some (0, v3), some (0, v4), some (0, v5), some (0, v6), some (0, v7), some (0, 0), some (0, 0)]) rfl rfl trivial ?_
          obtain ⟨x14, hx14, h⟩ := zbd h
          refine LP98 zN v3 v4 v6 v7 v5 0 0 mE_others mE_copies mE_odds mE_often mE_got mE_did x14 hx14 ?_
          refine rb false 22 (L2 := [some (2, Int.ofNat 0), none, none, some (0, v3), none, some (0, x14.1), some (0, v6), some (0, v7), some (0, x14.2.1), some (0, 0)]) rfl rfl trivial ?_
          obtain ⟨x17, hx17, h⟩ := zbd h
          refine LP193 zN v3 x14.1 v6 v7 x14.2.1 0 mE_others mE_copies mE_odds mE_often mE_got x14.2.2 x17 hx17 ?_
          refine ri false 26 (q := x14.2.1 = 0) (t1 := 233) (t2 := 228) rfl rfl trivial (fun c => ?_) (fun c => ?_)
          · replace h := zif1 c h
            refine rb false 28 (st2 := [(0, v6)]) rfl rfl trivial ?_
            obtain ⟨g18_0, h⟩ := zgd h
            refine rg false 29 (t := 80) (L2 := [some (2, Int.ofNat 0), none, none, some (0, v3), some (0, x14.2.1), some (0, x14.1), some (0, v6), some (0, (v7 + 1)), some (0, x14.2.1), none]) rfl rfl rfl g18_0 ?_
            refine rmk [true, false, false, true, true, true, true, true, false, false] (L2 := [some (2, Int.ofNat 0), none, none, some (0, v3), some (0, x14.2.1), some (0, x14.1), some (0, v6), some (0, (v7 + 1)), none, none]) rfl ?_
            exact ih v3 x14.2.1 x14.1 v6 (v7 + 1) mE_others mE_copies mE_odds mE_often x17 x14.2.2 y h k
          · replace h := zif2 c h
            refine rg false 27 (t := 235) (st2 := [(0, v7)]) rfl rfl rfl trivial ?_
            obtain ⟨g19_0, h⟩ := zgd h
            refine rg false 29 (t := 80) (L2 := [some (2, Int.ofNat 0), none, none, some (0, v3), some (0, x14.2.1), some (0, x14.1), some (0, v7), some (0, (v7 + 1)), some (0, x14.2.1), none]) rfl rfl rfl g19_0 ?_
            refine rmk [true, false, false, true, true, true, true, true, false, false] (L2 := [some (2, Int.ofNat 0), none, none, some (0, v3), some (0, x14.2.1), some (0, x14.1), some (0, v7), some (0, (v7 + 1)), none, none]) rfl ?_
            exact ih v3 x14.2.1 x14.1 v7 (v7 + 1) mE_others mE_copies mE_odds mE_often x17 x14.2.2 y h k
  unfold f_X10_run at h
  obtain ⟨x1, hx1, h⟩ := zbd h
  refine rs false 0 1 rfl rfl trivial rfl (m_M_X10_isPerson l M0 M1 M2 M3 M4 ([], [mE_others, mE_copies, mE_odds, mE_often, mE_got, mE_did]) M6 p1 x1 hx1) ⟨_, _, _, _, rfl, rfl, rfl, by decide +kernel, ⟨Nat.le_of_ble_eq_true rfl, Nat.le_of_ble_eq_true rfl⟩, uGinS u_33_13 u_33_14 u_1_5 u_33_15⟩ ?_
  refine ri false 1 (q := x1 = 0) (t1 := 21) (t2 := 7) rfl rfl trivial (fun c => ?_) (fun c => ?_)
  · replace h := zif1 c h
    obtain rfl := Option.some.inj h
    exact r1 false 4 rfl rfl rfl rfl rfl rfl trivial
  · replace h := zif2 c h
    obtain ⟨x2, hx2, h⟩ := zbd h
    refine rs false 2 3 rfl rfl trivial rfl (m_M_X10_in l M0 M1 M2 M3 M4 ([], [mE_others, mE_copies, mE_odds, mE_often, mE_got, mE_did]) M6 p3 (-1) 9 x2 hx2) ⟨_, _, _, _, rfl, rfl, rfl, by decide +kernel, ⟨Nat.le_of_ble_eq_true rfl, Nat.le_of_ble_eq_true rfl⟩, uGinS u_9_14 u_9_15 u_1_5 u_9_16⟩ ?_
    refine ri false 3 (q := x2 = 0) (t1 := 21) (t2 := 24) rfl rfl trivial (fun c => ?_) (fun c => ?_)
    · replace h := zif1 c h
      obtain rfl := Option.some.inj h
      exact r1 false 4 rfl rfl rfl rfl rfl rfl trivial
    · replace h := zif2 c h
      refine rb false 5 (L2 := [some (2, Int.ofNat 0), some (0, p1), some (0, p2), some (0, p3), some (0, 0), none, none, none, none, none]) rfl rfl trivial ?_
      obtain ⟨x5, hx5, h⟩ := zbd h
      refine LP27 zN p1 p2 p3 0 mE_others mE_copies mE_odds mE_often mE_got mE_did x5 hx5 ?_
      refine rb false 11 (L2 := [some (2, Int.ofNat 0), some (0, p1), some (0, p2), some (0, p3), some (0, (zshl 1 p1)), some (0, p2), some (0, 0), some (0, 1), none, none]) rfl rfl trivial ?_
      refine rmk [true, false, false, true, true, true, true, true, false, false] (L2 := [some (2, Int.ofNat 0), none, none, some (0, p3), some (0, (zshl 1 p1)), some (0, p2), some (0, 0), some (0, 1), none, none]) rfl ?_
      obtain ⟨x20, hx20, h⟩ := zbd h
      refine LP80 zN p3 (zshl 1 p1) p2 0 1 mE_others mE_copies mE_odds mE_often x5.1 x5.2 x20 hx20 ?_
      refine ri false 30 (q := p3 = (-1)) (t1 := 252) (t2 := 257) rfl rfl trivial (fun c => ?_) (fun c => ?_)
      · replace h := zif1 c h
        refine rg false 31 (t := 263) (st2 := [(0, x20.1)]) rfl rfl rfl trivial ?_
        obtain rfl := Option.some.inj h
        exact r1 false 33 rfl rfl rfl rfl rfl rfl trivial
      · replace h := zif2 c h
        obtain ⟨g21_0, h⟩ := zgd h
        refine rb false 32 (st2 := [(0, (x20.2.1 (Int.toNat p3)))]) rfl rfl g21_0 ?_
        obtain rfl := Option.some.inj h
        exact r1 false 33 rfl rfl rfl rfl rfl rfl trivial
def bX10_reachOf : zB := [(0, [(.iconst 1, 1), (.iload_n 1, 1), (.ishl, 1), (.istore_n 3, 1), (.iconst 0, 1), (.istore 4, 2)], 7, .nop, 0), (7, [(.iload 4, 2), (.bipush 10, 2)], 11, .if_icmp .ge 71, 3), (14, [(.iconst 0, 1), (.istore 5, 2)], 17, .nop, 0), (17, [(.iload 5, 2), (.bipush 10, 2)], 21, .if_icmp .ge 55, 3), (24, [(.iload_n 3, 1), (.iload_n 3, 1), (.iload 5, 2), (.ishr, 1), (.iconst 1, 1), (.iand, 1), (.iconst 1, 1)], 32, .if_icmp .ne 35, 3), (35, [(.iload_n 2, 1), (.iload 5, 2), (.ishr, 1), (.iconst 1, 1), (.iand, 1)], 41, .ifCond .ne 26, 3), (44, [(.aload_n 0, 1), (.getfield 73, 3), (.iload 5, 2), (.iaload, 1)], 51, .ifCond .le 16, 3), (54, [(.aload_n 0, 1), (.iload 5, 2)], 57, .invokevirtual 242, 3), (60, [(.iload_n 2, 1), (.iconst (-1), 1), (.ixor, 1), (.iand, 1)], 64, .goto 4, 3), (67, [(.iconst 0, 1)], 68, .nop, 0), (68, [(.ior, 1), (.istore_n 3, 1), (.iinc 5 1, 3)], 73, .goto (-56), 3), (76, [(.iinc 4 1, 3)], 79, .goto (-72), 3), (82, [(.iload_n 3, 1)], 83, .ireturn, 1)]
theorem bX10_reachOf_ok : zBok cX10_reachOf 6 bX10_reachOf = true := by decide +kernel
abbrev wX10_reachOf : List Cond := Cond.code yX10_reachOf cX10_reachOf 6 (some .int) :: uU
def rX10_reachOf : Room := { frames := 1, cells := 0, slots := 0, locals := 25 }
set_option maxRecDepth 20000 in
set_option maxHeartbeats 4000000 in
theorem m_M_X10_reachOf (l : Launch) (M0 : zM) (M1 : zM) (M2 : zM) (M3 : zM) (M4 : zM) (M6 : zM) (p1 : Int) (p2 : Int) (mE_others : Nat → Int) (mE_copies : Nat → Int) (mE_odds : Nat → Int) (mE_often : Nat → Int) (mE_got : Nat → Int) (mE_did : Nat → Int) (x : Int) (h : f_X10_reachOf p1 p2 mE_others mE_copies mE_odds = some x) : zD l yX10_reachOf wX10_reachOf rX10_reachOf lamM shpM [(2, Int.ofNat 0), (0, p1), (0, p2)] [M0, M1, M2, M3, M4, ([], [mE_others, mE_copies, mE_odds, mE_often, mE_got, mE_did]), M6] (some (0, x)) [M0, M1, M2, M3, M4, ([], [mE_others, mE_copies, mE_odds, mE_often, mE_got, mE_did]), M6] := by
  refine zD_of (B := bX10_reachOf) (E := eX10) (by decide) rfl lokM (eX10_ok _) bX10_reachOf_ok (Or.inl rfl) rfl (fun S R => ?_)
  obtain ⟨rb, rg, ri, rv, rs, r0, r1, r2, r3, rt, rmk⟩ := R
  show S 0 [some (2, Int.ofNat 0), some (0, p1), some (0, p2), none, none, none] [] [M0, M1, M2, M3, M4, ([], [mE_others, mE_copies, mE_odds, mE_often, mE_got, mE_did]), M6]
  have LP17 : ∀ (n : Nat) (v2 : Int) (v4 : Int) (v3 : Int) (v5 : Int) (mE_others : Nat → Int) (mE_copies : Nat → Int) (mE_odds : Nat → Int) (mE_often : Nat → Int) (mE_got : Nat → Int) (mE_did : Nat → Int) (y : Int), l_X10_reachOf_17 n v2 v4 v3 v5 mE_others mE_copies mE_odds = some y → S 76 [some (2, Int.ofNat 0), none, some (0, v2), some (0, y), some (0, v4), none] [] [M0, M1, M2, M3, M4, ([], [mE_others, mE_copies, mE_odds, mE_often, mE_got, mE_did]), M6] → S 17 [some (2, Int.ofNat 0), none, some (0, v2), some (0, v3), some (0, v4), some (0, v5)] [] [M0, M1, M2, M3, M4, ([], [mE_others, mE_copies, mE_odds, mE_often, mE_got, mE_did]), M6] := by
    intro n
    induction n with
    | zero =>
      intro v2 v4 v3 v5 mE_others mE_copies mE_odds mE_often mE_got mE_did y h k
      rw [l_X10_reachOf_17] at h
      cases h
    | succ n ih =>
      intro v2 v4 v3 v5 mE_others mE_copies mE_odds mE_often mE_got mE_did y h k
      rw [l_X10_reachOf_17] at h
      refine ri false 3 (q := v5 < 10) (t1 := 24) (t2 := 76) rfl rfl trivial (fun c => ?_) (fun c => ?_)
      · replace h := zif1 c h
        refine ri false 4 (q := (zand (zshr v3 v5) 1) = 1) (t1 := 35) (t2 := 67) (st2 := [(0, v3)]) rfl rfl trivial (fun c => ?_) (fun c => ?_)
        · replace h := zif1 c h
          refine ri false 5 (q := (zand (zshr v2 v5) 1) = 0) (t1 := 44) (t2 := 67) (st2 := [(0, v3)]) rfl rfl trivial (fun c => ?_) (fun c => ?_)
          · replace h := zif1 c h
            obtain ⟨g1_0, h⟩ := zgd h
            refine ri false 6 (q := (0 : Int) < (mE_odds (Int.toNat v5))) (t1 := 54) (t2 := 67) (st2 := [(0, v3)]) rfl rfl g1_0 (fun c => ?_) (fun c => ?_)
            · replace h := zif1 c h
              obtain ⟨x2, hx2, h⟩ := zbd h
              refine rv false 7 1 (rest := [(0, v3)]) rfl rfl trivial rfl (m_M_X10_goesTo l M0 M1 M2 M3 M4 M6 v5 mE_others mE_copies mE_odds mE_often mE_got mE_did x2 hx2) ⟨_, _, _, _, rfl, rfl, rfl, by decide +kernel, ⟨Nat.le_of_ble_eq_true rfl, Nat.le_of_ble_eq_true rfl⟩, uGin u_35_6 u_35_7 u_35_8 u_1_5 u_35_9⟩ ⟨rfl, _, _, _, rfl, rfl⟩ ?_
              refine rg false 8 (t := 68) (st2 := [(0, (zand x2 (zxor v2 (-1)))), (0, v3)]) rfl rfl rfl trivial ?_
              obtain ⟨g3_0, h⟩ := zgd h
              refine rg false 10 (t := 17) (L2 := [some (2, Int.ofNat 0), none, some (0, v2), some (0, (zor v3 (zand x2 (zxor v2 (-1))))), some (0, v4), some (0, (v5 + 1))]) rfl rfl rfl g3_0 ?_
              exact ih v2 v4 (zor v3 (zand x2 (zxor v2 (-1)))) (v5 + 1) mE_others mE_copies mE_odds mE_often mE_got mE_did y h k
            · replace h := zif2 c h
              refine rb false 9 (st2 := [(0, 0), (0, v3)]) rfl rfl trivial ?_
              obtain ⟨g4_0, h⟩ := zgd h
              refine rg false 10 (t := 17) (L2 := [some (2, Int.ofNat 0), none, some (0, v2), some (0, (zor v3 0)), some (0, v4), some (0, (v5 + 1))]) rfl rfl rfl g4_0 ?_
              exact ih v2 v4 (zor v3 0) (v5 + 1) mE_others mE_copies mE_odds mE_often mE_got mE_did y h k
          · replace h := zif2 c h
            refine rb false 9 (st2 := [(0, 0), (0, v3)]) rfl rfl trivial ?_
            obtain ⟨g5_0, h⟩ := zgd h
            refine rg false 10 (t := 17) (L2 := [some (2, Int.ofNat 0), none, some (0, v2), some (0, (zor v3 0)), some (0, v4), some (0, (v5 + 1))]) rfl rfl rfl g5_0 ?_
            exact ih v2 v4 (zor v3 0) (v5 + 1) mE_others mE_copies mE_odds mE_often mE_got mE_did y h k
        · replace h := zif2 c h
          refine rb false 9 (st2 := [(0, 0), (0, v3)]) rfl rfl trivial ?_
          obtain ⟨g6_0, h⟩ := zgd h
          refine rg false 10 (t := 17) (L2 := [some (2, Int.ofNat 0), none, some (0, v2), some (0, (zor v3 0)), some (0, v4), some (0, (v5 + 1))]) rfl rfl rfl g6_0 ?_
          exact ih v2 v4 (zor v3 0) (v5 + 1) mE_others mE_copies mE_odds mE_often mE_got mE_did y h k
      · replace h := zif2 c h
        refine rmk [true, false, true, true, true, false] (L2 := [some (2, Int.ofNat 0), none, some (0, v2), some (0, v3), some (0, v4), none]) rfl ?_
        obtain rfl := Option.some.inj h
        exact k
  have LP7 : ∀ (n : Nat) (v2 : Int) (v3 : Int) (v4 : Int) (mE_others : Nat → Int) (mE_copies : Nat → Int) (mE_odds : Nat → Int) (mE_often : Nat → Int) (mE_got : Nat → Int) (mE_did : Nat → Int) (y : Int), l_X10_reachOf_7 n v2 v3 v4 mE_others mE_copies mE_odds = some y → S 82 [none, none, none, some (0, y), none, none] [] [M0, M1, M2, M3, M4, ([], [mE_others, mE_copies, mE_odds, mE_often, mE_got, mE_did]), M6] → S 7 [some (2, Int.ofNat 0), none, some (0, v2), some (0, v3), some (0, v4), none] [] [M0, M1, M2, M3, M4, ([], [mE_others, mE_copies, mE_odds, mE_often, mE_got, mE_did]), M6] := by
    intro n
    induction n with
    | zero =>
      intro v2 v3 v4 mE_others mE_copies mE_odds mE_often mE_got mE_did y h k
      rw [l_X10_reachOf_7] at h
      cases h
    | succ n ih =>
      intro v2 v3 v4 mE_others mE_copies mE_odds mE_often mE_got mE_did y h k
      rw [l_X10_reachOf_7] at h
      refine ri false 1 (q := v4 < 10) (t1 := 14) (t2 := 82) rfl rfl trivial (fun c => ?_) (fun c => ?_)
      · replace h := zif1 c h
        refine rb false 2 (L2 := [some (2, Int.ofNat 0), none, some (0, v2), some (0, v3), some (0, v4), some (0, 0)]) rfl rfl trivial ?_
        obtain ⟨x7, hx7, h⟩ := zbd h
        refine LP17 zN v2 v4 v3 0 mE_others mE_copies mE_odds mE_often mE_got mE_did x7 hx7 ?_
        obtain ⟨g8_0, h⟩ := zgd h
        refine rg false 11 (t := 7) (L2 := [some (2, Int.ofNat 0), none, some (0, v2), some (0, x7), some (0, (v4 + 1)), none]) rfl rfl rfl g8_0 ?_
        exact ih v2 x7 (v4 + 1) mE_others mE_copies mE_odds mE_often mE_got mE_did y h k
      · replace h := zif2 c h
        refine rmk [false, false, false, true, false, false] (L2 := [none, none, none, some (0, v3), none, none]) rfl ?_
        obtain rfl := Option.some.inj h
        exact k
  unfold f_X10_reachOf at h
  refine rb false 0 (L2 := [some (2, Int.ofNat 0), some (0, p1), some (0, p2), some (0, (zshl 1 p1)), some (0, 0), none]) rfl rfl trivial ?_
  refine rmk [true, false, true, true, true, false] (L2 := [some (2, Int.ofNat 0), none, some (0, p2), some (0, (zshl 1 p1)), some (0, 0), none]) rfl ?_
  obtain ⟨x9, hx9, h⟩ := zbd h
  refine LP7 zN p2 (zshl 1 p1) 0 mE_others mE_copies mE_odds mE_often mE_got mE_did x9 hx9 ?_
  obtain rfl := Option.some.inj h
  exact r1 false 12 rfl rfl rfl rfl rfl rfl trivial
def bX10_reach : zB := [(0, [(.iload_n 1, 1)], 1, .invokestatic 236, 3), (4, [], 4, .ifCond .eq 24, 3), (7, [(.iload_n 2, 1), (.i2l, 1), (.lconst 0, 1), (.ldc2_w 239, 3)], 13, .invokestatic 123, 3), (16, [], 16, .ifCond .eq 12, 3), (19, [(.aload_n 0, 1), (.iload_n 1, 1), (.iload_n 2, 1)], 22, .invokevirtual 245, 3), (25, [], 25, .goto 5, 3), (28, [(.bipush (-2), 2)], 30, .nop, 0), (30, [], 30, .ireturn, 1)]
theorem bX10_reach_ok : zBok cX10_reach 3 bX10_reach = true := by decide +kernel
abbrev wX10_reach : List Cond := Cond.code yX10_reach cX10_reach 3 (some .int) :: uU
def rX10_reach : Room := { frames := 2, cells := 0, slots := 0, locals := 50 }
set_option maxRecDepth 20000 in
set_option maxHeartbeats 4000000 in
theorem m_M_X10_reach (l : Launch) (M0 : zM) (M1 : zM) (M2 : zM) (M3 : zM) (M4 : zM) (M6 : zM) (p1 : Int) (p2 : Int) (mE_others : Nat → Int) (mE_copies : Nat → Int) (mE_odds : Nat → Int) (mE_often : Nat → Int) (mE_got : Nat → Int) (mE_did : Nat → Int) (x : Int) (h : f_X10_reach p1 p2 mE_others mE_copies mE_odds = some x) : zD l yX10_reach wX10_reach rX10_reach lamM shpM [(2, Int.ofNat 0), (0, p1), (0, p2)] [M0, M1, M2, M3, M4, ([], [mE_others, mE_copies, mE_odds, mE_often, mE_got, mE_did]), M6] (some (0, x)) [M0, M1, M2, M3, M4, ([], [mE_others, mE_copies, mE_odds, mE_often, mE_got, mE_did]), M6] := by
  refine zD_of (B := bX10_reach) (E := eX10) (by decide) rfl lokM (eX10_ok _) bX10_reach_ok (Or.inl rfl) rfl (fun S R => ?_)
  obtain ⟨rb, rg, ri, rv, rs, r0, r1, r2, r3, rt, rmk⟩ := R
  show S 0 [some (2, Int.ofNat 0), some (0, p1), some (0, p2)] [] [M0, M1, M2, M3, M4, ([], [mE_others, mE_copies, mE_odds, mE_often, mE_got, mE_did]), M6]
  unfold f_X10_reach at h
  obtain ⟨x1, hx1, h⟩ := zbd h
  refine rs false 0 1 rfl rfl trivial rfl (m_M_X10_isPerson l M0 M1 M2 M3 M4 ([], [mE_others, mE_copies, mE_odds, mE_often, mE_got, mE_did]) M6 p1 x1 hx1) ⟨_, _, _, _, rfl, rfl, rfl, by decide +kernel, ⟨Nat.le_of_ble_eq_true rfl, Nat.le_of_ble_eq_true rfl⟩, uGinS u_33_13 u_33_14 u_1_5 u_33_15⟩ ?_
  refine ri false 1 (q := x1 = 0) (t1 := 28) (t2 := 7) rfl rfl trivial (fun c => ?_) (fun c => ?_)
  · replace h := zif1 c h
    refine rb false 6 (st2 := [(0, (-2))]) rfl rfl trivial ?_
    obtain rfl := Option.some.inj h
    exact r1 false 7 rfl rfl rfl rfl rfl rfl trivial
  · replace h := zif2 c h
    obtain ⟨x2, hx2, h⟩ := zbd h
    refine rs false 2 3 rfl rfl trivial rfl (m_M_X10_in l M0 M1 M2 M3 M4 ([], [mE_others, mE_copies, mE_odds, mE_often, mE_got, mE_did]) M6 p2 0 1023 x2 hx2) ⟨_, _, _, _, rfl, rfl, rfl, by decide +kernel, ⟨Nat.le_of_ble_eq_true rfl, Nat.le_of_ble_eq_true rfl⟩, uGinS u_9_14 u_9_15 u_1_5 u_9_16⟩ ?_
    refine ri false 3 (q := x2 = 0) (t1 := 28) (t2 := 19) rfl rfl trivial (fun c => ?_) (fun c => ?_)
    · replace h := zif1 c h
      refine rb false 6 (st2 := [(0, (-2))]) rfl rfl trivial ?_
      obtain rfl := Option.some.inj h
      exact r1 false 7 rfl rfl rfl rfl rfl rfl trivial
    · replace h := zif2 c h
      obtain ⟨x3, hx3, h⟩ := zbd h
      refine rv false 4 2 rfl rfl trivial rfl (m_M_X10_reachOf l M0 M1 M2 M3 M4 M6 p1 p2 mE_others mE_copies mE_odds mE_often mE_got mE_did x3 hx3) ⟨_, _, _, _, rfl, rfl, rfl, by decide +kernel, ⟨Nat.le_of_ble_eq_true rfl, Nat.le_of_ble_eq_true rfl⟩, uGin u_36_2 u_36_3 u_36_4 u_1_5 u_36_5⟩ ⟨rfl, _, _, _, rfl, rfl⟩ ?_
      refine rg false 5 (t := 30) (st2 := [(0, x3)]) rfl rfl rfl trivial ?_
      obtain rfl := Option.some.inj h
      exact r1 false 7 rfl rfl rfl rfl rfl rfl trivial
def bX10_sizeOf : zB := [(0, [(.iconst 0, 1), (.istore_n 1, 1), (.iload_n 0, 1), (.istore_n 2, 1)], 4, .nop, 0), (4, [(.iload_n 2, 1)], 5, .ifCond .le 16, 3), (8, [(.iload_n 1, 1), (.iload_n 2, 1), (.iconst 1, 1), (.iand, 1), (.iadd, 1), (.istore_n 1, 1), (.iload_n 2, 1), (.iconst 1, 1), (.ishr, 1), (.istore_n 2, 1)], 18, .goto (-14), 3), (21, [(.iload_n 1, 1)], 22, .ireturn, 1)]
theorem bX10_sizeOf_ok : zBok cX10_sizeOf 3 bX10_sizeOf = true := by decide +kernel
abbrev wX10_sizeOf : List Cond := Cond.code yX10_sizeOf cX10_sizeOf 3 (some .int) :: uU
def rX10_sizeOf : Room := { frames := 0, cells := 0, slots := 0, locals := 0 }
set_option maxRecDepth 20000 in
set_option maxHeartbeats 4000000 in
theorem m_M_X10_sizeOf (l : Launch) (M0 : zM) (M1 : zM) (M2 : zM) (M3 : zM) (M4 : zM) (M5 : zM) (M6 : zM) (p0 : Int) (x : Int) (h : f_X10_sizeOf p0 = some x) : zD l yX10_sizeOf wX10_sizeOf rX10_sizeOf lamM shpM [(0, p0)] [M0, M1, M2, M3, M4, M5, M6] (some (0, x)) [M0, M1, M2, M3, M4, M5, M6] := by
  refine zD_of (B := bX10_sizeOf) (E := eX10) (by decide) rfl lokM (eX10_ok _) bX10_sizeOf_ok (Or.inl rfl) rfl (fun S R => ?_)
  obtain ⟨rb, rg, ri, rv, rs, r0, r1, r2, r3, rt, rmk⟩ := R
  show S 0 [some (0, p0), none, none] [] [M0, M1, M2, M3, M4, M5, M6]
  have LP4 : ∀ (n : Nat) (v1 : Int) (v2 : Int) (y : Int), l_X10_sizeOf_4 n v1 v2 = some y → S 21 [none, some (0, y), none] [] [M0, M1, M2, M3, M4, M5, M6] → S 4 [none, some (0, v1), some (0, v2)] [] [M0, M1, M2, M3, M4, M5, M6] := by
    intro n
    induction n with
    | zero =>
      intro v1 v2 y h k
      rw [l_X10_sizeOf_4] at h
      cases h
    | succ n ih =>
      intro v1 v2 y h k
      rw [l_X10_sizeOf_4] at h
      refine ri false 1 (q := (0 : Int) < v2) (t1 := 8) (t2 := 21) rfl rfl trivial (fun c => ?_) (fun c => ?_)
      · replace h := zif1 c h
        obtain ⟨g1_0, h⟩ := zgd h
        refine rg false 2 (t := 4) (L2 := [none, some (0, (v1 + (zand v2 1))), some (0, (zshr v2 1))]) rfl rfl rfl g1_0 ?_
        exact ih (v1 + (zand v2 1)) (zshr v2 1) y h k
      · replace h := zif2 c h
        refine rmk [false, true, false] (L2 := [none, some (0, v1), none]) rfl ?_
        obtain rfl := Option.some.inj h
        exact k
  unfold f_X10_sizeOf at h
  refine rb false 0 (L2 := [some (0, p0), some (0, 0), some (0, p0)]) rfl rfl trivial ?_
  refine rmk [false, true, true] (L2 := [none, some (0, 0), some (0, p0)]) rfl ?_
  obtain ⟨x2, hx2, h⟩ := zbd h
  refine LP4 zN 0 p0 x2 hx2 ?_
  obtain rfl := Option.some.inj h
  exact r1 false 3 rfl rfl rfl rfl rfl rfl trivial
def bX10_stop : zB := [(0, [(.iload_n 1, 1)], 1, .invokestatic 236, 3), (4, [], 4, .ifCond .eq 15, 3), (7, [(.iload_n 2, 1), (.i2l, 1), (.lconst 1, 1), (.ldc2_w 248, 3)], 13, .invokestatic 123, 3), (16, [], 16, .ifCond .ne 6, 3), (19, [(.bipush (-2), 2)], 21, .ireturn, 1), (22, [(.iconst (-1), 1), (.istore_n 3, 1), (.iconst 0, 1), (.istore 4, 2)], 27, .nop, 0), (27, [(.iload 4, 2), (.sipush 1024, 3)], 32, .if_icmp .ge 68, 3), (35, [(.iload 4, 2), (.iload_n 1, 1), (.ishr, 1), (.iconst 1, 1), (.iand, 1)], 41, .ifCond .ne 21, 3), (44, [(.aload_n 0, 1), (.iload_n 1, 1), (.iload 4, 2)], 48, .invokevirtual 245, 3), (51, [], 51, .invokestatic 250, 3), (54, [(.iload_n 2, 1)], 55, .if_icmp .gt 7, 3), (58, [(.iconst 1, 1)], 59, .goto 4, 3), (62, [(.iconst 0, 1)], 63, .nop, 0), (63, [(.istore 5, 2), (.iload 5, 2)], 67, .ifCond .eq 25, 3), (70, [(.iload_n 3, 1), (.iconst (-1), 1)], 72, .if_icmp .eq 15, 3), (75, [(.iload 4, 2)], 77, .invokestatic 250, 3), (80, [(.iload_n 3, 1)], 81, .invokestatic 250, 3), (84, [], 84, .if_icmp .ge 8, 3), (87, [(.iload 4, 2)], 89, .goto 4, 3), (92, [(.iload_n 3, 1)], 93, .nop, 0), (93, [(.istore_n 3, 1), (.iinc 4 1, 3)], 97, .goto (-70), 3), (100, [(.iload_n 3, 1)], 101, .ireturn, 1)]
theorem bX10_stop_ok : zBok cX10_stop 6 bX10_stop = true := by decide +kernel
abbrev wX10_stop : List Cond := Cond.code yX10_stop cX10_stop 6 (some .int) :: uU
def rX10_stop : Room := { frames := 2, cells := 0, slots := 0, locals := 50 }
set_option maxRecDepth 20000 in
set_option maxHeartbeats 4000000 in
theorem m_M_X10_stop (l : Launch) (M0 : zM) (M1 : zM) (M2 : zM) (M3 : zM) (M4 : zM) (M6 : zM) (p1 : Int) (p2 : Int) (mE_others : Nat → Int) (mE_copies : Nat → Int) (mE_odds : Nat → Int) (mE_often : Nat → Int) (mE_got : Nat → Int) (mE_did : Nat → Int) (x : Int) (h : f_X10_stop p1 p2 mE_others mE_copies mE_odds = some x) : zD l yX10_stop wX10_stop rX10_stop lamM shpM [(2, Int.ofNat 0), (0, p1), (0, p2)] [M0, M1, M2, M3, M4, ([], [mE_others, mE_copies, mE_odds, mE_often, mE_got, mE_did]), M6] (some (0, x)) [M0, M1, M2, M3, M4, ([], [mE_others, mE_copies, mE_odds, mE_often, mE_got, mE_did]), M6] := by
  refine zD_of (B := bX10_stop) (E := eX10) (by decide) rfl lokM (eX10_ok _) bX10_stop_ok (Or.inl rfl) rfl (fun S R => ?_)
  obtain ⟨rb, rg, ri, rv, rs, r0, r1, r2, r3, rt, rmk⟩ := R
  show S 0 [some (2, Int.ofNat 0), some (0, p1), some (0, p2), none, none, none] [] [M0, M1, M2, M3, M4, ([], [mE_others, mE_copies, mE_odds, mE_often, mE_got, mE_did]), M6]
  have LP27 : ∀ (n : Nat) (v1 : Int) (v2 : Int) (v3 : Int) (v4 : Int) (mE_others : Nat → Int) (mE_copies : Nat → Int) (mE_odds : Nat → Int) (mE_often : Nat → Int) (mE_got : Nat → Int) (mE_did : Nat → Int) (y : Int), l_X10_stop_27 n v1 v2 v3 v4 mE_others mE_copies mE_odds = some y → S 100 [none, none, none, some (0, y), none, none] [] [M0, M1, M2, M3, M4, ([], [mE_others, mE_copies, mE_odds, mE_often, mE_got, mE_did]), M6] → S 27 [some (2, Int.ofNat 0), some (0, v1), some (0, v2), some (0, v3), some (0, v4), none] [] [M0, M1, M2, M3, M4, ([], [mE_others, mE_copies, mE_odds, mE_often, mE_got, mE_did]), M6] := by
    intro n
    induction n with
    | zero =>
      intro v1 v2 v3 v4 mE_others mE_copies mE_odds mE_often mE_got mE_did y h k
      rw [l_X10_stop_27] at h
      cases h
    | succ n ih =>
      intro v1 v2 v3 v4 mE_others mE_copies mE_odds mE_often mE_got mE_did y h k
      rw [l_X10_stop_27] at h
      refine ri false 6 (q := v4 < 1024) (t1 := 35) (t2 := 100) rfl rfl trivial (fun c => ?_) (fun c => ?_)
      · replace h := zif1 c h
        refine ri false 7 (q := (zand (zshr v4 v1) 1) = 0) (t1 := 44) (t2 := 62) rfl rfl trivial (fun c => ?_) (fun c => ?_)
        · replace h := zif1 c h
          obtain ⟨x3, hx3, h⟩ := zbd h
          refine rv false 8 2 rfl rfl trivial rfl (m_M_X10_reachOf l M0 M1 M2 M3 M4 M6 v1 v4 mE_others mE_copies mE_odds mE_often mE_got mE_did x3 hx3) ⟨_, _, _, _, rfl, rfl, rfl, by decide +kernel, ⟨Nat.le_of_ble_eq_true rfl, Nat.le_of_ble_eq_true rfl⟩, uGin u_36_2 u_36_3 u_36_4 u_1_5 u_36_5⟩ ⟨rfl, _, _, _, rfl, rfl⟩ ?_
          obtain ⟨x4, hx4, h⟩ := zbd h
          refine rs false 9 1 rfl rfl trivial rfl (m_M_X10_sizeOf l M0 M1 M2 M3 M4 ([], [mE_others, mE_copies, mE_odds, mE_often, mE_got, mE_did]) M6 x3 x4 hx4) ⟨_, _, _, _, rfl, rfl, rfl, by decide +kernel, ⟨Nat.le_of_ble_eq_true rfl, Nat.le_of_ble_eq_true rfl⟩, uGinS u_37_3 u_37_4 u_1_5 u_37_5⟩ ?_
          refine ri false 10 (q := v2 < x4) (t1 := 62) (t2 := 58) rfl rfl trivial (fun c => ?_) (fun c => ?_)
          · replace h := zif1 c h
            refine rb false 12 (st2 := [(0, 0)]) rfl rfl trivial ?_
            refine ri false 13 (q := (0 : Int) = 0) (t1 := 92) (t2 := 70) (L2 := [some (2, Int.ofNat 0), some (0, v1), some (0, v2), some (0, v3), some (0, v4), some (0, 0)]) rfl rfl trivial (fun _ => ?_) (fun c => absurd (by decide) c)
            refine rb false 19 (st2 := [(0, v3)]) rfl rfl trivial ?_
            obtain ⟨g5_0, h⟩ := zgd h
            refine rg false 20 (t := 27) (L2 := [some (2, Int.ofNat 0), some (0, v1), some (0, v2), some (0, v3), some (0, (v4 + 1)), some (0, 0)]) rfl rfl rfl g5_0 ?_
            refine rmk [true, true, true, true, true, false] (L2 := [some (2, Int.ofNat 0), some (0, v1), some (0, v2), some (0, v3), some (0, (v4 + 1)), none]) rfl ?_
            exact ih v1 v2 v3 (v4 + 1) mE_others mE_copies mE_odds mE_often mE_got mE_did y h k
          · replace h := zif2 c h
            refine rg false 11 (t := 63) (st2 := [(0, 1)]) rfl rfl rfl trivial ?_
            refine ri false 13 (q := (1 : Int) = 0) (t1 := 92) (t2 := 70) (L2 := [some (2, Int.ofNat 0), some (0, v1), some (0, v2), some (0, v3), some (0, v4), some (0, 1)]) rfl rfl trivial (fun c => absurd c (by decide)) (fun _ => ?_)
            refine ri false 14 (q := v3 = (-1)) (t1 := 87) (t2 := 75) rfl rfl trivial (fun c => ?_) (fun c => ?_)
            · replace h := zif1 c h
              refine rg false 18 (t := 93) (st2 := [(0, v4)]) rfl rfl rfl trivial ?_
              obtain ⟨g6_0, h⟩ := zgd h
              refine rg false 20 (t := 27) (L2 := [some (2, Int.ofNat 0), some (0, v1), some (0, v2), some (0, v4), some (0, (v4 + 1)), some (0, 1)]) rfl rfl rfl g6_0 ?_
              refine rmk [true, true, true, true, true, false] (L2 := [some (2, Int.ofNat 0), some (0, v1), some (0, v2), some (0, v4), some (0, (v4 + 1)), none]) rfl ?_
              exact ih v1 v2 v4 (v4 + 1) mE_others mE_copies mE_odds mE_often mE_got mE_did y h k
            · replace h := zif2 c h
              obtain ⟨x7, hx7, h⟩ := zbd h
              refine rs false 15 1 rfl rfl trivial rfl (m_M_X10_sizeOf l M0 M1 M2 M3 M4 ([], [mE_others, mE_copies, mE_odds, mE_often, mE_got, mE_did]) M6 v4 x7 hx7) ⟨_, _, _, _, rfl, rfl, rfl, by decide +kernel, ⟨Nat.le_of_ble_eq_true rfl, Nat.le_of_ble_eq_true rfl⟩, uGinS u_37_3 u_37_4 u_1_5 u_37_5⟩ ?_
              obtain ⟨x8, hx8, h⟩ := zbd h
              refine rs false 16 1 (rest := [(0, x7)]) rfl rfl trivial rfl (m_M_X10_sizeOf l M0 M1 M2 M3 M4 ([], [mE_others, mE_copies, mE_odds, mE_often, mE_got, mE_did]) M6 v3 x8 hx8) ⟨_, _, _, _, rfl, rfl, rfl, by decide +kernel, ⟨Nat.le_of_ble_eq_true rfl, Nat.le_of_ble_eq_true rfl⟩, uGinS u_37_3 u_37_4 u_1_5 u_37_5⟩ ?_
              refine ri false 17 (q := x7 < x8) (t1 := 87) (t2 := 92) rfl rfl trivial (fun c => ?_) (fun c => ?_)
              · replace h := zif1 c h
                refine rg false 18 (t := 93) (st2 := [(0, v4)]) rfl rfl rfl trivial ?_
                obtain ⟨g9_0, h⟩ := zgd h
                refine rg false 20 (t := 27) (L2 := [some (2, Int.ofNat 0), some (0, v1), some (0, v2), some (0, v4), some (0, (v4 + 1)), some (0, 1)]) rfl rfl rfl g9_0 ?_
                refine rmk [true, true, true, true, true, false] (L2 := [some (2, Int.ofNat 0), some (0, v1), some (0, v2), some (0, v4), some (0, (v4 + 1)), none]) rfl ?_
                exact ih v1 v2 v4 (v4 + 1) mE_others mE_copies mE_odds mE_often mE_got mE_did y h k
              · replace h := zif2 c h
                refine rb false 19 (st2 := [(0, v3)]) rfl rfl trivial ?_
                obtain ⟨g10_0, h⟩ := zgd h
                refine rg false 20 (t := 27) (L2 := [some (2, Int.ofNat 0), some (0, v1), some (0, v2), some (0, v3), some (0, (v4 + 1)), some (0, 1)]) rfl rfl rfl g10_0 ?_
                refine rmk [true, true, true, true, true, false] (L2 := [some (2, Int.ofNat 0), some (0, v1), some (0, v2), some (0, v3), some (0, (v4 + 1)), none]) rfl ?_
                exact ih v1 v2 v3 (v4 + 1) mE_others mE_copies mE_odds mE_often mE_got mE_did y h k
        · replace h := zif2 c h
          refine rb false 12 (st2 := [(0, 0)]) rfl rfl trivial ?_
          refine ri false 13 (q := (0 : Int) = 0) (t1 := 92) (t2 := 70) (L2 := [some (2, Int.ofNat 0), some (0, v1), some (0, v2), some (0, v3), some (0, v4), some (0, 0)]) rfl rfl trivial (fun _ => ?_) (fun c => absurd (by decide) c)
          refine rb false 19 (st2 := [(0, v3)]) rfl rfl trivial ?_
          obtain ⟨g11_0, h⟩ := zgd h
          refine rg false 20 (t := 27) (L2 := [some (2, Int.ofNat 0), some (0, v1), some (0, v2), some (0, v3), some (0, (v4 + 1)), some (0, 0)]) rfl rfl rfl g11_0 ?_
          refine rmk [true, true, true, true, true, false] (L2 := [some (2, Int.ofNat 0), some (0, v1), some (0, v2), some (0, v3), some (0, (v4 + 1)), none]) rfl ?_
          exact ih v1 v2 v3 (v4 + 1) mE_others mE_copies mE_odds mE_often mE_got mE_did y h k
      · replace h := zif2 c h
        refine rmk [false, false, false, true, false, false] (L2 := [none, none, none, some (0, v3), none, none]) rfl ?_
        obtain rfl := Option.some.inj h
        exact k
  unfold f_X10_stop at h
  obtain ⟨x1, hx1, h⟩ := zbd h
  refine rs false 0 1 rfl rfl trivial rfl (m_M_X10_isPerson l M0 M1 M2 M3 M4 ([], [mE_others, mE_copies, mE_odds, mE_often, mE_got, mE_did]) M6 p1 x1 hx1) ⟨_, _, _, _, rfl, rfl, rfl, by decide +kernel, ⟨Nat.le_of_ble_eq_true rfl, Nat.le_of_ble_eq_true rfl⟩, uGinS u_33_13 u_33_14 u_1_5 u_33_15⟩ ?_
  refine ri false 1 (q := x1 = 0) (t1 := 19) (t2 := 7) rfl rfl trivial (fun c => ?_) (fun c => ?_)
  · replace h := zif1 c h
    obtain rfl := Option.some.inj h
    exact r1 false 4 rfl rfl rfl rfl rfl rfl trivial
  · replace h := zif2 c h
    obtain ⟨x2, hx2, h⟩ := zbd h
    refine rs false 2 3 rfl rfl trivial rfl (m_M_X10_in l M0 M1 M2 M3 M4 ([], [mE_others, mE_copies, mE_odds, mE_often, mE_got, mE_did]) M6 p2 1 10 x2 hx2) ⟨_, _, _, _, rfl, rfl, rfl, by decide +kernel, ⟨Nat.le_of_ble_eq_true rfl, Nat.le_of_ble_eq_true rfl⟩, uGinS u_9_14 u_9_15 u_1_5 u_9_16⟩ ?_
    refine ri false 3 (q := x2 = 0) (t1 := 19) (t2 := 22) rfl rfl trivial (fun c => ?_) (fun c => ?_)
    · replace h := zif1 c h
      obtain rfl := Option.some.inj h
      exact r1 false 4 rfl rfl rfl rfl rfl rfl trivial
    · replace h := zif2 c h
      refine rb false 5 (L2 := [some (2, Int.ofNat 0), some (0, p1), some (0, p2), some (0, (-1)), some (0, 0), none]) rfl rfl trivial ?_
      obtain ⟨x12, hx12, h⟩ := zbd h
      refine LP27 zN p1 p2 (-1) 0 mE_others mE_copies mE_odds mE_often mE_got mE_did x12 hx12 ?_
      obtain rfl := Option.some.inj h
      exact r1 false 21 rfl rfl rfl rfl rfl rfl trivial
def bX10_keep : zB := [(0, [(.iload_n 1, 1), (.i2l, 1), (.lconst 0, 1), (.ldc2_w 131, 3)], 6, .invokestatic 123, 3), (9, [], 9, .ifCond .ne 6, 3), (12, [(.bipush (-2), 2)], 14, .ireturn, 1), (15, [(.aload_n 0, 1), (.getfield 253, 3), (.bipush 40, 2)], 21, .if_icmp .ne 6, 3), (24, [(.bipush (-4), 2)], 26, .ireturn, 1), (27, [(.aload_n 0, 1), (.getfield 85, 3), (.aload_n 0, 1), (.getfield 253, 3), (.iload_n 1, 1), (.iastore, 1), (.aload_n 0, 1), (.dup, 1), (.getfield 253, 3), (.iconst 1, 1), (.iadd, 1), (.putfield 253, 3)], 47, .nop, 0), (47, [(.aload_n 0, 1), (.getfield 253, 3)], 51, .ireturn, 1)]
theorem bX10_keep_ok : zBok cX10_keep 2 bX10_keep = true := by decide +kernel
abbrev wX10_keep : List Cond := Cond.code yX10_keep cX10_keep 2 (some .int) :: uU
def rX10_keep : Room := { frames := 1, cells := 0, slots := 0, locals := 25 }
set_option maxRecDepth 20000 in
set_option maxHeartbeats 4000000 in
theorem m_M_X10_keep (l : Launch) (M0 : zM) (M1 : zM) (M2 : zM) (M3 : zM) (M4 : zM) (M5 : zM) (p1 : Int) (mB_kept : Int) (mB_box : Nat → Int) (x : Int × Int × (Nat → Int)) (h : f_X10_keep p1 mB_kept mB_box = some x) : zD l yX10_keep wX10_keep rX10_keep lamM shpM [(2, Int.ofNat 0), (0, p1)] [M0, M1, M2, M3, M4, M5, ([mB_kept], [mB_box])] (some (0, x.1)) [M0, M1, M2, M3, M4, M5, ([x.2.1], [x.2.2])] := by
  refine zD_of (B := bX10_keep) (E := eX10) (by decide) rfl lokM (eX10_ok _) bX10_keep_ok (Or.inl rfl) rfl (fun S R => ?_)
  obtain ⟨rb, rg, ri, rv, rs, r0, r1, r2, r3, rt, rmk⟩ := R
  show S 0 [some (2, Int.ofNat 0), some (0, p1)] [] [M0, M1, M2, M3, M4, M5, ([mB_kept], [mB_box])]
  unfold f_X10_keep at h
  obtain ⟨x1, hx1, h⟩ := zbd h
  refine rs false 0 3 rfl rfl trivial rfl (m_M_X10_in l M0 M1 M2 M3 M4 M5 ([mB_kept], [mB_box]) p1 0 99 x1 hx1) ⟨_, _, _, _, rfl, rfl, rfl, by decide +kernel, ⟨Nat.le_of_ble_eq_true rfl, Nat.le_of_ble_eq_true rfl⟩, uGinS u_9_14 u_9_15 u_1_5 u_9_16⟩ ?_
  refine ri false 1 (q := x1 = 0) (t1 := 12) (t2 := 15) rfl rfl trivial (fun c => ?_) (fun c => ?_)
  · replace h := zif1 c h
    obtain rfl := Option.some.inj h
    exact r1 false 2 rfl rfl rfl rfl rfl rfl trivial
  · replace h := zif2 c h
    refine ri false 3 (q := mB_kept = 40) (t1 := 24) (t2 := 27) rfl rfl trivial (fun c => ?_) (fun c => ?_)
    · replace h := zif1 c h
      obtain rfl := Option.some.inj h
      exact r1 false 4 rfl rfl rfl rfl rfl rfl trivial
    · replace h := zif2 c h
      obtain ⟨⟨g2_0, g2_1⟩, h⟩ := zgd h
      refine rb false 5 (σ2 := [M0, M1, M2, M3, M4, M5, ([(mB_kept + 1)], [(zu mB_box (Int.toNat mB_kept) p1)])]) rfl rfl (And.intro g2_0 g2_1) ?_
      obtain rfl := Option.some.inj h
      exact r1 false 6 rfl rfl rfl rfl rfl rfl trivial
def bX10_burn : zB := [(0, [(.aload_n 0, 1), (.getfield 253, 3), (.istore_n 1, 1), (.aload_n 0, 1), (.iconst 0, 1), (.putfield 253, 3), (.iload_n 1, 1)], 11, .ireturn, 1)]
theorem bX10_burn_ok : zBok cX10_burn 2 bX10_burn = true := by decide +kernel
abbrev wX10_burn : List Cond := Cond.code yX10_burn cX10_burn 2 (some .int) :: uU
def rX10_burn : Room := { frames := 0, cells := 0, slots := 0, locals := 0 }
set_option maxRecDepth 20000 in
set_option maxHeartbeats 4000000 in
theorem m_M_X10_burn (l : Launch) (M0 : zM) (M1 : zM) (M2 : zM) (M3 : zM) (M4 : zM) (M5 : zM) (mB_kept : Int) (mB_box : Nat → Int) (x : Int × Int) (h : f_X10_burn mB_kept = some x) : zD l yX10_burn wX10_burn rX10_burn lamM shpM [(2, Int.ofNat 0)] [M0, M1, M2, M3, M4, M5, ([mB_kept], [mB_box])] (some (0, x.1)) [M0, M1, M2, M3, M4, M5, ([x.2], [mB_box])] := by
  refine zD_of (B := bX10_burn) (E := eX10) (by decide) rfl lokM (eX10_ok _) bX10_burn_ok (Or.inl rfl) rfl (fun S R => ?_)
  obtain ⟨rb, rg, ri, rv, rs, r0, r1, r2, r3, rt, rmk⟩ := R
  show S 0 [some (2, Int.ofNat 0), none] [] [M0, M1, M2, M3, M4, M5, ([mB_kept], [mB_box])]
  unfold f_X10_burn at h
  obtain rfl := Option.some.inj h
  exact r1 false 0 (L2 := [some (2, Int.ofNat 0), some (0, mB_kept)]) rfl rfl rfl rfl rfl rfl trivial
def bX10_hidden : zB := [(0, [(.iconst 0, 1), (.istore_n 1, 1), (.iconst 0, 1), (.istore_n 2, 1), (.iconst 0, 1), (.istore_n 3, 1), (.iconst 0, 1), (.istore 4, 2)], 9, .nop, 0), (9, [(.iload 4, 2), (.bipush 100, 2)], 13, .if_icmp .ge 93, 3), (16, [(.iconst 0, 1), (.istore 5, 2), (.iconst 0, 1), (.istore 6, 2)], 22, .nop, 0), (22, [(.iload 6, 2), (.aload_n 0, 1), (.getfield 253, 3)], 28, .if_icmp .ge 31, 3), (31, [(.iload 5, 2), (.aload_n 0, 1), (.getfield 85, 3), (.iload 6, 2), (.iaload, 1), (.iload 4, 2)], 42, .if_icmp .ne 7, 3), (45, [(.iconst 1, 1)], 46, .goto 4, 3), (49, [(.iconst 0, 1)], 50, .nop, 0), (50, [(.iadd, 1), (.istore 5, 2), (.iinc 6 1, 3)], 56, .goto (-34), 3), (59, [(.iload_n 1, 1), (.iload 5, 2)], 62, .ifCond .le 7, 3), (65, [(.iconst 1, 1)], 66, .goto 4, 3), (69, [(.iconst 0, 1)], 70, .nop, 0), (70, [(.iadd, 1), (.istore_n 1, 1), (.iload_n 2, 1), (.iload 5, 2), (.iconst 1, 1)], 76, .if_icmp .ne 7, 3), (79, [(.iconst 1, 1)], 80, .goto 4, 3), (83, [(.iconst 0, 1)], 84, .nop, 0), (84, [(.iadd, 1), (.istore_n 2, 1), (.iload_n 3, 1), (.iload 5, 2), (.iconst 2, 1)], 90, .if_icmp .ne 7, 3), (93, [(.iconst 1, 1)], 94, .goto 4, 3), (97, [(.iconst 0, 1)], 98, .nop, 0), (98, [(.iadd, 1), (.istore_n 3, 1), (.iinc 4 1, 3)], 103, .goto (-94), 3), (106, [(.iload_n 3, 1)], 107, .ifCond .ne 23, 3), (110, [(.aload_n 0, 1), (.iconst 2, 1), (.iload_n 1, 1), (.imul, 1), (.iload_n 2, 1), (.iload_n 2, 1), (.iconst 1, 1), (.isub, 1), (.imul, 1), (.iadd, 1), (.i2l, 1), (.ldc2_w 256, 3)], 124, .invokevirtual 213, 3), (127, [], 127, .goto 23, 3), (130, [(.aload_n 0, 1), (.iconst 2, 1), (.iload_n 3, 1), (.imul, 1), (.iload_n 1, 1), (.imul, 1), (.iload_n 2, 1), (.iload_n 2, 1), (.imul, 1), (.iadd, 1), (.i2l, 1), (.ldc2_w 256, 3), (.iload_n 3, 1), (.i2l, 1), (.lmul, 1)], 147, .invokevirtual 213, 3), (150, [], 150, .ireturn, 1)]
theorem bX10_hidden_ok : zBok cX10_hidden 7 bX10_hidden = true := by decide +kernel
abbrev wX10_hidden : List Cond := Cond.code yX10_hidden cX10_hidden 7 (some .int) :: uU
def rX10_hidden : Room := { frames := 4, cells := 0, slots := 0, locals := 98 }
set_option maxRecDepth 20000 in
set_option maxHeartbeats 4000000 in
theorem m_M_X10_hidden (l : Launch) (M1 : zM) (M2 : zM) (M3 : zM) (M4 : zM) (M5 : zM) (mK_limbs : Nat → Int) (mK_wide : Nat → Int) (mB_kept : Int) (mB_box : Nat → Int) (x : Int × (Nat → Int) × (Nat → Int)) (h : f_X10_hidden mB_kept mK_limbs mK_wide mB_box = some x) : zD l yX10_hidden wX10_hidden rX10_hidden lamM shpM [(2, Int.ofNat 0)] [([], [mK_limbs, mK_wide]), M1, M2, M3, M4, M5, ([mB_kept], [mB_box])] (some (0, x.1)) [([], [x.2.1, x.2.2]), M1, M2, M3, M4, M5, ([mB_kept], [mB_box])] := by
  refine zD_of (B := bX10_hidden) (E := eX10) (by decide) rfl lokM (eX10_ok _) bX10_hidden_ok (Or.inl rfl) rfl (fun S R => ?_)
  obtain ⟨rb, rg, ri, rv, rs, r0, r1, r2, r3, rt, rmk⟩ := R
  show S 0 [some (2, Int.ofNat 0), none, none, none, none, none, none] [] [([], [mK_limbs, mK_wide]), M1, M2, M3, M4, M5, ([mB_kept], [mB_box])]
  have LP22 : ∀ (n : Nat) (v1 : Int) (v2 : Int) (v3 : Int) (v4 : Int) (v5 : Int) (v6 : Int) (mK_limbs : Nat → Int) (mK_wide : Nat → Int) (mB_kept : Int) (mB_box : Nat → Int) (y : Int), l_X10_hidden_22 n v1 v2 v3 v4 v5 v6 mB_kept mB_box = some y → S 59 [some (2, Int.ofNat 0), some (0, v1), some (0, v2), some (0, v3), some (0, v4), some (0, y), none] [] [([], [mK_limbs, mK_wide]), M1, M2, M3, M4, M5, ([mB_kept], [mB_box])] → S 22 [some (2, Int.ofNat 0), some (0, v1), some (0, v2), some (0, v3), some (0, v4), some (0, v5), some (0, v6)] [] [([], [mK_limbs, mK_wide]), M1, M2, M3, M4, M5, ([mB_kept], [mB_box])] := by
    intro n
    induction n with
    | zero =>
      intro v1 v2 v3 v4 v5 v6 mK_limbs mK_wide mB_kept mB_box y h k
      rw [l_X10_hidden_22] at h
      cases h
    | succ n ih =>
      intro v1 v2 v3 v4 v5 v6 mK_limbs mK_wide mB_kept mB_box y h k
      rw [l_X10_hidden_22] at h
      refine ri false 3 (q := v6 < mB_kept) (t1 := 31) (t2 := 59) rfl rfl trivial (fun c => ?_) (fun c => ?_)
      · replace h := zif1 c h
        obtain ⟨g1_0, h⟩ := zgd h
        refine ri false 4 (q := (mB_box (Int.toNat v6)) = v4) (t1 := 45) (t2 := 49) (st2 := [(0, v5)]) rfl rfl g1_0 (fun c => ?_) (fun c => ?_)
        · replace h := zif1 c h
          refine rg false 5 (t := 50) (st2 := [(0, 1), (0, v5)]) rfl rfl rfl trivial ?_
          obtain ⟨⟨g2_0, g2_1⟩, h⟩ := zgd h
          refine rg false 7 (t := 22) (L2 := [some (2, Int.ofNat 0), some (0, v1), some (0, v2), some (0, v3), some (0, v4), some (0, (v5 + 1)), some (0, (v6 + 1))]) rfl rfl rfl (And.intro g2_0 g2_1) ?_
          exact ih v1 v2 v3 v4 (v5 + 1) (v6 + 1) mK_limbs mK_wide mB_kept mB_box y h k
        · replace h := zif2 c h
          refine rb false 6 (st2 := [(0, 0), (0, v5)]) rfl rfl trivial ?_
          obtain ⟨⟨g3_0, g3_1⟩, h⟩ := zgd h
          refine rg false 7 (t := 22) (L2 := [some (2, Int.ofNat 0), some (0, v1), some (0, v2), some (0, v3), some (0, v4), some (0, (v5 + 0)), some (0, (v6 + 1))]) rfl rfl rfl (And.intro g3_0 g3_1) ?_
          exact ih v1 v2 v3 v4 (v5 + 0) (v6 + 1) mK_limbs mK_wide mB_kept mB_box y h k
      · replace h := zif2 c h
        refine rmk [true, true, true, true, true, true, false] (L2 := [some (2, Int.ofNat 0), some (0, v1), some (0, v2), some (0, v3), some (0, v4), some (0, v5), none]) rfl ?_
        obtain rfl := Option.some.inj h
        exact k
  have LP9 : ∀ (n : Nat) (v1 : Int) (v2 : Int) (v3 : Int) (v4 : Int) (mK_limbs : Nat → Int) (mK_wide : Nat → Int) (mB_kept : Int) (mB_box : Nat → Int) (y : Int × Int × Int), l_X10_hidden_9 n v1 v2 v3 v4 mB_kept mB_box = some y → S 106 [some (2, Int.ofNat 0), some (0, y.1), some (0, y.2.1), some (0, y.2.2), none, none, none] [] [([], [mK_limbs, mK_wide]), M1, M2, M3, M4, M5, ([mB_kept], [mB_box])] → S 9 [some (2, Int.ofNat 0), some (0, v1), some (0, v2), some (0, v3), some (0, v4), none, none] [] [([], [mK_limbs, mK_wide]), M1, M2, M3, M4, M5, ([mB_kept], [mB_box])] := by
    intro n
    induction n with
    | zero =>
      intro v1 v2 v3 v4 mK_limbs mK_wide mB_kept mB_box y h k
      rw [l_X10_hidden_9] at h
      cases h
    | succ n ih =>
      intro v1 v2 v3 v4 mK_limbs mK_wide mB_kept mB_box y h k
      rw [l_X10_hidden_9] at h
      refine ri false 1 (q := v4 < 100) (t1 := 16) (t2 := 106) rfl rfl trivial (fun c => ?_) (fun c => ?_)
      · replace h := zif1 c h
        refine rb false 2 (L2 := [some (2, Int.ofNat 0), some (0, v1), some (0, v2), some (0, v3), some (0, v4), some (0, 0), some (0, 0)]) rfl rfl trivial ?_
        obtain ⟨x4, hx4, h⟩ := zbd h
        refine LP22 zN v1 v2 v3 v4 0 0 mK_limbs mK_wide mB_kept mB_box x4 hx4 ?_
        refine ri false 8 (q := (0 : Int) < x4) (t1 := 65) (t2 := 69) (st2 := [(0, v1)]) rfl rfl trivial (fun c => ?_) (fun c => ?_)
        · replace h := zif1 c h
          refine rg false 9 (t := 70) (st2 := [(0, 1), (0, v1)]) rfl rfl rfl trivial ?_
          obtain ⟨g5_0, h⟩ := zgd h
          refine ri false 11 (q := x4 = 1) (t1 := 79) (t2 := 83) (L2 := [some (2, Int.ofNat 0), some (0, (v1 + 1)), some (0, v2), some (0, v3), some (0, v4), some (0, x4), none]) (st2 := [(0, v2)]) rfl rfl g5_0 (fun c => ?_) (fun c => ?_)
          · replace h := zif1 c h
            refine rg false 12 (t := 84) (st2 := [(0, 1), (0, v2)]) rfl rfl rfl trivial ?_
            obtain ⟨g6_0, h⟩ := zgd h
            refine ri false 14 (q := x4 = 2) (t1 := 93) (t2 := 97) (L2 := [some (2, Int.ofNat 0), some (0, (v1 + 1)), some (0, (v2 + 1)), some (0, v3), some (0, v4), some (0, x4), none]) (st2 := [(0, v3)]) rfl rfl g6_0 (fun c => ?_) (fun c => ?_)
            · replace h := zif1 c h
              refine rg false 15 (t := 98) (st2 := [(0, 1), (0, v3)]) rfl rfl rfl trivial ?_
              obtain ⟨⟨g7_0, g7_1⟩, h⟩ := zgd h
              refine rg false 17 (t := 9) (L2 := [some (2, Int.ofNat 0), some (0, (v1 + 1)), some (0, (v2 + 1)), some (0, (v3 + 1)), some (0, (v4 + 1)), some (0, x4), none]) rfl rfl rfl (And.intro g7_0 g7_1) ?_
              refine rmk [true, true, true, true, true, false, false] (L2 := [some (2, Int.ofNat 0), some (0, (v1 + 1)), some (0, (v2 + 1)), some (0, (v3 + 1)), some (0, (v4 + 1)), none, none]) rfl ?_
              exact ih (v1 + 1) (v2 + 1) (v3 + 1) (v4 + 1) mK_limbs mK_wide mB_kept mB_box y h k
            · replace h := zif2 c h
              refine rb false 16 (st2 := [(0, 0), (0, v3)]) rfl rfl trivial ?_
              obtain ⟨⟨g8_0, g8_1⟩, h⟩ := zgd h
              refine rg false 17 (t := 9) (L2 := [some (2, Int.ofNat 0), some (0, (v1 + 1)), some (0, (v2 + 1)), some (0, (v3 + 0)), some (0, (v4 + 1)), some (0, x4), none]) rfl rfl rfl (And.intro g8_0 g8_1) ?_
              refine rmk [true, true, true, true, true, false, false] (L2 := [some (2, Int.ofNat 0), some (0, (v1 + 1)), some (0, (v2 + 1)), some (0, (v3 + 0)), some (0, (v4 + 1)), none, none]) rfl ?_
              exact ih (v1 + 1) (v2 + 1) (v3 + 0) (v4 + 1) mK_limbs mK_wide mB_kept mB_box y h k
          · replace h := zif2 c h
            refine rb false 13 (st2 := [(0, 0), (0, v2)]) rfl rfl trivial ?_
            obtain ⟨g9_0, h⟩ := zgd h
            refine ri false 14 (q := x4 = 2) (t1 := 93) (t2 := 97) (L2 := [some (2, Int.ofNat 0), some (0, (v1 + 1)), some (0, (v2 + 0)), some (0, v3), some (0, v4), some (0, x4), none]) (st2 := [(0, v3)]) rfl rfl g9_0 (fun c => ?_) (fun c => ?_)
            · replace h := zif1 c h
              refine rg false 15 (t := 98) (st2 := [(0, 1), (0, v3)]) rfl rfl rfl trivial ?_
              obtain ⟨⟨g10_0, g10_1⟩, h⟩ := zgd h
              refine rg false 17 (t := 9) (L2 := [some (2, Int.ofNat 0), some (0, (v1 + 1)), some (0, (v2 + 0)), some (0, (v3 + 1)), some (0, (v4 + 1)), some (0, x4), none]) rfl rfl rfl (And.intro g10_0 g10_1) ?_
              refine rmk [true, true, true, true, true, false, false] (L2 := [some (2, Int.ofNat 0), some (0, (v1 + 1)), some (0, (v2 + 0)), some (0, (v3 + 1)), some (0, (v4 + 1)), none, none]) rfl ?_
              exact ih (v1 + 1) (v2 + 0) (v3 + 1) (v4 + 1) mK_limbs mK_wide mB_kept mB_box y h k
            · replace h := zif2 c h
              refine rb false 16 (st2 := [(0, 0), (0, v3)]) rfl rfl trivial ?_
              obtain ⟨⟨g11_0, g11_1⟩, h⟩ := zgd h
              refine rg false 17 (t := 9) (L2 := [some (2, Int.ofNat 0), some (0, (v1 + 1)), some (0, (v2 + 0)), some (0, (v3 + 0)), some (0, (v4 + 1)), some (0, x4), none]) rfl rfl rfl (And.intro g11_0 g11_1) ?_
              refine rmk [true, true, true, true, true, false, false] (L2 := [some (2, Int.ofNat 0), some (0, (v1 + 1)), some (0, (v2 + 0)), some (0, (v3 + 0)), some (0, (v4 + 1)), none, none]) rfl ?_
              exact ih (v1 + 1) (v2 + 0) (v3 + 0) (v4 + 1) mK_limbs mK_wide mB_kept mB_box y h k
        · replace h := zif2 c h
          refine rb false 10 (st2 := [(0, 0), (0, v1)]) rfl rfl trivial ?_
          obtain ⟨g12_0, h⟩ := zgd h
          refine ri false 11 (q := x4 = 1) (t1 := 79) (t2 := 83) (L2 := [some (2, Int.ofNat 0), some (0, (v1 + 0)), some (0, v2), some (0, v3), some (0, v4), some (0, x4), none]) (st2 := [(0, v2)]) rfl rfl g12_0 (fun c => ?_) (fun c => ?_)
          · replace h := zif1 c h
            refine rg false 12 (t := 84) (st2 := [(0, 1), (0, v2)]) rfl rfl rfl trivial ?_
            obtain ⟨g13_0, h⟩ := zgd h
            refine ri false 14 (q := x4 = 2) (t1 := 93) (t2 := 97) (L2 := [some (2, Int.ofNat 0), some (0, (v1 + 0)), some (0, (v2 + 1)), some (0, v3), some (0, v4), some (0, x4), none]) (st2 := [(0, v3)]) rfl rfl g13_0 (fun c => ?_) (fun c => ?_)
            · replace h := zif1 c h
              refine rg false 15 (t := 98) (st2 := [(0, 1), (0, v3)]) rfl rfl rfl trivial ?_
              obtain ⟨⟨g14_0, g14_1⟩, h⟩ := zgd h
              refine rg false 17 (t := 9) (L2 := [some (2, Int.ofNat 0), some (0, (v1 + 0)), some (0, (v2 + 1)), some (0, (v3 + 1)), some (0, (v4 + 1)), some (0, x4), none]) rfl rfl rfl (And.intro g14_0 g14_1) ?_
              refine rmk [true, true, true, true, true, false, false] (L2 := [some (2, Int.ofNat 0), some (0, (v1 + 0)), some (0, (v2 + 1)), some (0, (v3 + 1)), some (0, (v4 + 1)), none, none]) rfl ?_
              exact ih (v1 + 0) (v2 + 1) (v3 + 1) (v4 + 1) mK_limbs mK_wide mB_kept mB_box y h k
            · replace h := zif2 c h
              refine rb false 16 (st2 := [(0, 0), (0, v3)]) rfl rfl trivial ?_
              obtain ⟨⟨g15_0, g15_1⟩, h⟩ := zgd h
              refine rg false 17 (t := 9) (L2 := [some (2, Int.ofNat 0), some (0, (v1 + 0)), some (0, (v2 + 1)), some (0, (v3 + 0)), some (0, (v4 + 1)), some (0, x4), none]) rfl rfl rfl (And.intro g15_0 g15_1) ?_
              refine rmk [true, true, true, true, true, false, false] (L2 := [some (2, Int.ofNat 0), some (0, (v1 + 0)), some (0, (v2 + 1)), some (0, (v3 + 0)), some (0, (v4 + 1)), none, none]) rfl ?_
              exact ih (v1 + 0) (v2 + 1) (v3 + 0) (v4 + 1) mK_limbs mK_wide mB_kept mB_box y h k
          · replace h := zif2 c h
            refine rb false 13 (st2 := [(0, 0), (0, v2)]) rfl rfl trivial ?_
            obtain ⟨g16_0, h⟩ := zgd h
            refine ri false 14 (q := x4 = 2) (t1 := 93) (t2 := 97) (L2 := [some (2, Int.ofNat 0), some (0, (v1 + 0)), some (0, (v2 + 0)), some (0, v3), some (0, v4), some (0, x4), none]) (st2 := [(0, v3)]) rfl rfl g16_0 (fun c => ?_) (fun c => ?_)
            · replace h := zif1 c h
              refine rg false 15 (t := 98) (st2 := [(0, 1), (0, v3)]) rfl rfl rfl trivial ?_
              obtain ⟨⟨g17_0, g17_1⟩, h⟩ := zgd h
              refine rg false 17 (t := 9) (L2 := [some (2, Int.ofNat 0), some (0, (v1 + 0)), some (0, (v2 + 0)), some (0, (v3 + 1)), some (0, (v4 + 1)), some (0, x4), none]) rfl rfl rfl (And.intro g17_0 g17_1) ?_
              refine rmk [true, true, true, true, true, false, false] (L2 := [some (2, Int.ofNat 0), some (0, (v1 + 0)), some (0, (v2 + 0)), some (0, (v3 + 1)), some (0, (v4 + 1)), none, none]) rfl ?_
              exact ih (v1 + 0) (v2 + 0) (v3 + 1) (v4 + 1) mK_limbs mK_wide mB_kept mB_box y h k
            · replace h := zif2 c h
              refine rb false 16 (st2 := [(0, 0), (0, v3)]) rfl rfl trivial ?_
              obtain ⟨⟨g18_0, g18_1⟩, h⟩ := zgd h
              refine rg false 17 (t := 9) (L2 := [some (2, Int.ofNat 0), some (0, (v1 + 0)), some (0, (v2 + 0)), some (0, (v3 + 0)), some (0, (v4 + 1)), some (0, x4), none]) rfl rfl rfl (And.intro g18_0 g18_1) ?_
              refine rmk [true, true, true, true, true, false, false] (L2 := [some (2, Int.ofNat 0), some (0, (v1 + 0)), some (0, (v2 + 0)), some (0, (v3 + 0)), some (0, (v4 + 1)), none, none]) rfl ?_
              exact ih (v1 + 0) (v2 + 0) (v3 + 0) (v4 + 1) mK_limbs mK_wide mB_kept mB_box y h k
      · replace h := zif2 c h
        refine rmk [true, true, true, true, false, false, false] (L2 := [some (2, Int.ofNat 0), some (0, v1), some (0, v2), some (0, v3), none, none, none]) rfl ?_
        obtain rfl := Option.some.inj h
        exact k
  unfold f_X10_hidden at h
  refine rb false 0 (L2 := [some (2, Int.ofNat 0), some (0, 0), some (0, 0), some (0, 0), some (0, 0), none, none]) rfl rfl trivial ?_
  obtain ⟨x19, hx19, h⟩ := zbd h
  refine LP9 zN 0 0 0 0 mK_limbs mK_wide mB_kept mB_box x19 hx19 ?_
  refine ri false 18 (q := x19.2.2 = 0) (t1 := 110) (t2 := 130) rfl rfl trivial (fun c => ?_) (fun c => ?_)
  · replace h := zif1 c h
    obtain ⟨g21_0, h⟩ := zgd h
    obtain ⟨x20, hx20, h⟩ := zbd h
    refine rv false 19 2 rfl rfl g21_0 rfl (m_M_X10_tells l M1 M2 M3 M4 M5 ([mB_kept], [mB_box]) ((2 * x19.1) + (x19.2.1 * (x19.2.1 - 1))) 2 mK_limbs mK_wide x20 hx20) ⟨_, _, _, _, rfl, rfl, rfl, by decide +kernel, ⟨Nat.le_of_ble_eq_true rfl, Nat.le_of_ble_eq_true rfl⟩, uGin u_26_14 u_26_15 u_26_16 u_1_5 u_26_17⟩ ⟨rfl, _, _, _, rfl, rfl⟩ ?_
    refine rg false 20 (t := 150) (st2 := [(0, x20.1)]) rfl rfl rfl trivial ?_
    obtain rfl := Option.some.inj h
    exact r1 false 22 rfl rfl rfl rfl rfl rfl trivial
  · replace h := zif2 c h
    obtain ⟨⟨g23_0, g23_1⟩, h⟩ := zgd h
    obtain ⟨x22, hx22, h⟩ := zbd h
    refine rv false 21 2 rfl rfl (And.intro g23_0 g23_1) rfl (m_M_X10_tells l M1 M2 M3 M4 M5 ([mB_kept], [mB_box]) (((2 * x19.2.2) * x19.1) + (x19.2.1 * x19.2.1)) (2 * x19.2.2) mK_limbs mK_wide x22 hx22) ⟨_, _, _, _, rfl, rfl, rfl, by decide +kernel, ⟨Nat.le_of_ble_eq_true rfl, Nat.le_of_ble_eq_true rfl⟩, uGin u_26_14 u_26_15 u_26_16 u_1_5 u_26_17⟩ ⟨rfl, _, _, _, rfl, rfl⟩ ?_
    obtain rfl := Option.some.inj h
    exact r1 false 22 rfl rfl rfl rfl rfl rfl trivial
def bX10_countOf : zB := [(0, [(.iconst 0, 1), (.istore_n 2, 1), (.iconst 0, 1), (.istore_n 3, 1)], 4, .nop, 0), (4, [(.iload_n 3, 1), (.bipush 8, 2), (.aload_n 0, 1), (.getfield 127, 3), (.imul, 1)], 12, .if_icmp .ge 27, 3), (15, [(.iload_n 2, 1), (.aload_n 0, 1), (.getfield 22, 3), (.iload_n 3, 1), (.iaload, 1), (.iconst (-1), 1)], 23, .if_icmp .ne 7, 3), (26, [(.iconst 0, 1)], 27, .goto 4, 3), (30, [(.iconst 1, 1)], 31, .nop, 0), (31, [(.iadd, 1), (.istore_n 2, 1), (.iinc 3 1, 3)], 36, .goto (-32), 3), (39, [(.iload_n 1, 1)], 40, .ifCond .ne 10, 3), (43, [(.aload_n 0, 1), (.getfield 127, 3)], 47, .goto 28, 3), (50, [(.iload_n 1, 1), (.iconst 1, 1)], 52, .if_icmp .ne 7, 3), (55, [(.iload_n 2, 1)], 56, .goto 19, 3), (59, [(.iload_n 1, 1), (.iconst 2, 1)], 61, .if_icmp .ne 10, 3), (64, [(.aload_n 0, 1), (.getfield 190, 3)], 68, .goto 7, 3), (71, [(.aload_n 0, 1), (.getfield 253, 3)], 75, .nop, 0), (75, [], 75, .ireturn, 1)]
theorem bX10_countOf_ok : zBok cX10_countOf 4 bX10_countOf = true := by decide +kernel
abbrev wX10_countOf : List Cond := Cond.code yX10_countOf cX10_countOf 4 (some .int) :: uU
def rX10_countOf : Room := { frames := 0, cells := 0, slots := 0, locals := 0 }
set_option maxRecDepth 20000 in
set_option maxHeartbeats 4000000 in
theorem m_M_X10_countOf (l : Launch) (M0 : zM) (M3 : zM) (M4 : zM) (M5 : zM) (p1 : Int) (mL_letters : Int) (mL_from : Nat → Int) (mL_to : Nat → Int) (mL_forms : Nat → Int) (mL_costs : Nat → Int) (mL_cheapest : Nat → Int) (mL_fixed : Nat → Int) (mL_sumOf : Nat → Int) (mL_early : Nat → Int) (mL_late : Nat → Int) (mN_names : Int) (mN_lengths : Nat → Int) (mN_spelt : Nat → Int) (mN_signs : Nat → Int) (mN_table : Nat → Int) (mN_far : Nat → Int) (mB_kept : Int) (mB_box : Nat → Int) (x : Int) (h : f_X10_countOf p1 mL_letters mN_names mB_kept mL_forms = some x) : zD l yX10_countOf wX10_countOf rX10_countOf lamM shpM [(2, Int.ofNat 0), (0, p1)] [M0, ([mL_letters], [mL_from, mL_to, mL_forms, mL_costs, mL_cheapest, mL_fixed, mL_sumOf, mL_early, mL_late]), ([mN_names], [mN_lengths, mN_spelt, mN_signs, mN_table, mN_far]), M3, M4, M5, ([mB_kept], [mB_box])] (some (0, x)) [M0, ([mL_letters], [mL_from, mL_to, mL_forms, mL_costs, mL_cheapest, mL_fixed, mL_sumOf, mL_early, mL_late]), ([mN_names], [mN_lengths, mN_spelt, mN_signs, mN_table, mN_far]), M3, M4, M5, ([mB_kept], [mB_box])] := by
  refine zD_of (B := bX10_countOf) (E := eX10) (by decide) rfl lokM (eX10_ok _) bX10_countOf_ok (Or.inl rfl) rfl (fun S R => ?_)
  obtain ⟨rb, rg, ri, rv, rs, r0, r1, r2, r3, rt, rmk⟩ := R
  show S 0 [some (2, Int.ofNat 0), some (0, p1), none, none] [] [M0, ([mL_letters], [mL_from, mL_to, mL_forms, mL_costs, mL_cheapest, mL_fixed, mL_sumOf, mL_early, mL_late]), ([mN_names], [mN_lengths, mN_spelt, mN_signs, mN_table, mN_far]), M3, M4, M5, ([mB_kept], [mB_box])]
  have LP4 : ∀ (n : Nat) (v1 : Int) (v2 : Int) (v3 : Int) (mL_letters : Int) (mL_from : Nat → Int) (mL_to : Nat → Int) (mL_forms : Nat → Int) (mL_costs : Nat → Int) (mL_cheapest : Nat → Int) (mL_fixed : Nat → Int) (mL_sumOf : Nat → Int) (mL_early : Nat → Int) (mL_late : Nat → Int) (mN_names : Int) (mN_lengths : Nat → Int) (mN_spelt : Nat → Int) (mN_signs : Nat → Int) (mN_table : Nat → Int) (mN_far : Nat → Int) (mB_kept : Int) (mB_box : Nat → Int) (y : Int), l_X10_countOf_4 n v1 v2 v3 mL_letters mL_forms = some y → S 39 [some (2, Int.ofNat 0), some (0, v1), some (0, y), none] [] [M0, ([mL_letters], [mL_from, mL_to, mL_forms, mL_costs, mL_cheapest, mL_fixed, mL_sumOf, mL_early, mL_late]), ([mN_names], [mN_lengths, mN_spelt, mN_signs, mN_table, mN_far]), M3, M4, M5, ([mB_kept], [mB_box])] → S 4 [some (2, Int.ofNat 0), some (0, v1), some (0, v2), some (0, v3)] [] [M0, ([mL_letters], [mL_from, mL_to, mL_forms, mL_costs, mL_cheapest, mL_fixed, mL_sumOf, mL_early, mL_late]), ([mN_names], [mN_lengths, mN_spelt, mN_signs, mN_table, mN_far]), M3, M4, M5, ([mB_kept], [mB_box])] := by
    intro n
    induction n with
    | zero =>
      intro v1 v2 v3 mL_letters mL_from mL_to mL_forms mL_costs mL_cheapest mL_fixed mL_sumOf mL_early mL_late mN_names mN_lengths mN_spelt mN_signs mN_table mN_far mB_kept mB_box y h k
      rw [l_X10_countOf_4] at h
      cases h
    | succ n ih =>
      intro v1 v2 v3 mL_letters mL_from mL_to mL_forms mL_costs mL_cheapest mL_fixed mL_sumOf mL_early mL_late mN_names mN_lengths mN_spelt mN_signs mN_table mN_far mB_kept mB_box y h k
      rw [l_X10_countOf_4] at h
      obtain ⟨g1_0, h⟩ := zgd h
      refine ri false 1 (q := v3 < (8 * mL_letters)) (t1 := 15) (t2 := 39) rfl rfl g1_0 (fun c => ?_) (fun c => ?_)
      · replace h := zif1 c h
        obtain ⟨g2_0, h⟩ := zgd h
        refine ri false 2 (q := (mL_forms (Int.toNat v3)) = (-1)) (t1 := 26) (t2 := 30) (st2 := [(0, v2)]) rfl rfl g2_0 (fun c => ?_) (fun c => ?_)
        · replace h := zif1 c h
          refine rg false 3 (t := 31) (st2 := [(0, 0), (0, v2)]) rfl rfl rfl trivial ?_
          obtain ⟨⟨g3_0, g3_1⟩, h⟩ := zgd h
          refine rg false 5 (t := 4) (L2 := [some (2, Int.ofNat 0), some (0, v1), some (0, (v2 + 0)), some (0, (v3 + 1))]) rfl rfl rfl (And.intro g3_0 g3_1) ?_
          exact ih v1 (v2 + 0) (v3 + 1) mL_letters mL_from mL_to mL_forms mL_costs mL_cheapest mL_fixed mL_sumOf mL_early mL_late mN_names mN_lengths mN_spelt mN_signs mN_table mN_far mB_kept mB_box y h k
        · replace h := zif2 c h
          refine rb false 4 (st2 := [(0, 1), (0, v2)]) rfl rfl trivial ?_
          obtain ⟨⟨g4_0, g4_1⟩, h⟩ := zgd h
          refine rg false 5 (t := 4) (L2 := [some (2, Int.ofNat 0), some (0, v1), some (0, (v2 + 1)), some (0, (v3 + 1))]) rfl rfl rfl (And.intro g4_0 g4_1) ?_
          exact ih v1 (v2 + 1) (v3 + 1) mL_letters mL_from mL_to mL_forms mL_costs mL_cheapest mL_fixed mL_sumOf mL_early mL_late mN_names mN_lengths mN_spelt mN_signs mN_table mN_far mB_kept mB_box y h k
      · replace h := zif2 c h
        refine rmk [true, true, true, false] (L2 := [some (2, Int.ofNat 0), some (0, v1), some (0, v2), none]) rfl ?_
        obtain rfl := Option.some.inj h
        exact k
  unfold f_X10_countOf at h
  refine rb false 0 (L2 := [some (2, Int.ofNat 0), some (0, p1), some (0, 0), some (0, 0)]) rfl rfl trivial ?_
  obtain ⟨x5, hx5, h⟩ := zbd h
  refine LP4 zN p1 0 0 mL_letters mL_from mL_to mL_forms mL_costs mL_cheapest mL_fixed mL_sumOf mL_early mL_late mN_names mN_lengths mN_spelt mN_signs mN_table mN_far mB_kept mB_box x5 hx5 ?_
  refine ri false 6 (q := p1 = 0) (t1 := 43) (t2 := 50) rfl rfl trivial (fun c => ?_) (fun c => ?_)
  · replace h := zif1 c h
    refine rg false 7 (t := 75) (st2 := [(0, mL_letters)]) rfl rfl rfl trivial ?_
    obtain rfl := Option.some.inj h
    exact r1 false 13 rfl rfl rfl rfl rfl rfl trivial
  · replace h := zif2 c h
    refine ri false 8 (q := p1 = 1) (t1 := 55) (t2 := 59) rfl rfl trivial (fun c => ?_) (fun c => ?_)
    · replace h := zif1 c h
      refine rg false 9 (t := 75) (st2 := [(0, x5)]) rfl rfl rfl trivial ?_
      obtain rfl := Option.some.inj h
      exact r1 false 13 rfl rfl rfl rfl rfl rfl trivial
    · replace h := zif2 c h
      refine ri false 10 (q := p1 = 2) (t1 := 64) (t2 := 71) rfl rfl trivial (fun c => ?_) (fun c => ?_)
      · replace h := zif1 c h
        refine rg false 11 (t := 75) (st2 := [(0, mN_names)]) rfl rfl rfl trivial ?_
        obtain rfl := Option.some.inj h
        exact r1 false 13 rfl rfl rfl rfl rfl rfl trivial
      · replace h := zif2 c h
        refine rb false 12 (st2 := [(0, mB_kept)]) rfl rfl trivial ?_
        obtain rfl := Option.some.inj h
        exact r1 false 13 rfl rfl rfl rfl rfl rfl trivial
def bX10_count : zB := [(0, [(.iload_n 1, 1), (.i2l, 1), (.lconst 0, 1), (.ldc2_w 217, 3)], 6, .invokestatic 123, 3), (9, [], 9, .ifCond .eq 11, 3), (12, [(.aload_n 0, 1), (.iload_n 1, 1)], 14, .invokevirtual 258, 3), (17, [], 17, .goto 5, 3), (20, [(.bipush (-2), 2)], 22, .nop, 0), (22, [], 22, .ireturn, 1)]
theorem bX10_count_ok : zBok cX10_count 2 bX10_count = true := by decide +kernel
abbrev wX10_count : List Cond := Cond.code yX10_count cX10_count 2 (some .int) :: uU
def rX10_count : Room := { frames := 1, cells := 0, slots := 0, locals := 25 }
set_option maxRecDepth 20000 in
set_option maxHeartbeats 4000000 in
theorem m_M_X10_count (l : Launch) (M0 : zM) (M3 : zM) (M4 : zM) (M5 : zM) (p1 : Int) (mL_letters : Int) (mL_from : Nat → Int) (mL_to : Nat → Int) (mL_forms : Nat → Int) (mL_costs : Nat → Int) (mL_cheapest : Nat → Int) (mL_fixed : Nat → Int) (mL_sumOf : Nat → Int) (mL_early : Nat → Int) (mL_late : Nat → Int) (mN_names : Int) (mN_lengths : Nat → Int) (mN_spelt : Nat → Int) (mN_signs : Nat → Int) (mN_table : Nat → Int) (mN_far : Nat → Int) (mB_kept : Int) (mB_box : Nat → Int) (x : Int) (h : f_X10_count p1 mL_letters mN_names mB_kept mL_forms = some x) : zD l yX10_count wX10_count rX10_count lamM shpM [(2, Int.ofNat 0), (0, p1)] [M0, ([mL_letters], [mL_from, mL_to, mL_forms, mL_costs, mL_cheapest, mL_fixed, mL_sumOf, mL_early, mL_late]), ([mN_names], [mN_lengths, mN_spelt, mN_signs, mN_table, mN_far]), M3, M4, M5, ([mB_kept], [mB_box])] (some (0, x)) [M0, ([mL_letters], [mL_from, mL_to, mL_forms, mL_costs, mL_cheapest, mL_fixed, mL_sumOf, mL_early, mL_late]), ([mN_names], [mN_lengths, mN_spelt, mN_signs, mN_table, mN_far]), M3, M4, M5, ([mB_kept], [mB_box])] := by
  refine zD_of (B := bX10_count) (E := eX10) (by decide) rfl lokM (eX10_ok _) bX10_count_ok (Or.inl rfl) rfl (fun S R => ?_)
  obtain ⟨rb, rg, ri, rv, rs, r0, r1, r2, r3, rt, rmk⟩ := R
  show S 0 [some (2, Int.ofNat 0), some (0, p1)] [] [M0, ([mL_letters], [mL_from, mL_to, mL_forms, mL_costs, mL_cheapest, mL_fixed, mL_sumOf, mL_early, mL_late]), ([mN_names], [mN_lengths, mN_spelt, mN_signs, mN_table, mN_far]), M3, M4, M5, ([mB_kept], [mB_box])]
  unfold f_X10_count at h
  obtain ⟨x1, hx1, h⟩ := zbd h
  refine rs false 0 3 rfl rfl trivial rfl (m_M_X10_in l M0 ([mL_letters], [mL_from, mL_to, mL_forms, mL_costs, mL_cheapest, mL_fixed, mL_sumOf, mL_early, mL_late]) ([mN_names], [mN_lengths, mN_spelt, mN_signs, mN_table, mN_far]) M3 M4 M5 ([mB_kept], [mB_box]) p1 0 3 x1 hx1) ⟨_, _, _, _, rfl, rfl, rfl, by decide +kernel, ⟨Nat.le_of_ble_eq_true rfl, Nat.le_of_ble_eq_true rfl⟩, uGinS u_9_14 u_9_15 u_1_5 u_9_16⟩ ?_
  refine ri false 1 (q := x1 = 0) (t1 := 20) (t2 := 12) rfl rfl trivial (fun c => ?_) (fun c => ?_)
  · replace h := zif1 c h
    refine rb false 4 (st2 := [(0, (-2))]) rfl rfl trivial ?_
    obtain rfl := Option.some.inj h
    exact r1 false 5 rfl rfl rfl rfl rfl rfl trivial
  · replace h := zif2 c h
    obtain ⟨x2, hx2, h⟩ := zbd h
    refine rv false 2 1 rfl rfl trivial rfl (m_M_X10_countOf l M0 M3 M4 M5 p1 mL_letters mL_from mL_to mL_forms mL_costs mL_cheapest mL_fixed mL_sumOf mL_early mL_late mN_names mN_lengths mN_spelt mN_signs mN_table mN_far mB_kept mB_box x2 hx2) ⟨_, _, _, _, rfl, rfl, rfl, by decide +kernel, ⟨Nat.le_of_ble_eq_true rfl, Nat.le_of_ble_eq_true rfl⟩, uGin u_40_16 u_40_17 u_40_18 u_1_5 u_40_19⟩ ⟨rfl, _, _, _, rfl, rfl⟩ ?_
    refine rg false 3 (t := 22) (st2 := [(0, x2)]) rfl rfl rfl trivial ?_
    obtain rfl := Option.some.inj h
    exact r1 false 5 rfl rfl rfl rfl rfl rfl trivial
def bX10_mixed : zB := [(0, [(.lload_n 0, 1), (.lstore 5, 2), (.iconst 0, 1), (.istore 7, 2)], 6, .nop, 0), (6, [(.iload 7, 2), (.iload 4, 2)], 10, .if_icmp .ge 25, 3), (13, [(.ldc2_w 261, 3), (.lload 5, 2), (.lmul, 1), (.aload_n 2, 1), (.iload_n 3, 1), (.iload 7, 2), (.iadd, 1), (.iaload, 1), (.i2l, 1), (.ladd, 1), (.lstore 5, 2)], 29, .nop, 0), (29, [(.iinc 7 1, 3)], 32, .goto (-26), 3), (35, [(.lload 5, 2)], 37, .lreturn, 1)]
theorem bX10_mixed_ok : zBok cX10_mixed 8 bX10_mixed = true := by decide +kernel
abbrev wX10_mixed : List Cond := Cond.code yX10_mixed cX10_mixed 8 (some .long) :: uU
def rX10_mixed : Room := { frames := 0, cells := 0, slots := 0, locals := 0 }
set_option maxRecDepth 20000 in
set_option maxHeartbeats 4000000 in
theorem m_M_X10_mixed_5 (l : Launch) (M0 : zM) (M2 : zM) (M3 : zM) (M4 : zM) (M5 : zM) (M6 : zM) (p0 : Int) (p3 : Int) (p4 : Int) (mL_letters : Int) (mL_from : Nat → Int) (mL_to : Nat → Int) (row : Nat → Int) (mL_costs : Nat → Int) (mL_cheapest : Nat → Int) (mL_fixed : Nat → Int) (mL_sumOf : Nat → Int) (mL_early : Nat → Int) (mL_late : Nat → Int) (x : Int) (h : f_X10_mixed_64 p0 p3 p4 row = some x) : zD l yX10_mixed wX10_mixed rX10_mixed lamM shpM [(1, p0), (2, Int.ofNat 5), (0, p3), (0, p4)] [M0, ([mL_letters], [mL_from, mL_to, row, mL_costs, mL_cheapest, mL_fixed, mL_sumOf, mL_early, mL_late]), M2, M3, M4, M5, M6] (some (1, x)) [M0, ([mL_letters], [mL_from, mL_to, row, mL_costs, mL_cheapest, mL_fixed, mL_sumOf, mL_early, mL_late]), M2, M3, M4, M5, M6] := by
  refine zD_of (B := bX10_mixed) (E := eX10) (by decide) rfl lokM (eX10_ok _) bX10_mixed_ok (Or.inl rfl) rfl (fun S R => ?_)
  obtain ⟨rb, rg, ri, rv, rs, r0, r1, r2, r3, rt, rmk⟩ := R
  show S 0 [some (1, p0), none, some (2, Int.ofNat 5), some (0, p3), some (0, p4), none, none, none] [] [M0, ([mL_letters], [mL_from, mL_to, row, mL_costs, mL_cheapest, mL_fixed, mL_sumOf, mL_early, mL_late]), M2, M3, M4, M5, M6]
  have LP6 : ∀ (n : Nat) (v3 : Int) (v4 : Int) (v5 : Int) (v7 : Int) (mL_letters : Int) (mL_from : Nat → Int) (mL_to : Nat → Int) (row : Nat → Int) (mL_costs : Nat → Int) (mL_cheapest : Nat → Int) (mL_fixed : Nat → Int) (mL_sumOf : Nat → Int) (mL_early : Nat → Int) (mL_late : Nat → Int) (y : Int), l_X10_mixed_64_6 n v3 v4 v5 v7 row = some y → S 35 [none, none, none, none, none, some (1, y), none, none] [] [M0, ([mL_letters], [mL_from, mL_to, row, mL_costs, mL_cheapest, mL_fixed, mL_sumOf, mL_early, mL_late]), M2, M3, M4, M5, M6] → S 6 [none, none, some (2, Int.ofNat 5), some (0, v3), some (0, v4), some (1, v5), none, some (0, v7)] [] [M0, ([mL_letters], [mL_from, mL_to, row, mL_costs, mL_cheapest, mL_fixed, mL_sumOf, mL_early, mL_late]), M2, M3, M4, M5, M6] := by
    intro n
    induction n with
    | zero =>
      intro v3 v4 v5 v7 mL_letters mL_from mL_to row mL_costs mL_cheapest mL_fixed mL_sumOf mL_early mL_late y h k
      rw [l_X10_mixed_64_6] at h
      cases h
    | succ n ih =>
      intro v3 v4 v5 v7 mL_letters mL_from mL_to row mL_costs mL_cheapest mL_fixed mL_sumOf mL_early mL_late y h k
      rw [l_X10_mixed_64_6] at h
      refine ri true 1 (q := v7 < v4) (t1 := 13) (t2 := 35) rfl rfl trivial (fun c => ?_) (fun c => ?_)
      · replace h := zif1 c h
        obtain ⟨g1_0, h⟩ := zgd h
        refine rb true 2 (L2 := [none, none, some (2, Int.ofNat 5), some (0, v3), some (0, v4), some (1, (zwl ((31 * v5) + (row (Int.toNat (v3 + v7)))))), none, some (0, v7)]) rfl rfl g1_0 ?_
        obtain ⟨g2_0, h⟩ := zgd h
        refine rg true 3 (t := 6) (L2 := [none, none, some (2, Int.ofNat 5), some (0, v3), some (0, v4), some (1, (zwl ((31 * v5) + (row (Int.toNat (v3 + v7)))))), none, some (0, (v7 + 1))]) rfl rfl rfl g2_0 ?_
        exact ih v3 v4 (zwl ((31 * v5) + (row (Int.toNat (v3 + v7))))) (v7 + 1) mL_letters mL_from mL_to row mL_costs mL_cheapest mL_fixed mL_sumOf mL_early mL_late y h k
      · replace h := zif2 c h
        refine rmk [false, false, false, false, false, true, false, false] (L2 := [none, none, none, none, none, some (1, v5), none, none]) rfl ?_
        obtain rfl := Option.some.inj h
        exact k
  unfold f_X10_mixed_64 at h
  refine rb true 0 (L2 := [some (1, p0), none, some (2, Int.ofNat 5), some (0, p3), some (0, p4), some (1, p0), none, some (0, 0)]) rfl rfl trivial ?_
  refine rmk [false, false, true, true, true, true, false, true] (L2 := [none, none, some (2, Int.ofNat 5), some (0, p3), some (0, p4), some (1, p0), none, some (0, 0)]) rfl ?_
  obtain ⟨x3, hx3, h⟩ := zbd h
  refine LP6 zN p3 p4 p0 0 mL_letters mL_from mL_to row mL_costs mL_cheapest mL_fixed mL_sumOf mL_early mL_late x3 hx3 ?_
  obtain rfl := Option.some.inj h
  exact r3 true 4 rfl rfl rfl rfl rfl rfl trivial
set_option maxRecDepth 20000 in
set_option maxHeartbeats 4000000 in
theorem m_M_X10_mixed_6 (l : Launch) (M0 : zM) (M2 : zM) (M3 : zM) (M4 : zM) (M5 : zM) (M6 : zM) (p0 : Int) (p3 : Int) (p4 : Int) (mL_letters : Int) (mL_from : Nat → Int) (mL_to : Nat → Int) (mL_forms : Nat → Int) (row : Nat → Int) (mL_cheapest : Nat → Int) (mL_fixed : Nat → Int) (mL_sumOf : Nat → Int) (mL_early : Nat → Int) (mL_late : Nat → Int) (x : Int) (h : f_X10_mixed_5 p0 p3 p4 row = some x) : zD l yX10_mixed wX10_mixed rX10_mixed lamM shpM [(1, p0), (2, Int.ofNat 6), (0, p3), (0, p4)] [M0, ([mL_letters], [mL_from, mL_to, mL_forms, row, mL_cheapest, mL_fixed, mL_sumOf, mL_early, mL_late]), M2, M3, M4, M5, M6] (some (1, x)) [M0, ([mL_letters], [mL_from, mL_to, mL_forms, row, mL_cheapest, mL_fixed, mL_sumOf, mL_early, mL_late]), M2, M3, M4, M5, M6] := by
  refine zD_of (B := bX10_mixed) (E := eX10) (by decide) rfl lokM (eX10_ok _) bX10_mixed_ok (Or.inl rfl) rfl (fun S R => ?_)
  obtain ⟨rb, rg, ri, rv, rs, r0, r1, r2, r3, rt, rmk⟩ := R
  show S 0 [some (1, p0), none, some (2, Int.ofNat 6), some (0, p3), some (0, p4), none, none, none] [] [M0, ([mL_letters], [mL_from, mL_to, mL_forms, row, mL_cheapest, mL_fixed, mL_sumOf, mL_early, mL_late]), M2, M3, M4, M5, M6]
  have LP6 : ∀ (n : Nat) (v3 : Int) (v4 : Int) (v5 : Int) (v7 : Int) (mL_letters : Int) (mL_from : Nat → Int) (mL_to : Nat → Int) (mL_forms : Nat → Int) (row : Nat → Int) (mL_cheapest : Nat → Int) (mL_fixed : Nat → Int) (mL_sumOf : Nat → Int) (mL_early : Nat → Int) (mL_late : Nat → Int) (y : Int), l_X10_mixed_5_6 n v3 v4 v5 v7 row = some y → S 35 [none, none, none, none, none, some (1, y), none, none] [] [M0, ([mL_letters], [mL_from, mL_to, mL_forms, row, mL_cheapest, mL_fixed, mL_sumOf, mL_early, mL_late]), M2, M3, M4, M5, M6] → S 6 [none, none, some (2, Int.ofNat 6), some (0, v3), some (0, v4), some (1, v5), none, some (0, v7)] [] [M0, ([mL_letters], [mL_from, mL_to, mL_forms, row, mL_cheapest, mL_fixed, mL_sumOf, mL_early, mL_late]), M2, M3, M4, M5, M6] := by
    intro n
    induction n with
    | zero =>
      intro v3 v4 v5 v7 mL_letters mL_from mL_to mL_forms row mL_cheapest mL_fixed mL_sumOf mL_early mL_late y h k
      rw [l_X10_mixed_5_6] at h
      cases h
    | succ n ih =>
      intro v3 v4 v5 v7 mL_letters mL_from mL_to mL_forms row mL_cheapest mL_fixed mL_sumOf mL_early mL_late y h k
      rw [l_X10_mixed_5_6] at h
      refine ri true 1 (q := v7 < v4) (t1 := 13) (t2 := 35) rfl rfl trivial (fun c => ?_) (fun c => ?_)
      · replace h := zif1 c h
        obtain ⟨g1_0, h⟩ := zgd h
        refine rb true 2 (L2 := [none, none, some (2, Int.ofNat 6), some (0, v3), some (0, v4), some (1, (zwl ((31 * v5) + (row (Int.toNat (v3 + v7)))))), none, some (0, v7)]) rfl rfl g1_0 ?_
        obtain ⟨g2_0, h⟩ := zgd h
        refine rg true 3 (t := 6) (L2 := [none, none, some (2, Int.ofNat 6), some (0, v3), some (0, v4), some (1, (zwl ((31 * v5) + (row (Int.toNat (v3 + v7)))))), none, some (0, (v7 + 1))]) rfl rfl rfl g2_0 ?_
        exact ih v3 v4 (zwl ((31 * v5) + (row (Int.toNat (v3 + v7))))) (v7 + 1) mL_letters mL_from mL_to mL_forms row mL_cheapest mL_fixed mL_sumOf mL_early mL_late y h k
      · replace h := zif2 c h
        refine rmk [false, false, false, false, false, true, false, false] (L2 := [none, none, none, none, none, some (1, v5), none, none]) rfl ?_
        obtain rfl := Option.some.inj h
        exact k
  unfold f_X10_mixed_5 at h
  refine rb true 0 (L2 := [some (1, p0), none, some (2, Int.ofNat 6), some (0, p3), some (0, p4), some (1, p0), none, some (0, 0)]) rfl rfl trivial ?_
  refine rmk [false, false, true, true, true, true, false, true] (L2 := [none, none, some (2, Int.ofNat 6), some (0, p3), some (0, p4), some (1, p0), none, some (0, 0)]) rfl ?_
  obtain ⟨x3, hx3, h⟩ := zbd h
  refine LP6 zN p3 p4 p0 0 mL_letters mL_from mL_to mL_forms row mL_cheapest mL_fixed mL_sumOf mL_early mL_late x3 hx3 ?_
  obtain rfl := Option.some.inj h
  exact r3 true 4 rfl rfl rfl rfl rfl rfl trivial
set_option maxRecDepth 20000 in
set_option maxHeartbeats 4000000 in
theorem m_M_X10_mixed_17 (l : Launch) (M0 : zM) (M1 : zM) (M2 : zM) (M4 : zM) (M5 : zM) (M6 : zM) (p0 : Int) (p3 : Int) (p4 : Int) (row : Nat → Int) (x : Int) (h : f_X10_mixed_10 p0 p3 p4 row = some x) : zD l yX10_mixed wX10_mixed rX10_mixed lamM shpM [(1, p0), (2, Int.ofNat 17), (0, p3), (0, p4)] [M0, M1, M2, ([], [row]), M4, M5, M6] (some (1, x)) [M0, M1, M2, ([], [row]), M4, M5, M6] := by
  refine zD_of (B := bX10_mixed) (E := eX10) (by decide) rfl lokM (eX10_ok _) bX10_mixed_ok (Or.inl rfl) rfl (fun S R => ?_)
  obtain ⟨rb, rg, ri, rv, rs, r0, r1, r2, r3, rt, rmk⟩ := R
  show S 0 [some (1, p0), none, some (2, Int.ofNat 17), some (0, p3), some (0, p4), none, none, none] [] [M0, M1, M2, ([], [row]), M4, M5, M6]
  have LP6 : ∀ (n : Nat) (v3 : Int) (v4 : Int) (v5 : Int) (v7 : Int) (row : Nat → Int) (y : Int), l_X10_mixed_10_6 n v3 v4 v5 v7 row = some y → S 35 [none, none, none, none, none, some (1, y), none, none] [] [M0, M1, M2, ([], [row]), M4, M5, M6] → S 6 [none, none, some (2, Int.ofNat 17), some (0, v3), some (0, v4), some (1, v5), none, some (0, v7)] [] [M0, M1, M2, ([], [row]), M4, M5, M6] := by
    intro n
    induction n with
    | zero =>
      intro v3 v4 v5 v7 row y h k
      rw [l_X10_mixed_10_6] at h
      cases h
    | succ n ih =>
      intro v3 v4 v5 v7 row y h k
      rw [l_X10_mixed_10_6] at h
      refine ri true 1 (q := v7 < v4) (t1 := 13) (t2 := 35) rfl rfl trivial (fun c => ?_) (fun c => ?_)
      · replace h := zif1 c h
        obtain ⟨g1_0, h⟩ := zgd h
        refine rb true 2 (L2 := [none, none, some (2, Int.ofNat 17), some (0, v3), some (0, v4), some (1, (zwl ((31 * v5) + (row (Int.toNat (v3 + v7)))))), none, some (0, v7)]) rfl rfl g1_0 ?_
        obtain ⟨g2_0, h⟩ := zgd h
        refine rg true 3 (t := 6) (L2 := [none, none, some (2, Int.ofNat 17), some (0, v3), some (0, v4), some (1, (zwl ((31 * v5) + (row (Int.toNat (v3 + v7)))))), none, some (0, (v7 + 1))]) rfl rfl rfl g2_0 ?_
        exact ih v3 v4 (zwl ((31 * v5) + (row (Int.toNat (v3 + v7))))) (v7 + 1) row y h k
      · replace h := zif2 c h
        refine rmk [false, false, false, false, false, true, false, false] (L2 := [none, none, none, none, none, some (1, v5), none, none]) rfl ?_
        obtain rfl := Option.some.inj h
        exact k
  unfold f_X10_mixed_10 at h
  refine rb true 0 (L2 := [some (1, p0), none, some (2, Int.ofNat 17), some (0, p3), some (0, p4), some (1, p0), none, some (0, 0)]) rfl rfl trivial ?_
  refine rmk [false, false, true, true, true, true, false, true] (L2 := [none, none, some (2, Int.ofNat 17), some (0, p3), some (0, p4), some (1, p0), none, some (0, 0)]) rfl ?_
  obtain ⟨x3, hx3, h⟩ := zbd h
  refine LP6 zN p3 p4 p0 0 row x3 hx3 ?_
  obtain rfl := Option.some.inj h
  exact r3 true 4 rfl rfl rfl rfl rfl rfl trivial
set_option maxRecDepth 20000 in
set_option maxHeartbeats 4000000 in
theorem m_M_X10_mixed_26 (l : Launch) (M0 : zM) (M1 : zM) (M2 : zM) (M3 : zM) (M4 : zM) (M5 : zM) (p0 : Int) (p3 : Int) (p4 : Int) (mB_kept : Int) (row : Nat → Int) (x : Int) (h : f_X10_mixed_40 p0 p3 p4 row = some x) : zD l yX10_mixed wX10_mixed rX10_mixed lamM shpM [(1, p0), (2, Int.ofNat 26), (0, p3), (0, p4)] [M0, M1, M2, M3, M4, M5, ([mB_kept], [row])] (some (1, x)) [M0, M1, M2, M3, M4, M5, ([mB_kept], [row])] := by
  refine zD_of (B := bX10_mixed) (E := eX10) (by decide) rfl lokM (eX10_ok _) bX10_mixed_ok (Or.inl rfl) rfl (fun S R => ?_)
  obtain ⟨rb, rg, ri, rv, rs, r0, r1, r2, r3, rt, rmk⟩ := R
  show S 0 [some (1, p0), none, some (2, Int.ofNat 26), some (0, p3), some (0, p4), none, none, none] [] [M0, M1, M2, M3, M4, M5, ([mB_kept], [row])]
  have LP6 : ∀ (n : Nat) (v3 : Int) (v4 : Int) (v5 : Int) (v7 : Int) (mB_kept : Int) (row : Nat → Int) (y : Int), l_X10_mixed_40_6 n v3 v4 v5 v7 row = some y → S 35 [none, none, none, none, none, some (1, y), none, none] [] [M0, M1, M2, M3, M4, M5, ([mB_kept], [row])] → S 6 [none, none, some (2, Int.ofNat 26), some (0, v3), some (0, v4), some (1, v5), none, some (0, v7)] [] [M0, M1, M2, M3, M4, M5, ([mB_kept], [row])] := by
    intro n
    induction n with
    | zero =>
      intro v3 v4 v5 v7 mB_kept row y h k
      rw [l_X10_mixed_40_6] at h
      cases h
    | succ n ih =>
      intro v3 v4 v5 v7 mB_kept row y h k
      rw [l_X10_mixed_40_6] at h
      refine ri true 1 (q := v7 < v4) (t1 := 13) (t2 := 35) rfl rfl trivial (fun c => ?_) (fun c => ?_)
      · replace h := zif1 c h
        obtain ⟨g1_0, h⟩ := zgd h
        refine rb true 2 (L2 := [none, none, some (2, Int.ofNat 26), some (0, v3), some (0, v4), some (1, (zwl ((31 * v5) + (row (Int.toNat (v3 + v7)))))), none, some (0, v7)]) rfl rfl g1_0 ?_
        obtain ⟨g2_0, h⟩ := zgd h
        refine rg true 3 (t := 6) (L2 := [none, none, some (2, Int.ofNat 26), some (0, v3), some (0, v4), some (1, (zwl ((31 * v5) + (row (Int.toNat (v3 + v7)))))), none, some (0, (v7 + 1))]) rfl rfl rfl g2_0 ?_
        exact ih v3 v4 (zwl ((31 * v5) + (row (Int.toNat (v3 + v7))))) (v7 + 1) mB_kept row y h k
      · replace h := zif2 c h
        refine rmk [false, false, false, false, false, true, false, false] (L2 := [none, none, none, none, none, some (1, v5), none, none]) rfl ?_
        obtain rfl := Option.some.inj h
        exact k
  unfold f_X10_mixed_40 at h
  refine rb true 0 (L2 := [some (1, p0), none, some (2, Int.ofNat 26), some (0, p3), some (0, p4), some (1, p0), none, some (0, 0)]) rfl rfl trivial ?_
  refine rmk [false, false, true, true, true, true, false, true] (L2 := [none, none, some (2, Int.ofNat 26), some (0, p3), some (0, p4), some (1, p0), none, some (0, 0)]) rfl ?_
  obtain ⟨x3, hx3, h⟩ := zbd h
  refine LP6 zN p3 p4 p0 0 mB_kept row x3 hx3 ?_
  obtain rfl := Option.some.inj h
  exact r3 true 4 rfl rfl rfl rfl rfl rfl trivial
set_option maxRecDepth 20000 in
set_option maxHeartbeats 4000000 in
theorem m_M_X10_mixed_1 (l : Launch) (M1 : zM) (M2 : zM) (M3 : zM) (M4 : zM) (M5 : zM) (M6 : zM) (p0 : Int) (p3 : Int) (p4 : Int) (row : Nat → Int) (mK_wide : Nat → Int) (x : Int) (h : f_X10_mixed_630 p0 p3 p4 row = some x) : zD l yX10_mixed wX10_mixed rX10_mixed lamM shpM [(1, p0), (2, Int.ofNat 1), (0, p3), (0, p4)] [([], [row, mK_wide]), M1, M2, M3, M4, M5, M6] (some (1, x)) [([], [row, mK_wide]), M1, M2, M3, M4, M5, M6] := by
  refine zD_of (B := bX10_mixed) (E := eX10) (by decide) rfl lokM (eX10_ok _) bX10_mixed_ok (Or.inl rfl) rfl (fun S R => ?_)
  obtain ⟨rb, rg, ri, rv, rs, r0, r1, r2, r3, rt, rmk⟩ := R
  show S 0 [some (1, p0), none, some (2, Int.ofNat 1), some (0, p3), some (0, p4), none, none, none] [] [([], [row, mK_wide]), M1, M2, M3, M4, M5, M6]
  have LP6 : ∀ (n : Nat) (v3 : Int) (v4 : Int) (v5 : Int) (v7 : Int) (row : Nat → Int) (mK_wide : Nat → Int) (y : Int), l_X10_mixed_630_6 n v3 v4 v5 v7 row = some y → S 35 [none, none, none, none, none, some (1, y), none, none] [] [([], [row, mK_wide]), M1, M2, M3, M4, M5, M6] → S 6 [none, none, some (2, Int.ofNat 1), some (0, v3), some (0, v4), some (1, v5), none, some (0, v7)] [] [([], [row, mK_wide]), M1, M2, M3, M4, M5, M6] := by
    intro n
    induction n with
    | zero =>
      intro v3 v4 v5 v7 row mK_wide y h k
      rw [l_X10_mixed_630_6] at h
      cases h
    | succ n ih =>
      intro v3 v4 v5 v7 row mK_wide y h k
      rw [l_X10_mixed_630_6] at h
      refine ri true 1 (q := v7 < v4) (t1 := 13) (t2 := 35) rfl rfl trivial (fun c => ?_) (fun c => ?_)
      · replace h := zif1 c h
        obtain ⟨g1_0, h⟩ := zgd h
        refine rb true 2 (L2 := [none, none, some (2, Int.ofNat 1), some (0, v3), some (0, v4), some (1, (zwl ((31 * v5) + (row (Int.toNat (v3 + v7)))))), none, some (0, v7)]) rfl rfl g1_0 ?_
        obtain ⟨g2_0, h⟩ := zgd h
        refine rg true 3 (t := 6) (L2 := [none, none, some (2, Int.ofNat 1), some (0, v3), some (0, v4), some (1, (zwl ((31 * v5) + (row (Int.toNat (v3 + v7)))))), none, some (0, (v7 + 1))]) rfl rfl rfl g2_0 ?_
        exact ih v3 v4 (zwl ((31 * v5) + (row (Int.toNat (v3 + v7))))) (v7 + 1) row mK_wide y h k
      · replace h := zif2 c h
        refine rmk [false, false, false, false, false, true, false, false] (L2 := [none, none, none, none, none, some (1, v5), none, none]) rfl ?_
        obtain rfl := Option.some.inj h
        exact k
  unfold f_X10_mixed_630 at h
  refine rb true 0 (L2 := [some (1, p0), none, some (2, Int.ofNat 1), some (0, p3), some (0, p4), some (1, p0), none, some (0, 0)]) rfl rfl trivial ?_
  refine rmk [false, false, true, true, true, true, false, true] (L2 := [none, none, some (2, Int.ofNat 1), some (0, p3), some (0, p4), some (1, p0), none, some (0, 0)]) rfl ?_
  obtain ⟨x3, hx3, h⟩ := zbd h
  refine LP6 zN p3 p4 p0 0 row mK_wide x3 hx3 ?_
  obtain rfl := Option.some.inj h
  exact r3 true 4 rfl rfl rfl rfl rfl rfl trivial
def bX10_digest : zB := [(0, [(.ldc2_w 263, 3), (.lstore_n 1, 1), (.iconst 0, 1), (.istore_n 3, 1)], 6, .nop, 0), (6, [(.iload_n 3, 1), (.iconst 4, 1)], 8, .if_icmp .ge 22, 3), (11, [(.ldc2_w 261, 3), (.lload_n 1, 1), (.lmul, 1), (.aload_n 0, 1), (.iload_n 3, 1)], 18, .invokevirtual 258, 3), (21, [(.i2l, 1), (.ladd, 1), (.lstore_n 1, 1), (.iinc 3 1, 3)], 27, .goto (-21), 3), (30, [(.iconst 0, 1), (.istore_n 3, 1)], 32, .nop, 0), (32, [(.iload_n 3, 1), (.aload_n 0, 1), (.getfield 127, 3)], 37, .if_icmp .ge 48, 3), (40, [(.ldc2_w 261, 3), (.ldc2_w 261, 3), (.lload_n 1, 1), (.lmul, 1), (.aload_n 0, 1), (.getfield 16, 3), (.iload_n 3, 1), (.iaload, 1), (.i2l, 1), (.ladd, 1), (.lmul, 1), (.aload_n 0, 1), (.getfield 19, 3), (.iload_n 3, 1), (.iaload, 1), (.i2l, 1), (.ladd, 1), (.aload_n 0, 1), (.getfield 22, 3), (.bipush 8, 2), (.iload_n 3, 1), (.imul, 1), (.bipush 8, 2)], 75, .invokestatic 265, 3), (78, [(.lstore_n 1, 1), (.iinc 3 1, 3)], 82, .goto (-50), 3), (85, [(.lload_n 1, 1), (.aload_n 0, 1), (.getfield 25, 3), (.iconst 0, 1), (.iconst 5, 1)], 92, .invokestatic 265, 3), (95, [(.lstore_n 1, 1), (.iconst 0, 1), (.istore_n 3, 1)], 98, .nop, 0), (98, [(.iload_n 3, 1), (.aload_n 0, 1), (.getfield 190, 3)], 103, .if_icmp .ge 35, 3), (106, [(.ldc2_w 261, 3), (.ldc2_w 261, 3), (.lload_n 1, 1), (.lmul, 1), (.aload_n 0, 1), (.getfield 43, 3), (.iload_n 3, 1), (.iaload, 1), (.i2l, 1), (.ladd, 1), (.lmul, 1), (.aload_n 0, 1), (.getfield 46, 3), (.iload_n 3, 1), (.iaload, 1), (.i2l, 1), (.ladd, 1), (.lstore_n 1, 1)], 132, .nop, 0), (132, [(.iinc 3 1, 3)], 135, .goto (-37), 3), (138, [(.lload_n 1, 1), (.aload_n 0, 1), (.getfield 58, 3), (.iconst 0, 1), (.bipush 10, 2)], 146, .invokestatic 265, 3), (149, [(.lstore_n 1, 1), (.iconst 1, 1), (.istore_n 3, 1)], 152, .nop, 0), (152, [(.iload_n 3, 1), (.bipush 10, 2)], 155, .if_icmp .ge 35, 3), (158, [(.ldc2_w 261, 3), (.ldc2_w 261, 3), (.lload_n 1, 1), (.lmul, 1), (.aload_n 0, 1), (.getfield 61, 3), (.iload_n 3, 1), (.iaload, 1), (.i2l, 1), (.ladd, 1), (.lmul, 1), (.aload_n 0, 1), (.getfield 64, 3), (.iload_n 3, 1), (.iaload, 1), (.i2l, 1), (.ladd, 1), (.lstore_n 1, 1)], 184, .nop, 0), (184, [(.iinc 3 1, 3)], 187, .goto (-35), 3), (190, [(.iconst 0, 1), (.istore_n 3, 1)], 192, .nop, 0), (192, [(.iload_n 3, 1), (.bipush 10, 2)], 195, .if_icmp .ge 59, 3), (198, [(.ldc2_w 261, 3), (.ldc2_w 261, 3), (.ldc2_w 261, 3), (.ldc2_w 261, 3), (.lload_n 1, 1), (.lmul, 1), (.aload_n 0, 1), (.getfield 67, 3), (.iload_n 3, 1), (.iaload, 1), (.i2l, 1), (.ladd, 1), (.lmul, 1), (.aload_n 0, 1), (.getfield 70, 3), (.iload_n 3, 1), (.iaload, 1), (.i2l, 1), (.ladd, 1), (.lmul, 1), (.aload_n 0, 1), (.getfield 73, 3), (.iload_n 3, 1), (.iaload, 1), (.i2l, 1), (.ladd, 1), (.lmul, 1), (.aload_n 0, 1), (.getfield 76, 3), (.iload_n 3, 1), (.iaload, 1), (.i2l, 1), (.ladd, 1), (.lstore_n 1, 1)], 248, .nop, 0), (248, [(.iinc 3 1, 3)], 251, .goto (-59), 3), (254, [(.ldc2_w 261, 3), (.lload_n 1, 1), (.aload_n 0, 1), (.getfield 85, 3), (.iconst 0, 1), (.aload_n 0, 1), (.getfield 253, 3)], 267, .invokestatic 265, 3), (270, [(.lmul, 1), (.aload_n 0, 1)], 272, .invokevirtual 182, 3), (275, [(.i2l, 1), (.ladd, 1), (.lstore_n 1, 1), (.iconst 0, 1), (.istore_n 3, 1)], 280, .nop, 0), (280, [(.iload_n 3, 1), (.iconst 3, 1)], 282, .if_icmp .ge 22, 3), (285, [(.ldc2_w 261, 3), (.lload_n 1, 1), (.lmul, 1), (.aload_n 0, 1), (.iload_n 3, 1)], 292, .invokevirtual 269, 3), (295, [(.i2l, 1), (.ladd, 1), (.lstore_n 1, 1), (.iinc 3 1, 3)], 301, .goto (-21), 3), (304, [(.iconst 0, 1), (.istore_n 3, 1)], 306, .nop, 0), (306, [(.iload_n 3, 1), (.iconst 2, 1)], 308, .if_icmp .ge 28, 3), (311, [(.lload_n 1, 1), (.aload_n 0, 1), (.getfield 7, 3), (.bipush 70, 2), (.iload_n 3, 1), (.imul, 1), (.aload_n 0, 1), (.getfield 13, 3), (.iload_n 3, 1), (.iaload, 1)], 326, .invokestatic 265, 3), (329, [(.lstore_n 1, 1), (.iinc 3 1, 3)], 333, .goto (-27), 3), (336, [(.lload_n 1, 1)], 337, .lreturn, 1)]
theorem bX10_digest_ok : zBok cX10_digest 4 bX10_digest = true := by decide +kernel
abbrev wX10_digest : List Cond := Cond.code yX10_digest cX10_digest 4 (some .long) :: uU
def rX10_digest : Room := { frames := 5, cells := 0, slots := 0, locals := 115 }
set_option maxRecDepth 20000 in
set_option maxHeartbeats 4000000 in
theorem m_M_X10_digest (l : Launch) (mK_limbs : Nat → Int) (mK_wide : Nat → Int) (mL_letters : Int) (mL_from : Nat → Int) (mL_to : Nat → Int) (mL_forms : Nat → Int) (mL_costs : Nat → Int) (mL_cheapest : Nat → Int) (mL_fixed : Nat → Int) (mL_sumOf : Nat → Int) (mL_early : Nat → Int) (mL_late : Nat → Int) (mN_names : Int) (mN_lengths : Nat → Int) (mN_spelt : Nat → Int) (mN_signs : Nat → Int) (mN_table : Nat → Int) (mN_far : Nat → Int) (mH_habits : Nat → Int) (mA_doIt : Nat → Int) (mA_askOf : Nat → Int) (mE_others : Nat → Int) (mE_copies : Nat → Int) (mE_odds : Nat → Int) (mE_often : Nat → Int) (mE_got : Nat → Int) (mE_did : Nat → Int) (mB_kept : Int) (mB_box : Nat → Int) (x : Int × (Nat → Int) × (Nat → Int) × (Nat → Int)) (h : f_X10_digest mL_letters mN_names mB_kept mK_limbs mK_wide mL_from mL_to mL_forms mL_costs mL_cheapest mL_fixed mL_sumOf mN_lengths mN_spelt mH_habits mA_doIt mA_askOf mE_others mE_copies mE_odds mE_often mB_box = some x) : zD l yX10_digest wX10_digest rX10_digest lamM shpM [(2, Int.ofNat 0)] [([], [mK_limbs, mK_wide]), ([mL_letters], [mL_from, mL_to, mL_forms, mL_costs, mL_cheapest, mL_fixed, mL_sumOf, mL_early, mL_late]), ([mN_names], [mN_lengths, mN_spelt, mN_signs, mN_table, mN_far]), ([], [mH_habits]), ([], [mA_doIt, mA_askOf]), ([], [mE_others, mE_copies, mE_odds, mE_often, mE_got, mE_did]), ([mB_kept], [mB_box])] (some (1, x.1)) [([], [mK_limbs, mK_wide]), ([mL_letters], [mL_from, mL_to, mL_forms, mL_costs, x.2.1, x.2.2.1, x.2.2.2, mL_early, mL_late]), ([mN_names], [mN_lengths, mN_spelt, mN_signs, mN_table, mN_far]), ([], [mH_habits]), ([], [mA_doIt, mA_askOf]), ([], [mE_others, mE_copies, mE_odds, mE_often, mE_got, mE_did]), ([mB_kept], [mB_box])] := by
  refine zD_of (B := bX10_digest) (E := eX10) (by decide) rfl lokM (eX10_ok _) bX10_digest_ok (Or.inl rfl) rfl (fun S R => ?_)
  obtain ⟨rb, rg, ri, rv, rs, r0, r1, r2, r3, rt, rmk⟩ := R
  show S 0 [some (2, Int.ofNat 0), none, none, none] [] [([], [mK_limbs, mK_wide]), ([mL_letters], [mL_from, mL_to, mL_forms, mL_costs, mL_cheapest, mL_fixed, mL_sumOf, mL_early, mL_late]), ([mN_names], [mN_lengths, mN_spelt, mN_signs, mN_table, mN_far]), ([], [mH_habits]), ([], [mA_doIt, mA_askOf]), ([], [mE_others, mE_copies, mE_odds, mE_often, mE_got, mE_did]), ([mB_kept], [mB_box])]
  have LP6 : ∀ (n : Nat) (v1 : Int) (v3 : Int) (mK_limbs : Nat → Int) (mK_wide : Nat → Int) (mL_letters : Int) (mL_from : Nat → Int) (mL_to : Nat → Int) (mL_forms : Nat → Int) (mL_costs : Nat → Int) (mL_cheapest : Nat → Int) (mL_fixed : Nat → Int) (mL_sumOf : Nat → Int) (mL_early : Nat → Int) (mL_late : Nat → Int) (mN_names : Int) (mN_lengths : Nat → Int) (mN_spelt : Nat → Int) (mN_signs : Nat → Int) (mN_table : Nat → Int) (mN_far : Nat → Int) (mH_habits : Nat → Int) (mA_doIt : Nat → Int) (mA_askOf : Nat → Int) (mE_others : Nat → Int) (mE_copies : Nat → Int) (mE_odds : Nat → Int) (mE_often : Nat → Int) (mE_got : Nat → Int) (mE_did : Nat → Int) (mB_kept : Int) (mB_box : Nat → Int) (y : Int), l_X10_digest_6 n v1 v3 mL_letters mN_names mB_kept mL_forms = some y → S 30 [some (2, Int.ofNat 0), some (1, y), none, none] [] [([], [mK_limbs, mK_wide]), ([mL_letters], [mL_from, mL_to, mL_forms, mL_costs, mL_cheapest, mL_fixed, mL_sumOf, mL_early, mL_late]), ([mN_names], [mN_lengths, mN_spelt, mN_signs, mN_table, mN_far]), ([], [mH_habits]), ([], [mA_doIt, mA_askOf]), ([], [mE_others, mE_copies, mE_odds, mE_often, mE_got, mE_did]), ([mB_kept], [mB_box])] → S 6 [some (2, Int.ofNat 0), some (1, v1), none, some (0, v3)] [] [([], [mK_limbs, mK_wide]), ([mL_letters], [mL_from, mL_to, mL_forms, mL_costs, mL_cheapest, mL_fixed, mL_sumOf, mL_early, mL_late]), ([mN_names], [mN_lengths, mN_spelt, mN_signs, mN_table, mN_far]), ([], [mH_habits]), ([], [mA_doIt, mA_askOf]), ([], [mE_others, mE_copies, mE_odds, mE_often, mE_got, mE_did]), ([mB_kept], [mB_box])] := by
    intro n
    induction n with
    | zero =>
      intro v1 v3 mK_limbs mK_wide mL_letters mL_from mL_to mL_forms mL_costs mL_cheapest mL_fixed mL_sumOf mL_early mL_late mN_names mN_lengths mN_spelt mN_signs mN_table mN_far mH_habits mA_doIt mA_askOf mE_others mE_copies mE_odds mE_often mE_got mE_did mB_kept mB_box y h k
      rw [l_X10_digest_6] at h
      cases h
    | succ n ih =>
      intro v1 v3 mK_limbs mK_wide mL_letters mL_from mL_to mL_forms mL_costs mL_cheapest mL_fixed mL_sumOf mL_early mL_late mN_names mN_lengths mN_spelt mN_signs mN_table mN_far mH_habits mA_doIt mA_askOf mE_others mE_copies mE_odds mE_often mE_got mE_did mB_kept mB_box y h k
      rw [l_X10_digest_6] at h
      refine ri true 1 (q := v3 < 4) (t1 := 11) (t2 := 30) rfl rfl trivial (fun c => ?_) (fun c => ?_)
      · replace h := zif1 c h
        obtain ⟨x1, hx1, h⟩ := zbd h
        refine rv true 2 1 (rest := [(4, (31 * v1))]) rfl rfl trivial rfl (m_M_X10_countOf l ([], [mK_limbs, mK_wide]) ([], [mH_habits]) ([], [mA_doIt, mA_askOf]) ([], [mE_others, mE_copies, mE_odds, mE_often, mE_got, mE_did]) v3 mL_letters mL_from mL_to mL_forms mL_costs mL_cheapest mL_fixed mL_sumOf mL_early mL_late mN_names mN_lengths mN_spelt mN_signs mN_table mN_far mB_kept mB_box x1 hx1) ⟨_, _, _, _, rfl, rfl, rfl, by decide +kernel, ⟨Nat.le_of_ble_eq_true rfl, Nat.le_of_ble_eq_true rfl⟩, uGin u_40_16 u_40_17 u_40_18 u_1_5 u_40_19⟩ ⟨rfl, _, _, _, rfl, rfl⟩ ?_
        obtain ⟨g2_0, h⟩ := zgd h
        refine rg true 3 (t := 6) (L2 := [some (2, Int.ofNat 0), some (1, (zwl ((31 * v1) + x1))), none, some (0, (v3 + 1))]) rfl rfl rfl g2_0 ?_
        exact ih (zwl ((31 * v1) + x1)) (v3 + 1) mK_limbs mK_wide mL_letters mL_from mL_to mL_forms mL_costs mL_cheapest mL_fixed mL_sumOf mL_early mL_late mN_names mN_lengths mN_spelt mN_signs mN_table mN_far mH_habits mA_doIt mA_askOf mE_others mE_copies mE_odds mE_often mE_got mE_did mB_kept mB_box y h k
      · replace h := zif2 c h
        refine rmk [true, true, false, false] (L2 := [some (2, Int.ofNat 0), some (1, v1), none, none]) rfl ?_
        obtain rfl := Option.some.inj h
        exact k
  have LP32 : ∀ (n : Nat) (v1 : Int) (v3 : Int) (mK_limbs : Nat → Int) (mK_wide : Nat → Int) (mL_letters : Int) (mL_from : Nat → Int) (mL_to : Nat → Int) (mL_forms : Nat → Int) (mL_costs : Nat → Int) (mL_cheapest : Nat → Int) (mL_fixed : Nat → Int) (mL_sumOf : Nat → Int) (mL_early : Nat → Int) (mL_late : Nat → Int) (mN_names : Int) (mN_lengths : Nat → Int) (mN_spelt : Nat → Int) (mN_signs : Nat → Int) (mN_table : Nat → Int) (mN_far : Nat → Int) (mH_habits : Nat → Int) (mA_doIt : Nat → Int) (mA_askOf : Nat → Int) (mE_others : Nat → Int) (mE_copies : Nat → Int) (mE_odds : Nat → Int) (mE_often : Nat → Int) (mE_got : Nat → Int) (mE_did : Nat → Int) (mB_kept : Int) (mB_box : Nat → Int) (y : Int), l_X10_digest_32 n v1 v3 mL_letters mL_from mL_to mL_forms = some y → S 85 [some (2, Int.ofNat 0), some (1, y), none, none] [] [([], [mK_limbs, mK_wide]), ([mL_letters], [mL_from, mL_to, mL_forms, mL_costs, mL_cheapest, mL_fixed, mL_sumOf, mL_early, mL_late]), ([mN_names], [mN_lengths, mN_spelt, mN_signs, mN_table, mN_far]), ([], [mH_habits]), ([], [mA_doIt, mA_askOf]), ([], [mE_others, mE_copies, mE_odds, mE_often, mE_got, mE_did]), ([mB_kept], [mB_box])] → S 32 [some (2, Int.ofNat 0), some (1, v1), none, some (0, v3)] [] [([], [mK_limbs, mK_wide]), ([mL_letters], [mL_from, mL_to, mL_forms, mL_costs, mL_cheapest, mL_fixed, mL_sumOf, mL_early, mL_late]), ([mN_names], [mN_lengths, mN_spelt, mN_signs, mN_table, mN_far]), ([], [mH_habits]), ([], [mA_doIt, mA_askOf]), ([], [mE_others, mE_copies, mE_odds, mE_often, mE_got, mE_did]), ([mB_kept], [mB_box])] := by
    intro n
    induction n with
    | zero =>
      intro v1 v3 mK_limbs mK_wide mL_letters mL_from mL_to mL_forms mL_costs mL_cheapest mL_fixed mL_sumOf mL_early mL_late mN_names mN_lengths mN_spelt mN_signs mN_table mN_far mH_habits mA_doIt mA_askOf mE_others mE_copies mE_odds mE_often mE_got mE_did mB_kept mB_box y h k
      rw [l_X10_digest_32] at h
      cases h
    | succ n ih =>
      intro v1 v3 mK_limbs mK_wide mL_letters mL_from mL_to mL_forms mL_costs mL_cheapest mL_fixed mL_sumOf mL_early mL_late mN_names mN_lengths mN_spelt mN_signs mN_table mN_far mH_habits mA_doIt mA_askOf mE_others mE_copies mE_odds mE_often mE_got mE_did mB_kept mB_box y h k
      rw [l_X10_digest_32] at h
      refine ri true 5 (q := v3 < mL_letters) (t1 := 40) (t2 := 85) rfl rfl trivial (fun c => ?_) (fun c => ?_)
      · replace h := zif1 c h
        obtain ⟨⟨g5_0, g5_1⟩, h⟩ := zgd h
        obtain ⟨x4, hx4, h⟩ := zbd h
        refine rs true 6 4 rfl rfl (And.intro g5_0 g5_1) rfl (m_M_X10_mixed_5 l ([], [mK_limbs, mK_wide]) ([mN_names], [mN_lengths, mN_spelt, mN_signs, mN_table, mN_far]) ([], [mH_habits]) ([], [mA_doIt, mA_askOf]) ([], [mE_others, mE_copies, mE_odds, mE_often, mE_got, mE_did]) ([mB_kept], [mB_box]) (zwl ((31 * ((31 * v1) + (mL_from (Int.toNat v3)))) + (mL_to (Int.toNat v3)))) (zw (8 * v3)) 8 mL_letters mL_from mL_to mL_forms mL_costs mL_cheapest mL_fixed mL_sumOf mL_early mL_late x4 hx4) ⟨_, _, _, _, rfl, rfl, rfl, by decide +kernel, ⟨Nat.le_of_ble_eq_true rfl, Nat.le_of_ble_eq_true rfl⟩, uGinS u_42_22 u_42_23 u_1_5 u_43_0⟩ ?_
        obtain ⟨g6_0, h⟩ := zgd h
        refine rg true 7 (t := 32) (L2 := [some (2, Int.ofNat 0), some (1, x4), none, some (0, (v3 + 1))]) rfl rfl rfl g6_0 ?_
        exact ih x4 (v3 + 1) mK_limbs mK_wide mL_letters mL_from mL_to mL_forms mL_costs mL_cheapest mL_fixed mL_sumOf mL_early mL_late mN_names mN_lengths mN_spelt mN_signs mN_table mN_far mH_habits mA_doIt mA_askOf mE_others mE_copies mE_odds mE_often mE_got mE_did mB_kept mB_box y h k
      · replace h := zif2 c h
        refine rmk [true, true, false, false] (L2 := [some (2, Int.ofNat 0), some (1, v1), none, none]) rfl ?_
        obtain rfl := Option.some.inj h
        exact k
  have LP98 : ∀ (n : Nat) (v1 : Int) (v3 : Int) (mK_limbs : Nat → Int) (mK_wide : Nat → Int) (mL_letters : Int) (mL_from : Nat → Int) (mL_to : Nat → Int) (mL_forms : Nat → Int) (mL_costs : Nat → Int) (mL_cheapest : Nat → Int) (mL_fixed : Nat → Int) (mL_sumOf : Nat → Int) (mL_early : Nat → Int) (mL_late : Nat → Int) (mN_names : Int) (mN_lengths : Nat → Int) (mN_spelt : Nat → Int) (mN_signs : Nat → Int) (mN_table : Nat → Int) (mN_far : Nat → Int) (mH_habits : Nat → Int) (mA_doIt : Nat → Int) (mA_askOf : Nat → Int) (mE_others : Nat → Int) (mE_copies : Nat → Int) (mE_odds : Nat → Int) (mE_often : Nat → Int) (mE_got : Nat → Int) (mE_did : Nat → Int) (mB_kept : Int) (mB_box : Nat → Int) (y : Int), l_X10_digest_98 n v1 v3 mN_names mN_lengths mN_spelt = some y → S 138 [some (2, Int.ofNat 0), some (1, y), none, none] [] [([], [mK_limbs, mK_wide]), ([mL_letters], [mL_from, mL_to, mL_forms, mL_costs, mL_cheapest, mL_fixed, mL_sumOf, mL_early, mL_late]), ([mN_names], [mN_lengths, mN_spelt, mN_signs, mN_table, mN_far]), ([], [mH_habits]), ([], [mA_doIt, mA_askOf]), ([], [mE_others, mE_copies, mE_odds, mE_often, mE_got, mE_did]), ([mB_kept], [mB_box])] → S 98 [some (2, Int.ofNat 0), some (1, v1), none, some (0, v3)] [] [([], [mK_limbs, mK_wide]), ([mL_letters], [mL_from, mL_to, mL_forms, mL_costs, mL_cheapest, mL_fixed, mL_sumOf, mL_early, mL_late]), ([mN_names], [mN_lengths, mN_spelt, mN_signs, mN_table, mN_far]), ([], [mH_habits]), ([], [mA_doIt, mA_askOf]), ([], [mE_others, mE_copies, mE_odds, mE_often, mE_got, mE_did]), ([mB_kept], [mB_box])] := by
    intro n
    induction n with
    | zero =>
      intro v1 v3 mK_limbs mK_wide mL_letters mL_from mL_to mL_forms mL_costs mL_cheapest mL_fixed mL_sumOf mL_early mL_late mN_names mN_lengths mN_spelt mN_signs mN_table mN_far mH_habits mA_doIt mA_askOf mE_others mE_copies mE_odds mE_often mE_got mE_did mB_kept mB_box y h k
      rw [l_X10_digest_98] at h
      cases h
    | succ n ih =>
      intro v1 v3 mK_limbs mK_wide mL_letters mL_from mL_to mL_forms mL_costs mL_cheapest mL_fixed mL_sumOf mL_early mL_late mN_names mN_lengths mN_spelt mN_signs mN_table mN_far mH_habits mA_doIt mA_askOf mE_others mE_copies mE_odds mE_often mE_got mE_did mB_kept mB_box y h k
      rw [l_X10_digest_98] at h
      refine ri true 10 (q := v3 < mN_names) (t1 := 106) (t2 := 138) rfl rfl trivial (fun c => ?_) (fun c => ?_)
      · replace h := zif1 c h
        obtain ⟨⟨g9_0, g9_1⟩, h⟩ := zgd h
        refine rb true 11 (L2 := [some (2, Int.ofNat 0), some (1, (zwl ((31 * ((31 * v1) + (mN_lengths (Int.toNat v3)))) + (mN_spelt (Int.toNat v3))))), none, some (0, v3)]) rfl rfl (And.intro g9_0 g9_1) ?_
        obtain ⟨g10_0, h⟩ := zgd h
        refine rg true 12 (t := 98) (L2 := [some (2, Int.ofNat 0), some (1, (zwl ((31 * ((31 * v1) + (mN_lengths (Int.toNat v3)))) + (mN_spelt (Int.toNat v3))))), none, some (0, (v3 + 1))]) rfl rfl rfl g10_0 ?_
        exact ih (zwl ((31 * ((31 * v1) + (mN_lengths (Int.toNat v3)))) + (mN_spelt (Int.toNat v3)))) (v3 + 1) mK_limbs mK_wide mL_letters mL_from mL_to mL_forms mL_costs mL_cheapest mL_fixed mL_sumOf mL_early mL_late mN_names mN_lengths mN_spelt mN_signs mN_table mN_far mH_habits mA_doIt mA_askOf mE_others mE_copies mE_odds mE_often mE_got mE_did mB_kept mB_box y h k
      · replace h := zif2 c h
        refine rmk [true, true, false, false] (L2 := [some (2, Int.ofNat 0), some (1, v1), none, none]) rfl ?_
        obtain rfl := Option.some.inj h
        exact k
  have LP152 : ∀ (n : Nat) (v1 : Int) (v3 : Int) (mK_limbs : Nat → Int) (mK_wide : Nat → Int) (mL_letters : Int) (mL_from : Nat → Int) (mL_to : Nat → Int) (mL_forms : Nat → Int) (mL_costs : Nat → Int) (mL_cheapest : Nat → Int) (mL_fixed : Nat → Int) (mL_sumOf : Nat → Int) (mL_early : Nat → Int) (mL_late : Nat → Int) (mN_names : Int) (mN_lengths : Nat → Int) (mN_spelt : Nat → Int) (mN_signs : Nat → Int) (mN_table : Nat → Int) (mN_far : Nat → Int) (mH_habits : Nat → Int) (mA_doIt : Nat → Int) (mA_askOf : Nat → Int) (mE_others : Nat → Int) (mE_copies : Nat → Int) (mE_odds : Nat → Int) (mE_often : Nat → Int) (mE_got : Nat → Int) (mE_did : Nat → Int) (mB_kept : Int) (mB_box : Nat → Int) (y : Int), l_X10_digest_152 n v1 v3 mA_doIt mA_askOf = some y → S 190 [some (2, Int.ofNat 0), some (1, y), none, none] [] [([], [mK_limbs, mK_wide]), ([mL_letters], [mL_from, mL_to, mL_forms, mL_costs, mL_cheapest, mL_fixed, mL_sumOf, mL_early, mL_late]), ([mN_names], [mN_lengths, mN_spelt, mN_signs, mN_table, mN_far]), ([], [mH_habits]), ([], [mA_doIt, mA_askOf]), ([], [mE_others, mE_copies, mE_odds, mE_often, mE_got, mE_did]), ([mB_kept], [mB_box])] → S 152 [some (2, Int.ofNat 0), some (1, v1), none, some (0, v3)] [] [([], [mK_limbs, mK_wide]), ([mL_letters], [mL_from, mL_to, mL_forms, mL_costs, mL_cheapest, mL_fixed, mL_sumOf, mL_early, mL_late]), ([mN_names], [mN_lengths, mN_spelt, mN_signs, mN_table, mN_far]), ([], [mH_habits]), ([], [mA_doIt, mA_askOf]), ([], [mE_others, mE_copies, mE_odds, mE_often, mE_got, mE_did]), ([mB_kept], [mB_box])] := by
    intro n
    induction n with
    | zero =>
      intro v1 v3 mK_limbs mK_wide mL_letters mL_from mL_to mL_forms mL_costs mL_cheapest mL_fixed mL_sumOf mL_early mL_late mN_names mN_lengths mN_spelt mN_signs mN_table mN_far mH_habits mA_doIt mA_askOf mE_others mE_copies mE_odds mE_often mE_got mE_did mB_kept mB_box y h k
      rw [l_X10_digest_152] at h
      cases h
    | succ n ih =>
      intro v1 v3 mK_limbs mK_wide mL_letters mL_from mL_to mL_forms mL_costs mL_cheapest mL_fixed mL_sumOf mL_early mL_late mN_names mN_lengths mN_spelt mN_signs mN_table mN_far mH_habits mA_doIt mA_askOf mE_others mE_copies mE_odds mE_often mE_got mE_did mB_kept mB_box y h k
      rw [l_X10_digest_152] at h
      refine ri true 15 (q := v3 < 10) (t1 := 158) (t2 := 190) rfl rfl trivial (fun c => ?_) (fun c => ?_)
      · replace h := zif1 c h
        obtain ⟨⟨g13_0, g13_1⟩, h⟩ := zgd h
        refine rb true 16 (L2 := [some (2, Int.ofNat 0), some (1, (zwl ((31 * ((31 * v1) + (mA_doIt (Int.toNat v3)))) + (mA_askOf (Int.toNat v3))))), none, some (0, v3)]) rfl rfl (And.intro g13_0 g13_1) ?_
        obtain ⟨g14_0, h⟩ := zgd h
        refine rg true 17 (t := 152) (L2 := [some (2, Int.ofNat 0), some (1, (zwl ((31 * ((31 * v1) + (mA_doIt (Int.toNat v3)))) + (mA_askOf (Int.toNat v3))))), none, some (0, (v3 + 1))]) rfl rfl rfl g14_0 ?_
        exact ih (zwl ((31 * ((31 * v1) + (mA_doIt (Int.toNat v3)))) + (mA_askOf (Int.toNat v3)))) (v3 + 1) mK_limbs mK_wide mL_letters mL_from mL_to mL_forms mL_costs mL_cheapest mL_fixed mL_sumOf mL_early mL_late mN_names mN_lengths mN_spelt mN_signs mN_table mN_far mH_habits mA_doIt mA_askOf mE_others mE_copies mE_odds mE_often mE_got mE_did mB_kept mB_box y h k
      · replace h := zif2 c h
        refine rmk [true, true, false, false] (L2 := [some (2, Int.ofNat 0), some (1, v1), none, none]) rfl ?_
        obtain rfl := Option.some.inj h
        exact k
  have LP192 : ∀ (n : Nat) (v1 : Int) (v3 : Int) (mK_limbs : Nat → Int) (mK_wide : Nat → Int) (mL_letters : Int) (mL_from : Nat → Int) (mL_to : Nat → Int) (mL_forms : Nat → Int) (mL_costs : Nat → Int) (mL_cheapest : Nat → Int) (mL_fixed : Nat → Int) (mL_sumOf : Nat → Int) (mL_early : Nat → Int) (mL_late : Nat → Int) (mN_names : Int) (mN_lengths : Nat → Int) (mN_spelt : Nat → Int) (mN_signs : Nat → Int) (mN_table : Nat → Int) (mN_far : Nat → Int) (mH_habits : Nat → Int) (mA_doIt : Nat → Int) (mA_askOf : Nat → Int) (mE_others : Nat → Int) (mE_copies : Nat → Int) (mE_odds : Nat → Int) (mE_often : Nat → Int) (mE_got : Nat → Int) (mE_did : Nat → Int) (mB_kept : Int) (mB_box : Nat → Int) (y : Int), l_X10_digest_192 n v1 v3 mE_others mE_copies mE_odds mE_often = some y → S 254 [some (2, Int.ofNat 0), some (1, y), none, none] [] [([], [mK_limbs, mK_wide]), ([mL_letters], [mL_from, mL_to, mL_forms, mL_costs, mL_cheapest, mL_fixed, mL_sumOf, mL_early, mL_late]), ([mN_names], [mN_lengths, mN_spelt, mN_signs, mN_table, mN_far]), ([], [mH_habits]), ([], [mA_doIt, mA_askOf]), ([], [mE_others, mE_copies, mE_odds, mE_often, mE_got, mE_did]), ([mB_kept], [mB_box])] → S 192 [some (2, Int.ofNat 0), some (1, v1), none, some (0, v3)] [] [([], [mK_limbs, mK_wide]), ([mL_letters], [mL_from, mL_to, mL_forms, mL_costs, mL_cheapest, mL_fixed, mL_sumOf, mL_early, mL_late]), ([mN_names], [mN_lengths, mN_spelt, mN_signs, mN_table, mN_far]), ([], [mH_habits]), ([], [mA_doIt, mA_askOf]), ([], [mE_others, mE_copies, mE_odds, mE_often, mE_got, mE_did]), ([mB_kept], [mB_box])] := by
    intro n
    induction n with
    | zero =>
      intro v1 v3 mK_limbs mK_wide mL_letters mL_from mL_to mL_forms mL_costs mL_cheapest mL_fixed mL_sumOf mL_early mL_late mN_names mN_lengths mN_spelt mN_signs mN_table mN_far mH_habits mA_doIt mA_askOf mE_others mE_copies mE_odds mE_often mE_got mE_did mB_kept mB_box y h k
      rw [l_X10_digest_192] at h
      cases h
    | succ n ih =>
      intro v1 v3 mK_limbs mK_wide mL_letters mL_from mL_to mL_forms mL_costs mL_cheapest mL_fixed mL_sumOf mL_early mL_late mN_names mN_lengths mN_spelt mN_signs mN_table mN_far mH_habits mA_doIt mA_askOf mE_others mE_copies mE_odds mE_often mE_got mE_did mB_kept mB_box y h k
      rw [l_X10_digest_192] at h
      refine ri true 19 (q := v3 < 10) (t1 := 198) (t2 := 254) rfl rfl trivial (fun c => ?_) (fun c => ?_)
      · replace h := zif1 c h
        obtain ⟨⟨g16_0, g16_1, g16_2, g16_3⟩, h⟩ := zgd h
        refine rb true 20 (L2 := [some (2, Int.ofNat 0), some (1, (zwl ((31 * ((31 * ((31 * ((31 * v1) + (mE_others (Int.toNat v3)))) + (mE_copies (Int.toNat v3)))) + (mE_odds (Int.toNat v3)))) + (mE_often (Int.toNat v3))))), none, some (0, v3)]) rfl rfl (And.intro g16_0 (And.intro g16_1 (And.intro g16_2 g16_3))) ?_
        obtain ⟨g17_0, h⟩ := zgd h
        refine rg true 21 (t := 192) (L2 := [some (2, Int.ofNat 0), some (1, (zwl ((31 * ((31 * ((31 * ((31 * v1) + (mE_others (Int.toNat v3)))) + (mE_copies (Int.toNat v3)))) + (mE_odds (Int.toNat v3)))) + (mE_often (Int.toNat v3))))), none, some (0, (v3 + 1))]) rfl rfl rfl g17_0 ?_
        exact ih (zwl ((31 * ((31 * ((31 * ((31 * v1) + (mE_others (Int.toNat v3)))) + (mE_copies (Int.toNat v3)))) + (mE_odds (Int.toNat v3)))) + (mE_often (Int.toNat v3)))) (v3 + 1) mK_limbs mK_wide mL_letters mL_from mL_to mL_forms mL_costs mL_cheapest mL_fixed mL_sumOf mL_early mL_late mN_names mN_lengths mN_spelt mN_signs mN_table mN_far mH_habits mA_doIt mA_askOf mE_others mE_copies mE_odds mE_often mE_got mE_did mB_kept mB_box y h k
      · replace h := zif2 c h
        refine rmk [true, true, false, false] (L2 := [some (2, Int.ofNat 0), some (1, v1), none, none]) rfl ?_
        obtain rfl := Option.some.inj h
        exact k
  have LP280 : ∀ (n : Nat) (v1 : Int) (v3 : Int) (mK_limbs : Nat → Int) (mK_wide : Nat → Int) (mL_letters : Int) (mL_from : Nat → Int) (mL_to : Nat → Int) (mL_forms : Nat → Int) (mL_costs : Nat → Int) (mL_cheapest : Nat → Int) (mL_fixed : Nat → Int) (mL_sumOf : Nat → Int) (mL_early : Nat → Int) (mL_late : Nat → Int) (mN_names : Int) (mN_lengths : Nat → Int) (mN_spelt : Nat → Int) (mN_signs : Nat → Int) (mN_table : Nat → Int) (mN_far : Nat → Int) (mH_habits : Nat → Int) (mA_doIt : Nat → Int) (mA_askOf : Nat → Int) (mE_others : Nat → Int) (mE_copies : Nat → Int) (mE_odds : Nat → Int) (mE_often : Nat → Int) (mE_got : Nat → Int) (mE_did : Nat → Int) (mB_kept : Int) (mB_box : Nat → Int) (y : Int), l_X10_digest_280 n v1 v3 mK_wide = some y → S 304 [some (2, Int.ofNat 0), some (1, y), none, none] [] [([], [mK_limbs, mK_wide]), ([mL_letters], [mL_from, mL_to, mL_forms, mL_costs, mL_cheapest, mL_fixed, mL_sumOf, mL_early, mL_late]), ([mN_names], [mN_lengths, mN_spelt, mN_signs, mN_table, mN_far]), ([], [mH_habits]), ([], [mA_doIt, mA_askOf]), ([], [mE_others, mE_copies, mE_odds, mE_often, mE_got, mE_did]), ([mB_kept], [mB_box])] → S 280 [some (2, Int.ofNat 0), some (1, v1), none, some (0, v3)] [] [([], [mK_limbs, mK_wide]), ([mL_letters], [mL_from, mL_to, mL_forms, mL_costs, mL_cheapest, mL_fixed, mL_sumOf, mL_early, mL_late]), ([mN_names], [mN_lengths, mN_spelt, mN_signs, mN_table, mN_far]), ([], [mH_habits]), ([], [mA_doIt, mA_askOf]), ([], [mE_others, mE_copies, mE_odds, mE_often, mE_got, mE_did]), ([mB_kept], [mB_box])] := by
    intro n
    induction n with
    | zero =>
      intro v1 v3 mK_limbs mK_wide mL_letters mL_from mL_to mL_forms mL_costs mL_cheapest mL_fixed mL_sumOf mL_early mL_late mN_names mN_lengths mN_spelt mN_signs mN_table mN_far mH_habits mA_doIt mA_askOf mE_others mE_copies mE_odds mE_often mE_got mE_did mB_kept mB_box y h k
      rw [l_X10_digest_280] at h
      cases h
    | succ n ih =>
      intro v1 v3 mK_limbs mK_wide mL_letters mL_from mL_to mL_forms mL_costs mL_cheapest mL_fixed mL_sumOf mL_early mL_late mN_names mN_lengths mN_spelt mN_signs mN_table mN_far mH_habits mA_doIt mA_askOf mE_others mE_copies mE_odds mE_often mE_got mE_did mB_kept mB_box y h k
      rw [l_X10_digest_280] at h
      refine ri true 25 (q := v3 < 3) (t1 := 285) (t2 := 304) rfl rfl trivial (fun c => ?_) (fun c => ?_)
      · replace h := zif1 c h
        obtain ⟨x21, hx21, h⟩ := zbd h
        refine rv true 26 1 (rest := [(4, (31 * v1))]) rfl rfl trivial rfl (m_M_X10_sign l ([mL_letters], [mL_from, mL_to, mL_forms, mL_costs, mL_cheapest, mL_fixed, mL_sumOf, mL_early, mL_late]) ([mN_names], [mN_lengths, mN_spelt, mN_signs, mN_table, mN_far]) ([], [mH_habits]) ([], [mA_doIt, mA_askOf]) ([], [mE_others, mE_copies, mE_odds, mE_often, mE_got, mE_did]) ([mB_kept], [mB_box]) v3 mK_limbs mK_wide x21 hx21) ⟨_, _, _, _, rfl, rfl, rfl, by decide +kernel, ⟨Nat.le_of_ble_eq_true rfl, Nat.le_of_ble_eq_true rfl⟩, uGin u_43_1 u_39_13 u_39_14 u_1_5 u_39_15⟩ ⟨rfl, _, _, _, rfl, rfl⟩ ?_
        obtain ⟨g22_0, h⟩ := zgd h
        refine rg true 27 (t := 280) (L2 := [some (2, Int.ofNat 0), some (1, (zwl ((31 * v1) + x21))), none, some (0, (v3 + 1))]) rfl rfl rfl g22_0 ?_
        exact ih (zwl ((31 * v1) + x21)) (v3 + 1) mK_limbs mK_wide mL_letters mL_from mL_to mL_forms mL_costs mL_cheapest mL_fixed mL_sumOf mL_early mL_late mN_names mN_lengths mN_spelt mN_signs mN_table mN_far mH_habits mA_doIt mA_askOf mE_others mE_copies mE_odds mE_often mE_got mE_did mB_kept mB_box y h k
      · replace h := zif2 c h
        refine rmk [true, true, false, false] (L2 := [some (2, Int.ofNat 0), some (1, v1), none, none]) rfl ?_
        obtain rfl := Option.some.inj h
        exact k
  have LP306 : ∀ (n : Nat) (v1 : Int) (v3 : Int) (mK_limbs : Nat → Int) (mK_wide : Nat → Int) (mL_letters : Int) (mL_from : Nat → Int) (mL_to : Nat → Int) (mL_forms : Nat → Int) (mL_costs : Nat → Int) (mL_cheapest : Nat → Int) (mL_fixed : Nat → Int) (mL_sumOf : Nat → Int) (mL_early : Nat → Int) (mL_late : Nat → Int) (mN_names : Int) (mN_lengths : Nat → Int) (mN_spelt : Nat → Int) (mN_signs : Nat → Int) (mN_table : Nat → Int) (mN_far : Nat → Int) (mH_habits : Nat → Int) (mA_doIt : Nat → Int) (mA_askOf : Nat → Int) (mE_others : Nat → Int) (mE_copies : Nat → Int) (mE_odds : Nat → Int) (mE_often : Nat → Int) (mE_got : Nat → Int) (mE_did : Nat → Int) (mB_kept : Int) (mB_box : Nat → Int) (y : Int), l_X10_digest_306 n v1 v3 mK_limbs mK_wide = some y → S 336 [none, some (1, y), none, none] [] [([], [mK_limbs, mK_wide]), ([mL_letters], [mL_from, mL_to, mL_forms, mL_costs, mL_cheapest, mL_fixed, mL_sumOf, mL_early, mL_late]), ([mN_names], [mN_lengths, mN_spelt, mN_signs, mN_table, mN_far]), ([], [mH_habits]), ([], [mA_doIt, mA_askOf]), ([], [mE_others, mE_copies, mE_odds, mE_often, mE_got, mE_did]), ([mB_kept], [mB_box])] → S 306 [some (2, Int.ofNat 0), some (1, v1), none, some (0, v3)] [] [([], [mK_limbs, mK_wide]), ([mL_letters], [mL_from, mL_to, mL_forms, mL_costs, mL_cheapest, mL_fixed, mL_sumOf, mL_early, mL_late]), ([mN_names], [mN_lengths, mN_spelt, mN_signs, mN_table, mN_far]), ([], [mH_habits]), ([], [mA_doIt, mA_askOf]), ([], [mE_others, mE_copies, mE_odds, mE_often, mE_got, mE_did]), ([mB_kept], [mB_box])] := by
    intro n
    induction n with
    | zero =>
      intro v1 v3 mK_limbs mK_wide mL_letters mL_from mL_to mL_forms mL_costs mL_cheapest mL_fixed mL_sumOf mL_early mL_late mN_names mN_lengths mN_spelt mN_signs mN_table mN_far mH_habits mA_doIt mA_askOf mE_others mE_copies mE_odds mE_often mE_got mE_did mB_kept mB_box y h k
      rw [l_X10_digest_306] at h
      cases h
    | succ n ih =>
      intro v1 v3 mK_limbs mK_wide mL_letters mL_from mL_to mL_forms mL_costs mL_cheapest mL_fixed mL_sumOf mL_early mL_late mN_names mN_lengths mN_spelt mN_signs mN_table mN_far mH_habits mA_doIt mA_askOf mE_others mE_copies mE_odds mE_often mE_got mE_did mB_kept mB_box y h k
      rw [l_X10_digest_306] at h
      refine ri true 29 (q := v3 < 2) (t1 := 311) (t2 := 336) rfl rfl trivial (fun c => ?_) (fun c => ?_)
      · replace h := zif1 c h
        obtain ⟨g25_0, h⟩ := zgd h
        obtain ⟨x24, hx24, h⟩ := zbd h
        refine rs true 30 4 rfl rfl g25_0 rfl (m_M_X10_mixed_1 l ([mL_letters], [mL_from, mL_to, mL_forms, mL_costs, mL_cheapest, mL_fixed, mL_sumOf, mL_early, mL_late]) ([mN_names], [mN_lengths, mN_spelt, mN_signs, mN_table, mN_far]) ([], [mH_habits]) ([], [mA_doIt, mA_askOf]) ([], [mE_others, mE_copies, mE_odds, mE_often, mE_got, mE_did]) ([mB_kept], [mB_box]) v1 (zw (70 * v3)) (mK_wide (Int.toNat v3)) mK_limbs mK_wide x24 hx24) ⟨_, _, _, _, rfl, rfl, rfl, by decide +kernel, ⟨Nat.le_of_ble_eq_true rfl, Nat.le_of_ble_eq_true rfl⟩, uGinS u_42_22 u_42_23 u_1_5 u_43_0⟩ ?_
        obtain ⟨g26_0, h⟩ := zgd h
        refine rg true 31 (t := 306) (L2 := [some (2, Int.ofNat 0), some (1, x24), none, some (0, (v3 + 1))]) rfl rfl rfl g26_0 ?_
        exact ih x24 (v3 + 1) mK_limbs mK_wide mL_letters mL_from mL_to mL_forms mL_costs mL_cheapest mL_fixed mL_sumOf mL_early mL_late mN_names mN_lengths mN_spelt mN_signs mN_table mN_far mH_habits mA_doIt mA_askOf mE_others mE_copies mE_odds mE_often mE_got mE_did mB_kept mB_box y h k
      · replace h := zif2 c h
        refine rmk [false, true, false, false] (L2 := [none, some (1, v1), none, none]) rfl ?_
        obtain rfl := Option.some.inj h
        exact k
  unfold f_X10_digest at h
  refine rb true 0 (L2 := [some (2, Int.ofNat 0), some (1, 457), none, some (0, 0)]) rfl rfl trivial ?_
  obtain ⟨x3, hx3, h⟩ := zbd h
  refine LP6 zN 457 0 mK_limbs mK_wide mL_letters mL_from mL_to mL_forms mL_costs mL_cheapest mL_fixed mL_sumOf mL_early mL_late mN_names mN_lengths mN_spelt mN_signs mN_table mN_far mH_habits mA_doIt mA_askOf mE_others mE_copies mE_odds mE_often mE_got mE_did mB_kept mB_box x3 hx3 ?_
  refine rb true 4 (L2 := [some (2, Int.ofNat 0), some (1, x3), none, some (0, 0)]) rfl rfl trivial ?_
  obtain ⟨x7, hx7, h⟩ := zbd h
  refine LP32 zN x3 0 mK_limbs mK_wide mL_letters mL_from mL_to mL_forms mL_costs mL_cheapest mL_fixed mL_sumOf mL_early mL_late mN_names mN_lengths mN_spelt mN_signs mN_table mN_far mH_habits mA_doIt mA_askOf mE_others mE_copies mE_odds mE_often mE_got mE_did mB_kept mB_box x7 hx7 ?_
  obtain ⟨x8, hx8, h⟩ := zbd h
  refine rs true 8 4 rfl rfl trivial rfl (m_M_X10_mixed_6 l ([], [mK_limbs, mK_wide]) ([mN_names], [mN_lengths, mN_spelt, mN_signs, mN_table, mN_far]) ([], [mH_habits]) ([], [mA_doIt, mA_askOf]) ([], [mE_others, mE_copies, mE_odds, mE_often, mE_got, mE_did]) ([mB_kept], [mB_box]) x7 0 5 mL_letters mL_from mL_to mL_forms mL_costs mL_cheapest mL_fixed mL_sumOf mL_early mL_late x8 hx8) ⟨_, _, _, _, rfl, rfl, rfl, by decide +kernel, ⟨Nat.le_of_ble_eq_true rfl, Nat.le_of_ble_eq_true rfl⟩, uGinS u_42_22 u_42_23 u_1_5 u_43_0⟩ ?_
  refine rb true 9 (L2 := [some (2, Int.ofNat 0), some (1, x8), none, some (0, 0)]) rfl rfl trivial ?_
  obtain ⟨x11, hx11, h⟩ := zbd h
  refine LP98 zN x8 0 mK_limbs mK_wide mL_letters mL_from mL_to mL_forms mL_costs mL_cheapest mL_fixed mL_sumOf mL_early mL_late mN_names mN_lengths mN_spelt mN_signs mN_table mN_far mH_habits mA_doIt mA_askOf mE_others mE_copies mE_odds mE_often mE_got mE_did mB_kept mB_box x11 hx11 ?_
  obtain ⟨x12, hx12, h⟩ := zbd h
  refine rs true 13 4 rfl rfl trivial rfl (m_M_X10_mixed_17 l ([], [mK_limbs, mK_wide]) ([mL_letters], [mL_from, mL_to, mL_forms, mL_costs, mL_cheapest, mL_fixed, mL_sumOf, mL_early, mL_late]) ([mN_names], [mN_lengths, mN_spelt, mN_signs, mN_table, mN_far]) ([], [mA_doIt, mA_askOf]) ([], [mE_others, mE_copies, mE_odds, mE_often, mE_got, mE_did]) ([mB_kept], [mB_box]) x11 0 10 mH_habits x12 hx12) ⟨_, _, _, _, rfl, rfl, rfl, by decide +kernel, ⟨Nat.le_of_ble_eq_true rfl, Nat.le_of_ble_eq_true rfl⟩, uGinS u_42_22 u_42_23 u_1_5 u_43_0⟩ ?_
  refine rb true 14 (L2 := [some (2, Int.ofNat 0), some (1, x12), none, some (0, 1)]) rfl rfl trivial ?_
  obtain ⟨x15, hx15, h⟩ := zbd h
  refine LP152 zN x12 1 mK_limbs mK_wide mL_letters mL_from mL_to mL_forms mL_costs mL_cheapest mL_fixed mL_sumOf mL_early mL_late mN_names mN_lengths mN_spelt mN_signs mN_table mN_far mH_habits mA_doIt mA_askOf mE_others mE_copies mE_odds mE_often mE_got mE_did mB_kept mB_box x15 hx15 ?_
  refine rb true 18 (L2 := [some (2, Int.ofNat 0), some (1, x15), none, some (0, 0)]) rfl rfl trivial ?_
  obtain ⟨x18, hx18, h⟩ := zbd h
  refine LP192 zN x15 0 mK_limbs mK_wide mL_letters mL_from mL_to mL_forms mL_costs mL_cheapest mL_fixed mL_sumOf mL_early mL_late mN_names mN_lengths mN_spelt mN_signs mN_table mN_far mH_habits mA_doIt mA_askOf mE_others mE_copies mE_odds mE_often mE_got mE_did mB_kept mB_box x18 hx18 ?_
  obtain ⟨x19, hx19, h⟩ := zbd h
  refine rs true 22 4 (rest := [(1, 31)]) rfl rfl trivial rfl (m_M_X10_mixed_26 l ([], [mK_limbs, mK_wide]) ([mL_letters], [mL_from, mL_to, mL_forms, mL_costs, mL_cheapest, mL_fixed, mL_sumOf, mL_early, mL_late]) ([mN_names], [mN_lengths, mN_spelt, mN_signs, mN_table, mN_far]) ([], [mH_habits]) ([], [mA_doIt, mA_askOf]) ([], [mE_others, mE_copies, mE_odds, mE_often, mE_got, mE_did]) x18 0 mB_kept mB_kept mB_box x19 hx19) ⟨_, _, _, _, rfl, rfl, rfl, by decide +kernel, ⟨Nat.le_of_ble_eq_true rfl, Nat.le_of_ble_eq_true rfl⟩, uGinS u_42_22 u_42_23 u_1_5 u_43_0⟩ ?_
  obtain ⟨x20, hx20, h⟩ := zbd h
  refine rv true 23 0 (rest := [(4, (31 * x19))]) rfl rfl trivial rfl (m_M_X10_leastAll l ([], [mK_limbs, mK_wide]) ([mN_names], [mN_lengths, mN_spelt, mN_signs, mN_table, mN_far]) ([], [mH_habits]) ([], [mA_doIt, mA_askOf]) ([], [mE_others, mE_copies, mE_odds, mE_often, mE_got, mE_did]) ([mB_kept], [mB_box]) mL_letters mL_from mL_to mL_forms mL_costs mL_cheapest mL_fixed mL_sumOf mL_early mL_late x20 hx20) ⟨_, _, _, _, rfl, rfl, rfl, by decide +kernel, ⟨Nat.le_of_ble_eq_true rfl, Nat.le_of_ble_eq_true rfl⟩, uGin u_16_7 u_16_8 u_16_9 u_1_5 u_16_10⟩ ⟨rfl, _, _, _, rfl, rfl⟩ ?_
  refine rb true 24 (L2 := [some (2, Int.ofNat 0), some (1, (zwl ((31 * x19) + x20.1))), none, some (0, 0)]) rfl rfl trivial ?_
  obtain ⟨x23, hx23, h⟩ := zbd h
  refine LP280 zN (zwl ((31 * x19) + x20.1)) 0 mK_limbs mK_wide mL_letters mL_from mL_to mL_forms mL_costs x20.2.1 x20.2.2.1 x20.2.2.2 mL_early mL_late mN_names mN_lengths mN_spelt mN_signs mN_table mN_far mH_habits mA_doIt mA_askOf mE_others mE_copies mE_odds mE_often mE_got mE_did mB_kept mB_box x23 hx23 ?_
  refine rb true 28 (L2 := [some (2, Int.ofNat 0), some (1, x23), none, some (0, 0)]) rfl rfl trivial ?_
  obtain ⟨x27, hx27, h⟩ := zbd h
  refine LP306 zN x23 0 mK_limbs mK_wide mL_letters mL_from mL_to mL_forms mL_costs x20.2.1 x20.2.2.1 x20.2.2.2 mL_early mL_late mN_names mN_lengths mN_spelt mN_signs mN_table mN_far mH_habits mA_doIt mA_askOf mE_others mE_copies mE_odds mE_often mE_got mE_did mB_kept mB_box x27 hx27 ?_
  obtain rfl := Option.some.inj h
  exact r3 true 32 rfl rfl rfl rfl rfl rfl trivial
