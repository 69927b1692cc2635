def bX2_shared : zB := [(0, [(.lload_n 0, 1), (.lstore 4, 2), (.lload_n 2, 1), (.lstore 6, 2), (.iconst 0, 1), (.istore 8, 2)], 9, .nop, 0), (9, [(.iload 8, 2), (.bipush 100, 2)], 13, .if_icmp .ge 31, 3), (16, [(.lload 6, 2), (.lconst 0, 1), (.lcmp, 1)], 20, .ifCond .eq 24, 3), (23, [(.lload 4, 2), (.lload 6, 2), (.lrem, 1), (.lstore 9, 2), (.lload 6, 2), (.lstore 4, 2), (.lload 9, 2), (.lstore 6, 2), (.iinc 8 1, 3)], 41, .goto (-32), 3), (44, [(.lload 4, 2)], 46, .lreturn, 1)]
theorem bX2_shared_ok : zBok cX2_shared 11 bX2_shared = true := by decide +kernel
abbrev wX2_shared : List Cond := Cond.code yX2_shared cX2_shared 11 (some .long) :: uU
def rX2_shared : Room := { frames := 0, cells := 0, slots := 0, locals := 0 }
set_option maxRecDepth 20000 in
set_option maxHeartbeats 4000000 in
theorem m_C_X2_shared (l : Launch) (M0 : zM) (M1 : zM) (M2 : zM) (M3 : zM) (M4 : zM) (M5 : zM) (M6 : zM) (M7 : zM) (M8 : zM) (M9 : zM) (M10 : zM) (M11 : zM) (M12 : zM) (M13 : zM) (p0 : Int) (p2 : Int) (x : Int) (h : f_X2_shared p0 p2 = some x) : zD l yX2_shared wX2_shared rX2_shared lamC shpC [(1, p0), (1, p2)] [M0, M1, M2, M3, M4, M5, M6, M7, M8, M9, M10, M11, M12, M13] (some (1, x)) [M0, M1, M2, M3, M4, M5, M6, M7, M8, M9, M10, M11, M12, M13] := by
  refine zD_of (B := bX2_shared) (E := eX2) (by decide) rfl lokC (eX2_ok _) bX2_shared_ok (Or.inl rfl) rfl (fun S R => ?_)
  obtain ⟨rb, rg, ri, rv, rs, r0, r1, r2, r3, rt, rmk⟩ := R
  show S 0 [some (1, p0), none, some (1, p2), none, none, none, none, none, none, none, none] [] [M0, M1, M2, M3, M4, M5, M6, M7, M8, M9, M10, M11, M12, M13]
  have LP9 : ∀ (n : Nat) (v4 : Int) (v6 : Int) (v8 : Int) (y : Int), l_X2_shared_9 n v4 v6 v8 = some y → S 44 [none, none, none, none, some (1, y), none, none, none, none, none, none] [] [M0, M1, M2, M3, M4, M5, M6, M7, M8, M9, M10, M11, M12, M13] → S 9 [none, none, none, none, some (1, v4), none, some (1, v6), none, some (0, v8), none, none] [] [M0, M1, M2, M3, M4, M5, M6, M7, M8, M9, M10, M11, M12, M13] := by
    intro n
    induction n with
    | zero =>
      intro v4 v6 v8 y h k
      rw [l_X2_shared_9] at h
      cases h
    | succ n ih =>
      intro v4 v6 v8 y h k
      rw [l_X2_shared_9] at h
      refine ri false 1 (q := v8 < 100) (t1 := 16) (t2 := 44) rfl rfl trivial (fun c => ?_) (fun c => ?_)
      · replace h := zif1 c h
        refine ri false 2 (q := (zlc v6 0) = 0) (t1 := 44) (t2 := 23) rfl rfl trivial (fun c => ?_) (fun c => ?_)
        · replace h := zif1 c h
          refine rmk [false, false, false, false, true, false, false, false, false, false, false] (L2 := [none, none, none, none, some (1, v4), none, none, none, none, none, none]) rfl ?_
          obtain rfl := Option.some.inj h
          exact k
        · replace h := zif2 c h
          obtain ⟨⟨g1_0, g1_1⟩, h⟩ := zgd h
          refine rg false 3 (t := 9) (L2 := [none, none, none, none, some (1, v6), none, some (1, (Int.tmod v4 v6)), none, some (0, (v8 + 1)), some (1, (Int.tmod v4 v6)), none]) rfl rfl rfl (And.intro g1_0 g1_1) ?_
          refine rmk [false, false, false, false, true, false, true, false, true, false, false] (L2 := [none, none, none, none, some (1, v6), none, some (1, (Int.tmod v4 v6)), none, some (0, (v8 + 1)), none, none]) rfl ?_
          exact ih v6 (Int.tmod v4 v6) (v8 + 1) y h k
      · replace h := zif2 c h
        refine rmk [false, false, false, false, true, false, false, false, false, false, false] (L2 := [none, none, none, none, some (1, v4), none, none, none, none, none, none]) rfl ?_
        obtain rfl := Option.some.inj h
        exact k
  unfold f_X2_shared at h
  refine rb false 0 (L2 := [some (1, p0), none, some (1, p2), none, some (1, p0), none, some (1, p2), none, some (0, 0), none, none]) rfl rfl trivial ?_
  refine rmk [false, false, false, false, true, false, true, false, true, false, false] (L2 := [none, none, none, none, some (1, p0), none, some (1, p2), none, some (0, 0), none, none]) rfl ?_
  obtain ⟨x2, hx2, h⟩ := zbd h
  refine LP9 zN p0 p2 0 x2 hx2 ?_
  obtain rfl := Option.some.inj h
  exact r3 false 4 rfl rfl rfl rfl rfl rfl trivial
def bX2_become : zB := [(0, [(.lload_n 1, 1), (.lload_n 3, 1)], 2, .invokestatic 23, 3), (5, [(.lstore 5, 2), (.lload 5, 2), (.lconst 0, 1), (.lcmp, 1)], 11, .ifCond .eq 9, 3), (14, [(.lload_n 3, 1), (.lconst 0, 1), (.lcmp, 1)], 17, .ifCond .ne 4, 3), (20, [], 20, .return_, 1), (21, [(.aload_n 0, 1), (.getfield 10, 3), (.lload_n 1, 1), (.lload 5, 2), (.ldiv, 1)], 29, .invokevirtual 19, 3), (32, [(.aload_n 0, 1), (.getfield 16, 3), (.lload_n 3, 1), (.lload 5, 2), (.ldiv, 1)], 40, .invokevirtual 19, 3), (43, [], 43, .return_, 1)]
theorem bX2_become_ok : zBok cX2_become 7 bX2_become = true := by decide +kernel
abbrev wX2_become : List Cond := Cond.code yX2_become cX2_become 7 none :: uU
def rX2_become : Room := { frames := 2, cells := 0, slots := 0, locals := 46 }
set_option maxRecDepth 20000 in
set_option maxHeartbeats 4000000 in
theorem m_C_X2_become (l : Launch) (M0 : zM) (M1 : zM) (M2 : zM) (M3 : zM) (M4 : zM) (M5 : zM) (M6 : zM) (M7 : zM) (M8 : zM) (M9 : zM) (M10 : zM) (M11 : zM) (p1 : Int) (p3 : Int) (Fa_size : Int) (Fa_digits : Nat → Int) (Fb_size : Int) (Fb_digits : Nat → Int) (x : Int × (Nat → Int) × Int × (Nat → Int)) (h : f_X2_become p1 p3 Fa_size Fa_digits Fb_size Fb_digits = some x) : zD l yX2_become wX2_become rX2_become lamC shpC [(2, Int.ofNat 52), (1, p1), (1, p3)] [M0, M1, M2, M3, M4, M5, M6, M7, M8, M9, M10, M11, ([Fa_size], [Fa_digits]), ([Fb_size], [Fb_digits])] (none) [M0, M1, M2, M3, M4, M5, M6, M7, M8, M9, M10, M11, ([x.1], [x.2.1]), ([x.2.2.1], [x.2.2.2])] := by
  refine zD_of (B := bX2_become) (E := eX2) (by decide) rfl lokC (eX2_ok _) bX2_become_ok (Or.inl rfl) rfl (fun S R => ?_)
  obtain ⟨rb, rg, ri, rv, rs, r0, r1, r2, r3, rt, rmk⟩ := R
  show S 0 [some (2, Int.ofNat 52), some (1, p1), none, some (1, p3), none, none, none] [] [M0, M1, M2, M3, M4, M5, M6, M7, M8, M9, M10, M11, ([Fa_size], [Fa_digits]), ([Fb_size], [Fb_digits])]
  unfold f_X2_become at h
  obtain ⟨x1, hx1, h⟩ := zbd h
  refine rs false 0 2 rfl rfl trivial rfl (m_C_X2_shared l M0 M1 M2 M3 M4 M5 M6 M7 M8 M9 M10 M11 ([Fa_size], [Fa_digits]) ([Fb_size], [Fb_digits]) p1 p3 x1 hx1) ⟨_, _, _, _, rfl, rfl, rfl, by decide +kernel, ⟨Nat.le_of_ble_eq_true rfl, Nat.le_of_ble_eq_true rfl⟩, uGinS u_26_7 u_26_8 u_2_17 u_26_9⟩ ?_
  refine ri false 1 (q := (zlc x1 0) = 0) (t1 := 20) (t2 := 14) (L2 := [some (2, Int.ofNat 52), some (1, p1), none, some (1, p3), none, some (1, x1), none]) rfl rfl trivial (fun c => ?_) (fun c => ?_)
  · replace h := zif1 c h
    obtain rfl := Option.some.inj h
    exact r0 false 3 rfl rfl rfl rfl trivial
  · replace h := zif2 c h
    refine ri false 2 (q := (zlc p3 0) = 0) (t1 := 20) (t2 := 21) rfl rfl trivial (fun c => ?_) (fun c => ?_)
    · replace h := zif1 c h
      obtain rfl := Option.some.inj h
      exact r0 false 3 rfl rfl rfl rfl trivial
    · replace h := zif2 c h
      obtain ⟨⟨g3_0, g3_1⟩, h⟩ := zgd h
      obtain ⟨x2, hx2, h⟩ := zbd h
      refine rv false 4 1 rfl rfl (And.intro g3_0 g3_1) rfl (m_C_X6_become_53 l M0 M1 M2 M3 M4 M5 M6 M7 M8 M9 M10 M11 ([Fb_size], [Fb_digits]) (Int.tdiv p1 x1) Fa_size Fa_digits x2 hx2) ⟨_, _, _, _, rfl, rfl, rfl, by decide +kernel, ⟨Nat.le_of_ble_eq_true rfl, Nat.le_of_ble_eq_true rfl⟩, uGin u_6_11 u_6_12 u_6_13 u_4_17 u_6_14⟩ ⟨rfl, _, _, _, rfl, rfl⟩ ?_
      obtain ⟨⟨g5_0, g5_1⟩, h⟩ := zgd h
      obtain ⟨x4, hx4, h⟩ := zbd h
      refine rv false 5 1 rfl rfl (And.intro g5_0 g5_1) rfl (m_C_X6_become_55 l M0 M1 M2 M3 M4 M5 M6 M7 M8 M9 M10 M11 ([x2.1], [x2.2]) (Int.tdiv p3 x1) Fb_size Fb_digits x4 hx4) ⟨_, _, _, _, rfl, rfl, rfl, by decide +kernel, ⟨Nat.le_of_ble_eq_true rfl, Nat.le_of_ble_eq_true rfl⟩, uGin u_6_11 u_6_12 u_6_13 u_4_17 u_6_14⟩ ⟨rfl, _, _, _, rfl, rfl⟩ ?_
      obtain rfl := Option.some.inj h
      exact r0 false 6 rfl rfl rfl rfl trivial
def bX2_take : zB := [(0, [(.aload_n 0, 1), (.getfield 10, 3), (.aload_n 1, 1)], 5, .invokevirtual 27, 3), (8, [(.aload_n 0, 1), (.getfield 16, 3), (.aload_n 2, 1)], 13, .invokevirtual 27, 3), (16, [], 16, .return_, 1)]
theorem bX2_take_ok : zBok cX2_take 3 bX2_take = true := by decide +kernel
abbrev wX2_take : List Cond := Cond.code yX2_take cX2_take 3 none :: uU
def rX2_take : Room := { frames := 1, cells := 0, slots := 0, locals := 22 }
set_option maxRecDepth 20000 in
set_option maxHeartbeats 4000000 in
theorem m_C_X2_take (l : Launch) (M0 : zM) (M1 : zM) (M2 : zM) (M3 : zM) (M6 : zM) (M7 : zM) (M8 : zM) (M9 : zM) (M10 : zM) (M11 : zM) (Ha_size : Int) (Ha_digits : Nat → Int) (Hb_size : Int) (Hb_digits : Nat → Int) (Fa_size : Int) (Fa_digits : Nat → Int) (Fb_size : Int) (Fb_digits : Nat → Int) (x : Int × (Nat → Int) × Int × (Nat → Int)) (h : f_X2_take Fa_size Fa_digits Fb_size Fb_digits Ha_size Ha_digits Hb_size Hb_digits = some x) : zD l yX2_take wX2_take rX2_take lamC shpC [(2, Int.ofNat 52), (2, Int.ofNat 28), (2, Int.ofNat 30)] [M0, M1, M2, M3, ([Ha_size], [Ha_digits]), ([Hb_size], [Hb_digits]), M6, M7, M8, M9, M10, M11, ([Fa_size], [Fa_digits]), ([Fb_size], [Fb_digits])] (none) [M0, M1, M2, M3, ([Ha_size], [Ha_digits]), ([Hb_size], [Hb_digits]), M6, M7, M8, M9, M10, M11, ([x.1], [x.2.1]), ([x.2.2.1], [x.2.2.2])] := by
  refine zD_of (B := bX2_take) (E := eX2) (by decide) rfl lokC (eX2_ok _) bX2_take_ok (Or.inl rfl) rfl (fun S R => ?_)
  obtain ⟨rb, rg, ri, rv, rs, r0, r1, r2, r3, rt, rmk⟩ := R
  show S 0 [some (2, Int.ofNat 52), some (2, Int.ofNat 28), some (2, Int.ofNat 30)] [] [M0, M1, M2, M3, ([Ha_size], [Ha_digits]), ([Hb_size], [Hb_digits]), M6, M7, M8, M9, M10, M11, ([Fa_size], [Fa_digits]), ([Fb_size], [Fb_digits])]
  unfold f_X2_take at h
  obtain ⟨x1, hx1, h⟩ := zbd h
  refine rv false 0 1 rfl rfl trivial rfl (m_C_X6_take_53_28 l M0 M1 M2 M3 ([Hb_size], [Hb_digits]) M6 M7 M8 M9 M10 M11 ([Fb_size], [Fb_digits]) Ha_size Ha_digits Fa_size Fa_digits x1 hx1) ⟨_, _, _, _, rfl, rfl, rfl, by decide +kernel, ⟨Nat.le_of_ble_eq_true rfl, Nat.le_of_ble_eq_true rfl⟩, uGin u_29_20 u_28_18 u_28_19 u_4_17 u_28_20⟩ ⟨rfl, _, _, _, rfl, rfl⟩ ?_
  obtain ⟨x2, hx2, h⟩ := zbd h
  refine rv false 1 1 rfl rfl trivial rfl (m_C_X6_take_55_30 l M0 M1 M2 M3 ([Ha_size], [Ha_digits]) M6 M7 M8 M9 M10 M11 ([x1.1], [x1.2]) Hb_size Hb_digits Fb_size Fb_digits x2 hx2) ⟨_, _, _, _, rfl, rfl, rfl, by decide +kernel, ⟨Nat.le_of_ble_eq_true rfl, Nat.le_of_ble_eq_true rfl⟩, uGin u_29_20 u_28_18 u_28_19 u_4_17 u_28_20⟩ ⟨rfl, _, _, _, rfl, rfl⟩ ?_
  obtain rfl := Option.some.inj h
  exact r0 false 2 rfl rfl rfl rfl trivial
def bX0_tell : zB := [(0, [(.aload_n 0, 1), (.getfield 9, 3), (.iload_n 1, 1), (.iload_n 2, 1), (.iastore, 1), (.aload_n 0, 1), (.getfield 13, 3), (.iload_n 1, 1), (.iload_n 3, 1), (.iastore, 1)], 14, .return_, 1)]
theorem bX0_tell_ok : zBok cX0_tell 4 bX0_tell = true := by decide +kernel
abbrev wX0_tell : List Cond := Cond.code yX0_tell cX0_tell 4 none :: uU
def rX0_tell : Room := { frames := 0, cells := 0, slots := 0, locals := 0 }
set_option maxRecDepth 20000 in
set_option maxHeartbeats 4000000 in
theorem m_C_X0_tell (l : Launch) (M0 : zM) (M1 : zM) (M2 : zM) (M3 : zM) (M4 : zM) (M5 : zM) (M6 : zM) (M7 : zM) (M8 : zM) (M10 : zM) (M11 : zM) (M12 : zM) (M13 : zM) (p1 : Int) (p2 : Int) (p3 : Int) (A_doing : Nat → Int) (A_asked : Nat → Int) (x : (Nat → Int) × (Nat → Int)) (h : f_X0_tell p1 p2 p3 A_doing A_asked = some x) : zD l yX0_tell wX0_tell rX0_tell lamC shpC [(2, Int.ofNat 38), (0, p1), (0, p2), (0, p3)] [M0, M1, M2, M3, M4, M5, M6, M7, M8, ([], [A_doing, A_asked]), M10, M11, M12, M13] (none) [M0, M1, M2, M3, M4, M5, M6, M7, M8, ([], [x.1, x.2]), M10, M11, M12, M13] := by
  refine zD_of (B := bX0_tell) (E := eX0) (by decide) rfl lokC (eX0_ok _) bX0_tell_ok (Or.inl rfl) rfl (fun S R => ?_)
  obtain ⟨rb, rg, ri, rv, rs, r0, r1, r2, r3, rt, rmk⟩ := R
  show S 0 [some (2, Int.ofNat 38), some (0, p1), some (0, p2), some (0, p3)] [] [M0, M1, M2, M3, M4, M5, M6, M7, M8, ([], [A_doing, A_asked]), M10, M11, M12, M13]
  unfold f_X0_tell at h
  obtain ⟨⟨g1_0, g1_1⟩, h⟩ := zgd h
  obtain rfl := Option.some.inj h
  exact r0 false 0 rfl rfl rfl rfl (And.intro g1_0 g1_1)
def bX0_bestCopies : zB := [(0, [(.iconst 1, 1), (.istore_n 1, 1), (.iconst 2, 1), (.istore_n 2, 1)], 4, .nop, 0), (4, [(.iload_n 2, 1), (.bipush 9, 2)], 7, .if_icmp .gt 44, 3), (10, [(.iload_n 2, 1), (.aload_n 0, 1), (.getfield 9, 3), (.iload_n 2, 1), (.iaload, 1), (.imul, 1), (.aload_n 0, 1), (.getfield 13, 3), (.iload_n 1, 1), (.iaload, 1), (.imul, 1), (.iload_n 1, 1), (.aload_n 0, 1), (.getfield 9, 3), (.iload_n 1, 1), (.iaload, 1), (.imul, 1), (.aload_n 0, 1), (.getfield 13, 3), (.iload_n 2, 1), (.iaload, 1), (.imul, 1)], 40, .if_icmp .le 5, 3), (43, [(.iload_n 2, 1), (.istore_n 1, 1)], 45, .nop, 0), (45, [(.iinc 2 1, 3)], 48, .goto (-44), 3), (51, [(.iload_n 1, 1)], 52, .ireturn, 1)]
theorem bX0_bestCopies_ok : zBok cX0_bestCopies 3 bX0_bestCopies = true := by decide +kernel
abbrev wX0_bestCopies : List Cond := Cond.code yX0_bestCopies cX0_bestCopies 3 (some .int) :: uU
def rX0_bestCopies : Room := { frames := 0, cells := 0, slots := 0, locals := 0 }
set_option maxRecDepth 20000 in
set_option maxHeartbeats 4000000 in
theorem m_C_X0_bestCopies (l : Launch) (M0 : zM) (M1 : zM) (M2 : zM) (M3 : zM) (M4 : zM) (M5 : zM) (M6 : zM) (M7 : zM) (M8 : zM) (M10 : zM) (M11 : zM) (M12 : zM) (M13 : zM) (A_doing : Nat → Int) (A_asked : Nat → Int) (x : Int) (h : f_X0_bestCopies A_doing A_asked = some x) : zD l yX0_bestCopies wX0_bestCopies rX0_bestCopies lamC shpC [(2, Int.ofNat 38)] [M0, M1, M2, M3, M4, M5, M6, M7, M8, ([], [A_doing, A_asked]), M10, M11, M12, M13] (some (0, x)) [M0, M1, M2, M3, M4, M5, M6, M7, M8, ([], [A_doing, A_asked]), M10, M11, M12, M13] := by
  refine zD_of (B := bX0_bestCopies) (E := eX0) (by decide) rfl lokC (eX0_ok _) bX0_bestCopies_ok (Or.inl rfl) rfl (fun S R => ?_)
  obtain ⟨rb, rg, ri, rv, rs, r0, r1, r2, r3, rt, rmk⟩ := R
  show S 0 [some (2, Int.ofNat 38), none, none] [] [M0, M1, M2, M3, M4, M5, M6, M7, M8, ([], [A_doing, A_asked]), M10, M11, M12, M13]
  have LP4 : ∀ (n : Nat) (v1 : Int) (v2 : Int) (A_doing : Nat → Int) (A_asked : Nat → Int) (y : Int), l_X0_bestCopies_4 n v1 v2 A_doing A_asked = some y → S 51 [none, some (0, y), none] [] [M0, M1, M2, M3, M4, M5, M6, M7, M8, ([], [A_doing, A_asked]), M10, M11, M12, M13] → S 4 [some (2, Int.ofNat 38), some (0, v1), some (0, v2)] [] [M0, M1, M2, M3, M4, M5, M6, M7, M8, ([], [A_doing, A_asked]), M10, M11, M12, M13] := by
    intro n
    induction n with
    | zero =>
      intro v1 v2 A_doing A_asked y h k
      rw [l_X0_bestCopies_4] at h
      cases h
    | succ n ih =>
      intro v1 v2 A_doing A_asked y h k
      rw [l_X0_bestCopies_4] at h
      refine ri false 1 (q := (9 : Int) < v2) (t1 := 51) (t2 := 10) rfl rfl trivial (fun c => ?_) (fun c => ?_)
      · replace h := zif1 c h
        refine rmk [false, true, false] (L2 := [none, some (0, v1), none]) rfl ?_
        obtain rfl := Option.some.inj h
        exact k
      · replace h := zif2 c h
        obtain ⟨⟨g1_0, g1_1, g1_2, g1_3, g1_4, g1_5⟩, h⟩ := zgd h
        refine ri false 2 (q := ((v1 * (A_doing (Int.toNat v1))) * (A_asked (Int.toNat v2))) < ((v2 * (A_doing (Int.toNat v2))) * (A_asked (Int.toNat v1)))) (t1 := 43) (t2 := 45) rfl rfl (And.intro g1_0 (And.intro g1_1 (And.intro g1_2 (And.intro g1_3 (And.intro g1_4 g1_5))))) (fun c => ?_) (fun c => ?_)
        · replace h := zif1 c h
          refine rb false 3 (L2 := [some (2, Int.ofNat 38), some (0, v2), some (0, v2)]) rfl rfl trivial ?_
          obtain ⟨g2_0, h⟩ := zgd h
          refine rg false 4 (t := 4) (L2 := [some (2, Int.ofNat 38), some (0, v2), some (0, (v2 + 1))]) rfl rfl rfl g2_0 ?_
          exact ih v2 (v2 + 1) A_doing A_asked y h k
        · replace h := zif2 c h
          obtain ⟨g3_0, h⟩ := zgd h
          refine rg false 4 (t := 4) (L2 := [some (2, Int.ofNat 38), some (0, v1), some (0, (v2 + 1))]) rfl rfl rfl g3_0 ?_
          exact ih v1 (v2 + 1) A_doing A_asked y h k
  unfold f_X0_bestCopies at h
  refine rb false 0 (L2 := [some (2, Int.ofNat 38), some (0, 1), some (0, 2)]) rfl rfl trivial ?_
  obtain ⟨x4, hx4, h⟩ := zbd h
  refine LP4 zN 1 2 A_doing A_asked x4 hx4 ?_
  obtain rfl := Option.some.inj h
  exact r1 false 5 rfl rfl rfl rfl rfl rfl trivial
def bX0_doing : zB := [(0, [(.aload_n 0, 1), (.getfield 9, 3), (.iload_n 1, 1), (.iaload, 1)], 6, .ireturn, 1)]
theorem bX0_doing_ok : zBok cX0_doing 2 bX0_doing = true := by decide +kernel
abbrev wX0_doing : List Cond := Cond.code yX0_doing cX0_doing 2 (some .int) :: uU
def rX0_doing : Room := { frames := 0, cells := 0, slots := 0, locals := 0 }
set_option maxRecDepth 20000 in
set_option maxHeartbeats 4000000 in
theorem m_C_X0_doing (l : Launch) (M0 : zM) (M1 : zM) (M2 : zM) (M3 : zM) (M4 : zM) (M5 : zM) (M6 : zM) (M7 : zM) (M8 : zM) (M10 : zM) (M11 : zM) (M12 : zM) (M13 : zM) (p1 : Int) (A_doing : Nat → Int) (A_asked : Nat → Int) (x : Int) (h : f_X0_doing p1 A_doing = some x) : zD l yX0_doing wX0_doing rX0_doing lamC shpC [(2, Int.ofNat 38), (0, p1)] [M0, M1, M2, M3, M4, M5, M6, M7, M8, ([], [A_doing, A_asked]), M10, M11, M12, M13] (some (0, x)) [M0, M1, M2, M3, M4, M5, M6, M7, M8, ([], [A_doing, A_asked]), M10, M11, M12, M13] := by
  refine zD_of (B := bX0_doing) (E := eX0) (by decide) rfl lokC (eX0_ok _) bX0_doing_ok (Or.inl rfl) rfl (fun S R => ?_)
  obtain ⟨rb, rg, ri, rv, rs, r0, r1, r2, r3, rt, rmk⟩ := R
  show S 0 [some (2, Int.ofNat 38), some (0, p1)] [] [M0, M1, M2, M3, M4, M5, M6, M7, M8, ([], [A_doing, A_asked]), M10, M11, M12, M13]
  unfold f_X0_doing at h
  obtain ⟨g1_0, h⟩ := zgd h
  obtain rfl := Option.some.inj h
  exact r1 false 0 rfl rfl rfl rfl rfl rfl g1_0
def bX0_asked : zB := [(0, [(.aload_n 0, 1), (.getfield 13, 3), (.iload_n 1, 1), (.iaload, 1)], 6, .ireturn, 1)]
theorem bX0_asked_ok : zBok cX0_asked 2 bX0_asked = true := by decide +kernel
abbrev wX0_asked : List Cond := Cond.code yX0_asked cX0_asked 2 (some .int) :: uU
def rX0_asked : Room := { frames := 0, cells := 0, slots := 0, locals := 0 }
set_option maxRecDepth 20000 in
set_option maxHeartbeats 4000000 in
theorem m_C_X0_asked (l : Launch) (M0 : zM) (M1 : zM) (M2 : zM) (M3 : zM) (M4 : zM) (M5 : zM) (M6 : zM) (M7 : zM) (M8 : zM) (M10 : zM) (M11 : zM) (M12 : zM) (M13 : zM) (p1 : Int) (A_doing : Nat → Int) (A_asked : Nat → Int) (x : Int) (h : f_X0_asked p1 A_asked = some x) : zD l yX0_asked wX0_asked rX0_asked lamC shpC [(2, Int.ofNat 38), (0, p1)] [M0, M1, M2, M3, M4, M5, M6, M7, M8, ([], [A_doing, A_asked]), M10, M11, M12, M13] (some (0, x)) [M0, M1, M2, M3, M4, M5, M6, M7, M8, ([], [A_doing, A_asked]), M10, M11, M12, M13] := by
  refine zD_of (B := bX0_asked) (E := eX0) (by decide) rfl lokC (eX0_ok _) bX0_asked_ok (Or.inl rfl) rfl (fun S R => ?_)
  obtain ⟨rb, rg, ri, rv, rs, r0, r1, r2, r3, rt, rmk⟩ := R
  show S 0 [some (2, Int.ofNat 38), some (0, p1)] [] [M0, M1, M2, M3, M4, M5, M6, M7, M8, ([], [A_doing, A_asked]), M10, M11, M12, M13]
  unfold f_X0_asked at h
  obtain ⟨g1_0, h⟩ := zgd h
  obtain rfl := Option.some.inj h
  exact r1 false 0 rfl rfl rfl rfl rfl rfl g1_0
def bX0_foldInto : zB := [(0, [(.lload_n 1, 1), (.lstore_n 3, 1), (.iconst 1, 1), (.istore 5, 2)], 5, .nop, 0), (5, [(.iload 5, 2), (.bipush 9, 2)], 9, .if_icmp .gt 39, 3), (12, [(.ldc2_w 16, 3), (.lload_n 3, 1), (.lmul, 1), (.aload_n 0, 1), (.getfield 9, 3), (.iload 5, 2), (.iaload, 1), (.i2l, 1), (.ladd, 1), (.lstore_n 3, 1)], 27, .nop, 0), (27, [(.ldc2_w 16, 3), (.lload_n 3, 1), (.lmul, 1), (.aload_n 0, 1), (.getfield 13, 3), (.iload 5, 2), (.iaload, 1), (.i2l, 1), (.ladd, 1), (.lstore_n 3, 1)], 42, .nop, 0), (42, [(.iinc 5 1, 3)], 45, .goto (-40), 3), (48, [(.lload_n 3, 1)], 49, .lreturn, 1)]
theorem bX0_foldInto_ok : zBok cX0_foldInto 6 bX0_foldInto = true := by decide +kernel
abbrev wX0_foldInto : List Cond := Cond.code yX0_foldInto cX0_foldInto 6 (some .long) :: uU
def rX0_foldInto : Room := { frames := 0, cells := 0, slots := 0, locals := 0 }
set_option maxRecDepth 20000 in
set_option maxHeartbeats 4000000 in
theorem m_C_X0_foldInto (l : Launch) (M0 : zM) (M1 : zM) (M2 : zM) (M3 : zM) (M4 : zM) (M5 : zM) (M6 : zM) (M7 : zM) (M8 : zM) (M10 : zM) (M11 : zM) (M12 : zM) (M13 : zM) (p1 : Int) (A_doing : Nat → Int) (A_asked : Nat → Int) (x : Int) (h : f_X0_foldInto p1 A_doing A_asked = some x) : zD l yX0_foldInto wX0_foldInto rX0_foldInto lamC shpC [(2, Int.ofNat 38), (1, p1)] [M0, M1, M2, M3, M4, M5, M6, M7, M8, ([], [A_doing, A_asked]), M10, M11, M12, M13] (some (1, x)) [M0, M1, M2, M3, M4, M5, M6, M7, M8, ([], [A_doing, A_asked]), M10, M11, M12, M13] := by
  refine zD_of (B := bX0_foldInto) (E := eX0) (by decide) rfl lokC (eX0_ok _) bX0_foldInto_ok (Or.inl rfl) rfl (fun S R => ?_)
  obtain ⟨rb, rg, ri, rv, rs, r0, r1, r2, r3, rt, rmk⟩ := R
  show S 0 [some (2, Int.ofNat 38), some (1, p1), none, none, none, none] [] [M0, M1, M2, M3, M4, M5, M6, M7, M8, ([], [A_doing, A_asked]), M10, M11, M12, M13]
  have LP5 : ∀ (n : Nat) (v3 : Int) (v5 : Int) (A_doing : Nat → Int) (A_asked : Nat → Int) (y : Int), l_X0_foldInto_5 n v3 v5 A_doing A_asked = some y → S 48 [none, none, none, some (1, y), none, none] [] [M0, M1, M2, M3, M4, M5, M6, M7, M8, ([], [A_doing, A_asked]), M10, M11, M12, M13] → S 5 [some (2, Int.ofNat 38), none, none, some (1, v3), none, some (0, v5)] [] [M0, M1, M2, M3, M4, M5, M6, M7, M8, ([], [A_doing, A_asked]), M10, M11, M12, M13] := by
    intro n
    induction n with
    | zero =>
      intro v3 v5 A_doing A_asked y h k
      rw [l_X0_foldInto_5] at h
      cases h
    | succ n ih =>
      intro v3 v5 A_doing A_asked y h k
      rw [l_X0_foldInto_5] at h
      refine ri true 1 (q := (9 : Int) < v5) (t1 := 48) (t2 := 12) rfl rfl trivial (fun c => ?_) (fun c => ?_)
      · replace h := zif1 c h
        refine rmk [false, false, false, true, false, false] (L2 := [none, none, none, some (1, v3), none, none]) rfl ?_
        obtain rfl := Option.some.inj h
        exact k
      · replace h := zif2 c h
        obtain ⟨g1_0, h⟩ := zgd h
        refine rb true 2 (L2 := [some (2, Int.ofNat 38), none, none, some (1, (zwl ((31 * v3) + (A_doing (Int.toNat v5))))), none, some (0, v5)]) rfl rfl g1_0 ?_
        obtain ⟨g2_0, h⟩ := zgd h
        refine rb true 3 (L2 := [some (2, Int.ofNat 38), none, none, some (1, (zwl ((31 * (zwl ((31 * v3) + (A_doing (Int.toNat v5))))) + (A_asked (Int.toNat v5))))), none, some (0, v5)]) rfl rfl g2_0 ?_
        obtain ⟨g3_0, h⟩ := zgd h
        refine rg true 4 (t := 5) (L2 := [some (2, Int.ofNat 38), none, none, some (1, (zwl ((31 * (zwl ((31 * v3) + (A_doing (Int.toNat v5))))) + (A_asked (Int.toNat v5))))), none, some (0, (v5 + 1))]) rfl rfl rfl g3_0 ?_
        exact ih (zwl ((31 * (zwl ((31 * v3) + (A_doing (Int.toNat v5))))) + (A_asked (Int.toNat v5)))) (v5 + 1) A_doing A_asked y h k
  unfold f_X0_foldInto at h
  refine rb true 0 (L2 := [some (2, Int.ofNat 38), some (1, p1), none, some (1, p1), none, some (0, 1)]) rfl rfl trivial ?_
  refine rmk [true, false, false, true, false, true] (L2 := [some (2, Int.ofNat 38), none, none, some (1, p1), none, some (0, 1)]) rfl ?_
  obtain ⟨x4, hx4, h⟩ := zbd h
  refine LP5 zN p1 1 A_doing A_asked x4 hx4 ?_
  obtain rfl := Option.some.inj h
  exact r3 true 5 rfl rfl rfl rfl rfl rfl trivial
def bX1_add : zB := [(0, [(.aload_n 0, 1), (.getfield 18, 3), (.bipush 40, 2)], 6, .if_icmp .lt 6, 3), (9, [(.bipush (-4), 2)], 11, .ireturn, 1), (12, [(.aload_n 0, 1), (.getfield 11, 3), (.aload_n 0, 1), (.getfield 18, 3), (.iload_n 1, 1), (.iastore, 1), (.aload_n 0, 1), (.getfield 15, 3), (.iload_n 1, 1), (.dup2, 1), (.iaload, 1), (.iconst 1, 1), (.iadd, 1), (.iastore, 1)], 32, .nop, 0), (32, [(.aload_n 0, 1), (.dup, 1), (.getfield 18, 3), (.iconst 1, 1), (.iadd, 1), (.putfield 18, 3), (.aload_n 0, 1), (.getfield 18, 3)], 46, .ireturn, 1)]
theorem bX1_add_ok : zBok cX1_add 2 bX1_add = true := by decide +kernel
abbrev wX1_add : List Cond := Cond.code yX1_add cX1_add 2 (some .int) :: uU
def rX1_add : Room := { frames := 0, cells := 0, slots := 0, locals := 0 }
set_option maxRecDepth 20000 in
set_option maxHeartbeats 4000000 in
theorem m_C_X1_add (l : Launch) (M0 : zM) (M1 : zM) (M2 : zM) (M3 : zM) (M4 : zM) (M5 : zM) (M6 : zM) (M7 : zM) (M8 : zM) (M9 : zM) (M10 : zM) (M12 : zM) (M13 : zM) (p1 : Int) (B_count : Int) (B_keptAtAll : Int) (B_keptOnce : Int) (B_keptTwice : Int) (B_kinds : Nat → Int) (B_times : Nat → Int) (x : Int × Int × (Nat → Int) × (Nat → Int)) (h : f_X1_add p1 B_count B_kinds B_times = some x) : zD l yX1_add wX1_add rX1_add lamC shpC [(2, Int.ofNat 49), (0, p1)] [M0, M1, M2, M3, M4, M5, M6, M7, M8, M9, M10, ([B_count, B_keptAtAll, B_keptOnce, B_keptTwice], [B_kinds, B_times]), M12, M13] (some (0, x.1)) [M0, M1, M2, M3, M4, M5, M6, M7, M8, M9, M10, ([x.2.1, B_keptAtAll, B_keptOnce, B_keptTwice], [x.2.2.1, x.2.2.2]), M12, M13] := by
  refine zD_of (B := bX1_add) (E := eX1) (by decide) rfl lokC (eX1_ok _) bX1_add_ok (Or.inl rfl) rfl (fun S R => ?_)
  obtain ⟨rb, rg, ri, rv, rs, r0, r1, r2, r3, rt, rmk⟩ := R
  show S 0 [some (2, Int.ofNat 49), some (0, p1)] [] [M0, M1, M2, M3, M4, M5, M6, M7, M8, M9, M10, ([B_count, B_keptAtAll, B_keptOnce, B_keptTwice], [B_kinds, B_times]), M12, M13]
  unfold f_X1_add at h
  refine ri false 0 (q := B_count < 40) (t1 := 12) (t2 := 9) rfl rfl trivial (fun c => ?_) (fun c => ?_)
  · replace h := zif1 c h
    obtain ⟨⟨g1_0, g1_1, g1_2, g1_3⟩, h⟩ := zgd h
    refine rb false 2 (σ2 := [M0, M1, M2, M3, M4, M5, M6, M7, M8, M9, M10, ([B_count, B_keptAtAll, B_keptOnce, B_keptTwice], [(zu B_kinds (Int.toNat B_count) p1), (zu B_times (Int.toNat p1) ((B_times (Int.toNat p1)) + 1))]), M12, M13]) rfl rfl (And.intro g1_0 (And.intro g1_1 (And.intro g1_2 g1_3))) ?_
    obtain ⟨g2_0, h⟩ := zgd h
    obtain rfl := Option.some.inj h
    exact r1 false 3 rfl rfl rfl rfl rfl rfl g2_0
  · replace h := zif2 c h
    obtain rfl := Option.some.inj h
    exact r1 false 1 rfl rfl rfl rfl rfl rfl trivial
def bX1_empty : zB := [(0, [(.aload_n 0, 1), (.getfield 18, 3), (.istore_n 1, 1), (.aload_n 0, 1), (.iconst 0, 1), (.putfield 18, 3), (.iconst 0, 1), (.istore_n 2, 1)], 12, .nop, 0), (12, [(.iload_n 2, 1), (.bipush 100, 2)], 15, .if_icmp .ge 16, 3), (18, [(.aload_n 0, 1), (.getfield 15, 3), (.iload_n 2, 1), (.iconst 0, 1), (.iastore, 1), (.iinc 2 1, 3)], 28, .goto (-16), 3), (31, [(.iload_n 1, 1)], 32, .ireturn, 1)]
theorem bX1_empty_ok : zBok cX1_empty 3 bX1_empty = true := by decide +kernel
abbrev wX1_empty : List Cond := Cond.code yX1_empty cX1_empty 3 (some .int) :: uU
def rX1_empty : Room := { frames := 0, cells := 0, slots := 0, locals := 0 }
set_option maxRecDepth 20000 in
set_option maxHeartbeats 4000000 in
theorem m_C_X1_empty (l : Launch) (M0 : zM) (M1 : zM) (M2 : zM) (M3 : zM) (M4 : zM) (M5 : zM) (M6 : zM) (M7 : zM) (M8 : zM) (M9 : zM) (M10 : zM) (M12 : zM) (M13 : zM) (B_count : Int) (B_keptAtAll : Int) (B_keptOnce : Int) (B_keptTwice : Int) (B_kinds : Nat → Int) (B_times : Nat → Int) (x : Int × Int × (Nat → Int)) (h : f_X1_empty B_count B_times = some x) : zD l yX1_empty wX1_empty rX1_empty lamC shpC [(2, Int.ofNat 49)] [M0, M1, M2, M3, M4, M5, M6, M7, M8, M9, M10, ([B_count, B_keptAtAll, B_keptOnce, B_keptTwice], [B_kinds, B_times]), M12, M13] (some (0, x.1)) [M0, M1, M2, M3, M4, M5, M6, M7, M8, M9, M10, ([x.2.1, B_keptAtAll, B_keptOnce, B_keptTwice], [B_kinds, x.2.2]), M12, M13] := by
  refine zD_of (B := bX1_empty) (E := eX1) (by decide) rfl lokC (eX1_ok _) bX1_empty_ok (Or.inl rfl) rfl (fun S R => ?_)
  obtain ⟨rb, rg, ri, rv, rs, r0, r1, r2, r3, rt, rmk⟩ := R
  show S 0 [some (2, Int.ofNat 49), none, none] [] [M0, M1, M2, M3, M4, M5, M6, M7, M8, M9, M10, ([B_count, B_keptAtAll, B_keptOnce, B_keptTwice], [B_kinds, B_times]), M12, M13]
  have LP12 : ∀ (n : Nat) (v1 : Int) (v2 : Int) (B_count : Int) (B_keptAtAll : Int) (B_keptOnce : Int) (B_keptTwice : Int) (B_kinds : Nat → Int) (B_times : Nat → Int) (y : Nat → Int), l_X1_empty_12 n v1 v2 B_times = some y → S 31 [none, some (0, v1), none] [] [M0, M1, M2, M3, M4, M5, M6, M7, M8, M9, M10, ([B_count, B_keptAtAll, B_keptOnce, B_keptTwice], [B_kinds, y]), M12, M13] → S 12 [some (2, Int.ofNat 49), some (0, v1), some (0, v2)] [] [M0, M1, M2, M3, M4, M5, M6, M7, M8, M9, M10, ([B_count, B_keptAtAll, B_keptOnce, B_keptTwice], [B_kinds, B_times]), M12, M13] := by
    intro n
    induction n with
    | zero =>
      intro v1 v2 B_count B_keptAtAll B_keptOnce B_keptTwice B_kinds B_times y h k
      rw [l_X1_empty_12] at h
      cases h
    | succ n ih =>
      intro v1 v2 B_count B_keptAtAll B_keptOnce B_keptTwice B_kinds B_times y h k
      rw [l_X1_empty_12] at h
      refine ri false 1 (q := v2 < 100) (t1 := 18) (t2 := 31) rfl rfl trivial (fun c => ?_) (fun c => ?_)
      · replace h := zif1 c h
        obtain ⟨⟨g1_0, g1_1⟩, h⟩ := zgd h
        refine rg false 2 (t := 12) (L2 := [some (2, Int.ofNat 49), some (0, v1), some (0, (v2 + 1))]) (σ2 := [M0, M1, M2, M3, M4, M5, M6, M7, M8, M9, M10, ([B_count, B_keptAtAll, B_keptOnce, B_keptTwice], [B_kinds, (zu B_times (Int.toNat v2) 0)]), M12, M13]) rfl rfl rfl (And.intro g1_0 g1_1) ?_
        exact ih v1 (v2 + 1) B_count B_keptAtAll B_keptOnce B_keptTwice B_kinds (zu B_times (Int.toNat v2) 0) y h k
      · replace h := zif2 c h
        refine rmk [false, true, false] (L2 := [none, some (0, v1), none]) rfl ?_
        obtain rfl := Option.some.inj h
        exact k
  unfold f_X1_empty at h
  refine rb false 0 (L2 := [some (2, Int.ofNat 49), some (0, B_count), some (0, 0)]) (σ2 := [M0, M1, M2, M3, M4, M5, M6, M7, M8, M9, M10, ([0, B_keptAtAll, B_keptOnce, B_keptTwice], [B_kinds, B_times]), M12, M13]) rfl rfl trivial ?_
  obtain ⟨x2, hx2, h⟩ := zbd h
  refine LP12 zN B_count 0 0 B_keptAtAll B_keptOnce B_keptTwice B_kinds B_times x2 hx2 ?_
  obtain rfl := Option.some.inj h
  exact r1 false 3 rfl rfl rfl rfl rfl rfl trivial
def bX1_tally : zB := [(0, [(.aload_n 0, 1), (.iconst 0, 1), (.putfield 22, 3), (.aload_n 0, 1), (.iconst 0, 1), (.putfield 25, 3), (.aload_n 0, 1), (.iconst 0, 1), (.putfield 28, 3)], 15, .nop, 0), (15, [(.iconst 0, 1), (.istore_n 1, 1)], 17, .nop, 0), (17, [(.iload_n 1, 1), (.bipush 100, 2)], 20, .if_icmp .ge 80, 3), (23, [(.aload_n 0, 1), (.dup, 1), (.getfield 22, 3), (.aload_n 0, 1), (.getfield 15, 3), (.iload_n 1, 1), (.iaload, 1)], 34, .ifCond .le 7, 3), (37, [(.iconst 1, 1)], 38, .goto 4, 3), (41, [(.iconst 0, 1)], 42, .nop, 0), (42, [(.iadd, 1), (.putfield 22, 3), (.aload_n 0, 1), (.dup, 1), (.getfield 25, 3), (.aload_n 0, 1), (.getfield 15, 3), (.iload_n 1, 1), (.iaload, 1), (.iconst 1, 1)], 58, .if_icmp .ne 7, 3), (61, [(.iconst 1, 1)], 62, .goto 4, 3), (65, [(.iconst 0, 1)], 66, .nop, 0), (66, [(.iadd, 1), (.putfield 25, 3), (.aload_n 0, 1), (.dup, 1), (.getfield 28, 3), (.aload_n 0, 1), (.getfield 15, 3), (.iload_n 1, 1), (.iaload, 1), (.iconst 2, 1)], 82, .if_icmp .ne 7, 3), (85, [(.iconst 1, 1)], 86, .goto 4, 3), (89, [(.iconst 0, 1)], 90, .nop, 0), (90, [(.iadd, 1), (.putfield 28, 3), (.iinc 1 1, 3)], 97, .goto (-80), 3), (100, [], 100, .return_, 1)]
theorem bX1_tally_ok : zBok cX1_tally 2 bX1_tally = true := by decide +kernel
abbrev wX1_tally : List Cond := Cond.code yX1_tally cX1_tally 2 none :: uU
def rX1_tally : Room := { frames := 0, cells := 0, slots := 0, locals := 0 }
set_option maxRecDepth 20000 in
set_option maxHeartbeats 4000000 in
theorem m_C_X1_tally (l : Launch) (M0 : zM) (M1 : zM) (M2 : zM) (M3 : zM) (M4 : zM) (M5 : zM) (M6 : zM) (M7 : zM) (M8 : zM) (M9 : zM) (M10 : zM) (M12 : zM) (M13 : zM) (B_count : Int) (B_keptAtAll : Int) (B_keptOnce : Int) (B_keptTwice : Int) (B_kinds : Nat → Int) (B_times : Nat → Int) (x : Int × Int × Int) (h : f_X1_tally B_keptAtAll B_keptOnce B_keptTwice B_times = some x) : zD l yX1_tally wX1_tally rX1_tally lamC shpC [(2, Int.ofNat 49)] [M0, M1, M2, M3, M4, M5, M6, M7, M8, M9, M10, ([B_count, B_keptAtAll, B_keptOnce, B_keptTwice], [B_kinds, B_times]), M12, M13] (none) [M0, M1, M2, M3, M4, M5, M6, M7, M8, M9, M10, ([B_count, x.1, x.2.1, x.2.2], [B_kinds, B_times]), M12, M13] := by
  refine zD_of (B := bX1_tally) (E := eX1) (by decide) rfl lokC (eX1_ok _) bX1_tally_ok (Or.inl rfl) rfl (fun S R => ?_)
  obtain ⟨rb, rg, ri, rv, rs, r0, r1, r2, r3, rt, rmk⟩ := R
  show S 0 [some (2, Int.ofNat 49), none] [] [M0, M1, M2, M3, M4, M5, M6, M7, M8, M9, M10, ([B_count, B_keptAtAll, B_keptOnce, B_keptTwice], [B_kinds, B_times]), M12, M13]
  have LP17 : ∀ (n : Nat) (v1 : Int) (B_count : Int) (B_keptAtAll : Int) (B_keptOnce : Int) (B_keptTwice : Int) (B_kinds : Nat → Int) (B_times : Nat → Int) (y : Int × Int × Int), l_X1_tally_17 n v1 B_keptAtAll B_keptOnce B_keptTwice B_times = some y → S 100 [none, none] [] [M0, M1, M2, M3, M4, M5, M6, M7, M8, M9, M10, ([B_count, y.1, y.2.1, y.2.2], [B_kinds, B_times]), M12, M13] → S 17 [some (2, Int.ofNat 49), some (0, v1)] [] [M0, M1, M2, M3, M4, M5, M6, M7, M8, M9, M10, ([B_count, B_keptAtAll, B_keptOnce, B_keptTwice], [B_kinds, B_times]), M12, M13] := by
    intro n
    induction n with
    | zero =>
      intro v1 B_count B_keptAtAll B_keptOnce B_keptTwice B_kinds B_times y h k
      rw [l_X1_tally_17] at h
      cases h
    | succ n ih =>
      intro v1 B_count B_keptAtAll B_keptOnce B_keptTwice B_kinds B_times y h k
      rw [l_X1_tally_17] at h
      refine ri false 2 (q := v1 < 100) (t1 := 23) (t2 := 100) rfl rfl trivial (fun c => ?_) (fun c => ?_)
      · replace h := zif1 c h
        obtain ⟨g1_0, h⟩ := zgd h
        refine ri false 3 (q := (0 : Int) < (B_times (Int.toNat v1))) (t1 := 37) (t2 := 41) (st2 := [(0, B_keptAtAll), (2, Int.ofNat 49)]) rfl rfl g1_0 (fun c => ?_) (fun c => ?_)
        · replace h := zif1 c h
          refine rg false 4 (t := 42) (st2 := [(0, 1), (0, B_keptAtAll), (2, Int.ofNat 49)]) rfl rfl rfl trivial ?_
          obtain ⟨⟨g2_0, g2_1⟩, h⟩ := zgd h
          refine ri false 6 (q := (B_times (Int.toNat v1)) = 1) (t1 := 61) (t2 := 65) (σ2 := [M0, M1, M2, M3, M4, M5, M6, M7, M8, M9, M10, ([B_count, (B_keptAtAll + 1), B_keptOnce, B_keptTwice], [B_kinds, B_times]), M12, M13]) (st2 := [(0, B_keptOnce), (2, Int.ofNat 49)]) rfl rfl (And.intro g2_0 g2_1) (fun c => ?_) (fun c => ?_)
          · replace h := zif1 c h
            refine rg false 7 (t := 66) (st2 := [(0, 1), (0, B_keptOnce), (2, Int.ofNat 49)]) rfl rfl rfl trivial ?_
            obtain ⟨⟨g3_0, g3_1⟩, h⟩ := zgd h
            refine ri false 9 (q := (B_times (Int.toNat v1)) = 2) (t1 := 85) (t2 := 89) (σ2 := [M0, M1, M2, M3, M4, M5, M6, M7, M8, M9, M10, ([B_count, (B_keptAtAll + 1), (B_keptOnce + 1), B_keptTwice], [B_kinds, B_times]), M12, M13]) (st2 := [(0, B_keptTwice), (2, Int.ofNat 49)]) rfl rfl (And.intro g3_0 g3_1) (fun c => ?_) (fun c => ?_)
            · replace h := zif1 c h
              refine rg false 10 (t := 90) (st2 := [(0, 1), (0, B_keptTwice), (2, Int.ofNat 49)]) rfl rfl rfl trivial ?_
              obtain ⟨⟨g4_0, g4_1⟩, h⟩ := zgd h
              refine rg false 12 (t := 17) (L2 := [some (2, Int.ofNat 49), some (0, (v1 + 1))]) (σ2 := [M0, M1, M2, M3, M4, M5, M6, M7, M8, M9, M10, ([B_count, (B_keptAtAll + 1), (B_keptOnce + 1), (B_keptTwice + 1)], [B_kinds, B_times]), M12, M13]) rfl rfl rfl (And.intro g4_0 g4_1) ?_
              exact ih (v1 + 1) B_count (B_keptAtAll + 1) (B_keptOnce + 1) (B_keptTwice + 1) B_kinds B_times y h k
            · replace h := zif2 c h
              refine rb false 11 (st2 := [(0, 0), (0, B_keptTwice), (2, Int.ofNat 49)]) rfl rfl trivial ?_
              obtain ⟨⟨g5_0, g5_1⟩, h⟩ := zgd h
              refine rg false 12 (t := 17) (L2 := [some (2, Int.ofNat 49), some (0, (v1 + 1))]) (σ2 := [M0, M1, M2, M3, M4, M5, M6, M7, M8, M9, M10, ([B_count, (B_keptAtAll + 1), (B_keptOnce + 1), (B_keptTwice + 0)], [B_kinds, B_times]), M12, M13]) rfl rfl rfl (And.intro g5_0 g5_1) ?_
              exact ih (v1 + 1) B_count (B_keptAtAll + 1) (B_keptOnce + 1) (B_keptTwice + 0) B_kinds B_times y h k
          · replace h := zif2 c h
            refine rb false 8 (st2 := [(0, 0), (0, B_keptOnce), (2, Int.ofNat 49)]) rfl rfl trivial ?_
            obtain ⟨⟨g6_0, g6_1⟩, h⟩ := zgd h
            refine ri false 9 (q := (B_times (Int.toNat v1)) = 2) (t1 := 85) (t2 := 89) (σ2 := [M0, M1, M2, M3, M4, M5, M6, M7, M8, M9, M10, ([B_count, (B_keptAtAll + 1), (B_keptOnce + 0), B_keptTwice], [B_kinds, B_times]), M12, M13]) (st2 := [(0, B_keptTwice), (2, Int.ofNat 49)]) rfl rfl (And.intro g6_0 g6_1) (fun c => ?_) (fun c => ?_)
            · replace h := zif1 c h
              refine rg false 10 (t := 90) (st2 := [(0, 1), (0, B_keptTwice), (2, Int.ofNat 49)]) rfl rfl rfl trivial ?_
              obtain ⟨⟨g7_0, g7_1⟩, h⟩ := zgd h
              refine rg false 12 (t := 17) (L2 := [some (2, Int.ofNat 49), some (0, (v1 + 1))]) (σ2 := [M0, M1, M2, M3, M4, M5, M6, M7, M8, M9, M10, ([B_count, (B_keptAtAll + 1), (B_keptOnce + 0), (B_keptTwice + 1)], [B_kinds, B_times]), M12, M13]) rfl rfl rfl (And.intro g7_0 g7_1) ?_
              exact ih (v1 + 1) B_count (B_keptAtAll + 1) (B_keptOnce + 0) (B_keptTwice + 1) B_kinds B_times y h k
            · replace h := zif2 c h
              refine rb false 11 (st2 := [(0, 0), (0, B_keptTwice), (2, Int.ofNat 49)]) rfl rfl trivial ?_
              obtain ⟨⟨g8_0, g8_1⟩, h⟩ := zgd h
              refine rg false 12 (t := 17) (L2 := [some (2, Int.ofNat 49), some (0, (v1 + 1))]) (σ2 := [M0, M1, M2, M3, M4, M5, M6, M7, M8, M9, M10, ([B_count, (B_keptAtAll + 1), (B_keptOnce + 0), (B_keptTwice + 0)], [B_kinds, B_times]), M12, M13]) rfl rfl rfl (And.intro g8_0 g8_1) ?_
              exact ih (v1 + 1) B_count (B_keptAtAll + 1) (B_keptOnce + 0) (B_keptTwice + 0) B_kinds B_times y h k
        · replace h := zif2 c h
          refine rb false 5 (st2 := [(0, 0), (0, B_keptAtAll), (2, Int.ofNat 49)]) rfl rfl trivial ?_
          obtain ⟨⟨g9_0, g9_1⟩, h⟩ := zgd h
          refine ri false 6 (q := (B_times (Int.toNat v1)) = 1) (t1 := 61) (t2 := 65) (σ2 := [M0, M1, M2, M3, M4, M5, M6, M7, M8, M9, M10, ([B_count, (B_keptAtAll + 0), B_keptOnce, B_keptTwice], [B_kinds, B_times]), M12, M13]) (st2 := [(0, B_keptOnce), (2, Int.ofNat 49)]) rfl rfl (And.intro g9_0 g9_1) (fun c => ?_) (fun c => ?_)
          · replace h := zif1 c h
            refine rg false 7 (t := 66) (st2 := [(0, 1), (0, B_keptOnce), (2, Int.ofNat 49)]) rfl rfl rfl trivial ?_
            obtain ⟨⟨g10_0, g10_1⟩, h⟩ := zgd h
            refine ri false 9 (q := (B_times (Int.toNat v1)) = 2) (t1 := 85) (t2 := 89) (σ2 := [M0, M1, M2, M3, M4, M5, M6, M7, M8, M9, M10, ([B_count, (B_keptAtAll + 0), (B_keptOnce + 1), B_keptTwice], [B_kinds, B_times]), M12, M13]) (st2 := [(0, B_keptTwice), (2, Int.ofNat 49)]) rfl rfl (And.intro g10_0 g10_1) (fun c => ?_) (fun c => ?_)
            · replace h := zif1 c h
              refine rg false 10 (t := 90) (st2 := [(0, 1), (0, B_keptTwice), (2, Int.ofNat 49)]) rfl rfl rfl trivial ?_
              obtain ⟨⟨g11_0, g11_1⟩, h⟩ := zgd h
              refine rg false 12 (t := 17) (L2 := [some (2, Int.ofNat 49), some (0, (v1 + 1))]) (σ2 := [M0, M1, M2, M3, M4, M5, M6, M7, M8, M9, M10, ([B_count, (B_keptAtAll + 0), (B_keptOnce + 1), (B_keptTwice + 1)], [B_kinds, B_times]), M12, M13]) rfl rfl rfl (And.intro g11_0 g11_1) ?_
              exact ih (v1 + 1) B_count (B_keptAtAll + 0) (B_keptOnce + 1) (B_keptTwice + 1) B_kinds B_times y h k
            · replace h := zif2 c h
              refine rb false 11 (st2 := [(0, 0), (0, B_keptTwice), (2, Int.ofNat 49)]) rfl rfl trivial ?_
              obtain ⟨⟨g12_0, g12_1⟩, h⟩ := zgd h
              refine rg false 12 (t := 17) (L2 := [some (2, Int.ofNat 49), some (0, (v1 + 1))]) (σ2 := [M0, M1, M2, M3, M4, M5, M6, M7, M8, M9, M10, ([B_count, (B_keptAtAll + 0), (B_keptOnce + 1), (B_keptTwice + 0)], [B_kinds, B_times]), M12, M13]) rfl rfl rfl (And.intro g12_0 g12_1) ?_
              exact ih (v1 + 1) B_count (B_keptAtAll + 0) (B_keptOnce + 1) (B_keptTwice + 0) B_kinds B_times y h k
          · replace h := zif2 c h
            refine rb false 8 (st2 := [(0, 0), (0, B_keptOnce), (2, Int.ofNat 49)]) rfl rfl trivial ?_
            obtain ⟨⟨g13_0, g13_1⟩, h⟩ := zgd h
            refine ri false 9 (q := (B_times (Int.toNat v1)) = 2) (t1 := 85) (t2 := 89) (σ2 := [M0, M1, M2, M3, M4, M5, M6, M7, M8, M9, M10, ([B_count, (B_keptAtAll + 0), (B_keptOnce + 0), B_keptTwice], [B_kinds, B_times]), M12, M13]) (st2 := [(0, B_keptTwice), (2, Int.ofNat 49)]) rfl rfl (And.intro g13_0 g13_1) (fun c => ?_) (fun c => ?_)
            · replace h := zif1 c h
              refine rg false 10 (t := 90) (st2 := [(0, 1), (0, B_keptTwice), (2, Int.ofNat 49)]) rfl rfl rfl trivial ?_
              obtain ⟨⟨g14_0, g14_1⟩, h⟩ := zgd h
              refine rg false 12 (t := 17) (L2 := [some (2, Int.ofNat 49), some (0, (v1 + 1))]) (σ2 := [M0, M1, M2, M3, M4, M5, M6, M7, M8, M9, M10, ([B_count, (B_keptAtAll + 0), (B_keptOnce + 0), (B_keptTwice + 1)], [B_kinds, B_times]), M12, M13]) rfl rfl rfl (And.intro g14_0 g14_1) ?_
              exact ih (v1 + 1) B_count (B_keptAtAll + 0) (B_keptOnce + 0) (B_keptTwice + 1) B_kinds B_times y h k
            · replace h := zif2 c h
              refine rb false 11 (st2 := [(0, 0), (0, B_keptTwice), (2, Int.ofNat 49)]) rfl rfl trivial ?_
              obtain ⟨⟨g15_0, g15_1⟩, h⟩ := zgd h
              refine rg false 12 (t := 17) (L2 := [some (2, Int.ofNat 49), some (0, (v1 + 1))]) (σ2 := [M0, M1, M2, M3, M4, M5, M6, M7, M8, M9, M10, ([B_count, (B_keptAtAll + 0), (B_keptOnce + 0), (B_keptTwice + 0)], [B_kinds, B_times]), M12, M13]) rfl rfl rfl (And.intro g15_0 g15_1) ?_
              exact ih (v1 + 1) B_count (B_keptAtAll + 0) (B_keptOnce + 0) (B_keptTwice + 0) B_kinds B_times y h k
      · replace h := zif2 c h
        refine rmk [false, false] (L2 := [none, none]) rfl ?_
        obtain rfl := Option.some.inj h
        exact k
  unfold f_X1_tally at h
  refine rb false 0 (σ2 := [M0, M1, M2, M3, M4, M5, M6, M7, M8, M9, M10, ([B_count, 0, 0, 0], [B_kinds, B_times]), M12, M13]) rfl rfl trivial ?_
  refine rb false 1 (L2 := [some (2, Int.ofNat 49), some (0, 0)]) rfl rfl trivial ?_
  obtain ⟨x16, hx16, h⟩ := zbd h
  refine LP17 zN 0 B_count 0 0 0 B_kinds B_times x16 hx16 ?_
  obtain rfl := Option.some.inj h
  exact r0 false 13 rfl rfl rfl rfl trivial
def bX1_foldInto : zB := [(0, [(.lload_n 1, 1), (.lstore_n 3, 1), (.iconst 0, 1), (.istore 5, 2)], 5, .nop, 0), (5, [(.iload 5, 2), (.aload_n 0, 1), (.getfield 18, 3)], 11, .if_icmp .ge 24, 3), (14, [(.ldc2_w 31, 3), (.lload_n 3, 1), (.lmul, 1), (.aload_n 0, 1), (.getfield 11, 3), (.iload 5, 2), (.iaload, 1), (.i2l, 1), (.ladd, 1), (.lstore_n 3, 1)], 29, .nop, 0), (29, [(.iinc 5 1, 3)], 32, .goto (-27), 3), (35, [(.lload_n 3, 1)], 36, .lreturn, 1)]
theorem bX1_foldInto_ok : zBok cX1_foldInto 6 bX1_foldInto = true := by decide +kernel
abbrev wX1_foldInto : List Cond := Cond.code yX1_foldInto cX1_foldInto 6 (some .long) :: uU
def rX1_foldInto : Room := { frames := 0, cells := 0, slots := 0, locals := 0 }
set_option maxRecDepth 20000 in
set_option maxHeartbeats 4000000 in
theorem m_C_X1_foldInto (l : Launch) (M0 : zM) (M1 : zM) (M2 : zM) (M3 : zM) (M4 : zM) (M5 : zM) (M6 : zM) (M7 : zM) (M8 : zM) (M9 : zM) (M10 : zM) (M12 : zM) (M13 : zM) (p1 : Int) (B_count : Int) (B_keptAtAll : Int) (B_keptOnce : Int) (B_keptTwice : Int) (B_kinds : Nat → Int) (B_times : Nat → Int) (x : Int) (h : f_X1_foldInto p1 B_count B_kinds = some x) : zD l yX1_foldInto wX1_foldInto rX1_foldInto lamC shpC [(2, Int.ofNat 49), (1, p1)] [M0, M1, M2, M3, M4, M5, M6, M7, M8, M9, M10, ([B_count, B_keptAtAll, B_keptOnce, B_keptTwice], [B_kinds, B_times]), M12, M13] (some (1, x)) [M0, M1, M2, M3, M4, M5, M6, M7, M8, M9, M10, ([B_count, B_keptAtAll, B_keptOnce, B_keptTwice], [B_kinds, B_times]), M12, M13] := by
  refine zD_of (B := bX1_foldInto) (E := eX1) (by decide) rfl lokC (eX1_ok _) bX1_foldInto_ok (Or.inl rfl) rfl (fun S R => ?_)
  obtain ⟨rb, rg, ri, rv, rs, r0, r1, r2, r3, rt, rmk⟩ := R
  show S 0 [some (2, Int.ofNat 49), some (1, p1), none, none, none, none] [] [M0, M1, M2, M3, M4, M5, M6, M7, M8, M9, M10, ([B_count, B_keptAtAll, B_keptOnce, B_keptTwice], [B_kinds, B_times]), M12, M13]
  have LP5 : ∀ (n : Nat) (v3 : Int) (v5 : Int) (B_count : Int) (B_keptAtAll : Int) (B_keptOnce : Int) (B_keptTwice : Int) (B_kinds : Nat → Int) (B_times : Nat → Int) (y : Int), l_X1_foldInto_5 n v3 v5 B_count B_kinds = some y → S 35 [none, none, none, some (1, y), none, none] [] [M0, M1, M2, M3, M4, M5, M6, M7, M8, M9, M10, ([B_count, B_keptAtAll, B_keptOnce, B_keptTwice], [B_kinds, B_times]), M12, M13] → S 5 [some (2, Int.ofNat 49), none, none, some (1, v3), none, some (0, v5)] [] [M0, M1, M2, M3, M4, M5, M6, M7, M8, M9, M10, ([B_count, B_keptAtAll, B_keptOnce, B_keptTwice], [B_kinds, B_times]), M12, M13] := by
    intro n
    induction n with
    | zero =>
      intro v3 v5 B_count B_keptAtAll B_keptOnce B_keptTwice B_kinds B_times y h k
      rw [l_X1_foldInto_5] at h
      cases h
    | succ n ih =>
      intro v3 v5 B_count B_keptAtAll B_keptOnce B_keptTwice B_kinds B_times y h k
      rw [l_X1_foldInto_5] at h
      refine ri true 1 (q := v5 < B_count) (t1 := 14) (t2 := 35) rfl rfl trivial (fun c => ?_) (fun c => ?_)
      · replace h := zif1 c h
        obtain ⟨g1_0, h⟩ := zgd h
        refine rb true 2 (L2 := [some (2, Int.ofNat 49), none, none, some (1, (zwl ((31 * v3) + (B_kinds (Int.toNat v5))))), none, some (0, v5)]) rfl rfl g1_0 ?_
        obtain ⟨g2_0, h⟩ := zgd h
        refine rg true 3 (t := 5) (L2 := [some (2, Int.ofNat 49), none, none, some (1, (zwl ((31 * v3) + (B_kinds (Int.toNat v5))))), none, some (0, (v5 + 1))]) rfl rfl rfl g2_0 ?_
        exact ih (zwl ((31 * v3) + (B_kinds (Int.toNat v5)))) (v5 + 1) B_count B_keptAtAll B_keptOnce B_keptTwice B_kinds B_times y h k
      · replace h := zif2 c h
        refine rmk [false, false, false, true, false, false] (L2 := [none, none, none, some (1, v3), none, none]) rfl ?_
        obtain rfl := Option.some.inj h
        exact k
  unfold f_X1_foldInto at h
  refine rb true 0 (L2 := [some (2, Int.ofNat 49), some (1, p1), none, some (1, p1), none, some (0, 0)]) rfl rfl trivial ?_
  refine rmk [true, false, false, true, false, true] (L2 := [some (2, Int.ofNat 49), none, none, some (1, p1), none, some (0, 0)]) rfl ?_
  obtain ⟨x3, hx3, h⟩ := zbd h
  refine LP5 zN p1 0 B_count B_keptAtAll B_keptOnce B_keptTwice B_kinds B_times x3 hx3 ?_
  obtain rfl := Option.some.inj h
  exact r3 true 4 rfl rfl rfl rfl rfl rfl trivial
