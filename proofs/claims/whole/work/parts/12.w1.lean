def bX6_trim : zB := [(0, [(.aload_n 0, 1), (.iconst 0, 1), (.putfield 15, 3), (.iconst 0, 1), (.istore_n 1, 1)], 7, .nop, 0), (7, [(.iload_n 1, 1), (.bipush 40, 2)], 10, .if_icmp .ge 25, 3), (13, [(.aload_n 0, 1), (.getfield 11, 3), (.iload_n 1, 1), (.iaload, 1)], 19, .ifCond .eq 10, 3), (22, [(.aload_n 0, 1), (.iload_n 1, 1), (.iconst 1, 1), (.iadd, 1), (.putfield 15, 3)], 29, .nop, 0), (29, [(.iinc 1 1, 3)], 32, .goto (-25), 3), (35, [], 35, .return_, 1)]
theorem bX6_trim_ok : zBok cX6_trim 2 bX6_trim = true := by decide +kernel
abbrev wX6_trim : List Cond := Cond.code yX6_trim cX6_trim 2 none :: uU
def rX6_trim : Room := { frames := 0, cells := 0, slots := 0, locals := 0 }
set_option maxRecDepth 20000 in
set_option maxHeartbeats 4000000 in
theorem m_1_X6_trim_0 (l : Launch) (s0 : Int) (d0 : Nat → Int) (x : Int) (h : f_X6_trim s0 d0 = some x) : zD l yX6_trim wX6_trim rX6_trim lam1 shp1 [(2, Int.ofNat 0)] [([s0], [d0])] (none) [([x], [d0])] := by
  refine zD_of (B := bX6_trim) (E := eX6n) (by decide) rfl lok1 (eX6n_ok _) bX6_trim_ok (Or.inl rfl) rfl (fun S R => ?_)
  obtain ⟨rb, rg, ri, rv, rs, r0, r1, r2, r3, rt, rmk⟩ := R
  show S 0 [some (2, Int.ofNat 0), none] [] [([s0], [d0])]
  have LP7 : ∀ (n : Nat) (v1 : Int) (s0 : Int) (d0 : Nat → Int) (y : Int), l_X6_trim_7 n v1 s0 d0 = some y → S 35 [none, none] [] [([y], [d0])] → S 7 [some (2, Int.ofNat 0), some (0, v1)] [] [([s0], [d0])] := by
    intro n
    induction n with
    | zero =>
      intro v1 s0 d0 y h k
      rw [l_X6_trim_7] at h
      cases h
    | succ n ih =>
      intro v1 s0 d0 y h k
      rw [l_X6_trim_7] at h
      refine ri false 1 (q := v1 < 40) (t1 := 13) (t2 := 35) rfl rfl trivial (fun c => ?_) (fun c => ?_)
      · replace h := zif1 c h
        obtain ⟨g1_0, h⟩ := zgd h
        refine ri false 2 (q := (d0 (Int.toNat v1)) = 0) (t1 := 29) (t2 := 22) rfl rfl g1_0 (fun c => ?_) (fun c => ?_)
        · replace h := zif1 c h
          obtain ⟨g2_0, h⟩ := zgd h
          refine rg false 4 (t := 7) (L2 := [some (2, Int.ofNat 0), some (0, (v1 + 1))]) rfl rfl rfl g2_0 ?_
          exact ih (v1 + 1) s0 d0 y h k
        · replace h := zif2 c h
          obtain ⟨g3_0, h⟩ := zgd h
          refine rb false 3 (σ2 := [([(v1 + 1)], [d0])]) rfl rfl g3_0 ?_
          obtain ⟨g4_0, h⟩ := zgd h
          refine rg false 4 (t := 7) (L2 := [some (2, Int.ofNat 0), some (0, (v1 + 1))]) rfl rfl rfl g4_0 ?_
          exact ih (v1 + 1) (v1 + 1) d0 y h k
      · replace h := zif2 c h
        refine rmk [false, false] (L2 := [none, none]) rfl ?_
        obtain rfl := Option.some.inj h
        exact k
  unfold f_X6_trim at h
  refine rb false 0 (L2 := [some (2, Int.ofNat 0), some (0, 0)]) (σ2 := [([0], [d0])]) rfl rfl trivial ?_
  obtain ⟨x5, hx5, h⟩ := zbd h
  refine LP7 zN 0 0 d0 x5 hx5 ?_
  obtain rfl := Option.some.inj h
  exact r0 false 5 rfl rfl rfl rfl trivial
def bX6_become : zB := [(0, [(.lload_n 1, 1), (.lstore_n 3, 1), (.iconst 0, 1), (.istore 5, 2)], 5, .nop, 0), (5, [(.iload 5, 2), (.bipush 40, 2)], 9, .if_icmp .ge 27, 3), (12, [(.aload_n 0, 1), (.getfield 11, 3), (.iload 5, 2), (.lload_n 3, 1), (.ldc2_w 19, 3), (.land, 1), (.l2i, 1), (.iastore, 1), (.lload_n 3, 1), (.bipush 30, 2), (.lushr, 1), (.lstore_n 3, 1)], 30, .nop, 0), (30, [(.iinc 5 1, 3)], 33, .goto (-28), 3), (36, [(.aload_n 0, 1)], 37, .invokevirtual 21, 3), (40, [], 40, .return_, 1)]
theorem bX6_become_ok : zBok cX6_become 6 bX6_become = true := by decide +kernel
abbrev wX6_become : List Cond := Cond.code yX6_become cX6_become 6 none :: uU
def rX6_become : Room := { frames := 1, cells := 0, slots := 0, locals := 21 }
set_option maxRecDepth 20000 in
set_option maxHeartbeats 4000000 in
theorem m_1_X6_become_0 (l : Launch) (p1 : Int) (s0 : Int) (d0 : Nat → Int) (x : Int × (Nat → Int)) (h : f_X6_become p1 s0 d0 = some x) : zD l yX6_become wX6_become rX6_become lam1 shp1 [(2, Int.ofNat 0), (1, p1)] [([s0], [d0])] (none) [([x.1], [x.2])] := by
  refine zD_of (B := bX6_become) (E := eX6n) (by decide) rfl lok1 (eX6n_ok _) bX6_become_ok (Or.inl rfl) rfl (fun S R => ?_)
  obtain ⟨rb, rg, ri, rv, rs, r0, r1, r2, r3, rt, rmk⟩ := R
  show S 0 [some (2, Int.ofNat 0), some (1, p1), none, none, none, none] [] [([s0], [d0])]
  have LP5 : ∀ (n : Nat) (v3 : Int) (v5 : Int) (s0 : Int) (d0 : Nat → Int) (y : Nat → Int), l_X6_become_5 n v3 v5 d0 = some y → S 36 [some (2, Int.ofNat 0), none, none, none, none, none] [] [([s0], [y])] → S 5 [some (2, Int.ofNat 0), none, none, some (1, v3), none, some (0, v5)] [] [([s0], [d0])] := by
    intro n
    induction n with
    | zero =>
      intro v3 v5 s0 d0 y h k
      rw [l_X6_become_5] at h
      cases h
    | succ n ih =>
      intro v3 v5 s0 d0 y h k
      rw [l_X6_become_5] at h
      refine ri false 1 (q := v5 < 40) (t1 := 12) (t2 := 36) rfl rfl trivial (fun c => ?_) (fun c => ?_)
      · replace h := zif1 c h
        obtain ⟨⟨g1_0, g1_1⟩, h⟩ := zgd h
        refine rb false 2 (L2 := [some (2, Int.ofNat 0), none, none, some (1, (zushrl v3 30)), none, some (0, v5)]) (σ2 := [([s0], [(zu d0 (Int.toNat v5) (zandl v3 1073741823))])]) rfl rfl (And.intro g1_0 g1_1) ?_
        obtain ⟨g2_0, h⟩ := zgd h
        refine rg false 3 (t := 5) (L2 := [some (2, Int.ofNat 0), none, none, some (1, (zushrl v3 30)), none, some (0, (v5 + 1))]) rfl rfl rfl g2_0 ?_
        exact ih (zushrl v3 30) (v5 + 1) s0 (zu d0 (Int.toNat v5) (zandl v3 1073741823)) y h k
      · replace h := zif2 c h
        refine rmk [true, false, false, false, false, false] (L2 := [some (2, Int.ofNat 0), none, none, none, none, none]) rfl ?_
        obtain rfl := Option.some.inj h
        exact k
  unfold f_X6_become at h
  refine rb false 0 (L2 := [some (2, Int.ofNat 0), some (1, p1), none, some (1, p1), none, some (0, 0)]) rfl rfl trivial ?_
  refine rmk [true, false, false, true, false, true] (L2 := [some (2, Int.ofNat 0), none, none, some (1, p1), none, some (0, 0)]) rfl ?_
  obtain ⟨x3, hx3, h⟩ := zbd h
  refine LP5 zN p1 0 s0 d0 x3 hx3 ?_
  obtain ⟨x4, hx4, h⟩ := zbd h
  refine rv false 4 0 rfl rfl trivial rfl (m_1_X6_trim_0 l s0 x3 x4 hx4) ⟨_, _, _, _, rfl, rfl, rfl, by decide +kernel, ⟨Nat.le_of_ble_eq_true rfl, Nat.le_of_ble_eq_true rfl⟩, uGin u_6_16 u_6_17 u_6_18 u_4_17 u_6_19⟩ ⟨rfl, _, _, _, rfl, rfl⟩ ?_
  obtain rfl := Option.some.inj h
  exact r0 false 5 rfl rfl rfl rfl trivial
def bJ6_bitCount_0f7a4 : zB := [(0, [(.iload_n 0, 1), (.iload_n 0, 1), (.iconst 1, 1), (.iushr, 1), (.ldc_w 265, 3), (.iand, 1), (.isub, 1), (.istore_n 0, 1), (.iload_n 0, 1), (.ldc_w 266, 3), (.iand, 1), (.iload_n 0, 1), (.iconst 2, 1), (.iushr, 1), (.ldc_w 266, 3), (.iand, 1), (.iadd, 1), (.istore_n 0, 1)], 24, .nop, 0), (24, [(.iload_n 0, 1), (.iload_n 0, 1), (.iconst 4, 1), (.iushr, 1), (.iadd, 1), (.ldc_w 267, 3), (.iand, 1), (.istore_n 0, 1), (.iload_n 0, 1), (.iload_n 0, 1), (.bipush 8, 2), (.iushr, 1), (.iadd, 1), (.istore_n 0, 1)], 41, .nop, 0), (41, [(.iload_n 0, 1), (.iload_n 0, 1), (.bipush 16, 2), (.iushr, 1), (.iadd, 1), (.istore_n 0, 1), (.iload_n 0, 1), (.bipush 63, 2), (.iand, 1)], 52, .ireturn, 1)]
theorem bJ6_bitCount_0f7a4_ok : zBok cJ6_bitCount_0f7a4 1 bJ6_bitCount_0f7a4 = true := by decide +kernel
abbrev wJ6_bitCount_0f7a4 : List Cond := Cond.code yJ6_bitCount_0f7a4 cJ6_bitCount_0f7a4 1 (some .int) :: uU
def rJ6_bitCount_0f7a4 : Room := { frames := 0, cells := 0, slots := 0, locals := 0 }
set_option maxRecDepth 20000 in
set_option maxHeartbeats 4000000 in
theorem m_C_J6_bitCount_0f7a4 (l : Launch) (M0 : zM) (M1 : zM) (M2 : zM) (M3 : zM) (M4 : zM) (M5 : zM) (M6 : zM) (M7 : zM) (M8 : zM) (M9 : zM) (M10 : zM) (M11 : zM) (M12 : zM) (M13 : zM) (p0 : Int) (x : Int) (h : f_J6_bitCount_0f7a4 p0 = some x) : zD l yJ6_bitCount_0f7a4 wJ6_bitCount_0f7a4 rJ6_bitCount_0f7a4 lamC shpC [(0, p0)] [M0, M1, M2, M3, M4, M5, M6, M7, M8, M9, M10, M11, M12, M13] (some (0, x)) [M0, M1, M2, M3, M4, M5, M6, M7, M8, M9, M10, M11, M12, M13] := by
  refine zD_of (B := bJ6_bitCount_0f7a4) (E := eJ6) (by decide) rfl lokC (eJ6_ok _) bJ6_bitCount_0f7a4_ok (Or.inl rfl) rfl (fun S R => ?_)
  obtain ⟨rb, rg, ri, rv, rs, r0, r1, r2, r3, rt, rmk⟩ := R
  show S 0 [some (0, p0)] [] [M0, M1, M2, M3, M4, M5, M6, M7, M8, M9, M10, M11, M12, M13]
  unfold f_J6_bitCount_0f7a4 at h
  refine rb true 0 (L2 := [some (0, (zw ((zand (zw (p0 - (zand (zushr p0 1) 1431655765))) 858993459) + (zand (zushr (zw (p0 - (zand (zushr p0 1) 1431655765))) 2) 858993459))))]) rfl rfl trivial ?_
  refine rb true 1 (L2 := [some (0, (zw ((zand ((zw ((zand (zw (p0 - (zand (zushr p0 1) 1431655765))) 858993459) + (zand (zushr (zw (p0 - (zand (zushr p0 1) 1431655765))) 2) 858993459))) + (zushr (zw ((zand (zw (p0 - (zand (zushr p0 1) 1431655765))) 858993459) + (zand (zushr (zw (p0 - (zand (zushr p0 1) 1431655765))) 2) 858993459))) 4)) 252645135) + (zushr (zand ((zw ((zand (zw (p0 - (zand (zushr p0 1) 1431655765))) 858993459) + (zand (zushr (zw (p0 - (zand (zushr p0 1) 1431655765))) 2) 858993459))) + (zushr (zw ((zand (zw (p0 - (zand (zushr p0 1) 1431655765))) 858993459) + (zand (zushr (zw (p0 - (zand (zushr p0 1) 1431655765))) 2) 858993459))) 4)) 252645135) 8))))]) rfl rfl trivial ?_
  obtain rfl := Option.some.inj h
  exact r1 true 2 (L2 := [some (0, (zw ((zw ((zand ((zw ((zand (zw (p0 - (zand (zushr p0 1) 1431655765))) 858993459) + (zand (zushr (zw (p0 - (zand (zushr p0 1) 1431655765))) 2) 858993459))) + (zushr (zw ((zand (zw (p0 - (zand (zushr p0 1) 1431655765))) 858993459) + (zand (zushr (zw (p0 - (zand (zushr p0 1) 1431655765))) 2) 858993459))) 4)) 252645135) + (zushr (zand ((zw ((zand (zw (p0 - (zand (zushr p0 1) 1431655765))) 858993459) + (zand (zushr (zw (p0 - (zand (zushr p0 1) 1431655765))) 2) 858993459))) + (zushr (zw ((zand (zw (p0 - (zand (zushr p0 1) 1431655765))) 858993459) + (zand (zushr (zw (p0 - (zand (zushr p0 1) 1431655765))) 2) 858993459))) 4)) 252645135) 8))) + (zushr (zw ((zand ((zw ((zand (zw (p0 - (zand (zushr p0 1) 1431655765))) 858993459) + (zand (zushr (zw (p0 - (zand (zushr p0 1) 1431655765))) 2) 858993459))) + (zushr (zw ((zand (zw (p0 - (zand (zushr p0 1) 1431655765))) 858993459) + (zand (zushr (zw (p0 - (zand (zushr p0 1) 1431655765))) 2) 858993459))) 4)) 252645135) + (zushr (zand ((zw ((zand (zw (p0 - (zand (zushr p0 1) 1431655765))) 858993459) + (zand (zushr (zw (p0 - (zand (zushr p0 1) 1431655765))) 2) 858993459))) + (zushr (zw ((zand (zw (p0 - (zand (zushr p0 1) 1431655765))) 858993459) + (zand (zushr (zw (p0 - (zand (zushr p0 1) 1431655765))) 2) 858993459))) 4)) 252645135) 8))) 16))))]) rfl rfl rfl rfl rfl rfl trivial
set_option maxRecDepth 20000 in
set_option maxHeartbeats 4000000 in
theorem m_C_X6_trim_53 (l : Launch) (M0 : zM) (M1 : zM) (M2 : zM) (M3 : zM) (M4 : zM) (M5 : zM) (M6 : zM) (M7 : zM) (M8 : zM) (M9 : zM) (M10 : zM) (M11 : zM) (M13 : zM) (s0 : Int) (d0 : Nat → Int) (x : Int) (h : f_X6_trim s0 d0 = some x) : zD l yX6_trim wX6_trim rX6_trim lamC shpC [(2, Int.ofNat 53)] [M0, M1, M2, M3, M4, M5, M6, M7, M8, M9, M10, M11, ([s0], [d0]), M13] (none) [M0, M1, M2, M3, M4, M5, M6, M7, M8, M9, M10, M11, ([x], [d0]), M13] := by
  refine zD_of (B := bX6_trim) (E := eX6n) (by decide) rfl lokC (eX6n_ok _) bX6_trim_ok (Or.inl rfl) rfl (fun S R => ?_)
  obtain ⟨rb, rg, ri, rv, rs, r0, r1, r2, r3, rt, rmk⟩ := R
  show S 0 [some (2, Int.ofNat 53), none] [] [M0, M1, M2, M3, M4, M5, M6, M7, M8, M9, M10, M11, ([s0], [d0]), M13]
  have LP7 : ∀ (n : Nat) (v1 : Int) (s0 : Int) (d0 : Nat → Int) (y : Int), l_X6_trim_7 n v1 s0 d0 = some y → S 35 [none, none] [] [M0, M1, M2, M3, M4, M5, M6, M7, M8, M9, M10, M11, ([y], [d0]), M13] → S 7 [some (2, Int.ofNat 53), some (0, v1)] [] [M0, M1, M2, M3, M4, M5, M6, M7, M8, M9, M10, M11, ([s0], [d0]), M13] := by
    intro n
    induction n with
    | zero =>
      intro v1 s0 d0 y h k
      rw [l_X6_trim_7] at h
      cases h
    | succ n ih =>
      intro v1 s0 d0 y h k
      rw [l_X6_trim_7] at h
      refine ri false 1 (q := v1 < 40) (t1 := 13) (t2 := 35) rfl rfl trivial (fun c => ?_) (fun c => ?_)
      · replace h := zif1 c h
        obtain ⟨g1_0, h⟩ := zgd h
        refine ri false 2 (q := (d0 (Int.toNat v1)) = 0) (t1 := 29) (t2 := 22) rfl rfl g1_0 (fun c => ?_) (fun c => ?_)
        · replace h := zif1 c h
          obtain ⟨g2_0, h⟩ := zgd h
          refine rg false 4 (t := 7) (L2 := [some (2, Int.ofNat 53), some (0, (v1 + 1))]) rfl rfl rfl g2_0 ?_
          exact ih (v1 + 1) s0 d0 y h k
        · replace h := zif2 c h
          obtain ⟨g3_0, h⟩ := zgd h
          refine rb false 3 (σ2 := [M0, M1, M2, M3, M4, M5, M6, M7, M8, M9, M10, M11, ([(v1 + 1)], [d0]), M13]) rfl rfl g3_0 ?_
          obtain ⟨g4_0, h⟩ := zgd h
          refine rg false 4 (t := 7) (L2 := [some (2, Int.ofNat 53), some (0, (v1 + 1))]) rfl rfl rfl g4_0 ?_
          exact ih (v1 + 1) (v1 + 1) d0 y h k
      · replace h := zif2 c h
        refine rmk [false, false] (L2 := [none, none]) rfl ?_
        obtain rfl := Option.some.inj h
        exact k
  unfold f_X6_trim at h
  refine rb false 0 (L2 := [some (2, Int.ofNat 53), some (0, 0)]) (σ2 := [M0, M1, M2, M3, M4, M5, M6, M7, M8, M9, M10, M11, ([0], [d0]), M13]) rfl rfl trivial ?_
  obtain ⟨x5, hx5, h⟩ := zbd h
  refine LP7 zN 0 0 d0 x5 hx5 ?_
  obtain rfl := Option.some.inj h
  exact r0 false 5 rfl rfl rfl rfl trivial
set_option maxRecDepth 20000 in
set_option maxHeartbeats 4000000 in
theorem m_C_X6_become_53 (l : Launch) (M0 : zM) (M1 : zM) (M2 : zM) (M3 : zM) (M4 : zM) (M5 : zM) (M6 : zM) (M7 : zM) (M8 : zM) (M9 : zM) (M10 : zM) (M11 : zM) (M13 : zM) (p1 : Int) (s0 : Int) (d0 : Nat → Int) (x : Int × (Nat → Int)) (h : f_X6_become p1 s0 d0 = some x) : zD l yX6_become wX6_become rX6_become lamC shpC [(2, Int.ofNat 53), (1, p1)] [M0, M1, M2, M3, M4, M5, M6, M7, M8, M9, M10, M11, ([s0], [d0]), M13] (none) [M0, M1, M2, M3, M4, M5, M6, M7, M8, M9, M10, M11, ([x.1], [x.2]), M13] := by
  refine zD_of (B := bX6_become) (E := eX6n) (by decide) rfl lokC (eX6n_ok _) bX6_become_ok (Or.inl rfl) rfl (fun S R => ?_)
  obtain ⟨rb, rg, ri, rv, rs, r0, r1, r2, r3, rt, rmk⟩ := R
  show S 0 [some (2, Int.ofNat 53), some (1, p1), none, none, none, none] [] [M0, M1, M2, M3, M4, M5, M6, M7, M8, M9, M10, M11, ([s0], [d0]), M13]
  have LP5 : ∀ (n : Nat) (v3 : Int) (v5 : Int) (s0 : Int) (d0 : Nat → Int) (y : Nat → Int), l_X6_become_5 n v3 v5 d0 = some y → S 36 [some (2, Int.ofNat 53), none, none, none, none, none] [] [M0, M1, M2, M3, M4, M5, M6, M7, M8, M9, M10, M11, ([s0], [y]), M13] → S 5 [some (2, Int.ofNat 53), none, none, some (1, v3), none, some (0, v5)] [] [M0, M1, M2, M3, M4, M5, M6, M7, M8, M9, M10, M11, ([s0], [d0]), M13] := by
    intro n
    induction n with
    | zero =>
      intro v3 v5 s0 d0 y h k
      rw [l_X6_become_5] at h
      cases h
    | succ n ih =>
      intro v3 v5 s0 d0 y h k
      rw [l_X6_become_5] at h
      refine ri false 1 (q := v5 < 40) (t1 := 12) (t2 := 36) rfl rfl trivial (fun c => ?_) (fun c => ?_)
      · replace h := zif1 c h
        obtain ⟨⟨g1_0, g1_1⟩, h⟩ := zgd h
        refine rb false 2 (L2 := [some (2, Int.ofNat 53), none, none, some (1, (zushrl v3 30)), none, some (0, v5)]) (σ2 := [M0, M1, M2, M3, M4, M5, M6, M7, M8, M9, M10, M11, ([s0], [(zu d0 (Int.toNat v5) (zandl v3 1073741823))]), M13]) rfl rfl (And.intro g1_0 g1_1) ?_
        obtain ⟨g2_0, h⟩ := zgd h
        refine rg false 3 (t := 5) (L2 := [some (2, Int.ofNat 53), none, none, some (1, (zushrl v3 30)), none, some (0, (v5 + 1))]) rfl rfl rfl g2_0 ?_
        exact ih (zushrl v3 30) (v5 + 1) s0 (zu d0 (Int.toNat v5) (zandl v3 1073741823)) y h k
      · replace h := zif2 c h
        refine rmk [true, false, false, false, false, false] (L2 := [some (2, Int.ofNat 53), none, none, none, none, none]) rfl ?_
        obtain rfl := Option.some.inj h
        exact k
  unfold f_X6_become at h
  refine rb false 0 (L2 := [some (2, Int.ofNat 53), some (1, p1), none, some (1, p1), none, some (0, 0)]) rfl rfl trivial ?_
  refine rmk [true, false, false, true, false, true] (L2 := [some (2, Int.ofNat 53), none, none, some (1, p1), none, some (0, 0)]) rfl ?_
  obtain ⟨x3, hx3, h⟩ := zbd h
  refine LP5 zN p1 0 s0 d0 x3 hx3 ?_
  obtain ⟨x4, hx4, h⟩ := zbd h
  refine rv false 4 0 rfl rfl trivial rfl (m_C_X6_trim_53 l M0 M1 M2 M3 M4 M5 M6 M7 M8 M9 M10 M11 M13 s0 x3 x4 hx4) ⟨_, _, _, _, rfl, rfl, rfl, by decide +kernel, ⟨Nat.le_of_ble_eq_true rfl, Nat.le_of_ble_eq_true rfl⟩, uGin u_6_16 u_6_17 u_6_18 u_4_17 u_6_19⟩ ⟨rfl, _, _, _, rfl, rfl⟩ ?_
  obtain rfl := Option.some.inj h
  exact r0 false 5 rfl rfl rfl rfl trivial
set_option maxRecDepth 20000 in
set_option maxHeartbeats 4000000 in
theorem m_C_X6_trim_55 (l : Launch) (M0 : zM) (M1 : zM) (M2 : zM) (M3 : zM) (M4 : zM) (M5 : zM) (M6 : zM) (M7 : zM) (M8 : zM) (M9 : zM) (M10 : zM) (M11 : zM) (M12 : zM) (s0 : Int) (d0 : Nat → Int) (x : Int) (h : f_X6_trim s0 d0 = some x) : zD l yX6_trim wX6_trim rX6_trim lamC shpC [(2, Int.ofNat 55)] [M0, M1, M2, M3, M4, M5, M6, M7, M8, M9, M10, M11, M12, ([s0], [d0])] (none) [M0, M1, M2, M3, M4, M5, M6, M7, M8, M9, M10, M11, M12, ([x], [d0])] := by
  refine zD_of (B := bX6_trim) (E := eX6n) (by decide) rfl lokC (eX6n_ok _) bX6_trim_ok (Or.inl rfl) rfl (fun S R => ?_)
  obtain ⟨rb, rg, ri, rv, rs, r0, r1, r2, r3, rt, rmk⟩ := R
  show S 0 [some (2, Int.ofNat 55), none] [] [M0, M1, M2, M3, M4, M5, M6, M7, M8, M9, M10, M11, M12, ([s0], [d0])]
  have LP7 : ∀ (n : Nat) (v1 : Int) (s0 : Int) (d0 : Nat → Int) (y : Int), l_X6_trim_7 n v1 s0 d0 = some y → S 35 [none, none] [] [M0, M1, M2, M3, M4, M5, M6, M7, M8, M9, M10, M11, M12, ([y], [d0])] → S 7 [some (2, Int.ofNat 55), some (0, v1)] [] [M0, M1, M2, M3, M4, M5, M6, M7, M8, M9, M10, M11, M12, ([s0], [d0])] := by
    intro n
    induction n with
    | zero =>
      intro v1 s0 d0 y h k
      rw [l_X6_trim_7] at h
      cases h
    | succ n ih =>
      intro v1 s0 d0 y h k
      rw [l_X6_trim_7] at h
      refine ri false 1 (q := v1 < 40) (t1 := 13) (t2 := 35) rfl rfl trivial (fun c => ?_) (fun c => ?_)
      · replace h := zif1 c h
        obtain ⟨g1_0, h⟩ := zgd h
        refine ri false 2 (q := (d0 (Int.toNat v1)) = 0) (t1 := 29) (t2 := 22) rfl rfl g1_0 (fun c => ?_) (fun c => ?_)
        · replace h := zif1 c h
          obtain ⟨g2_0, h⟩ := zgd h
          refine rg false 4 (t := 7) (L2 := [some (2, Int.ofNat 55), some (0, (v1 + 1))]) rfl rfl rfl g2_0 ?_
          exact ih (v1 + 1) s0 d0 y h k
        · replace h := zif2 c h
          obtain ⟨g3_0, h⟩ := zgd h
          refine rb false 3 (σ2 := [M0, M1, M2, M3, M4, M5, M6, M7, M8, M9, M10, M11, M12, ([(v1 + 1)], [d0])]) rfl rfl g3_0 ?_
          obtain ⟨g4_0, h⟩ := zgd h
          refine rg false 4 (t := 7) (L2 := [some (2, Int.ofNat 55), some (0, (v1 + 1))]) rfl rfl rfl g4_0 ?_
          exact ih (v1 + 1) (v1 + 1) d0 y h k
      · replace h := zif2 c h
        refine rmk [false, false] (L2 := [none, none]) rfl ?_
        obtain rfl := Option.some.inj h
        exact k
  unfold f_X6_trim at h
  refine rb false 0 (L2 := [some (2, Int.ofNat 55), some (0, 0)]) (σ2 := [M0, M1, M2, M3, M4, M5, M6, M7, M8, M9, M10, M11, M12, ([0], [d0])]) rfl rfl trivial ?_
  obtain ⟨x5, hx5, h⟩ := zbd h
  refine LP7 zN 0 0 d0 x5 hx5 ?_
  obtain rfl := Option.some.inj h
  exact r0 false 5 rfl rfl rfl rfl trivial
set_option maxRecDepth 20000 in
set_option maxHeartbeats 4000000 in
theorem m_C_X6_become_55 (l : Launch) (M0 : zM) (M1 : zM) (M2 : zM) (M3 : zM) (M4 : zM) (M5 : zM) (M6 : zM) (M7 : zM) (M8 : zM) (M9 : zM) (M10 : zM) (M11 : zM) (M12 : zM) (p1 : Int) (s0 : Int) (d0 : Nat → Int) (x : Int × (Nat → Int)) (h : f_X6_become p1 s0 d0 = some x) : zD l yX6_become wX6_become rX6_become lamC shpC [(2, Int.ofNat 55), (1, p1)] [M0, M1, M2, M3, M4, M5, M6, M7, M8, M9, M10, M11, M12, ([s0], [d0])] (none) [M0, M1, M2, M3, M4, M5, M6, M7, M8, M9, M10, M11, M12, ([x.1], [x.2])] := by
  refine zD_of (B := bX6_become) (E := eX6n) (by decide) rfl lokC (eX6n_ok _) bX6_become_ok (Or.inl rfl) rfl (fun S R => ?_)
  obtain ⟨rb, rg, ri, rv, rs, r0, r1, r2, r3, rt, rmk⟩ := R
  show S 0 [some (2, Int.ofNat 55), some (1, p1), none, none, none, none] [] [M0, M1, M2, M3, M4, M5, M6, M7, M8, M9, M10, M11, M12, ([s0], [d0])]
  have LP5 : ∀ (n : Nat) (v3 : Int) (v5 : Int) (s0 : Int) (d0 : Nat → Int) (y : Nat → Int), l_X6_become_5 n v3 v5 d0 = some y → S 36 [some (2, Int.ofNat 55), none, none, none, none, none] [] [M0, M1, M2, M3, M4, M5, M6, M7, M8, M9, M10, M11, M12, ([s0], [y])] → S 5 [some (2, Int.ofNat 55), none, none, some (1, v3), none, some (0, v5)] [] [M0, M1, M2, M3, M4, M5, M6, M7, M8, M9, M10, M11, M12, ([s0], [d0])] := by
    intro n
    induction n with
    | zero =>
      intro v3 v5 s0 d0 y h k
      rw [l_X6_become_5] at h
      cases h
    | succ n ih =>
      intro v3 v5 s0 d0 y h k
      rw [l_X6_become_5] at h
      refine ri false 1 (q := v5 < 40) (t1 := 12) (t2 := 36) rfl rfl trivial (fun c => ?_) (fun c => ?_)
      · replace h := zif1 c h
        obtain ⟨⟨g1_0, g1_1⟩, h⟩ := zgd h
        refine rb false 2 (L2 := [some (2, Int.ofNat 55), none, none, some (1, (zushrl v3 30)), none, some (0, v5)]) (σ2 := [M0, M1, M2, M3, M4, M5, M6, M7, M8, M9, M10, M11, M12, ([s0], [(zu d0 (Int.toNat v5) (zandl v3 1073741823))])]) rfl rfl (And.intro g1_0 g1_1) ?_
        obtain ⟨g2_0, h⟩ := zgd h
        refine rg false 3 (t := 5) (L2 := [some (2, Int.ofNat 55), none, none, some (1, (zushrl v3 30)), none, some (0, (v5 + 1))]) rfl rfl rfl g2_0 ?_
        exact ih (zushrl v3 30) (v5 + 1) s0 (zu d0 (Int.toNat v5) (zandl v3 1073741823)) y h k
      · replace h := zif2 c h
        refine rmk [true, false, false, false, false, false] (L2 := [some (2, Int.ofNat 55), none, none, none, none, none]) rfl ?_
        obtain rfl := Option.some.inj h
        exact k
  unfold f_X6_become at h
  refine rb false 0 (L2 := [some (2, Int.ofNat 55), some (1, p1), none, some (1, p1), none, some (0, 0)]) rfl rfl trivial ?_
  refine rmk [true, false, false, true, false, true] (L2 := [some (2, Int.ofNat 55), none, none, some (1, p1), none, some (0, 0)]) rfl ?_
  obtain ⟨x3, hx3, h⟩ := zbd h
  refine LP5 zN p1 0 s0 d0 x3 hx3 ?_
  obtain ⟨x4, hx4, h⟩ := zbd h
  refine rv false 4 0 rfl rfl trivial rfl (m_C_X6_trim_55 l M0 M1 M2 M3 M4 M5 M6 M7 M8 M9 M10 M11 M12 s0 x3 x4 hx4) ⟨_, _, _, _, rfl, rfl, rfl, by decide +kernel, ⟨Nat.le_of_ble_eq_true rfl, Nat.le_of_ble_eq_true rfl⟩, uGin u_6_16 u_6_17 u_6_18 u_4_17 u_6_19⟩ ⟨rfl, _, _, _, rfl, rfl⟩ ?_
  obtain rfl := Option.some.inj h
  exact r0 false 5 rfl rfl rfl rfl trivial
set_option maxRecDepth 20000 in
set_option maxHeartbeats 4000000 in
theorem m_C_X6_trim_28 (l : Launch) (M0 : zM) (M1 : zM) (M2 : zM) (M3 : zM) (M5 : zM) (M6 : zM) (M7 : zM) (M8 : zM) (M9 : zM) (M10 : zM) (M11 : zM) (M12 : zM) (M13 : zM) (s0 : Int) (d0 : Nat → Int) (x : Int) (h : f_X6_trim s0 d0 = some x) : zD l yX6_trim wX6_trim rX6_trim lamC shpC [(2, Int.ofNat 28)] [M0, M1, M2, M3, ([s0], [d0]), M5, M6, M7, M8, M9, M10, M11, M12, M13] (none) [M0, M1, M2, M3, ([x], [d0]), M5, M6, M7, M8, M9, M10, M11, M12, M13] := by
  refine zD_of (B := bX6_trim) (E := eX6n) (by decide) rfl lokC (eX6n_ok _) bX6_trim_ok (Or.inl rfl) rfl (fun S R => ?_)
  obtain ⟨rb, rg, ri, rv, rs, r0, r1, r2, r3, rt, rmk⟩ := R
  show S 0 [some (2, Int.ofNat 28), none] [] [M0, M1, M2, M3, ([s0], [d0]), M5, M6, M7, M8, M9, M10, M11, M12, M13]
  have LP7 : ∀ (n : Nat) (v1 : Int) (s0 : Int) (d0 : Nat → Int) (y : Int), l_X6_trim_7 n v1 s0 d0 = some y → S 35 [none, none] [] [M0, M1, M2, M3, ([y], [d0]), M5, M6, M7, M8, M9, M10, M11, M12, M13] → S 7 [some (2, Int.ofNat 28), some (0, v1)] [] [M0, M1, M2, M3, ([s0], [d0]), M5, M6, M7, M8, M9, M10, M11, M12, M13] := by
    intro n
    induction n with
    | zero =>
      intro v1 s0 d0 y h k
      rw [l_X6_trim_7] at h
      cases h
    | succ n ih =>
      intro v1 s0 d0 y h k
      rw [l_X6_trim_7] at h
      refine ri false 1 (q := v1 < 40) (t1 := 13) (t2 := 35) rfl rfl trivial (fun c => ?_) (fun c => ?_)
      · replace h := zif1 c h
        obtain ⟨g1_0, h⟩ := zgd h
        refine ri false 2 (q := (d0 (Int.toNat v1)) = 0) (t1 := 29) (t2 := 22) rfl rfl g1_0 (fun c => ?_) (fun c => ?_)
        · replace h := zif1 c h
          obtain ⟨g2_0, h⟩ := zgd h
          refine rg false 4 (t := 7) (L2 := [some (2, Int.ofNat 28), some (0, (v1 + 1))]) rfl rfl rfl g2_0 ?_
          exact ih (v1 + 1) s0 d0 y h k
        · replace h := zif2 c h
          obtain ⟨g3_0, h⟩ := zgd h
          refine rb false 3 (σ2 := [M0, M1, M2, M3, ([(v1 + 1)], [d0]), M5, M6, M7, M8, M9, M10, M11, M12, M13]) rfl rfl g3_0 ?_
          obtain ⟨g4_0, h⟩ := zgd h
          refine rg false 4 (t := 7) (L2 := [some (2, Int.ofNat 28), some (0, (v1 + 1))]) rfl rfl rfl g4_0 ?_
          exact ih (v1 + 1) (v1 + 1) d0 y h k
      · replace h := zif2 c h
        refine rmk [false, false] (L2 := [none, none]) rfl ?_
        obtain rfl := Option.some.inj h
        exact k
  unfold f_X6_trim at h
  refine rb false 0 (L2 := [some (2, Int.ofNat 28), some (0, 0)]) (σ2 := [M0, M1, M2, M3, ([0], [d0]), M5, M6, M7, M8, M9, M10, M11, M12, M13]) rfl rfl trivial ?_
  obtain ⟨x5, hx5, h⟩ := zbd h
  refine LP7 zN 0 0 d0 x5 hx5 ?_
  obtain rfl := Option.some.inj h
  exact r0 false 5 rfl rfl rfl rfl trivial
set_option maxRecDepth 20000 in
set_option maxHeartbeats 4000000 in
theorem m_C_X6_become_28 (l : Launch) (M0 : zM) (M1 : zM) (M2 : zM) (M3 : zM) (M5 : zM) (M6 : zM) (M7 : zM) (M8 : zM) (M9 : zM) (M10 : zM) (M11 : zM) (M12 : zM) (M13 : zM) (p1 : Int) (s0 : Int) (d0 : Nat → Int) (x : Int × (Nat → Int)) (h : f_X6_become p1 s0 d0 = some x) : zD l yX6_become wX6_become rX6_become lamC shpC [(2, Int.ofNat 28), (1, p1)] [M0, M1, M2, M3, ([s0], [d0]), M5, M6, M7, M8, M9, M10, M11, M12, M13] (none) [M0, M1, M2, M3, ([x.1], [x.2]), M5, M6, M7, M8, M9, M10, M11, M12, M13] := by
  refine zD_of (B := bX6_become) (E := eX6n) (by decide) rfl lokC (eX6n_ok _) bX6_become_ok (Or.inl rfl) rfl (fun S R => ?_)
  obtain ⟨rb, rg, ri, rv, rs, r0, r1, r2, r3, rt, rmk⟩ := R
  show S 0 [some (2, Int.ofNat 28), some (1, p1), none, none, none, none] [] [M0, M1, M2, M3, ([s0], [d0]), M5, M6, M7, M8, M9, M10, M11, M12, M13]
  have LP5 : ∀ (n : Nat) (v3 : Int) (v5 : Int) (s0 : Int) (d0 : Nat → Int) (y : Nat → Int), l_X6_become_5 n v3 v5 d0 = some y → S 36 [some (2, Int.ofNat 28), none, none, none, none, none] [] [M0, M1, M2, M3, ([s0], [y]), M5, M6, M7, M8, M9, M10, M11, M12, M13] → S 5 [some (2, Int.ofNat 28), none, none, some (1, v3), none, some (0, v5)] [] [M0, M1, M2, M3, ([s0], [d0]), M5, M6, M7, M8, M9, M10, M11, M12, M13] := by
    intro n
    induction n with
    | zero =>
      intro v3 v5 s0 d0 y h k
      rw [l_X6_become_5] at h
      cases h
    | succ n ih =>
      intro v3 v5 s0 d0 y h k
      rw [l_X6_become_5] at h
      refine ri false 1 (q := v5 < 40) (t1 := 12) (t2 := 36) rfl rfl trivial (fun c => ?_) (fun c => ?_)
      · replace h := zif1 c h
        obtain ⟨⟨g1_0, g1_1⟩, h⟩ := zgd h
        refine rb false 2 (L2 := [some (2, Int.ofNat 28), none, none, some (1, (zushrl v3 30)), none, some (0, v5)]) (σ2 := [M0, M1, M2, M3, ([s0], [(zu d0 (Int.toNat v5) (zandl v3 1073741823))]), M5, M6, M7, M8, M9, M10, M11, M12, M13]) rfl rfl (And.intro g1_0 g1_1) ?_
        obtain ⟨g2_0, h⟩ := zgd h
        refine rg false 3 (t := 5) (L2 := [some (2, Int.ofNat 28), none, none, some (1, (zushrl v3 30)), none, some (0, (v5 + 1))]) rfl rfl rfl g2_0 ?_
        exact ih (zushrl v3 30) (v5 + 1) s0 (zu d0 (Int.toNat v5) (zandl v3 1073741823)) y h k
      · replace h := zif2 c h
        refine rmk [true, false, false, false, false, false] (L2 := [some (2, Int.ofNat 28), none, none, none, none, none]) rfl ?_
        obtain rfl := Option.some.inj h
        exact k
  unfold f_X6_become at h
  refine rb false 0 (L2 := [some (2, Int.ofNat 28), some (1, p1), none, some (1, p1), none, some (0, 0)]) rfl rfl trivial ?_
  refine rmk [true, false, false, true, false, true] (L2 := [some (2, Int.ofNat 28), none, none, some (1, p1), none, some (0, 0)]) rfl ?_
  obtain ⟨x3, hx3, h⟩ := zbd h
  refine LP5 zN p1 0 s0 d0 x3 hx3 ?_
  obtain ⟨x4, hx4, h⟩ := zbd h
  refine rv false 4 0 rfl rfl trivial rfl (m_C_X6_trim_28 l M0 M1 M2 M3 M5 M6 M7 M8 M9 M10 M11 M12 M13 s0 x3 x4 hx4) ⟨_, _, _, _, rfl, rfl, rfl, by decide +kernel, ⟨Nat.le_of_ble_eq_true rfl, Nat.le_of_ble_eq_true rfl⟩, uGin u_6_16 u_6_17 u_6_18 u_4_17 u_6_19⟩ ⟨rfl, _, _, _, rfl, rfl⟩ ?_
  obtain rfl := Option.some.inj h
  exact r0 false 5 rfl rfl rfl rfl trivial
set_option maxRecDepth 20000 in
set_option maxHeartbeats 4000000 in
theorem m_C_X6_trim_30 (l : Launch) (M0 : zM) (M1 : zM) (M2 : zM) (M3 : zM) (M4 : zM) (M6 : zM) (M7 : zM) (M8 : zM) (M9 : zM) (M10 : zM) (M11 : zM) (M12 : zM) (M13 : zM) (s0 : Int) (d0 : Nat → Int) (x : Int) (h : f_X6_trim s0 d0 = some x) : zD l yX6_trim wX6_trim rX6_trim lamC shpC [(2, Int.ofNat 30)] [M0, M1, M2, M3, M4, ([s0], [d0]), M6, M7, M8, M9, M10, M11, M12, M13] (none) [M0, M1, M2, M3, M4, ([x], [d0]), M6, M7, M8, M9, M10, M11, M12, M13] := by
  refine zD_of (B := bX6_trim) (E := eX6n) (by decide) rfl lokC (eX6n_ok _) bX6_trim_ok (Or.inl rfl) rfl (fun S R => ?_)
  obtain ⟨rb, rg, ri, rv, rs, r0, r1, r2, r3, rt, rmk⟩ := R
  show S 0 [some (2, Int.ofNat 30), none] [] [M0, M1, M2, M3, M4, ([s0], [d0]), M6, M7, M8, M9, M10, M11, M12, M13]
  have LP7 : ∀ (n : Nat) (v1 : Int) (s0 : Int) (d0 : Nat → Int) (y : Int), l_X6_trim_7 n v1 s0 d0 = some y → S 35 [none, none] [] [M0, M1, M2, M3, M4, ([y], [d0]), M6, M7, M8, M9, M10, M11, M12, M13] → S 7 [some (2, Int.ofNat 30), some (0, v1)] [] [M0, M1, M2, M3, M4, ([s0], [d0]), M6, M7, M8, M9, M10, M11, M12, M13] := by
    intro n
    induction n with
    | zero =>
      intro v1 s0 d0 y h k
      rw [l_X6_trim_7] at h
      cases h
    | succ n ih =>
      intro v1 s0 d0 y h k
      rw [l_X6_trim_7] at h
      refine ri false 1 (q := v1 < 40) (t1 := 13) (t2 := 35) rfl rfl trivial (fun c => ?_) (fun c => ?_)
      · replace h := zif1 c h
        obtain ⟨g1_0, h⟩ := zgd h
        refine ri false 2 (q := (d0 (Int.toNat v1)) = 0) (t1 := 29) (t2 := 22) rfl rfl g1_0 (fun c => ?_) (fun c => ?_)
        · replace h := zif1 c h
          obtain ⟨g2_0, h⟩ := zgd h
          refine rg false 4 (t := 7) (L2 := [some (2, Int.ofNat 30), some (0, (v1 + 1))]) rfl rfl rfl g2_0 ?_
          exact ih (v1 + 1) s0 d0 y h k
        · replace h := zif2 c h
          obtain ⟨g3_0, h⟩ := zgd h
          refine rb false 3 (σ2 := [M0, M1, M2, M3, M4, ([(v1 + 1)], [d0]), M6, M7, M8, M9, M10, M11, M12, M13]) rfl rfl g3_0 ?_
          obtain ⟨g4_0, h⟩ := zgd h
          refine rg false 4 (t := 7) (L2 := [some (2, Int.ofNat 30), some (0, (v1 + 1))]) rfl rfl rfl g4_0 ?_
          exact ih (v1 + 1) (v1 + 1) d0 y h k
      · replace h := zif2 c h
        refine rmk [false, false] (L2 := [none, none]) rfl ?_
        obtain rfl := Option.some.inj h
        exact k
  unfold f_X6_trim at h
  refine rb false 0 (L2 := [some (2, Int.ofNat 30), some (0, 0)]) (σ2 := [M0, M1, M2, M3, M4, ([0], [d0]), M6, M7, M8, M9, M10, M11, M12, M13]) rfl rfl trivial ?_
  obtain ⟨x5, hx5, h⟩ := zbd h
  refine LP7 zN 0 0 d0 x5 hx5 ?_
  obtain rfl := Option.some.inj h
  exact r0 false 5 rfl rfl rfl rfl trivial
set_option maxRecDepth 20000 in
set_option maxHeartbeats 4000000 in
theorem m_C_X6_become_30 (l : Launch) (M0 : zM) (M1 : zM) (M2 : zM) (M3 : zM) (M4 : zM) (M6 : zM) (M7 : zM) (M8 : zM) (M9 : zM) (M10 : zM) (M11 : zM) (M12 : zM) (M13 : zM) (p1 : Int) (s0 : Int) (d0 : Nat → Int) (x : Int × (Nat → Int)) (h : f_X6_become p1 s0 d0 = some x) : zD l yX6_become wX6_become rX6_become lamC shpC [(2, Int.ofNat 30), (1, p1)] [M0, M1, M2, M3, M4, ([s0], [d0]), M6, M7, M8, M9, M10, M11, M12, M13] (none) [M0, M1, M2, M3, M4, ([x.1], [x.2]), M6, M7, M8, M9, M10, M11, M12, M13] := by
  refine zD_of (B := bX6_become) (E := eX6n) (by decide) rfl lokC (eX6n_ok _) bX6_become_ok (Or.inl rfl) rfl (fun S R => ?_)
  obtain ⟨rb, rg, ri, rv, rs, r0, r1, r2, r3, rt, rmk⟩ := R
  show S 0 [some (2, Int.ofNat 30), some (1, p1), none, none, none, none] [] [M0, M1, M2, M3, M4, ([s0], [d0]), M6, M7, M8, M9, M10, M11, M12, M13]
  have LP5 : ∀ (n : Nat) (v3 : Int) (v5 : Int) (s0 : Int) (d0 : Nat → Int) (y : Nat → Int), l_X6_become_5 n v3 v5 d0 = some y → S 36 [some (2, Int.ofNat 30), none, none, none, none, none] [] [M0, M1, M2, M3, M4, ([s0], [y]), M6, M7, M8, M9, M10, M11, M12, M13] → S 5 [some (2, Int.ofNat 30), none, none, some (1, v3), none, some (0, v5)] [] [M0, M1, M2, M3, M4, ([s0], [d0]), M6, M7, M8, M9, M10, M11, M12, M13] := by
    intro n
    induction n with
    | zero =>
      intro v3 v5 s0 d0 y h k
      rw [l_X6_become_5] at h
      cases h
    | succ n ih =>
      intro v3 v5 s0 d0 y h k
      rw [l_X6_become_5] at h
      refine ri false 1 (q := v5 < 40) (t1 := 12) (t2 := 36) rfl rfl trivial (fun c => ?_) (fun c => ?_)
      · replace h := zif1 c h
        obtain ⟨⟨g1_0, g1_1⟩, h⟩ := zgd h
        refine rb false 2 (L2 := [some (2, Int.ofNat 30), none, none, some (1, (zushrl v3 30)), none, some (0, v5)]) (σ2 := [M0, M1, M2, M3, M4, ([s0], [(zu d0 (Int.toNat v5) (zandl v3 1073741823))]), M6, M7, M8, M9, M10, M11, M12, M13]) rfl rfl (And.intro g1_0 g1_1) ?_
        obtain ⟨g2_0, h⟩ := zgd h
        refine rg false 3 (t := 5) (L2 := [some (2, Int.ofNat 30), none, none, some (1, (zushrl v3 30)), none, some (0, (v5 + 1))]) rfl rfl rfl g2_0 ?_
        exact ih (zushrl v3 30) (v5 + 1) s0 (zu d0 (Int.toNat v5) (zandl v3 1073741823)) y h k
      · replace h := zif2 c h
        refine rmk [true, false, false, false, false, false] (L2 := [some (2, Int.ofNat 30), none, none, none, none, none]) rfl ?_
        obtain rfl := Option.some.inj h
        exact k
  unfold f_X6_become at h
  refine rb false 0 (L2 := [some (2, Int.ofNat 30), some (1, p1), none, some (1, p1), none, some (0, 0)]) rfl rfl trivial ?_
  refine rmk [true, false, false, true, false, true] (L2 := [some (2, Int.ofNat 30), none, none, some (1, p1), none, some (0, 0)]) rfl ?_
  obtain ⟨x3, hx3, h⟩ := zbd h
  refine LP5 zN p1 0 s0 d0 x3 hx3 ?_
  obtain ⟨x4, hx4, h⟩ := zbd h
  refine rv false 4 0 rfl rfl trivial rfl (m_C_X6_trim_30 l M0 M1 M2 M3 M4 M6 M7 M8 M9 M10 M11 M12 M13 s0 x3 x4 hx4) ⟨_, _, _, _, rfl, rfl, rfl, by decide +kernel, ⟨Nat.le_of_ble_eq_true rfl, Nat.le_of_ble_eq_true rfl⟩, uGin u_6_16 u_6_17 u_6_18 u_4_17 u_6_19⟩ ⟨rfl, _, _, _, rfl, rfl⟩ ?_
  obtain rfl := Option.some.inj h
  exact r0 false 5 rfl rfl rfl rfl trivial
set_option maxRecDepth 20000 in
set_option maxHeartbeats 4000000 in
theorem m_C_X6_trim_32 (l : Launch) (M0 : zM) (M1 : zM) (M2 : zM) (M3 : zM) (M4 : zM) (M5 : zM) (M7 : zM) (M8 : zM) (M9 : zM) (M10 : zM) (M11 : zM) (M12 : zM) (M13 : zM) (s0 : Int) (d0 : Nat → Int) (x : Int) (h : f_X6_trim s0 d0 = some x) : zD l yX6_trim wX6_trim rX6_trim lamC shpC [(2, Int.ofNat 32)] [M0, M1, M2, M3, M4, M5, ([s0], [d0]), M7, M8, M9, M10, M11, M12, M13] (none) [M0, M1, M2, M3, M4, M5, ([x], [d0]), M7, M8, M9, M10, M11, M12, M13] := by
  refine zD_of (B := bX6_trim) (E := eX6n) (by decide) rfl lokC (eX6n_ok _) bX6_trim_ok (Or.inl rfl) rfl (fun S R => ?_)
  obtain ⟨rb, rg, ri, rv, rs, r0, r1, r2, r3, rt, rmk⟩ := R
  show S 0 [some (2, Int.ofNat 32), none] [] [M0, M1, M2, M3, M4, M5, ([s0], [d0]), M7, M8, M9, M10, M11, M12, M13]
  have LP7 : ∀ (n : Nat) (v1 : Int) (s0 : Int) (d0 : Nat → Int) (y : Int), l_X6_trim_7 n v1 s0 d0 = some y → S 35 [none, none] [] [M0, M1, M2, M3, M4, M5, ([y], [d0]), M7, M8, M9, M10, M11, M12, M13] → S 7 [some (2, Int.ofNat 32), some (0, v1)] [] [M0, M1, M2, M3, M4, M5, ([s0], [d0]), M7, M8, M9, M10, M11, M12, M13] := by
    intro n
    induction n with
    | zero =>
      intro v1 s0 d0 y h k
      rw [l_X6_trim_7] at h
      cases h
    | succ n ih =>
      intro v1 s0 d0 y h k
      rw [l_X6_trim_7] at h
      refine ri false 1 (q := v1 < 40) (t1 := 13) (t2 := 35) rfl rfl trivial (fun c => ?_) (fun c => ?_)
      · replace h := zif1 c h
        obtain ⟨g1_0, h⟩ := zgd h
        refine ri false 2 (q := (d0 (Int.toNat v1)) = 0) (t1 := 29) (t2 := 22) rfl rfl g1_0 (fun c => ?_) (fun c => ?_)
        · replace h := zif1 c h
          obtain ⟨g2_0, h⟩ := zgd h
          refine rg false 4 (t := 7) (L2 := [some (2, Int.ofNat 32), some (0, (v1 + 1))]) rfl rfl rfl g2_0 ?_
          exact ih (v1 + 1) s0 d0 y h k
        · replace h := zif2 c h
          obtain ⟨g3_0, h⟩ := zgd h
          refine rb false 3 (σ2 := [M0, M1, M2, M3, M4, M5, ([(v1 + 1)], [d0]), M7, M8, M9, M10, M11, M12, M13]) rfl rfl g3_0 ?_
          obtain ⟨g4_0, h⟩ := zgd h
          refine rg false 4 (t := 7) (L2 := [some (2, Int.ofNat 32), some (0, (v1 + 1))]) rfl rfl rfl g4_0 ?_
          exact ih (v1 + 1) (v1 + 1) d0 y h k
      · replace h := zif2 c h
        refine rmk [false, false] (L2 := [none, none]) rfl ?_
        obtain rfl := Option.some.inj h
        exact k
  unfold f_X6_trim at h
  refine rb false 0 (L2 := [some (2, Int.ofNat 32), some (0, 0)]) (σ2 := [M0, M1, M2, M3, M4, M5, ([0], [d0]), M7, M8, M9, M10, M11, M12, M13]) rfl rfl trivial ?_
  obtain ⟨x5, hx5, h⟩ := zbd h
  refine LP7 zN 0 0 d0 x5 hx5 ?_
  obtain rfl := Option.some.inj h
  exact r0 false 5 rfl rfl rfl rfl trivial
set_option maxRecDepth 20000 in
set_option maxHeartbeats 4000000 in
theorem m_C_X6_become_32 (l : Launch) (M0 : zM) (M1 : zM) (M2 : zM) (M3 : zM) (M4 : zM) (M5 : zM) (M7 : zM) (M8 : zM) (M9 : zM) (M10 : zM) (M11 : zM) (M12 : zM) (M13 : zM) (p1 : Int) (s0 : Int) (d0 : Nat → Int) (x : Int × (Nat → Int)) (h : f_X6_become p1 s0 d0 = some x) : zD l yX6_become wX6_become rX6_become lamC shpC [(2, Int.ofNat 32), (1, p1)] [M0, M1, M2, M3, M4, M5, ([s0], [d0]), M7, M8, M9, M10, M11, M12, M13] (none) [M0, M1, M2, M3, M4, M5, ([x.1], [x.2]), M7, M8, M9, M10, M11, M12, M13] := by
  refine zD_of (B := bX6_become) (E := eX6n) (by decide) rfl lokC (eX6n_ok _) bX6_become_ok (Or.inl rfl) rfl (fun S R => ?_)
  obtain ⟨rb, rg, ri, rv, rs, r0, r1, r2, r3, rt, rmk⟩ := R
  show S 0 [some (2, Int.ofNat 32), some (1, p1), none, none, none, none] [] [M0, M1, M2, M3, M4, M5, ([s0], [d0]), M7, M8, M9, M10, M11, M12, M13]
  have LP5 : ∀ (n : Nat) (v3 : Int) (v5 : Int) (s0 : Int) (d0 : Nat → Int) (y : Nat → Int), l_X6_become_5 n v3 v5 d0 = some y → S 36 [some (2, Int.ofNat 32), none, none, none, none, none] [] [M0, M1, M2, M3, M4, M5, ([s0], [y]), M7, M8, M9, M10, M11, M12, M13] → S 5 [some (2, Int.ofNat 32), none, none, some (1, v3), none, some (0, v5)] [] [M0, M1, M2, M3, M4, M5, ([s0], [d0]), M7, M8, M9, M10, M11, M12, M13] := by
    intro n
    induction n with
    | zero =>
      intro v3 v5 s0 d0 y h k
      rw [l_X6_become_5] at h
      cases h
    | succ n ih =>
      intro v3 v5 s0 d0 y h k
      rw [l_X6_become_5] at h
      refine ri false 1 (q := v5 < 40) (t1 := 12) (t2 := 36) rfl rfl trivial (fun c => ?_) (fun c => ?_)
      · replace h := zif1 c h
        obtain ⟨⟨g1_0, g1_1⟩, h⟩ := zgd h
        refine rb false 2 (L2 := [some (2, Int.ofNat 32), none, none, some (1, (zushrl v3 30)), none, some (0, v5)]) (σ2 := [M0, M1, M2, M3, M4, M5, ([s0], [(zu d0 (Int.toNat v5) (zandl v3 1073741823))]), M7, M8, M9, M10, M11, M12, M13]) rfl rfl (And.intro g1_0 g1_1) ?_
        obtain ⟨g2_0, h⟩ := zgd h
        refine rg false 3 (t := 5) (L2 := [some (2, Int.ofNat 32), none, none, some (1, (zushrl v3 30)), none, some (0, (v5 + 1))]) rfl rfl rfl g2_0 ?_
        exact ih (zushrl v3 30) (v5 + 1) s0 (zu d0 (Int.toNat v5) (zandl v3 1073741823)) y h k
      · replace h := zif2 c h
        refine rmk [true, false, false, false, false, false] (L2 := [some (2, Int.ofNat 32), none, none, none, none, none]) rfl ?_
        obtain rfl := Option.some.inj h
        exact k
  unfold f_X6_become at h
  refine rb false 0 (L2 := [some (2, Int.ofNat 32), some (1, p1), none, some (1, p1), none, some (0, 0)]) rfl rfl trivial ?_
  refine rmk [true, false, false, true, false, true] (L2 := [some (2, Int.ofNat 32), none, none, some (1, p1), none, some (0, 0)]) rfl ?_
  obtain ⟨x3, hx3, h⟩ := zbd h
  refine LP5 zN p1 0 s0 d0 x3 hx3 ?_
  obtain ⟨x4, hx4, h⟩ := zbd h
  refine rv false 4 0 rfl rfl trivial rfl (m_C_X6_trim_32 l M0 M1 M2 M3 M4 M5 M7 M8 M9 M10 M11 M12 M13 s0 x3 x4 hx4) ⟨_, _, _, _, rfl, rfl, rfl, by decide +kernel, ⟨Nat.le_of_ble_eq_true rfl, Nat.le_of_ble_eq_true rfl⟩, uGin u_6_16 u_6_17 u_6_18 u_4_17 u_6_19⟩ ⟨rfl, _, _, _, rfl, rfl⟩ ?_
  obtain rfl := Option.some.inj h
  exact r0 false 5 rfl rfl rfl rfl trivial
set_option maxRecDepth 20000 in
set_option maxHeartbeats 4000000 in
theorem m_C_X6_trim_34 (l : Launch) (M0 : zM) (M1 : zM) (M2 : zM) (M3 : zM) (M4 : zM) (M5 : zM) (M6 : zM) (M8 : zM) (M9 : zM) (M10 : zM) (M11 : zM) (M12 : zM) (M13 : zM) (s0 : Int) (d0 : Nat → Int) (x : Int) (h : f_X6_trim s0 d0 = some x) : zD l yX6_trim wX6_trim rX6_trim lamC shpC [(2, Int.ofNat 34)] [M0, M1, M2, M3, M4, M5, M6, ([s0], [d0]), M8, M9, M10, M11, M12, M13] (none) [M0, M1, M2, M3, M4, M5, M6, ([x], [d0]), M8, M9, M10, M11, M12, M13] := by
  refine zD_of (B := bX6_trim) (E := eX6n) (by decide) rfl lokC (eX6n_ok _) bX6_trim_ok (Or.inl rfl) rfl (fun S R => ?_)
  obtain ⟨rb, rg, ri, rv, rs, r0, r1, r2, r3, rt, rmk⟩ := R
  show S 0 [some (2, Int.ofNat 34), none] [] [M0, M1, M2, M3, M4, M5, M6, ([s0], [d0]), M8, M9, M10, M11, M12, M13]
  have LP7 : ∀ (n : Nat) (v1 : Int) (s0 : Int) (d0 : Nat → Int) (y : Int), l_X6_trim_7 n v1 s0 d0 = some y → S 35 [none, none] [] [M0, M1, M2, M3, M4, M5, M6, ([y], [d0]), M8, M9, M10, M11, M12, M13] → S 7 [some (2, Int.ofNat 34), some (0, v1)] [] [M0, M1, M2, M3, M4, M5, M6, ([s0], [d0]), M8, M9, M10, M11, M12, M13] := by
    intro n
    induction n with
    | zero =>
      intro v1 s0 d0 y h k
      rw [l_X6_trim_7] at h
      cases h
    | succ n ih =>
      intro v1 s0 d0 y h k
      rw [l_X6_trim_7] at h
      refine ri false 1 (q := v1 < 40) (t1 := 13) (t2 := 35) rfl rfl trivial (fun c => ?_) (fun c => ?_)
      · replace h := zif1 c h
        obtain ⟨g1_0, h⟩ := zgd h
        refine ri false 2 (q := (d0 (Int.toNat v1)) = 0) (t1 := 29) (t2 := 22) rfl rfl g1_0 (fun c => ?_) (fun c => ?_)
        · replace h := zif1 c h
          obtain ⟨g2_0, h⟩ := zgd h
          refine rg false 4 (t := 7) (L2 := [some (2, Int.ofNat 34), some (0, (v1 + 1))]) rfl rfl rfl g2_0 ?_
          exact ih (v1 + 1) s0 d0 y h k
        · replace h := zif2 c h
          obtain ⟨g3_0, h⟩ := zgd h
          refine rb false 3 (σ2 := [M0, M1, M2, M3, M4, M5, M6, ([(v1 + 1)], [d0]), M8, M9, M10, M11, M12, M13]) rfl rfl g3_0 ?_
          obtain ⟨g4_0, h⟩ := zgd h
          refine rg false 4 (t := 7) (L2 := [some (2, Int.ofNat 34), some (0, (v1 + 1))]) rfl rfl rfl g4_0 ?_
          exact ih (v1 + 1) (v1 + 1) d0 y h k
      · replace h := zif2 c h
        refine rmk [false, false] (L2 := [none, none]) rfl ?_
        obtain rfl := Option.some.inj h
        exact k
  unfold f_X6_trim at h
  refine rb false 0 (L2 := [some (2, Int.ofNat 34), some (0, 0)]) (σ2 := [M0, M1, M2, M3, M4, M5, M6, ([0], [d0]), M8, M9, M10, M11, M12, M13]) rfl rfl trivial ?_
  obtain ⟨x5, hx5, h⟩ := zbd h
  refine LP7 zN 0 0 d0 x5 hx5 ?_
  obtain rfl := Option.some.inj h
  exact r0 false 5 rfl rfl rfl rfl trivial
set_option maxRecDepth 20000 in
set_option maxHeartbeats 4000000 in
theorem m_C_X6_become_34 (l : Launch) (M0 : zM) (M1 : zM) (M2 : zM) (M3 : zM) (M4 : zM) (M5 : zM) (M6 : zM) (M8 : zM) (M9 : zM) (M10 : zM) (M11 : zM) (M12 : zM) (M13 : zM) (p1 : Int) (s0 : Int) (d0 : Nat → Int) (x : Int × (Nat → Int)) (h : f_X6_become p1 s0 d0 = some x) : zD l yX6_become wX6_become rX6_become lamC shpC [(2, Int.ofNat 34), (1, p1)] [M0, M1, M2, M3, M4, M5, M6, ([s0], [d0]), M8, M9, M10, M11, M12, M13] (none) [M0, M1, M2, M3, M4, M5, M6, ([x.1], [x.2]), M8, M9, M10, M11, M12, M13] := by
  refine zD_of (B := bX6_become) (E := eX6n) (by decide) rfl lokC (eX6n_ok _) bX6_become_ok (Or.inl rfl) rfl (fun S R => ?_)
  obtain ⟨rb, rg, ri, rv, rs, r0, r1, r2, r3, rt, rmk⟩ := R
  show S 0 [some (2, Int.ofNat 34), some (1, p1), none, none, none, none] [] [M0, M1, M2, M3, M4, M5, M6, ([s0], [d0]), M8, M9, M10, M11, M12, M13]
  have LP5 : ∀ (n : Nat) (v3 : Int) (v5 : Int) (s0 : Int) (d0 : Nat → Int) (y : Nat → Int), l_X6_become_5 n v3 v5 d0 = some y → S 36 [some (2, Int.ofNat 34), none, none, none, none, none] [] [M0, M1, M2, M3, M4, M5, M6, ([s0], [y]), M8, M9, M10, M11, M12, M13] → S 5 [some (2, Int.ofNat 34), none, none, some (1, v3), none, some (0, v5)] [] [M0, M1, M2, M3, M4, M5, M6, ([s0], [d0]), M8, M9, M10, M11, M12, M13] := by
    intro n
    induction n with
    | zero =>
      intro v3 v5 s0 d0 y h k
      rw [l_X6_become_5] at h
      cases h
    | succ n ih =>
      intro v3 v5 s0 d0 y h k
      rw [l_X6_become_5] at h
      refine ri false 1 (q := v5 < 40) (t1 := 12) (t2 := 36) rfl rfl trivial (fun c => ?_) (fun c => ?_)
      · replace h := zif1 c h
        obtain ⟨⟨g1_0, g1_1⟩, h⟩ := zgd h
        refine rb false 2 (L2 := [some (2, Int.ofNat 34), none, none, some (1, (zushrl v3 30)), none, some (0, v5)]) (σ2 := [M0, M1, M2, M3, M4, M5, M6, ([s0], [(zu d0 (Int.toNat v5) (zandl v3 1073741823))]), M8, M9, M10, M11, M12, M13]) rfl rfl (And.intro g1_0 g1_1) ?_
        obtain ⟨g2_0, h⟩ := zgd h
        refine rg false 3 (t := 5) (L2 := [some (2, Int.ofNat 34), none, none, some (1, (zushrl v3 30)), none, some (0, (v5 + 1))]) rfl rfl rfl g2_0 ?_
        exact ih (zushrl v3 30) (v5 + 1) s0 (zu d0 (Int.toNat v5) (zandl v3 1073741823)) y h k
      · replace h := zif2 c h
        refine rmk [true, false, false, false, false, false] (L2 := [some (2, Int.ofNat 34), none, none, none, none, none]) rfl ?_
        obtain rfl := Option.some.inj h
        exact k
  unfold f_X6_become at h
  refine rb false 0 (L2 := [some (2, Int.ofNat 34), some (1, p1), none, some (1, p1), none, some (0, 0)]) rfl rfl trivial ?_
  refine rmk [true, false, false, true, false, true] (L2 := [some (2, Int.ofNat 34), none, none, some (1, p1), none, some (0, 0)]) rfl ?_
  obtain ⟨x3, hx3, h⟩ := zbd h
  refine LP5 zN p1 0 s0 d0 x3 hx3 ?_
  obtain ⟨x4, hx4, h⟩ := zbd h
  refine rv false 4 0 rfl rfl trivial rfl (m_C_X6_trim_34 l M0 M1 M2 M3 M4 M5 M6 M8 M9 M10 M11 M12 M13 s0 x3 x4 hx4) ⟨_, _, _, _, rfl, rfl, rfl, by decide +kernel, ⟨Nat.le_of_ble_eq_true rfl, Nat.le_of_ble_eq_true rfl⟩, uGin u_6_16 u_6_17 u_6_18 u_4_17 u_6_19⟩ ⟨rfl, _, _, _, rfl, rfl⟩ ?_
  obtain rfl := Option.some.inj h
  exact r0 false 5 rfl rfl rfl rfl trivial
set_option maxRecDepth 20000 in
set_option maxHeartbeats 4000000 in
theorem m_C_X6_trim_36 (l : Launch) (M0 : zM) (M1 : zM) (M2 : zM) (M3 : zM) (M4 : zM) (M5 : zM) (M6 : zM) (M7 : zM) (M9 : zM) (M10 : zM) (M11 : zM) (M12 : zM) (M13 : zM) (s0 : Int) (d0 : Nat → Int) (x : Int) (h : f_X6_trim s0 d0 = some x) : zD l yX6_trim wX6_trim rX6_trim lamC shpC [(2, Int.ofNat 36)] [M0, M1, M2, M3, M4, M5, M6, M7, ([s0], [d0]), M9, M10, M11, M12, M13] (none) [M0, M1, M2, M3, M4, M5, M6, M7, ([x], [d0]), M9, M10, M11, M12, M13] := by
  refine zD_of (B := bX6_trim) (E := eX6n) (by decide) rfl lokC (eX6n_ok _) bX6_trim_ok (Or.inl rfl) rfl (fun S R => ?_)
  obtain ⟨rb, rg, ri, rv, rs, r0, r1, r2, r3, rt, rmk⟩ := R
  show S 0 [some (2, Int.ofNat 36), none] [] [M0, M1, M2, M3, M4, M5, M6, M7, ([s0], [d0]), M9, M10, M11, M12, M13]
  have LP7 : ∀ (n : Nat) (v1 : Int) (s0 : Int) (d0 : Nat → Int) (y : Int), l_X6_trim_7 n v1 s0 d0 = some y → S 35 [none, none] [] [M0, M1, M2, M3, M4, M5, M6, M7, ([y], [d0]), M9, M10, M11, M12, M13] → S 7 [some (2, Int.ofNat 36), some (0, v1)] [] [M0, M1, M2, M3, M4, M5, M6, M7, ([s0], [d0]), M9, M10, M11, M12, M13] := by
    intro n
    induction n with
    | zero =>
      intro v1 s0 d0 y h k
      rw [l_X6_trim_7] at h
      cases h
    | succ n ih =>
      intro v1 s0 d0 y h k
      rw [l_X6_trim_7] at h
      refine ri false 1 (q := v1 < 40) (t1 := 13) (t2 := 35) rfl rfl trivial (fun c => ?_) (fun c => ?_)
      · replace h := zif1 c h
        obtain ⟨g1_0, h⟩ := zgd h
        refine ri false 2 (q := (d0 (Int.toNat v1)) = 0) (t1 := 29) (t2 := 22) rfl rfl g1_0 (fun c => ?_) (fun c => ?_)
        · replace h := zif1 c h
          obtain ⟨g2_0, h⟩ := zgd h
          refine rg false 4 (t := 7) (L2 := [some (2, Int.ofNat 36), some (0, (v1 + 1))]) rfl rfl rfl g2_0 ?_
          exact ih (v1 + 1) s0 d0 y h k
        · replace h := zif2 c h
          obtain ⟨g3_0, h⟩ := zgd h
          refine rb false 3 (σ2 := [M0, M1, M2, M3, M4, M5, M6, M7, ([(v1 + 1)], [d0]), M9, M10, M11, M12, M13]) rfl rfl g3_0 ?_
          obtain ⟨g4_0, h⟩ := zgd h
          refine rg false 4 (t := 7) (L2 := [some (2, Int.ofNat 36), some (0, (v1 + 1))]) rfl rfl rfl g4_0 ?_
          exact ih (v1 + 1) (v1 + 1) d0 y h k
      · replace h := zif2 c h
        refine rmk [false, false] (L2 := [none, none]) rfl ?_
        obtain rfl := Option.some.inj h
        exact k
  unfold f_X6_trim at h
  refine rb false 0 (L2 := [some (2, Int.ofNat 36), some (0, 0)]) (σ2 := [M0, M1, M2, M3, M4, M5, M6, M7, ([0], [d0]), M9, M10, M11, M12, M13]) rfl rfl trivial ?_
  obtain ⟨x5, hx5, h⟩ := zbd h
  refine LP7 zN 0 0 d0 x5 hx5 ?_
  obtain rfl := Option.some.inj h
  exact r0 false 5 rfl rfl rfl rfl trivial
def bX6_multiply : zB := [(0, [(.iconst 0, 1), (.istore_n 3, 1)], 2, .nop, 0), (2, [(.iload_n 3, 1), (.bipush 40, 2)], 5, .if_icmp .ge 16, 3), (8, [(.aload_n 0, 1), (.getfield 11, 3), (.iload_n 3, 1), (.iconst 0, 1), (.iastore, 1), (.iinc 3 1, 3)], 18, .goto (-16), 3), (21, [(.iconst 0, 1), (.istore_n 3, 1)], 23, .nop, 0), (23, [(.iload_n 3, 1), (.aload_n 1, 1), (.getfield 15, 3)], 28, .if_icmp .ge 117, 3), (31, [(.iload_n 3, 1), (.bipush 40, 2)], 34, .if_icmp .ge 111, 3), (37, [(.lconst 0, 1), (.lstore 4, 2), (.iconst 0, 1), (.istore 6, 2)], 43, .nop, 0), (43, [(.iload 6, 2), (.aload_n 2, 1), (.getfield 15, 3)], 49, .if_icmp .gt 90, 3), (52, [(.iload_n 3, 1), (.iload 6, 2), (.iadd, 1), (.bipush 40, 2)], 58, .if_icmp .ge 81, 3), (61, [(.iload 6, 2), (.aload_n 2, 1), (.getfield 15, 3)], 67, .if_icmp .ge 22, 3), (70, [(.aload_n 1, 1), (.getfield 11, 3), (.iload_n 3, 1), (.iaload, 1), (.i2l, 1), (.aload_n 2, 1), (.getfield 11, 3), (.iload 6, 2), (.iaload, 1), (.i2l, 1), (.lmul, 1)], 86, .goto 4, 3), (89, [(.lconst 0, 1)], 90, .nop, 0), (90, [(.lstore 7, 2), (.lload 7, 2), (.aload_n 0, 1), (.getfield 11, 3), (.iload_n 3, 1), (.iload 6, 2), (.iadd, 1), (.iaload, 1), (.i2l, 1), (.ladd, 1), (.lload 4, 2), (.ladd, 1), (.lstore 9, 2)], 110, .nop, 0), (110, [(.aload_n 0, 1), (.getfield 11, 3), (.iload_n 3, 1), (.iload 6, 2), (.iadd, 1), (.lload 9, 2), (.ldc2_w 19, 3), (.land, 1), (.l2i, 1), (.iastore, 1)], 126, .nop, 0), (126, [(.lload 9, 2), (.bipush 30, 2), (.lushr, 1), (.lstore 4, 2), (.iinc 6 1, 3)], 136, .goto (-93), 3), (139, [(.iinc 3 1, 3)], 142, .goto (-119), 3), (145, [(.aload_n 0, 1)], 146, .invokevirtual 21, 3), (149, [], 149, .return_, 1)]
theorem bX6_multiply_ok : zBok cX6_multiply 11 bX6_multiply = true := by decide +kernel
abbrev wX6_multiply : List Cond := Cond.code yX6_multiply cX6_multiply 11 none :: uU
def rX6_multiply : Room := { frames := 1, cells := 0, slots := 0, locals := 21 }
set_option maxRecDepth 20000 in
set_option maxHeartbeats 4000000 in
theorem m_C_X6_multiply_36_32_28 (l : Launch) (M0 : zM) (M1 : zM) (M2 : zM) (M3 : zM) (M5 : zM) (M7 : zM) (M9 : zM) (M10 : zM) (M11 : zM) (M12 : zM) (M13 : zM) (s2 : Int) (d2 : Nat → Int) (s1 : Int) (d1 : Nat → Int) (s0 : Int) (d0 : Nat → Int) (x : Int × (Nat → Int)) (h : f_X6_multiply s0 d0 s1 d1 s2 d2 = some x) : zD l yX6_multiply wX6_multiply rX6_multiply lamC shpC [(2, Int.ofNat 36), (2, Int.ofNat 32), (2, Int.ofNat 28)] [M0, M1, M2, M3, ([s2], [d2]), M5, ([s1], [d1]), M7, ([s0], [d0]), M9, M10, M11, M12, M13] (none) [M0, M1, M2, M3, ([s2], [d2]), M5, ([s1], [d1]), M7, ([x.1], [x.2]), M9, M10, M11, M12, M13] := by
  refine zD_of (B := bX6_multiply) (E := eX6n) (by decide) rfl lokC (eX6n_ok _) bX6_multiply_ok (Or.inl rfl) rfl (fun S R => ?_)
  obtain ⟨rb, rg, ri, rv, rs, r0, r1, r2, r3, rt, rmk⟩ := R
  show S 0 [some (2, Int.ofNat 36), some (2, Int.ofNat 32), some (2, Int.ofNat 28), none, none, none, none, none, none, none, none] [] [M0, M1, M2, M3, ([s2], [d2]), M5, ([s1], [d1]), M7, ([s0], [d0]), M9, M10, M11, M12, M13]
  have LP2 : ∀ (n : Nat) (v3 : Int) (s2 : Int) (d2 : Nat → Int) (s1 : Int) (d1 : Nat → Int) (s0 : Int) (d0 : Nat → Int) (y : Nat → Int), l_X6_multiply_2 n v3 d0 = some y → S 21 [some (2, Int.ofNat 36), some (2, Int.ofNat 32), some (2, Int.ofNat 28), none, none, none, none, none, none, none, none] [] [M0, M1, M2, M3, ([s2], [d2]), M5, ([s1], [d1]), M7, ([s0], [y]), M9, M10, M11, M12, M13] → S 2 [some (2, Int.ofNat 36), some (2, Int.ofNat 32), some (2, Int.ofNat 28), some (0, v3), none, none, none, none, none, none, none] [] [M0, M1, M2, M3, ([s2], [d2]), M5, ([s1], [d1]), M7, ([s0], [d0]), M9, M10, M11, M12, M13] := by
    intro n
    induction n with
    | zero =>
      intro v3 s2 d2 s1 d1 s0 d0 y h k
      rw [l_X6_multiply_2] at h
      cases h
    | succ n ih =>
      intro v3 s2 d2 s1 d1 s0 d0 y h k
      rw [l_X6_multiply_2] at h
      refine ri false 1 (q := v3 < 40) (t1 := 8) (t2 := 21) rfl rfl trivial (fun c => ?_) (fun c => ?_)
      · replace h := zif1 c h
        obtain ⟨⟨g1_0, g1_1⟩, h⟩ := zgd h
        refine rg false 2 (t := 2) (L2 := [some (2, Int.ofNat 36), some (2, Int.ofNat 32), some (2, Int.ofNat 28), some (0, (v3 + 1)), none, none, none, none, none, none, none]) (σ2 := [M0, M1, M2, M3, ([s2], [d2]), M5, ([s1], [d1]), M7, ([s0], [(zu d0 (Int.toNat v3) 0)]), M9, M10, M11, M12, M13]) rfl rfl rfl (And.intro g1_0 g1_1) ?_
        exact ih (v3 + 1) s2 d2 s1 d1 s0 (zu d0 (Int.toNat v3) 0) y h k
      · replace h := zif2 c h
        refine rmk [true, true, true, false, false, false, false, false, false, false, false] (L2 := [some (2, Int.ofNat 36), some (2, Int.ofNat 32), some (2, Int.ofNat 28), none, none, none, none, none, none, none, none]) rfl ?_
        obtain rfl := Option.some.inj h
        exact k
  have LP43 : ∀ (n : Nat) (v3 : Int) (v4 : Int) (v6 : Int) (s2 : Int) (d2 : Nat → Int) (s1 : Int) (d1 : Nat → Int) (s0 : Int) (d0 : Nat → Int) (y : Nat → Int), l_X6_multiply_43 n v3 v4 v6 d0 d1 s2 d2 = some y → S 139 [some (2, Int.ofNat 36), some (2, Int.ofNat 32), some (2, Int.ofNat 28), some (0, v3), none, none, none, none, none, none, none] [] [M0, M1, M2, M3, ([s2], [d2]), M5, ([s1], [d1]), M7, ([s0], [y]), M9, M10, M11, M12, M13] → S 43 [some (2, Int.ofNat 36), some (2, Int.ofNat 32), some (2, Int.ofNat 28), some (0, v3), some (1, v4), none, some (0, v6), none, none, none, none] [] [M0, M1, M2, M3, ([s2], [d2]), M5, ([s1], [d1]), M7, ([s0], [d0]), M9, M10, M11, M12, M13] := by
    intro n
    induction n with
    | zero =>
      intro v3 v4 v6 s2 d2 s1 d1 s0 d0 y h k
      rw [l_X6_multiply_43] at h
      cases h
    | succ n ih =>
      intro v3 v4 v6 s2 d2 s1 d1 s0 d0 y h k
      rw [l_X6_multiply_43] at h
      refine ri false 7 (q := s2 < v6) (t1 := 139) (t2 := 52) rfl rfl trivial (fun c => ?_) (fun c => ?_)
      · replace h := zif1 c h
        refine rmk [true, true, true, true, false, false, false, false, false, false, false] (L2 := [some (2, Int.ofNat 36), some (2, Int.ofNat 32), some (2, Int.ofNat 28), some (0, v3), none, none, none, none, none, none, none]) rfl ?_
        obtain rfl := Option.some.inj h
        exact k
      · replace h := zif2 c h
        obtain ⟨g3_0, h⟩ := zgd h
        refine ri false 8 (q := (v3 + v6) < 40) (t1 := 61) (t2 := 139) rfl rfl g3_0 (fun c => ?_) (fun c => ?_)
        · replace h := zif1 c h
          refine ri false 9 (q := v6 < s2) (t1 := 70) (t2 := 89) rfl rfl trivial (fun c => ?_) (fun c => ?_)
          · replace h := zif1 c h
            obtain ⟨⟨g4_0, g4_1⟩, h⟩ := zgd h
            refine rg false 10 (t := 90) (st2 := [(4, ((d1 (Int.toNat v3)) * (d2 (Int.toNat v6))))]) rfl rfl rfl (And.intro g4_0 g4_1) ?_
            obtain ⟨⟨g5_0, g5_1, g5_2⟩, h⟩ := zgd h
            refine rb false 12 (L2 := [some (2, Int.ofNat 36), some (2, Int.ofNat 32), some (2, Int.ofNat 28), some (0, v3), some (1, v4), none, some (0, v6), some (1, ((d1 (Int.toNat v3)) * (d2 (Int.toNat v6)))), none, some (1, ((((d1 (Int.toNat v3)) * (d2 (Int.toNat v6))) + (d0 (Int.toNat (v3 + v6)))) + v4)), none]) rfl rfl (And.intro g5_0 (And.intro g5_1 g5_2)) ?_
            obtain ⟨⟨g6_0, g6_1⟩, h⟩ := zgd h
            refine rb false 13 (σ2 := [M0, M1, M2, M3, ([s2], [d2]), M5, ([s1], [d1]), M7, ([s0], [(zu d0 (Int.toNat (v3 + v6)) (zandl ((((d1 (Int.toNat v3)) * (d2 (Int.toNat v6))) + (d0 (Int.toNat (v3 + v6)))) + v4) 1073741823))]), M9, M10, M11, M12, M13]) rfl rfl (And.intro g6_0 g6_1) ?_
            obtain ⟨g7_0, h⟩ := zgd h
            refine rg false 14 (t := 43) (L2 := [some (2, Int.ofNat 36), some (2, Int.ofNat 32), some (2, Int.ofNat 28), some (0, v3), some (1, (zushrl ((((d1 (Int.toNat v3)) * (d2 (Int.toNat v6))) + (d0 (Int.toNat (v3 + v6)))) + v4) 30)), none, some (0, (v6 + 1)), some (1, ((d1 (Int.toNat v3)) * (d2 (Int.toNat v6)))), none, some (1, ((((d1 (Int.toNat v3)) * (d2 (Int.toNat v6))) + (d0 (Int.toNat (v3 + v6)))) + v4)), none]) rfl rfl rfl g7_0 ?_
            refine rmk [true, true, true, true, true, false, true, false, false, false, false] (L2 := [some (2, Int.ofNat 36), some (2, Int.ofNat 32), some (2, Int.ofNat 28), some (0, v3), some (1, (zushrl ((((d1 (Int.toNat v3)) * (d2 (Int.toNat v6))) + (d0 (Int.toNat (v3 + v6)))) + v4) 30)), none, some (0, (v6 + 1)), none, none, none, none]) rfl ?_
            exact ih v3 (zushrl ((((d1 (Int.toNat v3)) * (d2 (Int.toNat v6))) + (d0 (Int.toNat (v3 + v6)))) + v4) 30) (v6 + 1) s2 d2 s1 d1 s0 (zu d0 (Int.toNat (v3 + v6)) (zandl ((((d1 (Int.toNat v3)) * (d2 (Int.toNat v6))) + (d0 (Int.toNat (v3 + v6)))) + v4) 1073741823)) y h k
          · replace h := zif2 c h
            refine rb false 11 (st2 := [(1, 0)]) rfl rfl trivial ?_
            obtain ⟨⟨g8_0, g8_1⟩, h⟩ := zgd h
            refine rb false 12 (L2 := [some (2, Int.ofNat 36), some (2, Int.ofNat 32), some (2, Int.ofNat 28), some (0, v3), some (1, v4), none, some (0, v6), some (1, 0), none, some (1, ((0 + (d0 (Int.toNat (v3 + v6)))) + v4)), none]) rfl rfl (And.intro g8_0 g8_1) ?_
            obtain ⟨⟨g9_0, g9_1⟩, h⟩ := zgd h
            refine rb false 13 (σ2 := [M0, M1, M2, M3, ([s2], [d2]), M5, ([s1], [d1]), M7, ([s0], [(zu d0 (Int.toNat (v3 + v6)) (zandl ((0 + (d0 (Int.toNat (v3 + v6)))) + v4) 1073741823))]), M9, M10, M11, M12, M13]) rfl rfl (And.intro g9_0 g9_1) ?_
            obtain ⟨g10_0, h⟩ := zgd h
            refine rg false 14 (t := 43) (L2 := [some (2, Int.ofNat 36), some (2, Int.ofNat 32), some (2, Int.ofNat 28), some (0, v3), some (1, (zushrl ((0 + (d0 (Int.toNat (v3 + v6)))) + v4) 30)), none, some (0, (v6 + 1)), some (1, 0), none, some (1, ((0 + (d0 (Int.toNat (v3 + v6)))) + v4)), none]) rfl rfl rfl g10_0 ?_
            refine rmk [true, true, true, true, true, false, true, false, false, false, false] (L2 := [some (2, Int.ofNat 36), some (2, Int.ofNat 32), some (2, Int.ofNat 28), some (0, v3), some (1, (zushrl ((0 + (d0 (Int.toNat (v3 + v6)))) + v4) 30)), none, some (0, (v6 + 1)), none, none, none, none]) rfl ?_
            exact ih v3 (zushrl ((0 + (d0 (Int.toNat (v3 + v6)))) + v4) 30) (v6 + 1) s2 d2 s1 d1 s0 (zu d0 (Int.toNat (v3 + v6)) (zandl ((0 + (d0 (Int.toNat (v3 + v6)))) + v4) 1073741823)) y h k
        · replace h := zif2 c h
          refine rmk [true, true, true, true, false, false, false, false, false, false, false] (L2 := [some (2, Int.ofNat 36), some (2, Int.ofNat 32), some (2, Int.ofNat 28), some (0, v3), none, none, none, none, none, none, none]) rfl ?_
          obtain rfl := Option.some.inj h
          exact k
  have LP23 : ∀ (n : Nat) (v3 : Int) (s2 : Int) (d2 : Nat → Int) (s1 : Int) (d1 : Nat → Int) (s0 : Int) (d0 : Nat → Int) (y : Nat → Int), l_X6_multiply_23 n v3 d0 s1 d1 s2 d2 = some y → S 145 [some (2, Int.ofNat 36), none, none, none, none, none, none, none, none, none, none] [] [M0, M1, M2, M3, ([s2], [d2]), M5, ([s1], [d1]), M7, ([s0], [y]), M9, M10, M11, M12, M13] → S 23 [some (2, Int.ofNat 36), some (2, Int.ofNat 32), some (2, Int.ofNat 28), some (0, v3), none, none, none, none, none, none, none] [] [M0, M1, M2, M3, ([s2], [d2]), M5, ([s1], [d1]), M7, ([s0], [d0]), M9, M10, M11, M12, M13] := by
    intro n
    induction n with
    | zero =>
      intro v3 s2 d2 s1 d1 s0 d0 y h k
      rw [l_X6_multiply_23] at h
      cases h
    | succ n ih =>
      intro v3 s2 d2 s1 d1 s0 d0 y h k
      rw [l_X6_multiply_23] at h
      refine ri false 4 (q := v3 < s1) (t1 := 31) (t2 := 145) rfl rfl trivial (fun c => ?_) (fun c => ?_)
      · replace h := zif1 c h
        refine ri false 5 (q := v3 < 40) (t1 := 37) (t2 := 145) rfl rfl trivial (fun c => ?_) (fun c => ?_)
        · replace h := zif1 c h
          refine rb false 6 (L2 := [some (2, Int.ofNat 36), some (2, Int.ofNat 32), some (2, Int.ofNat 28), some (0, v3), some (1, 0), none, some (0, 0), none, none, none, none]) rfl rfl trivial ?_
          obtain ⟨x11, hx11, h⟩ := zbd h
          refine LP43 zN v3 0 0 s2 d2 s1 d1 s0 d0 x11 hx11 ?_
          obtain ⟨g12_0, h⟩ := zgd h
          refine rg false 15 (t := 23) (L2 := [some (2, Int.ofNat 36), some (2, Int.ofNat 32), some (2, Int.ofNat 28), some (0, (v3 + 1)), none, none, none, none, none, none, none]) rfl rfl rfl g12_0 ?_
          exact ih (v3 + 1) s2 d2 s1 d1 s0 x11 y h k
        · replace h := zif2 c h
          refine rmk [true, false, false, false, false, false, false, false, false, false, false] (L2 := [some (2, Int.ofNat 36), none, none, none, none, none, none, none, none, none, none]) rfl ?_
          obtain rfl := Option.some.inj h
          exact k
      · replace h := zif2 c h
        refine rmk [true, false, false, false, false, false, false, false, false, false, false] (L2 := [some (2, Int.ofNat 36), none, none, none, none, none, none, none, none, none, none]) rfl ?_
        obtain rfl := Option.some.inj h
        exact k
  unfold f_X6_multiply at h
  refine rb false 0 (L2 := [some (2, Int.ofNat 36), some (2, Int.ofNat 32), some (2, Int.ofNat 28), some (0, 0), none, none, none, none, none, none, none]) rfl rfl trivial ?_
  obtain ⟨x2, hx2, h⟩ := zbd h
  refine LP2 zN 0 s2 d2 s1 d1 s0 d0 x2 hx2 ?_
  refine rb false 3 (L2 := [some (2, Int.ofNat 36), some (2, Int.ofNat 32), some (2, Int.ofNat 28), some (0, 0), none, none, none, none, none, none, none]) rfl rfl trivial ?_
  obtain ⟨x13, hx13, h⟩ := zbd h
  refine LP23 zN 0 s2 d2 s1 d1 s0 x2 x13 hx13 ?_
  obtain ⟨x14, hx14, h⟩ := zbd h
  refine rv false 16 0 rfl rfl trivial rfl (m_C_X6_trim_36 l M0 M1 M2 M3 ([s2], [d2]) M5 ([s1], [d1]) M7 M9 M10 M11 M12 M13 s0 x13 x14 hx14) ⟨_, _, _, _, rfl, rfl, rfl, by decide +kernel, ⟨Nat.le_of_ble_eq_true rfl, Nat.le_of_ble_eq_true rfl⟩, uGin u_6_16 u_6_17 u_6_18 u_4_17 u_6_19⟩ ⟨rfl, _, _, _, rfl, rfl⟩ ?_
  obtain rfl := Option.some.inj h
  exact r0 false 17 rfl rfl rfl rfl trivial
def bX6_take : zB := [(0, [(.iconst 0, 1), (.istore_n 2, 1)], 2, .nop, 0), (2, [(.iload_n 2, 1), (.bipush 40, 2)], 5, .if_icmp .ge 21, 3), (8, [(.aload_n 0, 1), (.getfield 11, 3), (.iload_n 2, 1), (.aload_n 1, 1), (.getfield 11, 3), (.iload_n 2, 1), (.iaload, 1), (.iastore, 1), (.iinc 2 1, 3)], 23, .goto (-21), 3), (26, [(.aload_n 0, 1), (.aload_n 1, 1), (.getfield 15, 3), (.putfield 15, 3)], 34, .return_, 1)]
theorem bX6_take_ok : zBok cX6_take 3 bX6_take = true := by decide +kernel
abbrev wX6_take : List Cond := Cond.code yX6_take cX6_take 3 none :: uU
def rX6_take : Room := { frames := 0, cells := 0, slots := 0, locals := 0 }
set_option maxRecDepth 20000 in
set_option maxHeartbeats 4000000 in
theorem m_C_X6_take_32_36 (l : Launch) (M0 : zM) (M1 : zM) (M2 : zM) (M3 : zM) (M4 : zM) (M5 : zM) (M7 : zM) (M9 : zM) (M10 : zM) (M11 : zM) (M12 : zM) (M13 : zM) (s0 : Int) (d0 : Nat → Int) (s1 : Int) (d1 : Nat → Int) (x : Int × (Nat → Int)) (h : f_X6_take s0 d0 s1 d1 = some x) : zD l yX6_take wX6_take rX6_take lamC shpC [(2, Int.ofNat 32), (2, Int.ofNat 36)] [M0, M1, M2, M3, M4, M5, ([s0], [d0]), M7, ([s1], [d1]), M9, M10, M11, M12, M13] (none) [M0, M1, M2, M3, M4, M5, ([x.1], [x.2]), M7, ([s1], [d1]), M9, M10, M11, M12, M13] := by
  refine zD_of (B := bX6_take) (E := eX6n) (by decide) rfl lokC (eX6n_ok _) bX6_take_ok (Or.inl rfl) rfl (fun S R => ?_)
  obtain ⟨rb, rg, ri, rv, rs, r0, r1, r2, r3, rt, rmk⟩ := R
  show S 0 [some (2, Int.ofNat 32), some (2, Int.ofNat 36), none] [] [M0, M1, M2, M3, M4, M5, ([s0], [d0]), M7, ([s1], [d1]), M9, M10, M11, M12, M13]
  have LP2 : ∀ (n : Nat) (v2 : Int) (s0 : Int) (d0 : Nat → Int) (s1 : Int) (d1 : Nat → Int) (y : Nat → Int), l_X6_take_2 n v2 d0 d1 = some y → S 26 [some (2, Int.ofNat 32), some (2, Int.ofNat 36), none] [] [M0, M1, M2, M3, M4, M5, ([s0], [y]), M7, ([s1], [d1]), M9, M10, M11, M12, M13] → S 2 [some (2, Int.ofNat 32), some (2, Int.ofNat 36), some (0, v2)] [] [M0, M1, M2, M3, M4, M5, ([s0], [d0]), M7, ([s1], [d1]), M9, M10, M11, M12, M13] := by
    intro n
    induction n with
    | zero =>
      intro v2 s0 d0 s1 d1 y h k
      rw [l_X6_take_2] at h
      cases h
    | succ n ih =>
      intro v2 s0 d0 s1 d1 y h k
      rw [l_X6_take_2] at h
      refine ri false 1 (q := v2 < 40) (t1 := 8) (t2 := 26) rfl rfl trivial (fun c => ?_) (fun c => ?_)
      · replace h := zif1 c h
        obtain ⟨⟨g1_0, g1_1, g1_2⟩, h⟩ := zgd h
        refine rg false 2 (t := 2) (L2 := [some (2, Int.ofNat 32), some (2, Int.ofNat 36), some (0, (v2 + 1))]) (σ2 := [M0, M1, M2, M3, M4, M5, ([s0], [(zu d0 (Int.toNat v2) (d1 (Int.toNat v2)))]), M7, ([s1], [d1]), M9, M10, M11, M12, M13]) rfl rfl rfl (And.intro g1_0 (And.intro g1_1 g1_2)) ?_
        exact ih (v2 + 1) s0 (zu d0 (Int.toNat v2) (d1 (Int.toNat v2))) s1 d1 y h k
      · replace h := zif2 c h
        refine rmk [true, true, false] (L2 := [some (2, Int.ofNat 32), some (2, Int.ofNat 36), none]) rfl ?_
        obtain rfl := Option.some.inj h
        exact k
  unfold f_X6_take at h
  refine rb false 0 (L2 := [some (2, Int.ofNat 32), some (2, Int.ofNat 36), some (0, 0)]) rfl rfl trivial ?_
  obtain ⟨x2, hx2, h⟩ := zbd h
  refine LP2 zN 0 s0 d0 s1 d1 x2 hx2 ?_
  obtain rfl := Option.some.inj h
  exact r0 false 3 rfl rfl rfl rfl trivial
set_option maxRecDepth 20000 in
set_option maxHeartbeats 4000000 in
theorem m_C_X6_multiply_36_34_30 (l : Launch) (M0 : zM) (M1 : zM) (M2 : zM) (M3 : zM) (M4 : zM) (M6 : zM) (M9 : zM) (M10 : zM) (M11 : zM) (M12 : zM) (M13 : zM) (s2 : Int) (d2 : Nat → Int) (s1 : Int) (d1 : Nat → Int) (s0 : Int) (d0 : Nat → Int) (x : Int × (Nat → Int)) (h : f_X6_multiply s0 d0 s1 d1 s2 d2 = some x) : zD l yX6_multiply wX6_multiply rX6_multiply lamC shpC [(2, Int.ofNat 36), (2, Int.ofNat 34), (2, Int.ofNat 30)] [M0, M1, M2, M3, M4, ([s2], [d2]), M6, ([s1], [d1]), ([s0], [d0]), M9, M10, M11, M12, M13] (none) [M0, M1, M2, M3, M4, ([s2], [d2]), M6, ([s1], [d1]), ([x.1], [x.2]), M9, M10, M11, M12, M13] := by
  refine zD_of (B := bX6_multiply) (E := eX6n) (by decide) rfl lokC (eX6n_ok _) bX6_multiply_ok (Or.inl rfl) rfl (fun S R => ?_)
  obtain ⟨rb, rg, ri, rv, rs, r0, r1, r2, r3, rt, rmk⟩ := R
  show S 0 [some (2, Int.ofNat 36), some (2, Int.ofNat 34), some (2, Int.ofNat 30), none, none, none, none, none, none, none, none] [] [M0, M1, M2, M3, M4, ([s2], [d2]), M6, ([s1], [d1]), ([s0], [d0]), M9, M10, M11, M12, M13]
  have LP2 : ∀ (n : Nat) (v3 : Int) (s2 : Int) (d2 : Nat → Int) (s1 : Int) (d1 : Nat → Int) (s0 : Int) (d0 : Nat → Int) (y : Nat → Int), l_X6_multiply_2 n v3 d0 = some y → S 21 [some (2, Int.ofNat 36), some (2, Int.ofNat 34), some (2, Int.ofNat 30), none, none, none, none, none, none, none, none] [] [M0, M1, M2, M3, M4, ([s2], [d2]), M6, ([s1], [d1]), ([s0], [y]), M9, M10, M11, M12, M13] → S 2 [some (2, Int.ofNat 36), some (2, Int.ofNat 34), some (2, Int.ofNat 30), some (0, v3), none, none, none, none, none, none, none] [] [M0, M1, M2, M3, M4, ([s2], [d2]), M6, ([s1], [d1]), ([s0], [d0]), M9, M10, M11, M12, M13] := by
    intro n
    induction n with
    | zero =>
      intro v3 s2 d2 s1 d1 s0 d0 y h k
      rw [l_X6_multiply_2] at h
      cases h
    | succ n ih =>
      intro v3 s2 d2 s1 d1 s0 d0 y h k
      rw [l_X6_multiply_2] at h
      refine ri false 1 (q := v3 < 40) (t1 := 8) (t2 := 21) rfl rfl trivial (fun c => ?_) (fun c => ?_)
      · replace h := zif1 c h
        obtain ⟨⟨g1_0, g1_1⟩, h⟩ := zgd h
        refine rg false 2 (t := 2) (L2 := [some (2, Int.ofNat 36), some (2, Int.ofNat 34), some (2, Int.ofNat 30), some (0, (v3 + 1)), none, none, none, none, none, none, none]) (σ2 := [M0, M1, M2, M3, M4, ([s2], [d2]), M6, ([s1], [d1]), ([s0], [(zu d0 (Int.toNat v3) 0)]), M9, M10, M11, M12, M13]) rfl rfl rfl (And.intro g1_0 g1_1) ?_
        exact ih (v3 + 1) s2 d2 s1 d1 s0 (zu d0 (Int.toNat v3) 0) y h k
      · replace h := zif2 c h
        refine rmk [true, true, true, false, false, false, false, false, false, false, false] (L2 := [some (2, Int.ofNat 36), some (2, Int.ofNat 34), some (2, Int.ofNat 30), none, none, none, none, none, none, none, none]) rfl ?_
        obtain rfl := Option.some.inj h
        exact k
  have LP43 : ∀ (n : Nat) (v3 : Int) (v4 : Int) (v6 : Int) (s2 : Int) (d2 : Nat → Int) (s1 : Int) (d1 : Nat → Int) (s0 : Int) (d0 : Nat → Int) (y : Nat → Int), l_X6_multiply_43 n v3 v4 v6 d0 d1 s2 d2 = some y → S 139 [some (2, Int.ofNat 36), some (2, Int.ofNat 34), some (2, Int.ofNat 30), some (0, v3), none, none, none, none, none, none, none] [] [M0, M1, M2, M3, M4, ([s2], [d2]), M6, ([s1], [d1]), ([s0], [y]), M9, M10, M11, M12, M13] → S 43 [some (2, Int.ofNat 36), some (2, Int.ofNat 34), some (2, Int.ofNat 30), some (0, v3), some (1, v4), none, some (0, v6), none, none, none, none] [] [M0, M1, M2, M3, M4, ([s2], [d2]), M6, ([s1], [d1]), ([s0], [d0]), M9, M10, M11, M12, M13] := by
    intro n
    induction n with
    | zero =>
      intro v3 v4 v6 s2 d2 s1 d1 s0 d0 y h k
      rw [l_X6_multiply_43] at h
      cases h
    | succ n ih =>
      intro v3 v4 v6 s2 d2 s1 d1 s0 d0 y h k
      rw [l_X6_multiply_43] at h
      refine ri false 7 (q := s2 < v6) (t1 := 139) (t2 := 52) rfl rfl trivial (fun c => ?_) (fun c => ?_)
      · replace h := zif1 c h
        refine rmk [true, true, true, true, false, false, false, false, false, false, false] (L2 := [some (2, Int.ofNat 36), some (2, Int.ofNat 34), some (2, Int.ofNat 30), some (0, v3), none, none, none, none, none, none, none]) rfl ?_
        obtain rfl := Option.some.inj h
        exact k
      · replace h := zif2 c h
        obtain ⟨g3_0, h⟩ := zgd h
        refine ri false 8 (q := (v3 + v6) < 40) (t1 := 61) (t2 := 139) rfl rfl g3_0 (fun c => ?_) (fun c => ?_)
        · replace h := zif1 c h
          refine ri false 9 (q := v6 < s2) (t1 := 70) (t2 := 89) rfl rfl trivial (fun c => ?_) (fun c => ?_)
          · replace h := zif1 c h
            obtain ⟨⟨g4_0, g4_1⟩, h⟩ := zgd h
            refine rg false 10 (t := 90) (st2 := [(4, ((d1 (Int.toNat v3)) * (d2 (Int.toNat v6))))]) rfl rfl rfl (And.intro g4_0 g4_1) ?_
            obtain ⟨⟨g5_0, g5_1, g5_2⟩, h⟩ := zgd h
            refine rb false 12 (L2 := [some (2, Int.ofNat 36), some (2, Int.ofNat 34), some (2, Int.ofNat 30), some (0, v3), some (1, v4), none, some (0, v6), some (1, ((d1 (Int.toNat v3)) * (d2 (Int.toNat v6)))), none, some (1, ((((d1 (Int.toNat v3)) * (d2 (Int.toNat v6))) + (d0 (Int.toNat (v3 + v6)))) + v4)), none]) rfl rfl (And.intro g5_0 (And.intro g5_1 g5_2)) ?_
            obtain ⟨⟨g6_0, g6_1⟩, h⟩ := zgd h
            refine rb false 13 (σ2 := [M0, M1, M2, M3, M4, ([s2], [d2]), M6, ([s1], [d1]), ([s0], [(zu d0 (Int.toNat (v3 + v6)) (zandl ((((d1 (Int.toNat v3)) * (d2 (Int.toNat v6))) + (d0 (Int.toNat (v3 + v6)))) + v4) 1073741823))]), M9, M10, M11, M12, M13]) rfl rfl (And.intro g6_0 g6_1) ?_
            obtain ⟨g7_0, h⟩ := zgd h
            refine rg false 14 (t := 43) (L2 := [some (2, Int.ofNat 36), some (2, Int.ofNat 34), some (2, Int.ofNat 30), some (0, v3), some (1, (zushrl ((((d1 (Int.toNat v3)) * (d2 (Int.toNat v6))) + (d0 (Int.toNat (v3 + v6)))) + v4) 30)), none, some (0, (v6 + 1)), some (1, ((d1 (Int.toNat v3)) * (d2 (Int.toNat v6)))), none, some (1, ((((d1 (Int.toNat v3)) * (d2 (Int.toNat v6))) + (d0 (Int.toNat (v3 + v6)))) + v4)), none]) rfl rfl rfl g7_0 ?_
            refine rmk [true, true, true, true, true, false, true, false, false, false, false] (L2 := [some (2, Int.ofNat 36), some (2, Int.ofNat 34), some (2, Int.ofNat 30), some (0, v3), some (1, (zushrl ((((d1 (Int.toNat v3)) * (d2 (Int.toNat v6))) + (d0 (Int.toNat (v3 + v6)))) + v4) 30)), none, some (0, (v6 + 1)), none, none, none, none]) rfl ?_
            exact ih v3 (zushrl ((((d1 (Int.toNat v3)) * (d2 (Int.toNat v6))) + (d0 (Int.toNat (v3 + v6)))) + v4) 30) (v6 + 1) s2 d2 s1 d1 s0 (zu d0 (Int.toNat (v3 + v6)) (zandl ((((d1 (Int.toNat v3)) * (d2 (Int.toNat v6))) + (d0 (Int.toNat (v3 + v6)))) + v4) 1073741823)) y h k
          · replace h := zif2 c h
            refine rb false 11 (st2 := [(1, 0)]) rfl rfl trivial ?_
            obtain ⟨⟨g8_0, g8_1⟩, h⟩ := zgd h
            refine rb false 12 (L2 := [some (2, Int.ofNat 36), some (2, Int.ofNat 34), some (2, Int.ofNat 30), some (0, v3), some (1, v4), none, some (0, v6), some (1, 0), none, some (1, ((0 + (d0 (Int.toNat (v3 + v6)))) + v4)), none]) rfl rfl (And.intro g8_0 g8_1) ?_
            obtain ⟨⟨g9_0, g9_1⟩, h⟩ := zgd h
            refine rb false 13 (σ2 := [M0, M1, M2, M3, M4, ([s2], [d2]), M6, ([s1], [d1]), ([s0], [(zu d0 (Int.toNat (v3 + v6)) (zandl ((0 + (d0 (Int.toNat (v3 + v6)))) + v4) 1073741823))]), M9, M10, M11, M12, M13]) rfl rfl (And.intro g9_0 g9_1) ?_
            obtain ⟨g10_0, h⟩ := zgd h
            refine rg false 14 (t := 43) (L2 := [some (2, Int.ofNat 36), some (2, Int.ofNat 34), some (2, Int.ofNat 30), some (0, v3), some (1, (zushrl ((0 + (d0 (Int.toNat (v3 + v6)))) + v4) 30)), none, some (0, (v6 + 1)), some (1, 0), none, some (1, ((0 + (d0 (Int.toNat (v3 + v6)))) + v4)), none]) rfl rfl rfl g10_0 ?_
            refine rmk [true, true, true, true, true, false, true, false, false, false, false] (L2 := [some (2, Int.ofNat 36), some (2, Int.ofNat 34), some (2, Int.ofNat 30), some (0, v3), some (1, (zushrl ((0 + (d0 (Int.toNat (v3 + v6)))) + v4) 30)), none, some (0, (v6 + 1)), none, none, none, none]) rfl ?_
            exact ih v3 (zushrl ((0 + (d0 (Int.toNat (v3 + v6)))) + v4) 30) (v6 + 1) s2 d2 s1 d1 s0 (zu d0 (Int.toNat (v3 + v6)) (zandl ((0 + (d0 (Int.toNat (v3 + v6)))) + v4) 1073741823)) y h k
        · replace h := zif2 c h
          refine rmk [true, true, true, true, false, false, false, false, false, false, false] (L2 := [some (2, Int.ofNat 36), some (2, Int.ofNat 34), some (2, Int.ofNat 30), some (0, v3), none, none, none, none, none, none, none]) rfl ?_
          obtain rfl := Option.some.inj h
          exact k
  have LP23 : ∀ (n : Nat) (v3 : Int) (s2 : Int) (d2 : Nat → Int) (s1 : Int) (d1 : Nat → Int) (s0 : Int) (d0 : Nat → Int) (y : Nat → Int), l_X6_multiply_23 n v3 d0 s1 d1 s2 d2 = some y → S 145 [some (2, Int.ofNat 36), none, none, none, none, none, none, none, none, none, none] [] [M0, M1, M2, M3, M4, ([s2], [d2]), M6, ([s1], [d1]), ([s0], [y]), M9, M10, M11, M12, M13] → S 23 [some (2, Int.ofNat 36), some (2, Int.ofNat 34), some (2, Int.ofNat 30), some (0, v3), none, none, none, none, none, none, none] [] [M0, M1, M2, M3, M4, ([s2], [d2]), M6, ([s1], [d1]), ([s0], [d0]), M9, M10, M11, M12, M13] := by
    intro n
    induction n with
    | zero =>
      intro v3 s2 d2 s1 d1 s0 d0 y h k
      rw [l_X6_multiply_23] at h
      cases h
    | succ n ih =>
      intro v3 s2 d2 s1 d1 s0 d0 y h k
      rw [l_X6_multiply_23] at h
      refine ri false 4 (q := v3 < s1) (t1 := 31) (t2 := 145) rfl rfl trivial (fun c => ?_) (fun c => ?_)
      · replace h := zif1 c h
        refine ri false 5 (q := v3 < 40) (t1 := 37) (t2 := 145) rfl rfl trivial (fun c => ?_) (fun c => ?_)
        · replace h := zif1 c h
          refine rb false 6 (L2 := [some (2, Int.ofNat 36), some (2, Int.ofNat 34), some (2, Int.ofNat 30), some (0, v3), some (1, 0), none, some (0, 0), none, none, none, none]) rfl rfl trivial ?_
          obtain ⟨x11, hx11, h⟩ := zbd h
          refine LP43 zN v3 0 0 s2 d2 s1 d1 s0 d0 x11 hx11 ?_
          obtain ⟨g12_0, h⟩ := zgd h
          refine rg false 15 (t := 23) (L2 := [some (2, Int.ofNat 36), some (2, Int.ofNat 34), some (2, Int.ofNat 30), some (0, (v3 + 1)), none, none, none, none, none, none, none]) rfl rfl rfl g12_0 ?_
          exact ih (v3 + 1) s2 d2 s1 d1 s0 x11 y h k
        · replace h := zif2 c h
          refine rmk [true, false, false, false, false, false, false, false, false, false, false] (L2 := [some (2, Int.ofNat 36), none, none, none, none, none, none, none, none, none, none]) rfl ?_
          obtain rfl := Option.some.inj h
          exact k
      · replace h := zif2 c h
        refine rmk [true, false, false, false, false, false, false, false, false, false, false] (L2 := [some (2, Int.ofNat 36), none, none, none, none, none, none, none, none, none, none]) rfl ?_
        obtain rfl := Option.some.inj h
        exact k
  unfold f_X6_multiply at h
  refine rb false 0 (L2 := [some (2, Int.ofNat 36), some (2, Int.ofNat 34), some (2, Int.ofNat 30), some (0, 0), none, none, none, none, none, none, none]) rfl rfl trivial ?_
  obtain ⟨x2, hx2, h⟩ := zbd h
  refine LP2 zN 0 s2 d2 s1 d1 s0 d0 x2 hx2 ?_
  refine rb false 3 (L2 := [some (2, Int.ofNat 36), some (2, Int.ofNat 34), some (2, Int.ofNat 30), some (0, 0), none, none, none, none, none, none, none]) rfl rfl trivial ?_
  obtain ⟨x13, hx13, h⟩ := zbd h
  refine LP23 zN 0 s2 d2 s1 d1 s0 x2 x13 hx13 ?_
  obtain ⟨x14, hx14, h⟩ := zbd h
  refine rv false 16 0 rfl rfl trivial rfl (m_C_X6_trim_36 l M0 M1 M2 M3 M4 ([s2], [d2]) M6 ([s1], [d1]) M9 M10 M11 M12 M13 s0 x13 x14 hx14) ⟨_, _, _, _, rfl, rfl, rfl, by decide +kernel, ⟨Nat.le_of_ble_eq_true rfl, Nat.le_of_ble_eq_true rfl⟩, uGin u_6_16 u_6_17 u_6_18 u_4_17 u_6_19⟩ ⟨rfl, _, _, _, rfl, rfl⟩ ?_
  obtain rfl := Option.some.inj h
  exact r0 false 17 rfl rfl rfl rfl trivial
set_option maxRecDepth 20000 in
set_option maxHeartbeats 4000000 in
theorem m_C_X6_take_34_36 (l : Launch) (M0 : zM) (M1 : zM) (M2 : zM) (M3 : zM) (M4 : zM) (M5 : zM) (M6 : zM) (M9 : zM) (M10 : zM) (M11 : zM) (M12 : zM) (M13 : zM) (s0 : Int) (d0 : Nat → Int) (s1 : Int) (d1 : Nat → Int) (x : Int × (Nat → Int)) (h : f_X6_take s0 d0 s1 d1 = some x) : zD l yX6_take wX6_take rX6_take lamC shpC [(2, Int.ofNat 34), (2, Int.ofNat 36)] [M0, M1, M2, M3, M4, M5, M6, ([s0], [d0]), ([s1], [d1]), M9, M10, M11, M12, M13] (none) [M0, M1, M2, M3, M4, M5, M6, ([x.1], [x.2]), ([s1], [d1]), M9, M10, M11, M12, M13] := by
  refine zD_of (B := bX6_take) (E := eX6n) (by decide) rfl lokC (eX6n_ok _) bX6_take_ok (Or.inl rfl) rfl (fun S R => ?_)
  obtain ⟨rb, rg, ri, rv, rs, r0, r1, r2, r3, rt, rmk⟩ := R
  show S 0 [some (2, Int.ofNat 34), some (2, Int.ofNat 36), none] [] [M0, M1, M2, M3, M4, M5, M6, ([s0], [d0]), ([s1], [d1]), M9, M10, M11, M12, M13]
  have LP2 : ∀ (n : Nat) (v2 : Int) (s0 : Int) (d0 : Nat → Int) (s1 : Int) (d1 : Nat → Int) (y : Nat → Int), l_X6_take_2 n v2 d0 d1 = some y → S 26 [some (2, Int.ofNat 34), some (2, Int.ofNat 36), none] [] [M0, M1, M2, M3, M4, M5, M6, ([s0], [y]), ([s1], [d1]), M9, M10, M11, M12, M13] → S 2 [some (2, Int.ofNat 34), some (2, Int.ofNat 36), some (0, v2)] [] [M0, M1, M2, M3, M4, M5, M6, ([s0], [d0]), ([s1], [d1]), M9, M10, M11, M12, M13] := by
    intro n
    induction n with
    | zero =>
      intro v2 s0 d0 s1 d1 y h k
      rw [l_X6_take_2] at h
      cases h
    | succ n ih =>
      intro v2 s0 d0 s1 d1 y h k
      rw [l_X6_take_2] at h
      refine ri false 1 (q := v2 < 40) (t1 := 8) (t2 := 26) rfl rfl trivial (fun c => ?_) (fun c => ?_)
      · replace h := zif1 c h
        obtain ⟨⟨g1_0, g1_1, g1_2⟩, h⟩ := zgd h
        refine rg false 2 (t := 2) (L2 := [some (2, Int.ofNat 34), some (2, Int.ofNat 36), some (0, (v2 + 1))]) (σ2 := [M0, M1, M2, M3, M4, M5, M6, ([s0], [(zu d0 (Int.toNat v2) (d1 (Int.toNat v2)))]), ([s1], [d1]), M9, M10, M11, M12, M13]) rfl rfl rfl (And.intro g1_0 (And.intro g1_1 g1_2)) ?_
        exact ih (v2 + 1) s0 (zu d0 (Int.toNat v2) (d1 (Int.toNat v2))) s1 d1 y h k
      · replace h := zif2 c h
        refine rmk [true, true, false] (L2 := [some (2, Int.ofNat 34), some (2, Int.ofNat 36), none]) rfl ?_
        obtain rfl := Option.some.inj h
        exact k
  unfold f_X6_take at h
  refine rb false 0 (L2 := [some (2, Int.ofNat 34), some (2, Int.ofNat 36), some (0, 0)]) rfl rfl trivial ?_
  obtain ⟨x2, hx2, h⟩ := zbd h
  refine LP2 zN 0 s0 d0 s1 d1 x2 hx2 ?_
  obtain rfl := Option.some.inj h
  exact r0 false 3 rfl rfl rfl rfl trivial
def bX6_addTimes : zB := [(0, [(.lconst 0, 1), (.lstore_n 3, 1), (.iconst 0, 1), (.istore 5, 2)], 5, .nop, 0), (5, [(.iload 5, 2), (.bipush 40, 2)], 9, .if_icmp .ge 53, 3), (12, [(.aload_n 1, 1), (.getfield 11, 3), (.iload 5, 2), (.iaload, 1), (.i2l, 1), (.iload_n 2, 1), (.i2l, 1), (.lmul, 1), (.aload_n 0, 1), (.getfield 11, 3), (.iload 5, 2), (.iaload, 1), (.i2l, 1), (.ladd, 1), (.lload_n 3, 1), (.ladd, 1), (.lstore 6, 2)], 36, .nop, 0), (36, [(.aload_n 0, 1), (.getfield 11, 3), (.iload 5, 2), (.lload 6, 2), (.ldc2_w 19, 3), (.land, 1), (.l2i, 1), (.iastore, 1), (.lload 6, 2), (.bipush 30, 2), (.lushr, 1), (.lstore_n 3, 1)], 56, .nop, 0), (56, [(.iinc 5 1, 3)], 59, .goto (-54), 3), (62, [(.aload_n 0, 1)], 63, .invokevirtual 21, 3), (66, [], 66, .return_, 1)]
theorem bX6_addTimes_ok : zBok cX6_addTimes 8 bX6_addTimes = true := by decide +kernel
abbrev wX6_addTimes : List Cond := Cond.code yX6_addTimes cX6_addTimes 8 none :: uU
def rX6_addTimes : Room := { frames := 1, cells := 0, slots := 0, locals := 21 }
set_option maxRecDepth 20000 in
set_option maxHeartbeats 4000000 in
theorem m_C_X6_addTimes_32_34 (l : Launch) (M0 : zM) (M1 : zM) (M2 : zM) (M3 : zM) (M4 : zM) (M5 : zM) (M8 : zM) (M9 : zM) (M10 : zM) (M11 : zM) (M12 : zM) (M13 : zM) (p2 : Int) (s0 : Int) (d0 : Nat → Int) (s1 : Int) (d1 : Nat → Int) (x : Int × (Nat → Int)) (h : f_X6_addTimes p2 s0 d0 d1 = some x) : zD l yX6_addTimes wX6_addTimes rX6_addTimes lamC shpC [(2, Int.ofNat 32), (2, Int.ofNat 34), (0, p2)] [M0, M1, M2, M3, M4, M5, ([s0], [d0]), ([s1], [d1]), M8, M9, M10, M11, M12, M13] (none) [M0, M1, M2, M3, M4, M5, ([x.1], [x.2]), ([s1], [d1]), M8, M9, M10, M11, M12, M13] := by
  refine zD_of (B := bX6_addTimes) (E := eX6n) (by decide) rfl lokC (eX6n_ok _) bX6_addTimes_ok (Or.inl rfl) rfl (fun S R => ?_)
  obtain ⟨rb, rg, ri, rv, rs, r0, r1, r2, r3, rt, rmk⟩ := R
  show S 0 [some (2, Int.ofNat 32), some (2, Int.ofNat 34), some (0, p2), none, none, none, none, none] [] [M0, M1, M2, M3, M4, M5, ([s0], [d0]), ([s1], [d1]), M8, M9, M10, M11, M12, M13]
  have LP5 : ∀ (n : Nat) (v2 : Int) (v3 : Int) (v5 : Int) (s0 : Int) (d0 : Nat → Int) (s1 : Int) (d1 : Nat → Int) (y : Nat → Int), l_X6_addTimes_5 n v2 v3 v5 d0 d1 = some y → S 62 [some (2, Int.ofNat 32), none, none, none, none, none, none, none] [] [M0, M1, M2, M3, M4, M5, ([s0], [y]), ([s1], [d1]), M8, M9, M10, M11, M12, M13] → S 5 [some (2, Int.ofNat 32), some (2, Int.ofNat 34), some (0, v2), some (1, v3), none, some (0, v5), none, none] [] [M0, M1, M2, M3, M4, M5, ([s0], [d0]), ([s1], [d1]), M8, M9, M10, M11, M12, M13] := by
    intro n
    induction n with
    | zero =>
      intro v2 v3 v5 s0 d0 s1 d1 y h k
      rw [l_X6_addTimes_5] at h
      cases h
    | succ n ih =>
      intro v2 v3 v5 s0 d0 s1 d1 y h k
      rw [l_X6_addTimes_5] at h
      refine ri false 1 (q := v5 < 40) (t1 := 12) (t2 := 62) rfl rfl trivial (fun c => ?_) (fun c => ?_)
      · replace h := zif1 c h
        obtain ⟨⟨g1_0, g1_1, g1_2⟩, h⟩ := zgd h
        refine rb false 2 (L2 := [some (2, Int.ofNat 32), some (2, Int.ofNat 34), some (0, v2), some (1, v3), none, some (0, v5), some (1, ((((d1 (Int.toNat v5)) * v2) + (d0 (Int.toNat v5))) + v3)), none]) rfl rfl (And.intro g1_0 (And.intro g1_1 g1_2)) ?_
        obtain ⟨⟨g2_0, g2_1⟩, h⟩ := zgd h
        refine rb false 3 (L2 := [some (2, Int.ofNat 32), some (2, Int.ofNat 34), some (0, v2), some (1, (zushrl ((((d1 (Int.toNat v5)) * v2) + (d0 (Int.toNat v5))) + v3) 30)), none, some (0, v5), some (1, ((((d1 (Int.toNat v5)) * v2) + (d0 (Int.toNat v5))) + v3)), none]) (σ2 := [M0, M1, M2, M3, M4, M5, ([s0], [(zu d0 (Int.toNat v5) (zandl ((((d1 (Int.toNat v5)) * v2) + (d0 (Int.toNat v5))) + v3) 1073741823))]), ([s1], [d1]), M8, M9, M10, M11, M12, M13]) rfl rfl (And.intro g2_0 g2_1) ?_
        obtain ⟨g3_0, h⟩ := zgd h
        refine rg false 4 (t := 5) (L2 := [some (2, Int.ofNat 32), some (2, Int.ofNat 34), some (0, v2), some (1, (zushrl ((((d1 (Int.toNat v5)) * v2) + (d0 (Int.toNat v5))) + v3) 30)), none, some (0, (v5 + 1)), some (1, ((((d1 (Int.toNat v5)) * v2) + (d0 (Int.toNat v5))) + v3)), none]) rfl rfl rfl g3_0 ?_
        refine rmk [true, true, true, true, false, true, false, false] (L2 := [some (2, Int.ofNat 32), some (2, Int.ofNat 34), some (0, v2), some (1, (zushrl ((((d1 (Int.toNat v5)) * v2) + (d0 (Int.toNat v5))) + v3) 30)), none, some (0, (v5 + 1)), none, none]) rfl ?_
        exact ih v2 (zushrl ((((d1 (Int.toNat v5)) * v2) + (d0 (Int.toNat v5))) + v3) 30) (v5 + 1) s0 (zu d0 (Int.toNat v5) (zandl ((((d1 (Int.toNat v5)) * v2) + (d0 (Int.toNat v5))) + v3) 1073741823)) s1 d1 y h k
      · replace h := zif2 c h
        refine rmk [true, false, false, false, false, false, false, false] (L2 := [some (2, Int.ofNat 32), none, none, none, none, none, none, none]) rfl ?_
        obtain rfl := Option.some.inj h
        exact k
  unfold f_X6_addTimes at h
  refine rb false 0 (L2 := [some (2, Int.ofNat 32), some (2, Int.ofNat 34), some (0, p2), some (1, 0), none, some (0, 0), none, none]) rfl rfl trivial ?_
  obtain ⟨x4, hx4, h⟩ := zbd h
  refine LP5 zN p2 0 0 s0 d0 s1 d1 x4 hx4 ?_
  obtain ⟨x5, hx5, h⟩ := zbd h
  refine rv false 5 0 rfl rfl trivial rfl (m_C_X6_trim_32 l M0 M1 M2 M3 M4 M5 ([s1], [d1]) M8 M9 M10 M11 M12 M13 s0 x4 x5 hx5) ⟨_, _, _, _, rfl, rfl, rfl, by decide +kernel, ⟨Nat.le_of_ble_eq_true rfl, Nat.le_of_ble_eq_true rfl⟩, uGin u_6_16 u_6_17 u_6_18 u_4_17 u_6_19⟩ ⟨rfl, _, _, _, rfl, rfl⟩ ?_
  obtain rfl := Option.some.inj h
  exact r0 false 6 rfl rfl rfl rfl trivial
set_option maxRecDepth 20000 in
set_option maxHeartbeats 4000000 in
theorem m_C_X6_take_28_32 (l : Launch) (M0 : zM) (M1 : zM) (M2 : zM) (M3 : zM) (M5 : zM) (M7 : zM) (M8 : zM) (M9 : zM) (M10 : zM) (M11 : zM) (M12 : zM) (M13 : zM) (s0 : Int) (d0 : Nat → Int) (s1 : Int) (d1 : Nat → Int) (x : Int × (Nat → Int)) (h : f_X6_take s0 d0 s1 d1 = some x) : zD l yX6_take wX6_take rX6_take lamC shpC [(2, Int.ofNat 28), (2, Int.ofNat 32)] [M0, M1, M2, M3, ([s0], [d0]), M5, ([s1], [d1]), M7, M8, M9, M10, M11, M12, M13] (none) [M0, M1, M2, M3, ([x.1], [x.2]), M5, ([s1], [d1]), M7, M8, M9, M10, M11, M12, M13] := by
  refine zD_of (B := bX6_take) (E := eX6n) (by decide) rfl lokC (eX6n_ok _) bX6_take_ok (Or.inl rfl) rfl (fun S R => ?_)
  obtain ⟨rb, rg, ri, rv, rs, r0, r1, r2, r3, rt, rmk⟩ := R
  show S 0 [some (2, Int.ofNat 28), some (2, Int.ofNat 32), none] [] [M0, M1, M2, M3, ([s0], [d0]), M5, ([s1], [d1]), M7, M8, M9, M10, M11, M12, M13]
  have LP2 : ∀ (n : Nat) (v2 : Int) (s0 : Int) (d0 : Nat → Int) (s1 : Int) (d1 : Nat → Int) (y : Nat → Int), l_X6_take_2 n v2 d0 d1 = some y → S 26 [some (2, Int.ofNat 28), some (2, Int.ofNat 32), none] [] [M0, M1, M2, M3, ([s0], [y]), M5, ([s1], [d1]), M7, M8, M9, M10, M11, M12, M13] → S 2 [some (2, Int.ofNat 28), some (2, Int.ofNat 32), some (0, v2)] [] [M0, M1, M2, M3, ([s0], [d0]), M5, ([s1], [d1]), M7, M8, M9, M10, M11, M12, M13] := by
    intro n
    induction n with
    | zero =>
      intro v2 s0 d0 s1 d1 y h k
      rw [l_X6_take_2] at h
      cases h
    | succ n ih =>
      intro v2 s0 d0 s1 d1 y h k
      rw [l_X6_take_2] at h
      refine ri false 1 (q := v2 < 40) (t1 := 8) (t2 := 26) rfl rfl trivial (fun c => ?_) (fun c => ?_)
      · replace h := zif1 c h
        obtain ⟨⟨g1_0, g1_1, g1_2⟩, h⟩ := zgd h
        refine rg false 2 (t := 2) (L2 := [some (2, Int.ofNat 28), some (2, Int.ofNat 32), some (0, (v2 + 1))]) (σ2 := [M0, M1, M2, M3, ([s0], [(zu d0 (Int.toNat v2) (d1 (Int.toNat v2)))]), M5, ([s1], [d1]), M7, M8, M9, M10, M11, M12, M13]) rfl rfl rfl (And.intro g1_0 (And.intro g1_1 g1_2)) ?_
        exact ih (v2 + 1) s0 (zu d0 (Int.toNat v2) (d1 (Int.toNat v2))) s1 d1 y h k
      · replace h := zif2 c h
        refine rmk [true, true, false] (L2 := [some (2, Int.ofNat 28), some (2, Int.ofNat 32), none]) rfl ?_
        obtain rfl := Option.some.inj h
        exact k
  unfold f_X6_take at h
  refine rb false 0 (L2 := [some (2, Int.ofNat 28), some (2, Int.ofNat 32), some (0, 0)]) rfl rfl trivial ?_
  obtain ⟨x2, hx2, h⟩ := zbd h
  refine LP2 zN 0 s0 d0 s1 d1 x2 hx2 ?_
  obtain rfl := Option.some.inj h
  exact r0 false 3 rfl rfl rfl rfl trivial
set_option maxRecDepth 20000 in
set_option maxHeartbeats 4000000 in
theorem m_C_X6_become_36 (l : Launch) (M0 : zM) (M1 : zM) (M2 : zM) (M3 : zM) (M4 : zM) (M5 : zM) (M6 : zM) (M7 : zM) (M9 : zM) (M10 : zM) (M11 : zM) (M12 : zM) (M13 : zM) (p1 : Int) (s0 : Int) (d0 : Nat → Int) (x : Int × (Nat → Int)) (h : f_X6_become p1 s0 d0 = some x) : zD l yX6_become wX6_become rX6_become lamC shpC [(2, Int.ofNat 36), (1, p1)] [M0, M1, M2, M3, M4, M5, M6, M7, ([s0], [d0]), M9, M10, M11, M12, M13] (none) [M0, M1, M2, M3, M4, M5, M6, M7, ([x.1], [x.2]), M9, M10, M11, M12, M13] := by
  refine zD_of (B := bX6_become) (E := eX6n) (by decide) rfl lokC (eX6n_ok _) bX6_become_ok (Or.inl rfl) rfl (fun S R => ?_)
  obtain ⟨rb, rg, ri, rv, rs, r0, r1, r2, r3, rt, rmk⟩ := R
  show S 0 [some (2, Int.ofNat 36), some (1, p1), none, none, none, none] [] [M0, M1, M2, M3, M4, M5, M6, M7, ([s0], [d0]), M9, M10, M11, M12, M13]
  have LP5 : ∀ (n : Nat) (v3 : Int) (v5 : Int) (s0 : Int) (d0 : Nat → Int) (y : Nat → Int), l_X6_become_5 n v3 v5 d0 = some y → S 36 [some (2, Int.ofNat 36), none, none, none, none, none] [] [M0, M1, M2, M3, M4, M5, M6, M7, ([s0], [y]), M9, M10, M11, M12, M13] → S 5 [some (2, Int.ofNat 36), none, none, some (1, v3), none, some (0, v5)] [] [M0, M1, M2, M3, M4, M5, M6, M7, ([s0], [d0]), M9, M10, M11, M12, M13] := by
    intro n
    induction n with
    | zero =>
      intro v3 v5 s0 d0 y h k
      rw [l_X6_become_5] at h
      cases h
    | succ n ih =>
      intro v3 v5 s0 d0 y h k
      rw [l_X6_become_5] at h
      refine ri false 1 (q := v5 < 40) (t1 := 12) (t2 := 36) rfl rfl trivial (fun c => ?_) (fun c => ?_)
      · replace h := zif1 c h
        obtain ⟨⟨g1_0, g1_1⟩, h⟩ := zgd h
        refine rb false 2 (L2 := [some (2, Int.ofNat 36), none, none, some (1, (zushrl v3 30)), none, some (0, v5)]) (σ2 := [M0, M1, M2, M3, M4, M5, M6, M7, ([s0], [(zu d0 (Int.toNat v5) (zandl v3 1073741823))]), M9, M10, M11, M12, M13]) rfl rfl (And.intro g1_0 g1_1) ?_
        obtain ⟨g2_0, h⟩ := zgd h
        refine rg false 3 (t := 5) (L2 := [some (2, Int.ofNat 36), none, none, some (1, (zushrl v3 30)), none, some (0, (v5 + 1))]) rfl rfl rfl g2_0 ?_
        exact ih (zushrl v3 30) (v5 + 1) s0 (zu d0 (Int.toNat v5) (zandl v3 1073741823)) y h k
      · replace h := zif2 c h
        refine rmk [true, false, false, false, false, false] (L2 := [some (2, Int.ofNat 36), none, none, none, none, none]) rfl ?_
        obtain rfl := Option.some.inj h
        exact k
  unfold f_X6_become at h
  refine rb false 0 (L2 := [some (2, Int.ofNat 36), some (1, p1), none, some (1, p1), none, some (0, 0)]) rfl rfl trivial ?_
  refine rmk [true, false, false, true, false, true] (L2 := [some (2, Int.ofNat 36), none, none, some (1, p1), none, some (0, 0)]) rfl ?_
  obtain ⟨x3, hx3, h⟩ := zbd h
  refine LP5 zN p1 0 s0 d0 x3 hx3 ?_
  obtain ⟨x4, hx4, h⟩ := zbd h
  refine rv false 4 0 rfl rfl trivial rfl (m_C_X6_trim_36 l M0 M1 M2 M3 M4 M5 M6 M7 M9 M10 M11 M12 M13 s0 x3 x4 hx4) ⟨_, _, _, _, rfl, rfl, rfl, by decide +kernel, ⟨Nat.le_of_ble_eq_true rfl, Nat.le_of_ble_eq_true rfl⟩, uGin u_6_16 u_6_17 u_6_18 u_4_17 u_6_19⟩ ⟨rfl, _, _, _, rfl, rfl⟩ ?_
  obtain rfl := Option.some.inj h
  exact r0 false 5 rfl rfl rfl rfl trivial
set_option maxRecDepth 20000 in
set_option maxHeartbeats 4000000 in
theorem m_C_X6_multiply_30_34_36 (l : Launch) (M0 : zM) (M1 : zM) (M2 : zM) (M3 : zM) (M4 : zM) (M6 : zM) (M9 : zM) (M10 : zM) (M11 : zM) (M12 : zM) (M13 : zM) (s0 : Int) (d0 : Nat → Int) (s1 : Int) (d1 : Nat → Int) (s2 : Int) (d2 : Nat → Int) (x : Int × (Nat → Int)) (h : f_X6_multiply s0 d0 s1 d1 s2 d2 = some x) : zD l yX6_multiply wX6_multiply rX6_multiply lamC shpC [(2, Int.ofNat 30), (2, Int.ofNat 34), (2, Int.ofNat 36)] [M0, M1, M2, M3, M4, ([s0], [d0]), M6, ([s1], [d1]), ([s2], [d2]), M9, M10, M11, M12, M13] (none) [M0, M1, M2, M3, M4, ([x.1], [x.2]), M6, ([s1], [d1]), ([s2], [d2]), M9, M10, M11, M12, M13] := by
  refine zD_of (B := bX6_multiply) (E := eX6n) (by decide) rfl lokC (eX6n_ok _) bX6_multiply_ok (Or.inl rfl) rfl (fun S R => ?_)
  obtain ⟨rb, rg, ri, rv, rs, r0, r1, r2, r3, rt, rmk⟩ := R
  show S 0 [some (2, Int.ofNat 30), some (2, Int.ofNat 34), some (2, Int.ofNat 36), none, none, none, none, none, none, none, none] [] [M0, M1, M2, M3, M4, ([s0], [d0]), M6, ([s1], [d1]), ([s2], [d2]), M9, M10, M11, M12, M13]
  have LP2 : ∀ (n : Nat) (v3 : Int) (s0 : Int) (d0 : Nat → Int) (s1 : Int) (d1 : Nat → Int) (s2 : Int) (d2 : Nat → Int) (y : Nat → Int), l_X6_multiply_2 n v3 d0 = some y → S 21 [some (2, Int.ofNat 30), some (2, Int.ofNat 34), some (2, Int.ofNat 36), none, none, none, none, none, none, none, none] [] [M0, M1, M2, M3, M4, ([s0], [y]), M6, ([s1], [d1]), ([s2], [d2]), M9, M10, M11, M12, M13] → S 2 [some (2, Int.ofNat 30), some (2, Int.ofNat 34), some (2, Int.ofNat 36), some (0, v3), none, none, none, none, none, none, none] [] [M0, M1, M2, M3, M4, ([s0], [d0]), M6, ([s1], [d1]), ([s2], [d2]), M9, M10, M11, M12, M13] := by
    intro n
    induction n with
    | zero =>
      intro v3 s0 d0 s1 d1 s2 d2 y h k
      rw [l_X6_multiply_2] at h
      cases h
    | succ n ih =>
      intro v3 s0 d0 s1 d1 s2 d2 y h k
      rw [l_X6_multiply_2] at h
      refine ri false 1 (q := v3 < 40) (t1 := 8) (t2 := 21) rfl rfl trivial (fun c => ?_) (fun c => ?_)
      · replace h := zif1 c h
        obtain ⟨⟨g1_0, g1_1⟩, h⟩ := zgd h
        refine rg false 2 (t := 2) (L2 := [some (2, Int.ofNat 30), some (2, Int.ofNat 34), some (2, Int.ofNat 36), some (0, (v3 + 1)), none, none, none, none, none, none, none]) (σ2 := [M0, M1, M2, M3, M4, ([s0], [(zu d0 (Int.toNat v3) 0)]), M6, ([s1], [d1]), ([s2], [d2]), M9, M10, M11, M12, M13]) rfl rfl rfl (And.intro g1_0 g1_1) ?_
        exact ih (v3 + 1) s0 (zu d0 (Int.toNat v3) 0) s1 d1 s2 d2 y h k
      · replace h := zif2 c h
        refine rmk [true, true, true, false, false, false, false, false, false, false, false] (L2 := [some (2, Int.ofNat 30), some (2, Int.ofNat 34), some (2, Int.ofNat 36), none, none, none, none, none, none, none, none]) rfl ?_
        obtain rfl := Option.some.inj h
        exact k
  have LP43 : ∀ (n : Nat) (v3 : Int) (v4 : Int) (v6 : Int) (s0 : Int) (d0 : Nat → Int) (s1 : Int) (d1 : Nat → Int) (s2 : Int) (d2 : Nat → Int) (y : Nat → Int), l_X6_multiply_43 n v3 v4 v6 d0 d1 s2 d2 = some y → S 139 [some (2, Int.ofNat 30), some (2, Int.ofNat 34), some (2, Int.ofNat 36), some (0, v3), none, none, none, none, none, none, none] [] [M0, M1, M2, M3, M4, ([s0], [y]), M6, ([s1], [d1]), ([s2], [d2]), M9, M10, M11, M12, M13] → S 43 [some (2, Int.ofNat 30), some (2, Int.ofNat 34), some (2, Int.ofNat 36), some (0, v3), some (1, v4), none, some (0, v6), none, none, none, none] [] [M0, M1, M2, M3, M4, ([s0], [d0]), M6, ([s1], [d1]), ([s2], [d2]), M9, M10, M11, M12, M13] := by
    intro n
    induction n with
    | zero =>
      intro v3 v4 v6 s0 d0 s1 d1 s2 d2 y h k
      rw [l_X6_multiply_43] at h
      cases h
    | succ n ih =>
      intro v3 v4 v6 s0 d0 s1 d1 s2 d2 y h k
      rw [l_X6_multiply_43] at h
      refine ri false 7 (q := s2 < v6) (t1 := 139) (t2 := 52) rfl rfl trivial (fun c => ?_) (fun c => ?_)
      · replace h := zif1 c h
        refine rmk [true, true, true, true, false, false, false, false, false, false, false] (L2 := [some (2, Int.ofNat 30), some (2, Int.ofNat 34), some (2, Int.ofNat 36), some (0, v3), none, none, none, none, none, none, none]) rfl ?_
        obtain rfl := Option.some.inj h
        exact k
      · replace h := zif2 c h
        obtain ⟨g3_0, h⟩ := zgd h
        refine ri false 8 (q := (v3 + v6) < 40) (t1 := 61) (t2 := 139) rfl rfl g3_0 (fun c => ?_) (fun c => ?_)
        · replace h := zif1 c h
          refine ri false 9 (q := v6 < s2) (t1 := 70) (t2 := 89) rfl rfl trivial (fun c => ?_) (fun c => ?_)
          · replace h := zif1 c h
            obtain ⟨⟨g4_0, g4_1⟩, h⟩ := zgd h
            refine rg false 10 (t := 90) (st2 := [(4, ((d1 (Int.toNat v3)) * (d2 (Int.toNat v6))))]) rfl rfl rfl (And.intro g4_0 g4_1) ?_
            obtain ⟨⟨g5_0, g5_1, g5_2⟩, h⟩ := zgd h
            refine rb false 12 (L2 := [some (2, Int.ofNat 30), some (2, Int.ofNat 34), some (2, Int.ofNat 36), some (0, v3), some (1, v4), none, some (0, v6), some (1, ((d1 (Int.toNat v3)) * (d2 (Int.toNat v6)))), none, some (1, ((((d1 (Int.toNat v3)) * (d2 (Int.toNat v6))) + (d0 (Int.toNat (v3 + v6)))) + v4)), none]) rfl rfl (And.intro g5_0 (And.intro g5_1 g5_2)) ?_
            obtain ⟨⟨g6_0, g6_1⟩, h⟩ := zgd h
            refine rb false 13 (σ2 := [M0, M1, M2, M3, M4, ([s0], [(zu d0 (Int.toNat (v3 + v6)) (zandl ((((d1 (Int.toNat v3)) * (d2 (Int.toNat v6))) + (d0 (Int.toNat (v3 + v6)))) + v4) 1073741823))]), M6, ([s1], [d1]), ([s2], [d2]), M9, M10, M11, M12, M13]) rfl rfl (And.intro g6_0 g6_1) ?_
            obtain ⟨g7_0, h⟩ := zgd h
            refine rg false 14 (t := 43) (L2 := [some (2, Int.ofNat 30), some (2, Int.ofNat 34), some (2, Int.ofNat 36), some (0, v3), some (1, (zushrl ((((d1 (Int.toNat v3)) * (d2 (Int.toNat v6))) + (d0 (Int.toNat (v3 + v6)))) + v4) 30)), none, some (0, (v6 + 1)), some (1, ((d1 (Int.toNat v3)) * (d2 (Int.toNat v6)))), none, some (1, ((((d1 (Int.toNat v3)) * (d2 (Int.toNat v6))) + (d0 (Int.toNat (v3 + v6)))) + v4)), none]) rfl rfl rfl g7_0 ?_
            refine rmk [true, true, true, true, true, false, true, false, false, false, false] (L2 := [some (2, Int.ofNat 30), some (2, Int.ofNat 34), some (2, Int.ofNat 36), some (0, v3), some (1, (zushrl ((((d1 (Int.toNat v3)) * (d2 (Int.toNat v6))) + (d0 (Int.toNat (v3 + v6)))) + v4) 30)), none, some (0, (v6 + 1)), none, none, none, none]) rfl ?_
            exact ih v3 (zushrl ((((d1 (Int.toNat v3)) * (d2 (Int.toNat v6))) + (d0 (Int.toNat (v3 + v6)))) + v4) 30) (v6 + 1) s0 (zu d0 (Int.toNat (v3 + v6)) (zandl ((((d1 (Int.toNat v3)) * (d2 (Int.toNat v6))) + (d0 (Int.toNat (v3 + v6)))) + v4) 1073741823)) s1 d1 s2 d2 y h k
          · replace h := zif2 c h
            refine rb false 11 (st2 := [(1, 0)]) rfl rfl trivial ?_
            obtain ⟨⟨g8_0, g8_1⟩, h⟩ := zgd h
            refine rb false 12 (L2 := [some (2, Int.ofNat 30), some (2, Int.ofNat 34), some (2, Int.ofNat 36), some (0, v3), some (1, v4), none, some (0, v6), some (1, 0), none, some (1, ((0 + (d0 (Int.toNat (v3 + v6)))) + v4)), none]) rfl rfl (And.intro g8_0 g8_1) ?_
            obtain ⟨⟨g9_0, g9_1⟩, h⟩ := zgd h
            refine rb false 13 (σ2 := [M0, M1, M2, M3, M4, ([s0], [(zu d0 (Int.toNat (v3 + v6)) (zandl ((0 + (d0 (Int.toNat (v3 + v6)))) + v4) 1073741823))]), M6, ([s1], [d1]), ([s2], [d2]), M9, M10, M11, M12, M13]) rfl rfl (And.intro g9_0 g9_1) ?_
            obtain ⟨g10_0, h⟩ := zgd h
            refine rg false 14 (t := 43) (L2 := [some (2, Int.ofNat 30), some (2, Int.ofNat 34), some (2, Int.ofNat 36), some (0, v3), some (1, (zushrl ((0 + (d0 (Int.toNat (v3 + v6)))) + v4) 30)), none, some (0, (v6 + 1)), some (1, 0), none, some (1, ((0 + (d0 (Int.toNat (v3 + v6)))) + v4)), none]) rfl rfl rfl g10_0 ?_
            refine rmk [true, true, true, true, true, false, true, false, false, false, false] (L2 := [some (2, Int.ofNat 30), some (2, Int.ofNat 34), some (2, Int.ofNat 36), some (0, v3), some (1, (zushrl ((0 + (d0 (Int.toNat (v3 + v6)))) + v4) 30)), none, some (0, (v6 + 1)), none, none, none, none]) rfl ?_
            exact ih v3 (zushrl ((0 + (d0 (Int.toNat (v3 + v6)))) + v4) 30) (v6 + 1) s0 (zu d0 (Int.toNat (v3 + v6)) (zandl ((0 + (d0 (Int.toNat (v3 + v6)))) + v4) 1073741823)) s1 d1 s2 d2 y h k
        · replace h := zif2 c h
          refine rmk [true, true, true, true, false, false, false, false, false, false, false] (L2 := [some (2, Int.ofNat 30), some (2, Int.ofNat 34), some (2, Int.ofNat 36), some (0, v3), none, none, none, none, none, none, none]) rfl ?_
          obtain rfl := Option.some.inj h
          exact k
  have LP23 : ∀ (n : Nat) (v3 : Int) (s0 : Int) (d0 : Nat → Int) (s1 : Int) (d1 : Nat → Int) (s2 : Int) (d2 : Nat → Int) (y : Nat → Int), l_X6_multiply_23 n v3 d0 s1 d1 s2 d2 = some y → S 145 [some (2, Int.ofNat 30), none, none, none, none, none, none, none, none, none, none] [] [M0, M1, M2, M3, M4, ([s0], [y]), M6, ([s1], [d1]), ([s2], [d2]), M9, M10, M11, M12, M13] → S 23 [some (2, Int.ofNat 30), some (2, Int.ofNat 34), some (2, Int.ofNat 36), some (0, v3), none, none, none, none, none, none, none] [] [M0, M1, M2, M3, M4, ([s0], [d0]), M6, ([s1], [d1]), ([s2], [d2]), M9, M10, M11, M12, M13] := by
    intro n
    induction n with
    | zero =>
      intro v3 s0 d0 s1 d1 s2 d2 y h k
      rw [l_X6_multiply_23] at h
      cases h
    | succ n ih =>
      intro v3 s0 d0 s1 d1 s2 d2 y h k
      rw [l_X6_multiply_23] at h
      refine ri false 4 (q := v3 < s1) (t1 := 31) (t2 := 145) rfl rfl trivial (fun c => ?_) (fun c => ?_)
      · replace h := zif1 c h
        refine ri false 5 (q := v3 < 40) (t1 := 37) (t2 := 145) rfl rfl trivial (fun c => ?_) (fun c => ?_)
        · replace h := zif1 c h
          refine rb false 6 (L2 := [some (2, Int.ofNat 30), some (2, Int.ofNat 34), some (2, Int.ofNat 36), some (0, v3), some (1, 0), none, some (0, 0), none, none, none, none]) rfl rfl trivial ?_
          obtain ⟨x11, hx11, h⟩ := zbd h
          refine LP43 zN v3 0 0 s0 d0 s1 d1 s2 d2 x11 hx11 ?_
          obtain ⟨g12_0, h⟩ := zgd h
          refine rg false 15 (t := 23) (L2 := [some (2, Int.ofNat 30), some (2, Int.ofNat 34), some (2, Int.ofNat 36), some (0, (v3 + 1)), none, none, none, none, none, none, none]) rfl rfl rfl g12_0 ?_
          exact ih (v3 + 1) s0 x11 s1 d1 s2 d2 y h k
        · replace h := zif2 c h
          refine rmk [true, false, false, false, false, false, false, false, false, false, false] (L2 := [some (2, Int.ofNat 30), none, none, none, none, none, none, none, none, none, none]) rfl ?_
          obtain rfl := Option.some.inj h
          exact k
      · replace h := zif2 c h
        refine rmk [true, false, false, false, false, false, false, false, false, false, false] (L2 := [some (2, Int.ofNat 30), none, none, none, none, none, none, none, none, none, none]) rfl ?_
        obtain rfl := Option.some.inj h
        exact k
  unfold f_X6_multiply at h
  refine rb false 0 (L2 := [some (2, Int.ofNat 30), some (2, Int.ofNat 34), some (2, Int.ofNat 36), some (0, 0), none, none, none, none, none, none, none]) rfl rfl trivial ?_
  obtain ⟨x2, hx2, h⟩ := zbd h
  refine LP2 zN 0 s0 d0 s1 d1 s2 d2 x2 hx2 ?_
  refine rb false 3 (L2 := [some (2, Int.ofNat 30), some (2, Int.ofNat 34), some (2, Int.ofNat 36), some (0, 0), none, none, none, none, none, none, none]) rfl rfl trivial ?_
  obtain ⟨x13, hx13, h⟩ := zbd h
  refine LP23 zN 0 s0 x2 s1 d1 s2 d2 x13 hx13 ?_
  obtain ⟨x14, hx14, h⟩ := zbd h
  refine rv false 16 0 rfl rfl trivial rfl (m_C_X6_trim_30 l M0 M1 M2 M3 M4 M6 ([s1], [d1]) ([s2], [d2]) M9 M10 M11 M12 M13 s0 x13 x14 hx14) ⟨_, _, _, _, rfl, rfl, rfl, by decide +kernel, ⟨Nat.le_of_ble_eq_true rfl, Nat.le_of_ble_eq_true rfl⟩, uGin u_6_16 u_6_17 u_6_18 u_4_17 u_6_19⟩ ⟨rfl, _, _, _, rfl, rfl⟩ ?_
  obtain rfl := Option.some.inj h
  exact r0 false 17 rfl rfl rfl rfl trivial
def bX6_leftOver : zB := [(0, [(.iload_n 1, 1)], 1, .ifCond .gt 5, 3), (4, [(.iconst 0, 1)], 5, .ireturn, 1), (6, [(.lconst 0, 1), (.lstore_n 2, 1), (.aload_n 0, 1), (.getfield 15, 3), (.bipush 40, 2), (.invokestatic 24, 3), (.iconst 1, 1), (.isub, 1), (.istore 4, 2)], 21, .nop, 0), (21, [(.iload 4, 2)], 23, .ifCond .lt 26, 3), (26, [(.lload_n 2, 1), (.bipush 30, 2), (.lshl, 1), (.aload_n 0, 1), (.getfield 11, 3), (.iload 4, 2), (.iaload, 1), (.i2l, 1), (.lor, 1), (.iload_n 1, 1), (.i2l, 1), (.lrem, 1), (.lstore_n 2, 1)], 43, .nop, 0), (43, [(.iinc 4 (-1), 3)], 46, .goto (-25), 3), (49, [(.lload_n 2, 1), (.l2i, 1)], 51, .ireturn, 1)]
theorem bX6_leftOver_ok : zBok cX6_leftOver 5 bX6_leftOver = true := by decide +kernel
abbrev wX6_leftOver : List Cond := Cond.code yX6_leftOver cX6_leftOver 5 (some .int) :: uU
def rX6_leftOver : Room := { frames := 1, cells := 0, slots := 0, locals := 21 }
set_option maxRecDepth 20000 in
set_option maxHeartbeats 4000000 in
theorem m_C_X6_leftOver_28 (l : Launch) (M0 : zM) (M1 : zM) (M2 : zM) (M3 : zM) (M5 : zM) (M6 : zM) (M7 : zM) (M8 : zM) (M9 : zM) (M10 : zM) (M11 : zM) (M12 : zM) (M13 : zM) (p1 : Int) (s0 : Int) (d0 : Nat → Int) (x : Int) (h : f_X6_leftOver p1 s0 d0 = some x) : zD l yX6_leftOver wX6_leftOver rX6_leftOver lamC shpC [(2, Int.ofNat 28), (0, p1)] [M0, M1, M2, M3, ([s0], [d0]), M5, M6, M7, M8, M9, M10, M11, M12, M13] (some (0, x)) [M0, M1, M2, M3, ([s0], [d0]), M5, M6, M7, M8, M9, M10, M11, M12, M13] := by
  refine zD_of (B := bX6_leftOver) (E := eX6) (by decide) rfl lokC (eX6_ok _) bX6_leftOver_ok (Or.inr ⟨Nat.le_of_ble_eq_true rfl, Nat.le_of_ble_eq_true rfl⟩) rfl (fun S R => ?_)
  obtain ⟨rb, rg, ri, rv, rs, r0, r1, r2, r3, rt, rmk⟩ := R
  show S 0 [some (2, Int.ofNat 28), some (0, p1), none, none, none] [] [M0, M1, M2, M3, ([s0], [d0]), M5, M6, M7, M8, M9, M10, M11, M12, M13]
  have LP21 : ∀ (n : Nat) (v1 : Int) (v2 : Int) (v4 : Int) (s0 : Int) (d0 : Nat → Int) (y : Int), l_X6_leftOver_21 n v1 v2 v4 d0 = some y → S 49 [none, none, some (1, y), none, none] [] [M0, M1, M2, M3, ([s0], [d0]), M5, M6, M7, M8, M9, M10, M11, M12, M13] → S 21 [some (2, Int.ofNat 28), some (0, v1), some (1, v2), none, some (0, v4)] [] [M0, M1, M2, M3, ([s0], [d0]), M5, M6, M7, M8, M9, M10, M11, M12, M13] := by
    intro n
    induction n with
    | zero =>
      intro v1 v2 v4 s0 d0 y h k
      rw [l_X6_leftOver_21] at h
      cases h
    | succ n ih =>
      intro v1 v2 v4 s0 d0 y h k
      rw [l_X6_leftOver_21] at h
      refine ri false 3 (q := v4 < 0) (t1 := 49) (t2 := 26) rfl rfl trivial (fun c => ?_) (fun c => ?_)
      · replace h := zif1 c h
        refine rmk [false, false, true, false, false] (L2 := [none, none, some (1, v2), none, none]) rfl ?_
        obtain rfl := Option.some.inj h
        exact k
      · replace h := zif2 c h
        obtain ⟨⟨g2_0, g2_1⟩, h⟩ := zgd h
        refine rb false 4 (L2 := [some (2, Int.ofNat 28), some (0, v1), some (1, (Int.tmod (zorl (zshll v2 30) (d0 (Int.toNat v4))) v1)), none, some (0, v4)]) rfl rfl (And.intro g2_0 g2_1) ?_
        obtain ⟨g3_0, h⟩ := zgd h
        refine rg false 5 (t := 21) (L2 := [some (2, Int.ofNat 28), some (0, v1), some (1, (Int.tmod (zorl (zshll v2 30) (d0 (Int.toNat v4))) v1)), none, some (0, (v4 + (-1)))]) rfl rfl rfl g3_0 ?_
        exact ih v1 (Int.tmod (zorl (zshll v2 30) (d0 (Int.toNat v4))) v1) (v4 + (-1)) s0 d0 y h k
  unfold f_X6_leftOver at h
  refine ri false 0 (q := (0 : Int) < p1) (t1 := 6) (t2 := 4) rfl rfl trivial (fun c => ?_) (fun c => ?_)
  · replace h := zif1 c h
    obtain ⟨g1_0, h⟩ := zgd h
    refine rb false 2 (L2 := [some (2, Int.ofNat 28), some (0, p1), some (1, 0), none, some (0, ((min s0 40) - 1))]) rfl rfl g1_0 ?_
    obtain ⟨x4, hx4, h⟩ := zbd h
    refine LP21 zN p1 0 ((min s0 40) - 1) s0 d0 x4 hx4 ?_
    obtain ⟨g5_0, h⟩ := zgd h
    obtain rfl := Option.some.inj h
    exact r1 false 6 rfl rfl rfl rfl rfl rfl g5_0
  · replace h := zif2 c h
    obtain rfl := Option.some.inj h
    exact r1 false 1 rfl rfl rfl rfl rfl rfl trivial
set_option maxRecDepth 20000 in
set_option maxHeartbeats 4000000 in
theorem m_C_X6_leftOver_30 (l : Launch) (M0 : zM) (M1 : zM) (M2 : zM) (M3 : zM) (M4 : zM) (M6 : zM) (M7 : zM) (M8 : zM) (M9 : zM) (M10 : zM) (M11 : zM) (M12 : zM) (M13 : zM) (p1 : Int) (s0 : Int) (d0 : Nat → Int) (x : Int) (h : f_X6_leftOver p1 s0 d0 = some x) : zD l yX6_leftOver wX6_leftOver rX6_leftOver lamC shpC [(2, Int.ofNat 30), (0, p1)] [M0, M1, M2, M3, M4, ([s0], [d0]), M6, M7, M8, M9, M10, M11, M12, M13] (some (0, x)) [M0, M1, M2, M3, M4, ([s0], [d0]), M6, M7, M8, M9, M10, M11, M12, M13] := by
  refine zD_of (B := bX6_leftOver) (E := eX6) (by decide) rfl lokC (eX6_ok _) bX6_leftOver_ok (Or.inr ⟨Nat.le_of_ble_eq_true rfl, Nat.le_of_ble_eq_true rfl⟩) rfl (fun S R => ?_)
  obtain ⟨rb, rg, ri, rv, rs, r0, r1, r2, r3, rt, rmk⟩ := R
  show S 0 [some (2, Int.ofNat 30), some (0, p1), none, none, none] [] [M0, M1, M2, M3, M4, ([s0], [d0]), M6, M7, M8, M9, M10, M11, M12, M13]
  have LP21 : ∀ (n : Nat) (v1 : Int) (v2 : Int) (v4 : Int) (s0 : Int) (d0 : Nat → Int) (y : Int), l_X6_leftOver_21 n v1 v2 v4 d0 = some y → S 49 [none, none, some (1, y), none, none] [] [M0, M1, M2, M3, M4, ([s0], [d0]), M6, M7, M8, M9, M10, M11, M12, M13] → S 21 [some (2, Int.ofNat 30), some (0, v1), some (1, v2), none, some (0, v4)] [] [M0, M1, M2, M3, M4, ([s0], [d0]), M6, M7, M8, M9, M10, M11, M12, M13] := by
    intro n
    induction n with
    | zero =>
      intro v1 v2 v4 s0 d0 y h k
      rw [l_X6_leftOver_21] at h
      cases h
    | succ n ih =>
      intro v1 v2 v4 s0 d0 y h k
      rw [l_X6_leftOver_21] at h
      refine ri false 3 (q := v4 < 0) (t1 := 49) (t2 := 26) rfl rfl trivial (fun c => ?_) (fun c => ?_)
      · replace h := zif1 c h
        refine rmk [false, false, true, false, false] (L2 := [none, none, some (1, v2), none, none]) rfl ?_
        obtain rfl := Option.some.inj h
        exact k
      · replace h := zif2 c h
        obtain ⟨⟨g2_0, g2_1⟩, h⟩ := zgd h
        refine rb false 4 (L2 := [some (2, Int.ofNat 30), some (0, v1), some (1, (Int.tmod (zorl (zshll v2 30) (d0 (Int.toNat v4))) v1)), none, some (0, v4)]) rfl rfl (And.intro g2_0 g2_1) ?_
        obtain ⟨g3_0, h⟩ := zgd h
        refine rg false 5 (t := 21) (L2 := [some (2, Int.ofNat 30), some (0, v1), some (1, (Int.tmod (zorl (zshll v2 30) (d0 (Int.toNat v4))) v1)), none, some (0, (v4 + (-1)))]) rfl rfl rfl g3_0 ?_
        exact ih v1 (Int.tmod (zorl (zshll v2 30) (d0 (Int.toNat v4))) v1) (v4 + (-1)) s0 d0 y h k
  unfold f_X6_leftOver at h
  refine ri false 0 (q := (0 : Int) < p1) (t1 := 6) (t2 := 4) rfl rfl trivial (fun c => ?_) (fun c => ?_)
  · replace h := zif1 c h
    obtain ⟨g1_0, h⟩ := zgd h
    refine rb false 2 (L2 := [some (2, Int.ofNat 30), some (0, p1), some (1, 0), none, some (0, ((min s0 40) - 1))]) rfl rfl g1_0 ?_
    obtain ⟨x4, hx4, h⟩ := zbd h
    refine LP21 zN p1 0 ((min s0 40) - 1) s0 d0 x4 hx4 ?_
    obtain ⟨g5_0, h⟩ := zgd h
    obtain rfl := Option.some.inj h
    exact r1 false 6 rfl rfl rfl rfl rfl rfl g5_0
  · replace h := zif2 c h
    obtain rfl := Option.some.inj h
    exact r1 false 1 rfl rfl rfl rfl rfl rfl trivial
def bX6_divide : zB := [(0, [(.iload_n 1, 1)], 1, .ifCond .gt 4, 3), (4, [], 4, .return_, 1), (5, [(.lconst 0, 1), (.lstore_n 2, 1), (.aload_n 0, 1), (.getfield 15, 3), (.bipush 40, 2), (.invokestatic 24, 3), (.iconst 1, 1), (.isub, 1), (.istore 4, 2)], 20, .nop, 0), (20, [(.iload 4, 2)], 22, .ifCond .lt 43, 3), (25, [(.lload_n 2, 1), (.bipush 30, 2), (.lshl, 1), (.aload_n 0, 1), (.getfield 11, 3), (.iload 4, 2), (.iaload, 1), (.i2l, 1), (.lor, 1), (.lstore 5, 2)], 40, .nop, 0), (40, [(.aload_n 0, 1), (.getfield 11, 3), (.iload 4, 2), (.lload 5, 2), (.iload_n 1, 1), (.i2l, 1), (.ldiv, 1), (.l2i, 1), (.iastore, 1)], 53, .nop, 0), (53, [(.lload 5, 2), (.iload_n 1, 1), (.i2l, 1), (.lrem, 1), (.lstore_n 2, 1), (.iinc 4 (-1), 3)], 62, .goto (-42), 3), (65, [(.aload_n 0, 1)], 66, .invokevirtual 21, 3), (69, [], 69, .return_, 1)]
theorem bX6_divide_ok : zBok cX6_divide 7 bX6_divide = true := by decide +kernel
abbrev wX6_divide : List Cond := Cond.code yX6_divide cX6_divide 7 none :: uU
def rX6_divide : Room := { frames := 1, cells := 0, slots := 0, locals := 21 }
set_option maxRecDepth 20000 in
set_option maxHeartbeats 4000000 in
theorem m_C_X6_divide_28 (l : Launch) (M0 : zM) (M1 : zM) (M2 : zM) (M3 : zM) (M5 : zM) (M6 : zM) (M7 : zM) (M8 : zM) (M9 : zM) (M10 : zM) (M11 : zM) (M12 : zM) (M13 : zM) (p1 : Int) (s0 : Int) (d0 : Nat → Int) (x : Int × (Nat → Int)) (h : f_X6_divide p1 s0 d0 = some x) : zD l yX6_divide wX6_divide rX6_divide lamC shpC [(2, Int.ofNat 28), (0, p1)] [M0, M1, M2, M3, ([s0], [d0]), M5, M6, M7, M8, M9, M10, M11, M12, M13] (none) [M0, M1, M2, M3, ([x.1], [x.2]), M5, M6, M7, M8, M9, M10, M11, M12, M13] := by
  refine zD_of (B := bX6_divide) (E := eX6) (by decide) rfl lokC (eX6_ok _) bX6_divide_ok (Or.inr ⟨Nat.le_of_ble_eq_true rfl, Nat.le_of_ble_eq_true rfl⟩) rfl (fun S R => ?_)
  obtain ⟨rb, rg, ri, rv, rs, r0, r1, r2, r3, rt, rmk⟩ := R
  show S 0 [some (2, Int.ofNat 28), some (0, p1), none, none, none, none, none] [] [M0, M1, M2, M3, ([s0], [d0]), M5, M6, M7, M8, M9, M10, M11, M12, M13]
  have LP20 : ∀ (n : Nat) (v1 : Int) (v2 : Int) (v4 : Int) (s0 : Int) (d0 : Nat → Int) (y : Nat → Int), l_X6_divide_20 n v1 v2 v4 d0 = some y → S 65 [some (2, Int.ofNat 28), none, none, none, none, none, none] [] [M0, M1, M2, M3, ([s0], [y]), M5, M6, M7, M8, M9, M10, M11, M12, M13] → S 20 [some (2, Int.ofNat 28), some (0, v1), some (1, v2), none, some (0, v4), none, none] [] [M0, M1, M2, M3, ([s0], [d0]), M5, M6, M7, M8, M9, M10, M11, M12, M13] := by
    intro n
    induction n with
    | zero =>
      intro v1 v2 v4 s0 d0 y h k
      rw [l_X6_divide_20] at h
      cases h
    | succ n ih =>
      intro v1 v2 v4 s0 d0 y h k
      rw [l_X6_divide_20] at h
      refine ri false 3 (q := v4 < 0) (t1 := 65) (t2 := 25) rfl rfl trivial (fun c => ?_) (fun c => ?_)
      · replace h := zif1 c h
        refine rmk [true, false, false, false, false, false, false] (L2 := [some (2, Int.ofNat 28), none, none, none, none, none, none]) rfl ?_
        obtain rfl := Option.some.inj h
        exact k
      · replace h := zif2 c h
        obtain ⟨g2_0, h⟩ := zgd h
        refine rb false 4 (L2 := [some (2, Int.ofNat 28), some (0, v1), some (1, v2), none, some (0, v4), some (1, (zorl (zshll v2 30) (d0 (Int.toNat v4)))), none]) rfl rfl g2_0 ?_
        obtain ⟨⟨g3_0, g3_1, g3_2⟩, h⟩ := zgd h
        refine rb false 5 (σ2 := [M0, M1, M2, M3, ([s0], [(zu d0 (Int.toNat v4) (Int.tdiv (zorl (zshll v2 30) (d0 (Int.toNat v4))) v1))]), M5, M6, M7, M8, M9, M10, M11, M12, M13]) rfl rfl (And.intro g3_0 (And.intro g3_1 g3_2)) ?_
        obtain ⟨⟨g4_0, g4_1⟩, h⟩ := zgd h
        refine rg false 6 (t := 20) (L2 := [some (2, Int.ofNat 28), some (0, v1), some (1, (Int.tmod (zorl (zshll v2 30) (d0 (Int.toNat v4))) v1)), none, some (0, (v4 + (-1))), some (1, (zorl (zshll v2 30) (d0 (Int.toNat v4)))), none]) rfl rfl rfl (And.intro g4_0 g4_1) ?_
        refine rmk [true, true, true, false, true, false, false] (L2 := [some (2, Int.ofNat 28), some (0, v1), some (1, (Int.tmod (zorl (zshll v2 30) (d0 (Int.toNat v4))) v1)), none, some (0, (v4 + (-1))), none, none]) rfl ?_
        exact ih v1 (Int.tmod (zorl (zshll v2 30) (d0 (Int.toNat v4))) v1) (v4 + (-1)) s0 (zu d0 (Int.toNat v4) (Int.tdiv (zorl (zshll v2 30) (d0 (Int.toNat v4))) v1)) y h k
  unfold f_X6_divide at h
  refine ri false 0 (q := (0 : Int) < p1) (t1 := 5) (t2 := 4) rfl rfl trivial (fun c => ?_) (fun c => ?_)
  · replace h := zif1 c h
    obtain ⟨g1_0, h⟩ := zgd h
    refine rb false 2 (L2 := [some (2, Int.ofNat 28), some (0, p1), some (1, 0), none, some (0, ((min s0 40) - 1)), none, none]) rfl rfl g1_0 ?_
    obtain ⟨x5, hx5, h⟩ := zbd h
    refine LP20 zN p1 0 ((min s0 40) - 1) s0 d0 x5 hx5 ?_
    obtain ⟨x6, hx6, h⟩ := zbd h
    refine rv false 7 0 rfl rfl trivial rfl (m_C_X6_trim_28 l M0 M1 M2 M3 M5 M6 M7 M8 M9 M10 M11 M12 M13 s0 x5 x6 hx6) ⟨_, _, _, _, rfl, rfl, rfl, by decide +kernel, ⟨Nat.le_of_ble_eq_true rfl, Nat.le_of_ble_eq_true rfl⟩, uGin u_6_16 u_6_17 u_6_18 u_4_17 u_6_19⟩ ⟨rfl, _, _, _, rfl, rfl⟩ ?_
    obtain rfl := Option.some.inj h
    exact r0 false 8 rfl rfl rfl rfl trivial
  · replace h := zif2 c h
    obtain rfl := Option.some.inj h
    exact r0 false 1 rfl rfl rfl rfl trivial
set_option maxRecDepth 20000 in
set_option maxHeartbeats 4000000 in
theorem m_C_X6_divide_30 (l : Launch) (M0 : zM) (M1 : zM) (M2 : zM) (M3 : zM) (M4 : zM) (M6 : zM) (M7 : zM) (M8 : zM) (M9 : zM) (M10 : zM) (M11 : zM) (M12 : zM) (M13 : zM) (p1 : Int) (s0 : Int) (d0 : Nat → Int) (x : Int × (Nat → Int)) (h : f_X6_divide p1 s0 d0 = some x) : zD l yX6_divide wX6_divide rX6_divide lamC shpC [(2, Int.ofNat 30), (0, p1)] [M0, M1, M2, M3, M4, ([s0], [d0]), M6, M7, M8, M9, M10, M11, M12, M13] (none) [M0, M1, M2, M3, M4, ([x.1], [x.2]), M6, M7, M8, M9, M10, M11, M12, M13] := by
  refine zD_of (B := bX6_divide) (E := eX6) (by decide) rfl lokC (eX6_ok _) bX6_divide_ok (Or.inr ⟨Nat.le_of_ble_eq_true rfl, Nat.le_of_ble_eq_true rfl⟩) rfl (fun S R => ?_)
  obtain ⟨rb, rg, ri, rv, rs, r0, r1, r2, r3, rt, rmk⟩ := R
  show S 0 [some (2, Int.ofNat 30), some (0, p1), none, none, none, none, none] [] [M0, M1, M2, M3, M4, ([s0], [d0]), M6, M7, M8, M9, M10, M11, M12, M13]
  have LP20 : ∀ (n : Nat) (v1 : Int) (v2 : Int) (v4 : Int) (s0 : Int) (d0 : Nat → Int) (y : Nat → Int), l_X6_divide_20 n v1 v2 v4 d0 = some y → S 65 [some (2, Int.ofNat 30), none, none, none, none, none, none] [] [M0, M1, M2, M3, M4, ([s0], [y]), M6, M7, M8, M9, M10, M11, M12, M13] → S 20 [some (2, Int.ofNat 30), some (0, v1), some (1, v2), none, some (0, v4), none, none] [] [M0, M1, M2, M3, M4, ([s0], [d0]), M6, M7, M8, M9, M10, M11, M12, M13] := by
    intro n
    induction n with
    | zero =>
      intro v1 v2 v4 s0 d0 y h k
      rw [l_X6_divide_20] at h
      cases h
    | succ n ih =>
      intro v1 v2 v4 s0 d0 y h k
      rw [l_X6_divide_20] at h
      refine ri false 3 (q := v4 < 0) (t1 := 65) (t2 := 25) rfl rfl trivial (fun c => ?_) (fun c => ?_)
      · replace h := zif1 c h
        refine rmk [true, false, false, false, false, false, false] (L2 := [some (2, Int.ofNat 30), none, none, none, none, none, none]) rfl ?_
        obtain rfl := Option.some.inj h
        exact k
      · replace h := zif2 c h
        obtain ⟨g2_0, h⟩ := zgd h
        refine rb false 4 (L2 := [some (2, Int.ofNat 30), some (0, v1), some (1, v2), none, some (0, v4), some (1, (zorl (zshll v2 30) (d0 (Int.toNat v4)))), none]) rfl rfl g2_0 ?_
        obtain ⟨⟨g3_0, g3_1, g3_2⟩, h⟩ := zgd h
        refine rb false 5 (σ2 := [M0, M1, M2, M3, M4, ([s0], [(zu d0 (Int.toNat v4) (Int.tdiv (zorl (zshll v2 30) (d0 (Int.toNat v4))) v1))]), M6, M7, M8, M9, M10, M11, M12, M13]) rfl rfl (And.intro g3_0 (And.intro g3_1 g3_2)) ?_
        obtain ⟨⟨g4_0, g4_1⟩, h⟩ := zgd h
        refine rg false 6 (t := 20) (L2 := [some (2, Int.ofNat 30), some (0, v1), some (1, (Int.tmod (zorl (zshll v2 30) (d0 (Int.toNat v4))) v1)), none, some (0, (v4 + (-1))), some (1, (zorl (zshll v2 30) (d0 (Int.toNat v4)))), none]) rfl rfl rfl (And.intro g4_0 g4_1) ?_
        refine rmk [true, true, true, false, true, false, false] (L2 := [some (2, Int.ofNat 30), some (0, v1), some (1, (Int.tmod (zorl (zshll v2 30) (d0 (Int.toNat v4))) v1)), none, some (0, (v4 + (-1))), none, none]) rfl ?_
        exact ih v1 (Int.tmod (zorl (zshll v2 30) (d0 (Int.toNat v4))) v1) (v4 + (-1)) s0 (zu d0 (Int.toNat v4) (Int.tdiv (zorl (zshll v2 30) (d0 (Int.toNat v4))) v1)) y h k
  unfold f_X6_divide at h
  refine ri false 0 (q := (0 : Int) < p1) (t1 := 5) (t2 := 4) rfl rfl trivial (fun c => ?_) (fun c => ?_)
  · replace h := zif1 c h
    obtain ⟨g1_0, h⟩ := zgd h
    refine rb false 2 (L2 := [some (2, Int.ofNat 30), some (0, p1), some (1, 0), none, some (0, ((min s0 40) - 1)), none, none]) rfl rfl g1_0 ?_
    obtain ⟨x5, hx5, h⟩ := zbd h
    refine LP20 zN p1 0 ((min s0 40) - 1) s0 d0 x5 hx5 ?_
    obtain ⟨x6, hx6, h⟩ := zbd h
    refine rv false 7 0 rfl rfl trivial rfl (m_C_X6_trim_30 l M0 M1 M2 M3 M4 M6 M7 M8 M9 M10 M11 M12 M13 s0 x5 x6 hx6) ⟨_, _, _, _, rfl, rfl, rfl, by decide +kernel, ⟨Nat.le_of_ble_eq_true rfl, Nat.le_of_ble_eq_true rfl⟩, uGin u_6_16 u_6_17 u_6_18 u_4_17 u_6_19⟩ ⟨rfl, _, _, _, rfl, rfl⟩ ?_
    obtain rfl := Option.some.inj h
    exact r0 false 8 rfl rfl rfl rfl trivial
  · replace h := zif2 c h
    obtain rfl := Option.some.inj h
    exact r0 false 1 rfl rfl rfl rfl trivial
set_option maxRecDepth 20000 in
set_option maxHeartbeats 4000000 in
theorem m_C_X6_take_53_28 (l : Launch) (M0 : zM) (M1 : zM) (M2 : zM) (M3 : zM) (M5 : zM) (M6 : zM) (M7 : zM) (M8 : zM) (M9 : zM) (M10 : zM) (M11 : zM) (M13 : zM) (s1 : Int) (d1 : Nat → Int) (s0 : Int) (d0 : Nat → Int) (x : Int × (Nat → Int)) (h : f_X6_take s0 d0 s1 d1 = some x) : zD l yX6_take wX6_take rX6_take lamC shpC [(2, Int.ofNat 53), (2, Int.ofNat 28)] [M0, M1, M2, M3, ([s1], [d1]), M5, M6, M7, M8, M9, M10, M11, ([s0], [d0]), M13] (none) [M0, M1, M2, M3, ([s1], [d1]), M5, M6, M7, M8, M9, M10, M11, ([x.1], [x.2]), M13] := by
  refine zD_of (B := bX6_take) (E := eX6n) (by decide) rfl lokC (eX6n_ok _) bX6_take_ok (Or.inl rfl) rfl (fun S R => ?_)
  obtain ⟨rb, rg, ri, rv, rs, r0, r1, r2, r3, rt, rmk⟩ := R
  show S 0 [some (2, Int.ofNat 53), some (2, Int.ofNat 28), none] [] [M0, M1, M2, M3, ([s1], [d1]), M5, M6, M7, M8, M9, M10, M11, ([s0], [d0]), M13]
  have LP2 : ∀ (n : Nat) (v2 : Int) (s1 : Int) (d1 : Nat → Int) (s0 : Int) (d0 : Nat → Int) (y : Nat → Int), l_X6_take_2 n v2 d0 d1 = some y → S 26 [some (2, Int.ofNat 53), some (2, Int.ofNat 28), none] [] [M0, M1, M2, M3, ([s1], [d1]), M5, M6, M7, M8, M9, M10, M11, ([s0], [y]), M13] → S 2 [some (2, Int.ofNat 53), some (2, Int.ofNat 28), some (0, v2)] [] [M0, M1, M2, M3, ([s1], [d1]), M5, M6, M7, M8, M9, M10, M11, ([s0], [d0]), M13] := by
    intro n
    induction n with
    | zero =>
      intro v2 s1 d1 s0 d0 y h k
      rw [l_X6_take_2] at h
      cases h
    | succ n ih =>
      intro v2 s1 d1 s0 d0 y h k
      rw [l_X6_take_2] at h
      refine ri false 1 (q := v2 < 40) (t1 := 8) (t2 := 26) rfl rfl trivial (fun c => ?_) (fun c => ?_)
      · replace h := zif1 c h
        obtain ⟨⟨g1_0, g1_1, g1_2⟩, h⟩ := zgd h
        refine rg false 2 (t := 2) (L2 := [some (2, Int.ofNat 53), some (2, Int.ofNat 28), some (0, (v2 + 1))]) (σ2 := [M0, M1, M2, M3, ([s1], [d1]), M5, M6, M7, M8, M9, M10, M11, ([s0], [(zu d0 (Int.toNat v2) (d1 (Int.toNat v2)))]), M13]) rfl rfl rfl (And.intro g1_0 (And.intro g1_1 g1_2)) ?_
        exact ih (v2 + 1) s1 d1 s0 (zu d0 (Int.toNat v2) (d1 (Int.toNat v2))) y h k
      · replace h := zif2 c h
        refine rmk [true, true, false] (L2 := [some (2, Int.ofNat 53), some (2, Int.ofNat 28), none]) rfl ?_
        obtain rfl := Option.some.inj h
        exact k
  unfold f_X6_take at h
  refine rb false 0 (L2 := [some (2, Int.ofNat 53), some (2, Int.ofNat 28), some (0, 0)]) rfl rfl trivial ?_
  obtain ⟨x2, hx2, h⟩ := zbd h
  refine LP2 zN 0 s1 d1 s0 d0 x2 hx2 ?_
  obtain rfl := Option.some.inj h
  exact r0 false 3 rfl rfl rfl rfl trivial
set_option maxRecDepth 20000 in
set_option maxHeartbeats 4000000 in
theorem m_C_X6_take_55_30 (l : Launch) (M0 : zM) (M1 : zM) (M2 : zM) (M3 : zM) (M4 : zM) (M6 : zM) (M7 : zM) (M8 : zM) (M9 : zM) (M10 : zM) (M11 : zM) (M12 : zM) (s1 : Int) (d1 : Nat → Int) (s0 : Int) (d0 : Nat → Int) (x : Int × (Nat → Int)) (h : f_X6_take s0 d0 s1 d1 = some x) : zD l yX6_take wX6_take rX6_take lamC shpC [(2, Int.ofNat 55), (2, Int.ofNat 30)] [M0, M1, M2, M3, M4, ([s1], [d1]), M6, M7, M8, M9, M10, M11, M12, ([s0], [d0])] (none) [M0, M1, M2, M3, M4, ([s1], [d1]), M6, M7, M8, M9, M10, M11, M12, ([x.1], [x.2])] := by
  refine zD_of (B := bX6_take) (E := eX6n) (by decide) rfl lokC (eX6n_ok _) bX6_take_ok (Or.inl rfl) rfl (fun S R => ?_)
  obtain ⟨rb, rg, ri, rv, rs, r0, r1, r2, r3, rt, rmk⟩ := R
  show S 0 [some (2, Int.ofNat 55), some (2, Int.ofNat 30), none] [] [M0, M1, M2, M3, M4, ([s1], [d1]), M6, M7, M8, M9, M10, M11, M12, ([s0], [d0])]
  have LP2 : ∀ (n : Nat) (v2 : Int) (s1 : Int) (d1 : Nat → Int) (s0 : Int) (d0 : Nat → Int) (y : Nat → Int), l_X6_take_2 n v2 d0 d1 = some y → S 26 [some (2, Int.ofNat 55), some (2, Int.ofNat 30), none] [] [M0, M1, M2, M3, M4, ([s1], [d1]), M6, M7, M8, M9, M10, M11, M12, ([s0], [y])] → S 2 [some (2, Int.ofNat 55), some (2, Int.ofNat 30), some (0, v2)] [] [M0, M1, M2, M3, M4, ([s1], [d1]), M6, M7, M8, M9, M10, M11, M12, ([s0], [d0])] := by
    intro n
    induction n with
    | zero =>
      intro v2 s1 d1 s0 d0 y h k
      rw [l_X6_take_2] at h
      cases h
    | succ n ih =>
      intro v2 s1 d1 s0 d0 y h k
      rw [l_X6_take_2] at h
      refine ri false 1 (q := v2 < 40) (t1 := 8) (t2 := 26) rfl rfl trivial (fun c => ?_) (fun c => ?_)
      · replace h := zif1 c h
        obtain ⟨⟨g1_0, g1_1, g1_2⟩, h⟩ := zgd h
        refine rg false 2 (t := 2) (L2 := [some (2, Int.ofNat 55), some (2, Int.ofNat 30), some (0, (v2 + 1))]) (σ2 := [M0, M1, M2, M3, M4, ([s1], [d1]), M6, M7, M8, M9, M10, M11, M12, ([s0], [(zu d0 (Int.toNat v2) (d1 (Int.toNat v2)))])]) rfl rfl rfl (And.intro g1_0 (And.intro g1_1 g1_2)) ?_
        exact ih (v2 + 1) s1 d1 s0 (zu d0 (Int.toNat v2) (d1 (Int.toNat v2))) y h k
      · replace h := zif2 c h
        refine rmk [true, true, false] (L2 := [some (2, Int.ofNat 55), some (2, Int.ofNat 30), none]) rfl ?_
        obtain rfl := Option.some.inj h
        exact k
  unfold f_X6_take at h
  refine rb false 0 (L2 := [some (2, Int.ofNat 55), some (2, Int.ofNat 30), some (0, 0)]) rfl rfl trivial ?_
  obtain ⟨x2, hx2, h⟩ := zbd h
  refine LP2 zN 0 s1 d1 s0 d0 x2 hx2 ?_
  obtain rfl := Option.some.inj h
  exact r0 false 3 rfl rfl rfl rfl trivial
def bX6_digit : zB := [(0, [(.iload_n 1, 1)], 1, .ifCond .lt 26, 3), (4, [(.iload_n 1, 1), (.aload_n 0, 1), (.getfield 15, 3)], 9, .if_icmp .ge 18, 3), (12, [(.iload_n 1, 1), (.bipush 40, 2)], 15, .if_icmp .ge 12, 3), (18, [(.aload_n 0, 1), (.getfield 11, 3), (.iload_n 1, 1), (.iaload, 1)], 24, .goto 4, 3), (27, [(.iconst (-1), 1)], 28, .nop, 0), (28, [], 28, .ireturn, 1)]
theorem bX6_digit_ok : zBok cX6_digit 2 bX6_digit = true := by decide +kernel
abbrev wX6_digit : List Cond := Cond.code yX6_digit cX6_digit 2 (some .int) :: uU
def rX6_digit : Room := { frames := 0, cells := 0, slots := 0, locals := 0 }
set_option maxRecDepth 20000 in
set_option maxHeartbeats 4000000 in
theorem m_C_X6_digit_53 (l : Launch) (M0 : zM) (M1 : zM) (M2 : zM) (M3 : zM) (M4 : zM) (M5 : zM) (M6 : zM) (M7 : zM) (M8 : zM) (M9 : zM) (M10 : zM) (M11 : zM) (M13 : zM) (p1 : Int) (s0 : Int) (d0 : Nat → Int) (x : Int) (h : f_X6_digit p1 s0 d0 = some x) : zD l yX6_digit wX6_digit rX6_digit lamC shpC [(2, Int.ofNat 53), (0, p1)] [M0, M1, M2, M3, M4, M5, M6, M7, M8, M9, M10, M11, ([s0], [d0]), M13] (some (0, x)) [M0, M1, M2, M3, M4, M5, M6, M7, M8, M9, M10, M11, ([s0], [d0]), M13] := by
  refine zD_of (B := bX6_digit) (E := eX6n) (by decide) rfl lokC (eX6n_ok _) bX6_digit_ok (Or.inl rfl) rfl (fun S R => ?_)
  obtain ⟨rb, rg, ri, rv, rs, r0, r1, r2, r3, rt, rmk⟩ := R
  show S 0 [some (2, Int.ofNat 53), some (0, p1)] [] [M0, M1, M2, M3, M4, M5, M6, M7, M8, M9, M10, M11, ([s0], [d0]), M13]
  unfold f_X6_digit at h
  refine ri false 0 (q := p1 < 0) (t1 := 27) (t2 := 4) rfl rfl trivial (fun c => ?_) (fun c => ?_)
  · replace h := zif1 c h
    refine rb false 4 (st2 := [(0, (-1))]) rfl rfl trivial ?_
    obtain rfl := Option.some.inj h
    exact r1 false 5 rfl rfl rfl rfl rfl rfl trivial
  · replace h := zif2 c h
    refine ri false 1 (q := p1 < s0) (t1 := 12) (t2 := 27) rfl rfl trivial (fun c => ?_) (fun c => ?_)
    · replace h := zif1 c h
      refine ri false 2 (q := p1 < 40) (t1 := 18) (t2 := 27) rfl rfl trivial (fun c => ?_) (fun c => ?_)
      · replace h := zif1 c h
        obtain ⟨g1_0, h⟩ := zgd h
        refine rg false 3 (t := 28) (st2 := [(0, (d0 (Int.toNat p1)))]) rfl rfl rfl g1_0 ?_
        obtain rfl := Option.some.inj h
        exact r1 false 5 rfl rfl rfl rfl rfl rfl trivial
      · replace h := zif2 c h
        refine rb false 4 (st2 := [(0, (-1))]) rfl rfl trivial ?_
        obtain rfl := Option.some.inj h
        exact r1 false 5 rfl rfl rfl rfl rfl rfl trivial
    · replace h := zif2 c h
      refine rb false 4 (st2 := [(0, (-1))]) rfl rfl trivial ?_
      obtain rfl := Option.some.inj h
      exact r1 false 5 rfl rfl rfl rfl rfl rfl trivial
set_option maxRecDepth 20000 in
set_option maxHeartbeats 4000000 in
theorem m_C_X6_digit_55 (l : Launch) (M0 : zM) (M1 : zM) (M2 : zM) (M3 : zM) (M4 : zM) (M5 : zM) (M6 : zM) (M7 : zM) (M8 : zM) (M9 : zM) (M10 : zM) (M11 : zM) (M12 : zM) (p1 : Int) (s0 : Int) (d0 : Nat → Int) (x : Int) (h : f_X6_digit p1 s0 d0 = some x) : zD l yX6_digit wX6_digit rX6_digit lamC shpC [(2, Int.ofNat 55), (0, p1)] [M0, M1, M2, M3, M4, M5, M6, M7, M8, M9, M10, M11, M12, ([s0], [d0])] (some (0, x)) [M0, M1, M2, M3, M4, M5, M6, M7, M8, M9, M10, M11, M12, ([s0], [d0])] := by
  refine zD_of (B := bX6_digit) (E := eX6n) (by decide) rfl lokC (eX6n_ok _) bX6_digit_ok (Or.inl rfl) rfl (fun S R => ?_)
  obtain ⟨rb, rg, ri, rv, rs, r0, r1, r2, r3, rt, rmk⟩ := R
  show S 0 [some (2, Int.ofNat 55), some (0, p1)] [] [M0, M1, M2, M3, M4, M5, M6, M7, M8, M9, M10, M11, M12, ([s0], [d0])]
  unfold f_X6_digit at h
  refine ri false 0 (q := p1 < 0) (t1 := 27) (t2 := 4) rfl rfl trivial (fun c => ?_) (fun c => ?_)
  · replace h := zif1 c h
    refine rb false 4 (st2 := [(0, (-1))]) rfl rfl trivial ?_
    obtain rfl := Option.some.inj h
    exact r1 false 5 rfl rfl rfl rfl rfl rfl trivial
  · replace h := zif2 c h
    refine ri false 1 (q := p1 < s0) (t1 := 12) (t2 := 27) rfl rfl trivial (fun c => ?_) (fun c => ?_)
    · replace h := zif1 c h
      refine ri false 2 (q := p1 < 40) (t1 := 18) (t2 := 27) rfl rfl trivial (fun c => ?_) (fun c => ?_)
      · replace h := zif1 c h
        obtain ⟨g1_0, h⟩ := zgd h
        refine rg false 3 (t := 28) (st2 := [(0, (d0 (Int.toNat p1)))]) rfl rfl rfl g1_0 ?_
        obtain rfl := Option.some.inj h
        exact r1 false 5 rfl rfl rfl rfl rfl rfl trivial
      · replace h := zif2 c h
        refine rb false 4 (st2 := [(0, (-1))]) rfl rfl trivial ?_
        obtain rfl := Option.some.inj h
        exact r1 false 5 rfl rfl rfl rfl rfl rfl trivial
    · replace h := zif2 c h
      refine rb false 4 (st2 := [(0, (-1))]) rfl rfl trivial ?_
      obtain rfl := Option.some.inj h
      exact r1 false 5 rfl rfl rfl rfl rfl rfl trivial
def bX6_foldInto : zB := [(0, [(.lload_n 1, 1), (.lstore_n 3, 1), (.iconst 0, 1), (.istore 5, 2)], 5, .nop, 0), (5, [(.iload 5, 2), (.aload_n 0, 1), (.getfield 15, 3)], 11, .if_icmp .ge 31, 3), (14, [(.iload 5, 2), (.bipush 40, 2)], 18, .if_icmp .ge 24, 3), (21, [(.ldc2_w 30, 3), (.lload_n 3, 1), (.lmul, 1), (.aload_n 0, 1), (.getfield 11, 3), (.iload 5, 2), (.iaload, 1), (.i2l, 1), (.ladd, 1), (.lstore_n 3, 1)], 36, .nop, 0), (36, [(.iinc 5 1, 3)], 39, .goto (-34), 3), (42, [(.lload_n 3, 1)], 43, .lreturn, 1)]
theorem bX6_foldInto_ok : zBok cX6_foldInto 6 bX6_foldInto = true := by decide +kernel
abbrev wX6_foldInto : List Cond := Cond.code yX6_foldInto cX6_foldInto 6 (some .long) :: uU
def rX6_foldInto : Room := { frames := 0, cells := 0, slots := 0, locals := 0 }
set_option maxRecDepth 20000 in
set_option maxHeartbeats 4000000 in
theorem m_C_X6_foldInto_53 (l : Launch) (M0 : zM) (M1 : zM) (M2 : zM) (M3 : zM) (M4 : zM) (M5 : zM) (M6 : zM) (M7 : zM) (M8 : zM) (M9 : zM) (M10 : zM) (M11 : zM) (M13 : zM) (p1 : Int) (s0 : Int) (d0 : Nat → Int) (x : Int) (h : f_X6_foldInto p1 s0 d0 = some x) : zD l yX6_foldInto wX6_foldInto rX6_foldInto lamC shpC [(2, Int.ofNat 53), (1, p1)] [M0, M1, M2, M3, M4, M5, M6, M7, M8, M9, M10, M11, ([s0], [d0]), M13] (some (1, x)) [M0, M1, M2, M3, M4, M5, M6, M7, M8, M9, M10, M11, ([s0], [d0]), M13] := by
  refine zD_of (B := bX6_foldInto) (E := eX6n) (by decide) rfl lokC (eX6n_ok _) bX6_foldInto_ok (Or.inl rfl) rfl (fun S R => ?_)
  obtain ⟨rb, rg, ri, rv, rs, r0, r1, r2, r3, rt, rmk⟩ := R
  show S 0 [some (2, Int.ofNat 53), some (1, p1), none, none, none, none] [] [M0, M1, M2, M3, M4, M5, M6, M7, M8, M9, M10, M11, ([s0], [d0]), M13]
  have LP5 : ∀ (n : Nat) (v3 : Int) (v5 : Int) (s0 : Int) (d0 : Nat → Int) (y : Int), l_X6_foldInto_5 n v3 v5 s0 d0 = some y → S 42 [none, none, none, some (1, y), none, none] [] [M0, M1, M2, M3, M4, M5, M6, M7, M8, M9, M10, M11, ([s0], [d0]), M13] → S 5 [some (2, Int.ofNat 53), none, none, some (1, v3), none, some (0, v5)] [] [M0, M1, M2, M3, M4, M5, M6, M7, M8, M9, M10, M11, ([s0], [d0]), M13] := by
    intro n
    induction n with
    | zero =>
      intro v3 v5 s0 d0 y h k
      rw [l_X6_foldInto_5] at h
      cases h
    | succ n ih =>
      intro v3 v5 s0 d0 y h k
      rw [l_X6_foldInto_5] at h
      refine ri true 1 (q := v5 < s0) (t1 := 14) (t2 := 42) rfl rfl trivial (fun c => ?_) (fun c => ?_)
      · replace h := zif1 c h
        refine ri true 2 (q := v5 < 40) (t1 := 21) (t2 := 42) rfl rfl trivial (fun c => ?_) (fun c => ?_)
        · replace h := zif1 c h
          obtain ⟨g1_0, h⟩ := zgd h
          refine rb true 3 (L2 := [some (2, Int.ofNat 53), none, none, some (1, (zwl ((31 * v3) + (d0 (Int.toNat v5))))), none, some (0, v5)]) rfl rfl g1_0 ?_
          obtain ⟨g2_0, h⟩ := zgd h
          refine rg true 4 (t := 5) (L2 := [some (2, Int.ofNat 53), none, none, some (1, (zwl ((31 * v3) + (d0 (Int.toNat v5))))), none, some (0, (v5 + 1))]) rfl rfl rfl g2_0 ?_
          exact ih (zwl ((31 * v3) + (d0 (Int.toNat v5)))) (v5 + 1) s0 d0 y h k
        · replace h := zif2 c h
          refine rmk [false, false, false, true, false, false] (L2 := [none, none, none, some (1, v3), none, none]) rfl ?_
          obtain rfl := Option.some.inj h
          exact k
      · replace h := zif2 c h
        refine rmk [false, false, false, true, false, false] (L2 := [none, none, none, some (1, v3), none, none]) rfl ?_
        obtain rfl := Option.some.inj h
        exact k
  unfold f_X6_foldInto at h
  refine rb true 0 (L2 := [some (2, Int.ofNat 53), some (1, p1), none, some (1, p1), none, some (0, 0)]) rfl rfl trivial ?_
  refine rmk [true, false, false, true, false, true] (L2 := [some (2, Int.ofNat 53), none, none, some (1, p1), none, some (0, 0)]) rfl ?_
  obtain ⟨x3, hx3, h⟩ := zbd h
  refine LP5 zN p1 0 s0 d0 x3 hx3 ?_
  obtain rfl := Option.some.inj h
  exact r3 true 5 rfl rfl rfl rfl rfl rfl trivial
set_option maxRecDepth 20000 in
set_option maxHeartbeats 4000000 in
theorem m_C_X6_foldInto_55 (l : Launch) (M0 : zM) (M1 : zM) (M2 : zM) (M3 : zM) (M4 : zM) (M5 : zM) (M6 : zM) (M7 : zM) (M8 : zM) (M9 : zM) (M10 : zM) (M11 : zM) (M12 : zM) (p1 : Int) (s0 : Int) (d0 : Nat → Int) (x : Int) (h : f_X6_foldInto p1 s0 d0 = some x) : zD l yX6_foldInto wX6_foldInto rX6_foldInto lamC shpC [(2, Int.ofNat 55), (1, p1)] [M0, M1, M2, M3, M4, M5, M6, M7, M8, M9, M10, M11, M12, ([s0], [d0])] (some (1, x)) [M0, M1, M2, M3, M4, M5, M6, M7, M8, M9, M10, M11, M12, ([s0], [d0])] := by
  refine zD_of (B := bX6_foldInto) (E := eX6n) (by decide) rfl lokC (eX6n_ok _) bX6_foldInto_ok (Or.inl rfl) rfl (fun S R => ?_)
  obtain ⟨rb, rg, ri, rv, rs, r0, r1, r2, r3, rt, rmk⟩ := R
  show S 0 [some (2, Int.ofNat 55), some (1, p1), none, none, none, none] [] [M0, M1, M2, M3, M4, M5, M6, M7, M8, M9, M10, M11, M12, ([s0], [d0])]
  have LP5 : ∀ (n : Nat) (v3 : Int) (v5 : Int) (s0 : Int) (d0 : Nat → Int) (y : Int), l_X6_foldInto_5 n v3 v5 s0 d0 = some y → S 42 [none, none, none, some (1, y), none, none] [] [M0, M1, M2, M3, M4, M5, M6, M7, M8, M9, M10, M11, M12, ([s0], [d0])] → S 5 [some (2, Int.ofNat 55), none, none, some (1, v3), none, some (0, v5)] [] [M0, M1, M2, M3, M4, M5, M6, M7, M8, M9, M10, M11, M12, ([s0], [d0])] := by
    intro n
    induction n with
    | zero =>
      intro v3 v5 s0 d0 y h k
      rw [l_X6_foldInto_5] at h
      cases h
    | succ n ih =>
      intro v3 v5 s0 d0 y h k
      rw [l_X6_foldInto_5] at h
      refine ri true 1 (q := v5 < s0) (t1 := 14) (t2 := 42) rfl rfl trivial (fun c => ?_) (fun c => ?_)
      · replace h := zif1 c h
        refine ri true 2 (q := v5 < 40) (t1 := 21) (t2 := 42) rfl rfl trivial (fun c => ?_) (fun c => ?_)
        · replace h := zif1 c h
          obtain ⟨g1_0, h⟩ := zgd h
          refine rb true 3 (L2 := [some (2, Int.ofNat 55), none, none, some (1, (zwl ((31 * v3) + (d0 (Int.toNat v5))))), none, some (0, v5)]) rfl rfl g1_0 ?_
          obtain ⟨g2_0, h⟩ := zgd h
          refine rg true 4 (t := 5) (L2 := [some (2, Int.ofNat 55), none, none, some (1, (zwl ((31 * v3) + (d0 (Int.toNat v5))))), none, some (0, (v5 + 1))]) rfl rfl rfl g2_0 ?_
          exact ih (zwl ((31 * v3) + (d0 (Int.toNat v5)))) (v5 + 1) s0 d0 y h k
        · replace h := zif2 c h
          refine rmk [false, false, false, true, false, false] (L2 := [none, none, none, some (1, v3), none, none]) rfl ?_
          obtain rfl := Option.some.inj h
          exact k
      · replace h := zif2 c h
        refine rmk [false, false, false, true, false, false] (L2 := [none, none, none, some (1, v3), none, none]) rfl ?_
        obtain rfl := Option.some.inj h
        exact k
  unfold f_X6_foldInto at h
  refine rb true 0 (L2 := [some (2, Int.ofNat 55), some (1, p1), none, some (1, p1), none, some (0, 0)]) rfl rfl trivial ?_
  refine rmk [true, false, false, true, false, true] (L2 := [some (2, Int.ofNat 55), none, none, some (1, p1), none, some (0, 0)]) rfl ?_
  obtain ⟨x3, hx3, h⟩ := zbd h
  refine LP5 zN p1 0 s0 d0 x3 hx3 ?_
  obtain rfl := Option.some.inj h
  exact r3 true 5 rfl rfl rfl rfl rfl rfl trivial
