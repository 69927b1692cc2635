def bX3_tell : zB := [(0, [(.aload_n 0, 1), (.getfield 9, 3), (.iload_n 1, 1), (.iaload, 1), (.istore_n 3, 1), (.aload_n 0, 1), (.getfield 9, 3), (.iload_n 1, 1), (.iload_n 2, 1), (.iastore, 1)], 14, .nop, 0), (14, [(.iload_n 3, 1)], 15, .ireturn, 1)]
theorem bX3_tell_ok : zBok cX3_tell 4 bX3_tell = true := by decide +kernel
abbrev wX3_tell : List Cond := Cond.code yX3_tell cX3_tell 4 (some .int) :: uU
def rX3_tell : Room := { frames := 0, cells := 0, slots := 0, locals := 0 }
set_option maxRecDepth 20000 in
set_option maxHeartbeats 4000000 in
theorem m_C_X3_tell (l : Launch) (M0 : zM) (M1 : zM) (M2 : zM) (M4 : zM) (M5 : zM) (M6 : zM) (M7 : zM) (M8 : zM) (M9 : zM) (M10 : zM) (M11 : zM) (M12 : zM) (M13 : zM) (p1 : Int) (p2 : Int) (H_weights : Nat → Int) (x : Int × (Nat → Int)) (h : f_X3_tell p1 p2 H_weights = some x) : zD l yX3_tell wX3_tell rX3_tell lamC shpC [(2, Int.ofNat 26), (0, p1), (0, p2)] [M0, M1, M2, ([], [H_weights]), M4, M5, M6, M7, M8, M9, M10, M11, M12, M13] (some (0, x.1)) [M0, M1, M2, ([], [x.2]), M4, M5, M6, M7, M8, M9, M10, M11, M12, M13] := by
  refine zD_of (B := bX3_tell) (E := eX3) (by decide) rfl lokC (eX3_ok _) bX3_tell_ok (Or.inl rfl) rfl (fun S R => ?_)
  obtain ⟨rb, rg, ri, rv, rs, r0, r1, r2, r3, rt, rmk⟩ := R
  show S 0 [some (2, Int.ofNat 26), some (0, p1), some (0, p2), none] [] [M0, M1, M2, ([], [H_weights]), M4, M5, M6, M7, M8, M9, M10, M11, M12, M13]
  unfold f_X3_tell at h
  obtain ⟨⟨g1_0, g1_1⟩, h⟩ := zgd h
  refine rb false 0 (L2 := [some (2, Int.ofNat 26), some (0, p1), some (0, p2), some (0, (H_weights (Int.toNat p1)))]) (σ2 := [M0, M1, M2, ([], [(zu H_weights (Int.toNat p1) p2)]), M4, M5, M6, M7, M8, M9, M10, M11, M12, M13]) rfl rfl (And.intro g1_0 g1_1) ?_
  obtain rfl := Option.some.inj h
  exact r1 false 1 rfl rfl rfl rfl rfl rfl trivial
def bX3_sumOfWeights : zB := [(0, [(.iconst 0, 1), (.istore_n 1, 1), (.iconst 0, 1), (.istore_n 2, 1)], 4, .nop, 0), (4, [(.iload_n 2, 1), (.bipush 9, 2)], 7, .if_icmp .gt 18, 3), (10, [(.iload_n 1, 1), (.aload_n 0, 1), (.getfield 9, 3), (.iload_n 2, 1), (.iaload, 1), (.iadd, 1), (.istore_n 1, 1), (.iinc 2 1, 3)], 22, .goto (-18), 3), (25, [(.iload_n 1, 1)], 26, .ireturn, 1)]
theorem bX3_sumOfWeights_ok : zBok cX3_sumOfWeights 3 bX3_sumOfWeights = true := by decide +kernel
abbrev wX3_sumOfWeights : List Cond := Cond.code yX3_sumOfWeights cX3_sumOfWeights 3 (some .int) :: uU
def rX3_sumOfWeights : Room := { frames := 0, cells := 0, slots := 0, locals := 0 }
set_option maxRecDepth 20000 in
set_option maxHeartbeats 4000000 in
theorem m_C_X3_sumOfWeights (l : Launch) (M0 : zM) (M1 : zM) (M2 : zM) (M4 : zM) (M5 : zM) (M6 : zM) (M7 : zM) (M8 : zM) (M9 : zM) (M10 : zM) (M11 : zM) (M12 : zM) (M13 : zM) (H_weights : Nat → Int) (x : Int) (h : f_X3_sumOfWeights H_weights = some x) : zD l yX3_sumOfWeights wX3_sumOfWeights rX3_sumOfWeights lamC shpC [(2, Int.ofNat 26)] [M0, M1, M2, ([], [H_weights]), M4, M5, M6, M7, M8, M9, M10, M11, M12, M13] (some (0, x)) [M0, M1, M2, ([], [H_weights]), M4, M5, M6, M7, M8, M9, M10, M11, M12, M13] := by
  refine zD_of (B := bX3_sumOfWeights) (E := eX3) (by decide) rfl lokC (eX3_ok _) bX3_sumOfWeights_ok (Or.inl rfl) rfl (fun S R => ?_)
  obtain ⟨rb, rg, ri, rv, rs, r0, r1, r2, r3, rt, rmk⟩ := R
  show S 0 [some (2, Int.ofNat 26), none, none] [] [M0, M1, M2, ([], [H_weights]), M4, M5, M6, M7, M8, M9, M10, M11, M12, M13]
  have LP4 : ∀ (n : Nat) (v1 : Int) (v2 : Int) (H_weights : Nat → Int) (y : Int), l_X3_sumOfWeights_4 n v1 v2 H_weights = some y → S 25 [none, some (0, y), none] [] [M0, M1, M2, ([], [H_weights]), M4, M5, M6, M7, M8, M9, M10, M11, M12, M13] → S 4 [some (2, Int.ofNat 26), some (0, v1), some (0, v2)] [] [M0, M1, M2, ([], [H_weights]), M4, M5, M6, M7, M8, M9, M10, M11, M12, M13] := by
    intro n
    induction n with
    | zero =>
      intro v1 v2 H_weights y h k
      rw [l_X3_sumOfWeights_4] at h
      cases h
    | succ n ih =>
      intro v1 v2 H_weights y h k
      rw [l_X3_sumOfWeights_4] at h
      refine ri false 1 (q := (9 : Int) < v2) (t1 := 25) (t2 := 10) rfl rfl trivial (fun c => ?_) (fun c => ?_)
      · replace h := zif1 c h
        refine rmk [false, true, false] (L2 := [none, some (0, v1), none]) rfl ?_
        obtain rfl := Option.some.inj h
        exact k
      · replace h := zif2 c h
        obtain ⟨⟨g1_0, g1_1, g1_2⟩, h⟩ := zgd h
        refine rg false 2 (t := 4) (L2 := [some (2, Int.ofNat 26), some (0, (v1 + (H_weights (Int.toNat v2)))), some (0, (v2 + 1))]) rfl rfl rfl (And.intro g1_0 (And.intro g1_1 g1_2)) ?_
        exact ih (v1 + (H_weights (Int.toNat v2))) (v2 + 1) H_weights y h k
  unfold f_X3_sumOfWeights at h
  refine rb false 0 (L2 := [some (2, Int.ofNat 26), some (0, 0), some (0, 0)]) rfl rfl trivial ?_
  obtain ⟨x2, hx2, h⟩ := zbd h
  refine LP4 zN 0 0 H_weights x2 hx2 ?_
  obtain rfl := Option.some.inj h
  exact r1 false 3 rfl rfl rfl rfl rfl rfl trivial
def bX3_sumOfCopies : zB := [(0, [(.iconst 0, 1), (.istore_n 1, 1), (.iconst 0, 1), (.istore_n 2, 1)], 4, .nop, 0), (4, [(.iload_n 2, 1), (.bipush 9, 2)], 7, .if_icmp .gt 20, 3), (10, [(.iload_n 1, 1), (.iload_n 2, 1), (.aload_n 0, 1), (.getfield 9, 3), (.iload_n 2, 1), (.iaload, 1), (.imul, 1), (.iadd, 1), (.istore_n 1, 1)], 21, .nop, 0), (21, [(.iinc 2 1, 3)], 24, .goto (-20), 3), (27, [(.iload_n 1, 1)], 28, .ireturn, 1)]
theorem bX3_sumOfCopies_ok : zBok cX3_sumOfCopies 3 bX3_sumOfCopies = true := by decide +kernel
abbrev wX3_sumOfCopies : List Cond := Cond.code yX3_sumOfCopies cX3_sumOfCopies 3 (some .int) :: uU
def rX3_sumOfCopies : Room := { frames := 0, cells := 0, slots := 0, locals := 0 }
set_option maxRecDepth 20000 in
set_option maxHeartbeats 4000000 in
theorem m_C_X3_sumOfCopies (l : Launch) (M0 : zM) (M1 : zM) (M2 : zM) (M4 : zM) (M5 : zM) (M6 : zM) (M7 : zM) (M8 : zM) (M9 : zM) (M10 : zM) (M11 : zM) (M12 : zM) (M13 : zM) (H_weights : Nat → Int) (x : Int) (h : f_X3_sumOfCopies H_weights = some x) : zD l yX3_sumOfCopies wX3_sumOfCopies rX3_sumOfCopies lamC shpC [(2, Int.ofNat 26)] [M0, M1, M2, ([], [H_weights]), M4, M5, M6, M7, M8, M9, M10, M11, M12, M13] (some (0, x)) [M0, M1, M2, ([], [H_weights]), M4, M5, M6, M7, M8, M9, M10, M11, M12, M13] := by
  refine zD_of (B := bX3_sumOfCopies) (E := eX3) (by decide) rfl lokC (eX3_ok _) bX3_sumOfCopies_ok (Or.inl rfl) rfl (fun S R => ?_)
  obtain ⟨rb, rg, ri, rv, rs, r0, r1, r2, r3, rt, rmk⟩ := R
  show S 0 [some (2, Int.ofNat 26), none, none] [] [M0, M1, M2, ([], [H_weights]), M4, M5, M6, M7, M8, M9, M10, M11, M12, M13]
  have LP4 : ∀ (n : Nat) (v1 : Int) (v2 : Int) (H_weights : Nat → Int) (y : Int), l_X3_sumOfCopies_4 n v1 v2 H_weights = some y → S 27 [none, some (0, y), none] [] [M0, M1, M2, ([], [H_weights]), M4, M5, M6, M7, M8, M9, M10, M11, M12, M13] → S 4 [some (2, Int.ofNat 26), some (0, v1), some (0, v2)] [] [M0, M1, M2, ([], [H_weights]), M4, M5, M6, M7, M8, M9, M10, M11, M12, M13] := by
    intro n
    induction n with
    | zero =>
      intro v1 v2 H_weights y h k
      rw [l_X3_sumOfCopies_4] at h
      cases h
    | succ n ih =>
      intro v1 v2 H_weights y h k
      rw [l_X3_sumOfCopies_4] at h
      refine ri false 1 (q := (9 : Int) < v2) (t1 := 27) (t2 := 10) rfl rfl trivial (fun c => ?_) (fun c => ?_)
      · replace h := zif1 c h
        refine rmk [false, true, false] (L2 := [none, some (0, v1), none]) rfl ?_
        obtain rfl := Option.some.inj h
        exact k
      · replace h := zif2 c h
        obtain ⟨⟨g1_0, g1_1⟩, h⟩ := zgd h
        refine rb false 2 (L2 := [some (2, Int.ofNat 26), some (0, (v1 + (v2 * (H_weights (Int.toNat v2))))), some (0, v2)]) rfl rfl (And.intro g1_0 g1_1) ?_
        obtain ⟨g2_0, h⟩ := zgd h
        refine rg false 3 (t := 4) (L2 := [some (2, Int.ofNat 26), some (0, (v1 + (v2 * (H_weights (Int.toNat v2))))), some (0, (v2 + 1))]) rfl rfl rfl g2_0 ?_
        exact ih (v1 + (v2 * (H_weights (Int.toNat v2)))) (v2 + 1) H_weights y h k
  unfold f_X3_sumOfCopies at h
  refine rb false 0 (L2 := [some (2, Int.ofNat 26), some (0, 0), some (0, 0)]) rfl rfl trivial ?_
  obtain ⟨x3, hx3, h⟩ := zbd h
  refine LP4 zN 0 0 H_weights x3 hx3 ?_
  obtain rfl := Option.some.inj h
  exact r1 false 4 rfl rfl rfl rfl rfl rfl trivial
def bX3_goRound : zB := [(0, [(.aload_n 0, 1), (.getfield 23, 3), (.aload_n 0, 1), (.getfield 9, 3), (.bipush 9, 2), (.iaload, 1), (.i2l, 1)], 12, .invokevirtual 36, 3), (15, [(.aload_n 0, 1), (.getfield 26, 3), (.lconst 1, 1)], 20, .invokevirtual 36, 3), (23, [(.bipush 8, 2), (.istore_n 2, 1)], 26, .nop, 0), (26, [(.iload_n 2, 1)], 27, .ifCond .lt 78, 3), (30, [(.aload_n 0, 1), (.getfield 29, 3), (.aload_n 0, 1), (.getfield 23, 3), (.aload_n 0, 1), (.getfield 16, 3)], 42, .invokevirtual 53, 3), (45, [(.aload_n 0, 1), (.getfield 23, 3), (.aload_n 0, 1), (.getfield 29, 3)], 53, .invokevirtual 56, 3), (56, [(.aload_n 0, 1), (.getfield 29, 3), (.aload_n 0, 1), (.getfield 26, 3), (.aload_n 0, 1), (.getfield 20, 3)], 68, .invokevirtual 53, 3), (71, [(.aload_n 0, 1), (.getfield 26, 3), (.aload_n 0, 1), (.getfield 29, 3)], 79, .invokevirtual 56, 3), (82, [(.aload_n 0, 1), (.getfield 23, 3), (.aload_n 0, 1), (.getfield 26, 3), (.aload_n 0, 1), (.getfield 9, 3), (.iload_n 2, 1), (.iaload, 1)], 96, .invokevirtual 59, 3), (99, [(.iinc 2 (-1), 3)], 102, .goto (-76), 3), (105, [(.aload_n 0, 1), (.getfield 16, 3), (.aload_n 0, 1), (.getfield 23, 3)], 113, .invokevirtual 56, 3), (116, [(.aload_n 0, 1), (.getfield 29, 3), (.iload_n 1, 1), (.i2l, 1)], 122, .invokevirtual 36, 3), (125, [(.aload_n 0, 1), (.getfield 20, 3), (.aload_n 0, 1), (.getfield 26, 3), (.aload_n 0, 1), (.getfield 29, 3)], 137, .invokevirtual 53, 3), (140, [], 140, .return_, 1)]
theorem bX3_goRound_ok : zBok cX3_goRound 3 bX3_goRound = true := by decide +kernel
abbrev wX3_goRound : List Cond := Cond.code yX3_goRound cX3_goRound 3 none :: uU
def rX3_goRound : Room := { frames := 2, cells := 0, slots := 0, locals := 51 }
set_option maxRecDepth 20000 in
set_option maxHeartbeats 4000000 in
theorem m_C_X3_goRound (l : Launch) (M0 : zM) (M1 : zM) (M2 : zM) (M9 : zM) (M10 : zM) (M11 : zM) (M12 : zM) (M13 : zM) (p1 : Int) (H_weights : Nat → Int) (Ha_size : Int) (Ha_digits : Nat → Int) (Hb_size : Int) (Hb_digits : Nat → Int) (Hs_size : Int) (Hs_digits : Nat → Int) (Hp_size : Int) (Hp_digits : Nat → Int) (Hq_size : Int) (Hq_digits : Nat → Int) (x : Int × (Nat → Int) × Int × (Nat → Int) × Int × (Nat → Int) × Int × (Nat → Int) × Int × (Nat → Int)) (h : f_X3_goRound p1 H_weights Ha_size Ha_digits Hb_size Hb_digits Hs_size Hs_digits Hp_size Hp_digits Hq_size Hq_digits = some x) : zD l yX3_goRound wX3_goRound rX3_goRound lamC shpC [(2, Int.ofNat 26), (0, p1)] [M0, M1, M2, ([], [H_weights]), ([Ha_size], [Ha_digits]), ([Hb_size], [Hb_digits]), ([Hs_size], [Hs_digits]), ([Hp_size], [Hp_digits]), ([Hq_size], [Hq_digits]), M9, M10, M11, M12, M13] (none) [M0, M1, M2, ([], [H_weights]), ([x.1], [x.2.1]), ([x.2.2.1], [x.2.2.2.1]), ([x.2.2.2.2.1], [x.2.2.2.2.2.1]), ([x.2.2.2.2.2.2.1], [x.2.2.2.2.2.2.2.1]), ([x.2.2.2.2.2.2.2.2.1], [x.2.2.2.2.2.2.2.2.2]), M9, M10, M11, M12, M13] := by
  refine zD_of (B := bX3_goRound) (E := eX3) (by decide) rfl lokC (eX3_ok _) bX3_goRound_ok (Or.inl rfl) rfl (fun S R => ?_)
  obtain ⟨rb, rg, ri, rv, rs, r0, r1, r2, r3, rt, rmk⟩ := R
  show S 0 [some (2, Int.ofNat 26), some (0, p1), none] [] [M0, M1, M2, ([], [H_weights]), ([Ha_size], [Ha_digits]), ([Hb_size], [Hb_digits]), ([Hs_size], [Hs_digits]), ([Hp_size], [Hp_digits]), ([Hq_size], [Hq_digits]), M9, M10, M11, M12, M13]
  have LP26 : ∀ (n : Nat) (v1 : Int) (v2 : Int) (H_weights : Nat → Int) (Ha_size : Int) (Ha_digits : Nat → Int) (Hb_size : Int) (Hb_digits : Nat → Int) (Hs_size : Int) (Hs_digits : Nat → Int) (Hp_size : Int) (Hp_digits : Nat → Int) (Hq_size : Int) (Hq_digits : Nat → Int) (y : Int × (Nat → Int) × Int × (Nat → Int) × Int × (Nat → Int)), l_X3_goRound_26 n v1 v2 H_weights Ha_size Ha_digits Hb_size Hb_digits Hs_size Hs_digits Hp_size Hp_digits Hq_size Hq_digits = some y → S 105 [some (2, Int.ofNat 26), some (0, v1), none] [] [M0, M1, M2, ([], [H_weights]), ([Ha_size], [Ha_digits]), ([Hb_size], [Hb_digits]), ([y.1], [y.2.1]), ([y.2.2.1], [y.2.2.2.1]), ([y.2.2.2.2.1], [y.2.2.2.2.2]), M9, M10, M11, M12, M13] → S 26 [some (2, Int.ofNat 26), some (0, v1), some (0, v2)] [] [M0, M1, M2, ([], [H_weights]), ([Ha_size], [Ha_digits]), ([Hb_size], [Hb_digits]), ([Hs_size], [Hs_digits]), ([Hp_size], [Hp_digits]), ([Hq_size], [Hq_digits]), M9, M10, M11, M12, M13] := by
    intro n
    induction n with
    | zero =>
      intro v1 v2 H_weights Ha_size Ha_digits Hb_size Hb_digits Hs_size Hs_digits Hp_size Hp_digits Hq_size Hq_digits y h k
      rw [l_X3_goRound_26] at h
      cases h
    | succ n ih =>
      intro v1 v2 H_weights Ha_size Ha_digits Hb_size Hb_digits Hs_size Hs_digits Hp_size Hp_digits Hq_size Hq_digits y h k
      rw [l_X3_goRound_26] at h
      refine ri false 3 (q := v2 < 0) (t1 := 105) (t2 := 30) rfl rfl trivial (fun c => ?_) (fun c => ?_)
      · replace h := zif1 c h
        refine rmk [true, true, false] (L2 := [some (2, Int.ofNat 26), some (0, v1), none]) rfl ?_
        obtain rfl := Option.some.inj h
        exact k
      · replace h := zif2 c h
        obtain ⟨x3, hx3, h⟩ := zbd h
        refine rv false 4 2 rfl rfl trivial rfl (m_C_X6_multiply_36_32_28 l M0 M1 M2 ([], [H_weights]) ([Hb_size], [Hb_digits]) ([Hp_size], [Hp_digits]) M9 M10 M11 M12 M13 Ha_size Ha_digits Hs_size Hs_digits Hq_size Hq_digits x3 hx3) ⟨_, _, _, _, rfl, rfl, rfl, by decide +kernel, ⟨Nat.le_of_ble_eq_true rfl, Nat.le_of_ble_eq_true rfl⟩, uGin u_28_13 u_28_14 u_28_15 u_4_17 u_28_16⟩ ⟨rfl, _, _, _, rfl, rfl⟩ ?_
        obtain ⟨x4, hx4, h⟩ := zbd h
        refine rv false 5 1 rfl rfl trivial rfl (m_C_X6_take_32_36 l M0 M1 M2 ([], [H_weights]) ([Ha_size], [Ha_digits]) ([Hb_size], [Hb_digits]) ([Hp_size], [Hp_digits]) M9 M10 M11 M12 M13 Hs_size Hs_digits x3.1 x3.2 x4 hx4) ⟨_, _, _, _, rfl, rfl, rfl, by decide +kernel, ⟨Nat.le_of_ble_eq_true rfl, Nat.le_of_ble_eq_true rfl⟩, uGin u_28_17 u_28_18 u_28_19 u_4_17 u_28_20⟩ ⟨rfl, _, _, _, rfl, rfl⟩ ?_
        obtain ⟨x5, hx5, h⟩ := zbd h
        refine rv false 6 2 rfl rfl trivial rfl (m_C_X6_multiply_36_34_30 l M0 M1 M2 ([], [H_weights]) ([Ha_size], [Ha_digits]) ([x4.1], [x4.2]) M9 M10 M11 M12 M13 Hb_size Hb_digits Hp_size Hp_digits x3.1 x3.2 x5 hx5) ⟨_, _, _, _, rfl, rfl, rfl, by decide +kernel, ⟨Nat.le_of_ble_eq_true rfl, Nat.le_of_ble_eq_true rfl⟩, uGin u_28_13 u_28_14 u_28_15 u_4_17 u_28_16⟩ ⟨rfl, _, _, _, rfl, rfl⟩ ?_
        obtain ⟨x6, hx6, h⟩ := zbd h
        refine rv false 7 1 rfl rfl trivial rfl (m_C_X6_take_34_36 l M0 M1 M2 ([], [H_weights]) ([Ha_size], [Ha_digits]) ([Hb_size], [Hb_digits]) ([x4.1], [x4.2]) M9 M10 M11 M12 M13 Hp_size Hp_digits x5.1 x5.2 x6 hx6) ⟨_, _, _, _, rfl, rfl, rfl, by decide +kernel, ⟨Nat.le_of_ble_eq_true rfl, Nat.le_of_ble_eq_true rfl⟩, uGin u_28_17 u_28_18 u_28_19 u_4_17 u_28_20⟩ ⟨rfl, _, _, _, rfl, rfl⟩ ?_
        obtain ⟨g8_0, h⟩ := zgd h
        obtain ⟨x7, hx7, h⟩ := zbd h
        refine rv false 8 2 rfl rfl g8_0 rfl (m_C_X6_addTimes_32_34 l M0 M1 M2 ([], [H_weights]) ([Ha_size], [Ha_digits]) ([Hb_size], [Hb_digits]) ([x5.1], [x5.2]) M9 M10 M11 M12 M13 (H_weights (Int.toNat v2)) x4.1 x4.2 x6.1 x6.2 x7 hx7) ⟨_, _, _, _, rfl, rfl, rfl, by decide +kernel, ⟨Nat.le_of_ble_eq_true rfl, Nat.le_of_ble_eq_true rfl⟩, uGin u_28_21 u_28_22 u_28_23 u_4_17 u_29_0⟩ ⟨rfl, _, _, _, rfl, rfl⟩ ?_
        obtain ⟨g9_0, h⟩ := zgd h
        refine rg false 9 (t := 26) (L2 := [some (2, Int.ofNat 26), some (0, v1), some (0, (v2 + (-1)))]) rfl rfl rfl g9_0 ?_
        exact ih v1 (v2 + (-1)) H_weights Ha_size Ha_digits Hb_size Hb_digits x7.1 x7.2 x6.1 x6.2 x5.1 x5.2 y h k
  unfold f_X3_goRound at h
  obtain ⟨x1, hx1, h⟩ := zbd h
  refine rv false 0 1 rfl rfl (show zin 9 10 by decide) rfl (m_C_X6_become_32 l M0 M1 M2 ([], [H_weights]) ([Ha_size], [Ha_digits]) ([Hb_size], [Hb_digits]) ([Hp_size], [Hp_digits]) ([Hq_size], [Hq_digits]) M9 M10 M11 M12 M13 (H_weights (Int.toNat 9)) Hs_size Hs_digits x1 hx1) ⟨_, _, _, _, rfl, rfl, rfl, by decide +kernel, ⟨Nat.le_of_ble_eq_true rfl, Nat.le_of_ble_eq_true rfl⟩, uGin u_28_8 u_6_12 u_6_13 u_4_17 u_6_14⟩ ⟨rfl, _, _, _, rfl, rfl⟩ ?_
  obtain ⟨x2, hx2, h⟩ := zbd h
  refine rv false 1 1 rfl rfl trivial rfl (m_C_X6_become_34 l M0 M1 M2 ([], [H_weights]) ([Ha_size], [Ha_digits]) ([Hb_size], [Hb_digits]) ([x1.1], [x1.2]) ([Hq_size], [Hq_digits]) M9 M10 M11 M12 M13 1 Hp_size Hp_digits x2 hx2) ⟨_, _, _, _, rfl, rfl, rfl, by decide +kernel, ⟨Nat.le_of_ble_eq_true rfl, Nat.le_of_ble_eq_true rfl⟩, uGin u_28_8 u_6_12 u_6_13 u_4_17 u_6_14⟩ ⟨rfl, _, _, _, rfl, rfl⟩ ?_
  refine rb false 2 (L2 := [some (2, Int.ofNat 26), some (0, p1), some (0, 8)]) rfl rfl trivial ?_
  obtain ⟨x10, hx10, h⟩ := zbd h
  refine LP26 zN p1 8 H_weights Ha_size Ha_digits Hb_size Hb_digits x1.1 x1.2 x2.1 x2.2 Hq_size Hq_digits x10 hx10 ?_
  obtain ⟨x11, hx11, h⟩ := zbd h
  refine rv false 10 1 rfl rfl trivial rfl (m_C_X6_take_28_32 l M0 M1 M2 ([], [H_weights]) ([Hb_size], [Hb_digits]) ([x10.2.2.1], [x10.2.2.2.1]) ([x10.2.2.2.2.1], [x10.2.2.2.2.2]) M9 M10 M11 M12 M13 Ha_size Ha_digits x10.1 x10.2.1 x11 hx11) ⟨_, _, _, _, rfl, rfl, rfl, by decide +kernel, ⟨Nat.le_of_ble_eq_true rfl, Nat.le_of_ble_eq_true rfl⟩, uGin u_28_17 u_28_18 u_28_19 u_4_17 u_28_20⟩ ⟨rfl, _, _, _, rfl, rfl⟩ ?_
  obtain ⟨x12, hx12, h⟩ := zbd h
  refine rv false 11 1 rfl rfl trivial rfl (m_C_X6_become_36 l M0 M1 M2 ([], [H_weights]) ([x11.1], [x11.2]) ([Hb_size], [Hb_digits]) ([x10.1], [x10.2.1]) ([x10.2.2.1], [x10.2.2.2.1]) M9 M10 M11 M12 M13 p1 x10.2.2.2.2.1 x10.2.2.2.2.2 x12 hx12) ⟨_, _, _, _, rfl, rfl, rfl, by decide +kernel, ⟨Nat.le_of_ble_eq_true rfl, Nat.le_of_ble_eq_true rfl⟩, uGin u_28_8 u_6_12 u_6_13 u_4_17 u_6_14⟩ ⟨rfl, _, _, _, rfl, rfl⟩ ?_
  obtain ⟨x13, hx13, h⟩ := zbd h
  refine rv false 12 2 rfl rfl trivial rfl (m_C_X6_multiply_30_34_36 l M0 M1 M2 ([], [H_weights]) ([x11.1], [x11.2]) ([x10.1], [x10.2.1]) M9 M10 M11 M12 M13 Hb_size Hb_digits x10.2.2.1 x10.2.2.2.1 x12.1 x12.2 x13 hx13) ⟨_, _, _, _, rfl, rfl, rfl, by decide +kernel, ⟨Nat.le_of_ble_eq_true rfl, Nat.le_of_ble_eq_true rfl⟩, uGin u_28_13 u_28_14 u_28_15 u_4_17 u_28_16⟩ ⟨rfl, _, _, _, rfl, rfl⟩ ?_
  obtain rfl := Option.some.inj h
  exact r0 false 13 rfl rfl rfl rfl trivial
def bX3_reduce : zB := [(0, [(.aload_n 0, 1), (.getfield 16, 3), (.getfield 63, 3)], 7, .ifCond .ne 12, 3), (10, [(.aload_n 0, 1), (.getfield 20, 3), (.lconst 1, 1)], 15, .invokevirtual 36, 3), (18, [], 18, .return_, 1), (19, [(.iconst 0, 1), (.istore_n 2, 1)], 21, .nop, 0), (21, [(.iload_n 2, 1), (.sipush 10000, 3)], 25, .if_icmp .ge 65, 3), (28, [(.aload_n 0, 1), (.getfield 16, 3), (.iload_n 1, 1)], 33, .invokevirtual 67, 3), (36, [(.i2l, 1), (.aload_n 0, 1), (.getfield 20, 3), (.iload_n 1, 1)], 42, .invokevirtual 67, 3), (45, [(.i2l, 1)], 46, .invokestatic 71, 3), (49, [(.lstore_n 3, 1), (.lload_n 3, 1), (.iload_n 1, 1), (.i2l, 1)], 53, .invokestatic 71, 3), (56, [(.l2i, 1), (.istore 5, 2), (.iload 5, 2), (.iconst 1, 1)], 62, .if_icmp .gt 4, 3), (65, [], 65, .return_, 1), (66, [(.aload_n 0, 1), (.getfield 16, 3), (.iload 5, 2)], 72, .invokevirtual 75, 3), (75, [(.aload_n 0, 1), (.getfield 20, 3), (.iload 5, 2)], 81, .invokevirtual 75, 3), (84, [(.iinc 2 1, 3)], 87, .goto (-66), 3), (90, [], 90, .return_, 1)]
theorem bX3_reduce_ok : zBok cX3_reduce 6 bX3_reduce = true := by decide +kernel
abbrev wX3_reduce : List Cond := Cond.code yX3_reduce cX3_reduce 6 none :: uU
def rX3_reduce : Room := { frames := 2, cells := 0, slots := 0, locals := 47 }
set_option maxRecDepth 20000 in
set_option maxHeartbeats 4000000 in
theorem m_C_X3_reduce (l : Launch) (M0 : zM) (M1 : zM) (M2 : zM) (M3 : zM) (M6 : zM) (M7 : zM) (M8 : zM) (M9 : zM) (M10 : zM) (M11 : zM) (M12 : zM) (M13 : zM) (p1 : Int) (Ha_size : Int) (Ha_digits : Nat → Int) (Hb_size : Int) (Hb_digits : Nat → Int) (x : Int × (Nat → Int) × Int × (Nat → Int)) (h : f_X3_reduce p1 Ha_size Ha_digits Hb_size Hb_digits = some x) : zD l yX3_reduce wX3_reduce rX3_reduce lamC shpC [(2, Int.ofNat 26), (0, p1)] [M0, M1, M2, M3, ([Ha_size], [Ha_digits]), ([Hb_size], [Hb_digits]), M6, M7, M8, M9, M10, M11, M12, M13] (none) [M0, M1, M2, M3, ([x.1], [x.2.1]), ([x.2.2.1], [x.2.2.2]), M6, M7, M8, M9, M10, M11, M12, M13] := by
  refine zD_of (B := bX3_reduce) (E := eX3) (by decide) rfl lokC (eX3_ok _) bX3_reduce_ok (Or.inl rfl) rfl (fun S R => ?_)
  obtain ⟨rb, rg, ri, rv, rs, r0, r1, r2, r3, rt, rmk⟩ := R
  show S 0 [some (2, Int.ofNat 26), some (0, p1), none, none, none, none] [] [M0, M1, M2, M3, ([Ha_size], [Ha_digits]), ([Hb_size], [Hb_digits]), M6, M7, M8, M9, M10, M11, M12, M13]
  have LP21 : ∀ (n : Nat) (v1 : Int) (v2 : Int) (Ha_size : Int) (Ha_digits : Nat → Int) (Hb_size : Int) (Hb_digits : Nat → Int), l_X3_reduce_21 n v1 v2 Ha_size Ha_digits Hb_size Hb_digits = some x → S 21 [some (2, Int.ofNat 26), some (0, v1), some (0, v2), none, none, none] [] [M0, M1, M2, M3, ([Ha_size], [Ha_digits]), ([Hb_size], [Hb_digits]), M6, M7, M8, M9, M10, M11, M12, M13] := by
    intro n
    induction n with
    | zero =>
      intro v1 v2 Ha_size Ha_digits Hb_size Hb_digits h
      rw [l_X3_reduce_21] at h
      cases h
    | succ n ih =>
      intro v1 v2 Ha_size Ha_digits Hb_size Hb_digits h
      rw [l_X3_reduce_21] at h
      refine ri false 4 (q := v2 < 10000) (t1 := 28) (t2 := 90) rfl rfl trivial (fun c => ?_) (fun c => ?_)
      · replace h := zif1 c h
        obtain ⟨x2, hx2, h⟩ := zbd h
        refine rv false 5 1 rfl rfl trivial rfl (m_C_X6_leftOver_28 l M0 M1 M2 M3 ([Hb_size], [Hb_digits]) M6 M7 M8 M9 M10 M11 M12 M13 v1 Ha_size Ha_digits x2 hx2) ⟨_, _, _, _, rfl, rfl, rfl, by decide +kernel, ⟨Nat.le_of_ble_eq_true rfl, Nat.le_of_ble_eq_true rfl⟩, uGin u_29_6 u_29_7 u_29_8 u_4_17 u_29_9⟩ ⟨rfl, _, _, _, rfl, rfl⟩ ?_
        obtain ⟨x3, hx3, h⟩ := zbd h
        refine rv false 6 1 (rest := [(1, x2)]) rfl rfl trivial rfl (m_C_X6_leftOver_30 l M0 M1 M2 M3 ([Ha_size], [Ha_digits]) M6 M7 M8 M9 M10 M11 M12 M13 v1 Hb_size Hb_digits x3 hx3) ⟨_, _, _, _, rfl, rfl, rfl, by decide +kernel, ⟨Nat.le_of_ble_eq_true rfl, Nat.le_of_ble_eq_true rfl⟩, uGin u_29_6 u_29_7 u_29_8 u_4_17 u_29_9⟩ ⟨rfl, _, _, _, rfl, rfl⟩ ?_
        obtain ⟨x4, hx4, h⟩ := zbd h
        refine rs false 7 2 rfl rfl trivial rfl (m_C_X2_shared l M0 M1 M2 M3 ([Ha_size], [Ha_digits]) ([Hb_size], [Hb_digits]) M6 M7 M8 M9 M10 M11 M12 M13 x2 x3 x4 hx4) ⟨_, _, _, _, rfl, rfl, rfl, by decide +kernel, ⟨Nat.le_of_ble_eq_true rfl, Nat.le_of_ble_eq_true rfl⟩, uGinS u_29_11 u_26_8 u_2_17 u_26_9⟩ ?_
        obtain ⟨x5, hx5, h⟩ := zbd h
        refine rs false 8 2 (L2 := [some (2, Int.ofNat 26), some (0, v1), some (0, v2), some (1, x4), none, none]) rfl rfl trivial rfl (m_C_X2_shared l M0 M1 M2 M3 ([Ha_size], [Ha_digits]) ([Hb_size], [Hb_digits]) M6 M7 M8 M9 M10 M11 M12 M13 x4 v1 x5 hx5) ⟨_, _, _, _, rfl, rfl, rfl, by decide +kernel, ⟨Nat.le_of_ble_eq_true rfl, Nat.le_of_ble_eq_true rfl⟩, uGinS u_29_11 u_26_8 u_2_17 u_26_9⟩ ?_
        obtain ⟨g6_0, h⟩ := zgd h
        refine ri false 9 (q := (1 : Int) < x5) (t1 := 66) (t2 := 65) (L2 := [some (2, Int.ofNat 26), some (0, v1), some (0, v2), some (1, x4), none, some (0, x5)]) rfl rfl g6_0 (fun c => ?_) (fun c => ?_)
        · replace h := zif1 c h
          obtain ⟨x7, hx7, h⟩ := zbd h
          refine rv false 11 1 rfl rfl trivial rfl (m_C_X6_divide_28 l M0 M1 M2 M3 ([Hb_size], [Hb_digits]) M6 M7 M8 M9 M10 M11 M12 M13 x5 Ha_size Ha_digits x7 hx7) ⟨_, _, _, _, rfl, rfl, rfl, by decide +kernel, ⟨Nat.le_of_ble_eq_true rfl, Nat.le_of_ble_eq_true rfl⟩, uGin u_29_12 u_29_13 u_29_14 u_4_17 u_29_15⟩ ⟨rfl, _, _, _, rfl, rfl⟩ ?_
          obtain ⟨x8, hx8, h⟩ := zbd h
          refine rv false 12 1 rfl rfl trivial rfl (m_C_X6_divide_30 l M0 M1 M2 M3 ([x7.1], [x7.2]) M6 M7 M8 M9 M10 M11 M12 M13 x5 Hb_size Hb_digits x8 hx8) ⟨_, _, _, _, rfl, rfl, rfl, by decide +kernel, ⟨Nat.le_of_ble_eq_true rfl, Nat.le_of_ble_eq_true rfl⟩, uGin u_29_12 u_29_13 u_29_14 u_4_17 u_29_15⟩ ⟨rfl, _, _, _, rfl, rfl⟩ ?_
          obtain ⟨g9_0, h⟩ := zgd h
          refine rg false 13 (t := 21) (L2 := [some (2, Int.ofNat 26), some (0, v1), some (0, (v2 + 1)), some (1, x4), none, some (0, x5)]) rfl rfl rfl g9_0 ?_
          refine rmk [true, true, true, false, false, false] (L2 := [some (2, Int.ofNat 26), some (0, v1), some (0, (v2 + 1)), none, none, none]) rfl ?_
          exact ih v1 (v2 + 1) x7.1 x7.2 x8.1 x8.2 h
        · replace h := zif2 c h
          obtain rfl := Option.some.inj h
          exact r0 false 10 rfl rfl rfl rfl trivial
      · replace h := zif2 c h
        obtain rfl := Option.some.inj h
        exact r0 false 14 rfl rfl rfl rfl trivial
  unfold f_X3_reduce at h
  refine ri false 0 (q := Ha_size = 0) (t1 := 10) (t2 := 19) rfl rfl trivial (fun c => ?_) (fun c => ?_)
  · replace h := zif1 c h
    obtain ⟨x1, hx1, h⟩ := zbd h
    refine rv false 1 1 rfl rfl trivial rfl (m_C_X6_become_30 l M0 M1 M2 M3 ([Ha_size], [Ha_digits]) M6 M7 M8 M9 M10 M11 M12 M13 1 Hb_size Hb_digits x1 hx1) ⟨_, _, _, _, rfl, rfl, rfl, by decide +kernel, ⟨Nat.le_of_ble_eq_true rfl, Nat.le_of_ble_eq_true rfl⟩, uGin u_28_8 u_6_12 u_6_13 u_4_17 u_6_14⟩ ⟨rfl, _, _, _, rfl, rfl⟩ ?_
    obtain rfl := Option.some.inj h
    exact r0 false 2 rfl rfl rfl rfl trivial
  · replace h := zif2 c h
    refine rb false 3 (L2 := [some (2, Int.ofNat 26), some (0, p1), some (0, 0), none, none, none]) rfl rfl trivial ?_
    exact LP21 zN p1 0 Ha_size Ha_digits Hb_size Hb_digits h
def bX3_chanceGone : zB := [(0, [(.aload_n 0, 1)], 1, .invokevirtual 32, 3), (4, [(.istore_n 3, 1), (.aload_n 0, 1), (.getfield 16, 3), (.lconst 0, 1)], 10, .invokevirtual 36, 3), (13, [(.aload_n 0, 1), (.getfield 20, 3), (.lconst 1, 1)], 18, .invokevirtual 36, 3), (21, [(.iconst 0, 1), (.istore 4, 2)], 24, .nop, 0), (24, [(.iload 4, 2), (.iload_n 1, 1)], 27, .if_icmp .ge 19, 3), (30, [(.aload_n 0, 1), (.iload_n 3, 1)], 32, .invokevirtual 40, 3), (35, [(.aload_n 0, 1), (.iload_n 3, 1)], 37, .invokevirtual 44, 3), (40, [(.iinc 4 1, 3)], 43, .goto (-19), 3), (46, [(.aload_n 2, 1), (.aload_n 0, 1), (.getfield 16, 3), (.aload_n 0, 1), (.getfield 20, 3)], 55, .invokevirtual 47, 3), (58, [], 58, .return_, 1)]
theorem bX3_chanceGone_ok : zBok cX3_chanceGone 5 bX3_chanceGone = true := by decide +kernel
abbrev wX3_chanceGone : List Cond := Cond.code yX3_chanceGone cX3_chanceGone 5 none :: uU
def rX3_chanceGone : Room := { frames := 3, cells := 0, slots := 0, locals := 73 }
set_option maxRecDepth 20000 in
set_option maxHeartbeats 4000000 in
theorem m_C_X3_chanceGone (l : Launch) (M0 : zM) (M1 : zM) (M2 : zM) (M9 : zM) (M10 : zM) (M11 : zM) (p1 : Int) (H_weights : Nat → Int) (Ha_size : Int) (Ha_digits : Nat → Int) (Hb_size : Int) (Hb_digits : Nat → Int) (Hs_size : Int) (Hs_digits : Nat → Int) (Hp_size : Int) (Hp_digits : Nat → Int) (Hq_size : Int) (Hq_digits : Nat → Int) (Fa_size : Int) (Fa_digits : Nat → Int) (Fb_size : Int) (Fb_digits : Nat → Int) (x : Int × (Nat → Int) × Int × (Nat → Int) × Int × (Nat → Int) × Int × (Nat → Int) × Int × (Nat → Int) × Int × (Nat → Int) × Int × (Nat → Int)) (h : f_X3_chanceGone p1 H_weights Ha_size Ha_digits Hb_size Hb_digits Hs_size Hs_digits Hp_size Hp_digits Hq_size Hq_digits Fa_size Fa_digits Fb_size Fb_digits = some x) : zD l yX3_chanceGone wX3_chanceGone rX3_chanceGone lamC shpC [(2, Int.ofNat 26), (0, p1), (2, Int.ofNat 52)] [M0, M1, M2, ([], [H_weights]), ([Ha_size], [Ha_digits]), ([Hb_size], [Hb_digits]), ([Hs_size], [Hs_digits]), ([Hp_size], [Hp_digits]), ([Hq_size], [Hq_digits]), M9, M10, M11, ([Fa_size], [Fa_digits]), ([Fb_size], [Fb_digits])] (none) [M0, M1, M2, ([], [H_weights]), ([x.1], [x.2.1]), ([x.2.2.1], [x.2.2.2.1]), ([x.2.2.2.2.1], [x.2.2.2.2.2.1]), ([x.2.2.2.2.2.2.1], [x.2.2.2.2.2.2.2.1]), ([x.2.2.2.2.2.2.2.2.1], [x.2.2.2.2.2.2.2.2.2.1]), M9, M10, M11, ([x.2.2.2.2.2.2.2.2.2.2.1], [x.2.2.2.2.2.2.2.2.2.2.2.1]), ([x.2.2.2.2.2.2.2.2.2.2.2.2.1], [x.2.2.2.2.2.2.2.2.2.2.2.2.2])] := by
  refine zD_of (B := bX3_chanceGone) (E := eX3) (by decide) rfl lokC (eX3_ok _) bX3_chanceGone_ok (Or.inl rfl) rfl (fun S R => ?_)
  obtain ⟨rb, rg, ri, rv, rs, r0, r1, r2, r3, rt, rmk⟩ := R
  show S 0 [some (2, Int.ofNat 26), some (0, p1), some (2, Int.ofNat 52), none, none] [] [M0, M1, M2, ([], [H_weights]), ([Ha_size], [Ha_digits]), ([Hb_size], [Hb_digits]), ([Hs_size], [Hs_digits]), ([Hp_size], [Hp_digits]), ([Hq_size], [Hq_digits]), M9, M10, M11, ([Fa_size], [Fa_digits]), ([Fb_size], [Fb_digits])]
  have LP24 : ∀ (n : Nat) (v1 : Int) (v3 : Int) (v4 : Int) (H_weights : Nat → Int) (Ha_size : Int) (Ha_digits : Nat → Int) (Hb_size : Int) (Hb_digits : Nat → Int) (Hs_size : Int) (Hs_digits : Nat → Int) (Hp_size : Int) (Hp_digits : Nat → Int) (Hq_size : Int) (Hq_digits : Nat → Int) (Fa_size : Int) (Fa_digits : Nat → Int) (Fb_size : Int) (Fb_digits : Nat → Int) (y : Int × (Nat → Int) × Int × (Nat → Int) × Int × (Nat → Int) × Int × (Nat → Int) × Int × (Nat → Int)), l_X3_chanceGone_24 n v1 v3 v4 H_weights Ha_size Ha_digits Hb_size Hb_digits Hs_size Hs_digits Hp_size Hp_digits Hq_size Hq_digits = some y → S 46 [some (2, Int.ofNat 26), none, some (2, Int.ofNat 52), none, none] [] [M0, M1, M2, ([], [H_weights]), ([y.1], [y.2.1]), ([y.2.2.1], [y.2.2.2.1]), ([y.2.2.2.2.1], [y.2.2.2.2.2.1]), ([y.2.2.2.2.2.2.1], [y.2.2.2.2.2.2.2.1]), ([y.2.2.2.2.2.2.2.2.1], [y.2.2.2.2.2.2.2.2.2]), M9, M10, M11, ([Fa_size], [Fa_digits]), ([Fb_size], [Fb_digits])] → S 24 [some (2, Int.ofNat 26), some (0, v1), some (2, Int.ofNat 52), some (0, v3), some (0, v4)] [] [M0, M1, M2, ([], [H_weights]), ([Ha_size], [Ha_digits]), ([Hb_size], [Hb_digits]), ([Hs_size], [Hs_digits]), ([Hp_size], [Hp_digits]), ([Hq_size], [Hq_digits]), M9, M10, M11, ([Fa_size], [Fa_digits]), ([Fb_size], [Fb_digits])] := by
    intro n
    induction n with
    | zero =>
      intro v1 v3 v4 H_weights Ha_size Ha_digits Hb_size Hb_digits Hs_size Hs_digits Hp_size Hp_digits Hq_size Hq_digits Fa_size Fa_digits Fb_size Fb_digits y h k
      rw [l_X3_chanceGone_24] at h
      cases h
    | succ n ih =>
      intro v1 v3 v4 H_weights Ha_size Ha_digits Hb_size Hb_digits Hs_size Hs_digits Hp_size Hp_digits Hq_size Hq_digits Fa_size Fa_digits Fb_size Fb_digits y h k
      rw [l_X3_chanceGone_24] at h
      refine ri false 4 (q := v4 < v1) (t1 := 30) (t2 := 46) rfl rfl trivial (fun c => ?_) (fun c => ?_)
      · replace h := zif1 c h
        obtain ⟨x4, hx4, h⟩ := zbd h
        refine rv false 5 1 rfl rfl trivial rfl (m_C_X3_goRound l M0 M1 M2 M9 M10 M11 ([Fa_size], [Fa_digits]) ([Fb_size], [Fb_digits]) v3 H_weights Ha_size Ha_digits Hb_size Hb_digits Hs_size Hs_digits Hp_size Hp_digits Hq_size Hq_digits x4 hx4) ⟨_, _, _, _, rfl, rfl, rfl, by decide +kernel, ⟨Nat.le_of_ble_eq_true rfl, Nat.le_of_ble_eq_true rfl⟩, uGin u_28_9 u_28_10 u_28_11 u_2_1 u_28_12⟩ ⟨rfl, _, _, _, rfl, rfl⟩ ?_
        obtain ⟨x5, hx5, h⟩ := zbd h
        refine rv false 6 1 rfl rfl trivial rfl (m_C_X3_reduce l M0 M1 M2 ([], [H_weights]) ([x4.2.2.2.2.1], [x4.2.2.2.2.2.1]) ([x4.2.2.2.2.2.2.1], [x4.2.2.2.2.2.2.2.1]) ([x4.2.2.2.2.2.2.2.2.1], [x4.2.2.2.2.2.2.2.2.2]) M9 M10 M11 ([Fa_size], [Fa_digits]) ([Fb_size], [Fb_digits]) v3 x4.1 x4.2.1 x4.2.2.1 x4.2.2.2.1 x5 hx5) ⟨_, _, _, _, rfl, rfl, rfl, by decide +kernel, ⟨Nat.le_of_ble_eq_true rfl, Nat.le_of_ble_eq_true rfl⟩, uGin u_29_1 u_29_2 u_29_3 u_2_1 u_29_4⟩ ⟨rfl, _, _, _, rfl, rfl⟩ ?_
        obtain ⟨g6_0, h⟩ := zgd h
        refine rg false 7 (t := 24) (L2 := [some (2, Int.ofNat 26), some (0, v1), some (2, Int.ofNat 52), some (0, v3), some (0, (v4 + 1))]) rfl rfl rfl g6_0 ?_
        exact ih v1 v3 (v4 + 1) H_weights x5.1 x5.2.1 x5.2.2.1 x5.2.2.2 x4.2.2.2.2.1 x4.2.2.2.2.2.1 x4.2.2.2.2.2.2.1 x4.2.2.2.2.2.2.2.1 x4.2.2.2.2.2.2.2.2.1 x4.2.2.2.2.2.2.2.2.2 Fa_size Fa_digits Fb_size Fb_digits y h k
      · replace h := zif2 c h
        refine rmk [true, false, true, false, false] (L2 := [some (2, Int.ofNat 26), none, some (2, Int.ofNat 52), none, none]) rfl ?_
        obtain rfl := Option.some.inj h
        exact k
  unfold f_X3_chanceGone at h
  obtain ⟨x1, hx1, h⟩ := zbd h
  refine rv false 0 0 rfl rfl trivial rfl (m_C_X3_sumOfWeights l M0 M1 M2 ([Ha_size], [Ha_digits]) ([Hb_size], [Hb_digits]) ([Hs_size], [Hs_digits]) ([Hp_size], [Hp_digits]) ([Hq_size], [Hq_digits]) M9 M10 M11 ([Fa_size], [Fa_digits]) ([Fb_size], [Fb_digits]) H_weights x1 hx1) ⟨_, _, _, _, rfl, rfl, rfl, by decide +kernel, ⟨Nat.le_of_ble_eq_true rfl, Nat.le_of_ble_eq_true rfl⟩, uGin u_28_7 u_25_4 u_25_5 u_2_1 u_25_6⟩ ⟨rfl, _, _, _, rfl, rfl⟩ ?_
  obtain ⟨x2, hx2, h⟩ := zbd h
  refine rv false 1 1 (L2 := [some (2, Int.ofNat 26), some (0, p1), some (2, Int.ofNat 52), some (0, x1), none]) rfl rfl trivial rfl (m_C_X6_become_28 l M0 M1 M2 ([], [H_weights]) ([Hb_size], [Hb_digits]) ([Hs_size], [Hs_digits]) ([Hp_size], [Hp_digits]) ([Hq_size], [Hq_digits]) M9 M10 M11 ([Fa_size], [Fa_digits]) ([Fb_size], [Fb_digits]) 0 Ha_size Ha_digits x2 hx2) ⟨_, _, _, _, rfl, rfl, rfl, by decide +kernel, ⟨Nat.le_of_ble_eq_true rfl, Nat.le_of_ble_eq_true rfl⟩, uGin u_28_8 u_6_12 u_6_13 u_4_17 u_6_14⟩ ⟨rfl, _, _, _, rfl, rfl⟩ ?_
  obtain ⟨x3, hx3, h⟩ := zbd h
  refine rv false 2 1 rfl rfl trivial rfl (m_C_X6_become_30 l M0 M1 M2 ([], [H_weights]) ([x2.1], [x2.2]) ([Hs_size], [Hs_digits]) ([Hp_size], [Hp_digits]) ([Hq_size], [Hq_digits]) M9 M10 M11 ([Fa_size], [Fa_digits]) ([Fb_size], [Fb_digits]) 1 Hb_size Hb_digits x3 hx3) ⟨_, _, _, _, rfl, rfl, rfl, by decide +kernel, ⟨Nat.le_of_ble_eq_true rfl, Nat.le_of_ble_eq_true rfl⟩, uGin u_28_8 u_6_12 u_6_13 u_4_17 u_6_14⟩ ⟨rfl, _, _, _, rfl, rfl⟩ ?_
  refine rb false 3 (L2 := [some (2, Int.ofNat 26), some (0, p1), some (2, Int.ofNat 52), some (0, x1), some (0, 0)]) rfl rfl trivial ?_
  obtain ⟨x7, hx7, h⟩ := zbd h
  refine LP24 zN p1 x1 0 H_weights x2.1 x2.2 x3.1 x3.2 Hs_size Hs_digits Hp_size Hp_digits Hq_size Hq_digits Fa_size Fa_digits Fb_size Fb_digits x7 hx7 ?_
  obtain ⟨x8, hx8, h⟩ := zbd h
  refine rv false 8 2 rfl rfl trivial rfl (m_C_X2_take l M0 M1 M2 ([], [H_weights]) ([x7.2.2.2.2.1], [x7.2.2.2.2.2.1]) ([x7.2.2.2.2.2.2.1], [x7.2.2.2.2.2.2.2.1]) ([x7.2.2.2.2.2.2.2.2.1], [x7.2.2.2.2.2.2.2.2.2]) M9 M10 M11 x7.1 x7.2.1 x7.2.2.1 x7.2.2.2.1 Fa_size Fa_digits Fb_size Fb_digits x8 hx8) ⟨_, _, _, _, rfl, rfl, rfl, by decide +kernel, ⟨Nat.le_of_ble_eq_true rfl, Nat.le_of_ble_eq_true rfl⟩, uGin u_29_16 u_29_17 u_29_18 u_2_17 u_29_19⟩ ⟨rfl, _, _, _, rfl, rfl⟩ ?_
  obtain rfl := Option.some.inj h
  exact r0 false 9 rfl rfl rfl rfl trivial
def bX3_foldInto : zB := [(0, [(.lload_n 1, 1), (.lstore_n 3, 1), (.iconst 0, 1), (.istore 5, 2)], 5, .nop, 0), (5, [(.iload 5, 2), (.bipush 9, 2)], 9, .if_icmp .gt 24, 3), (12, [(.ldc2_w 78, 3), (.lload_n 3, 1), (.lmul, 1), (.aload_n 0, 1), (.getfield 9, 3), (.iload 5, 2), (.iaload, 1), (.i2l, 1), (.ladd, 1), (.lstore_n 3, 1)], 27, .nop, 0), (27, [(.iinc 5 1, 3)], 30, .goto (-25), 3), (33, [(.lload_n 3, 1)], 34, .lreturn, 1)]
theorem bX3_foldInto_ok : zBok cX3_foldInto 6 bX3_foldInto = true := by decide +kernel
abbrev wX3_foldInto : List Cond := Cond.code yX3_foldInto cX3_foldInto 6 (some .long) :: uU
def rX3_foldInto : Room := { frames := 0, cells := 0, slots := 0, locals := 0 }
set_option maxRecDepth 20000 in
set_option maxHeartbeats 4000000 in
theorem m_C_X3_foldInto (l : Launch) (M0 : zM) (M1 : zM) (M2 : zM) (M4 : zM) (M5 : zM) (M6 : zM) (M7 : zM) (M8 : zM) (M9 : zM) (M10 : zM) (M11 : zM) (M12 : zM) (M13 : zM) (p1 : Int) (H_weights : Nat → Int) (x : Int) (h : f_X3_foldInto p1 H_weights = some x) : zD l yX3_foldInto wX3_foldInto rX3_foldInto lamC shpC [(2, Int.ofNat 26), (1, p1)] [M0, M1, M2, ([], [H_weights]), M4, M5, M6, M7, M8, M9, M10, M11, M12, M13] (some (1, x)) [M0, M1, M2, ([], [H_weights]), M4, M5, M6, M7, M8, M9, M10, M11, M12, M13] := by
  refine zD_of (B := bX3_foldInto) (E := eX3) (by decide) rfl lokC (eX3_ok _) bX3_foldInto_ok (Or.inl rfl) rfl (fun S R => ?_)
  obtain ⟨rb, rg, ri, rv, rs, r0, r1, r2, r3, rt, rmk⟩ := R
  show S 0 [some (2, Int.ofNat 26), some (1, p1), none, none, none, none] [] [M0, M1, M2, ([], [H_weights]), M4, M5, M6, M7, M8, M9, M10, M11, M12, M13]
  have LP5 : ∀ (n : Nat) (v3 : Int) (v5 : Int) (H_weights : Nat → Int) (y : Int), l_X3_foldInto_5 n v3 v5 H_weights = some y → S 33 [none, none, none, some (1, y), none, none] [] [M0, M1, M2, ([], [H_weights]), M4, M5, M6, M7, M8, M9, M10, M11, M12, M13] → S 5 [some (2, Int.ofNat 26), none, none, some (1, v3), none, some (0, v5)] [] [M0, M1, M2, ([], [H_weights]), M4, M5, M6, M7, M8, M9, M10, M11, M12, M13] := by
    intro n
    induction n with
    | zero =>
      intro v3 v5 H_weights y h k
      rw [l_X3_foldInto_5] at h
      cases h
    | succ n ih =>
      intro v3 v5 H_weights y h k
      rw [l_X3_foldInto_5] at h
      refine ri true 1 (q := (9 : Int) < v5) (t1 := 33) (t2 := 12) rfl rfl trivial (fun c => ?_) (fun c => ?_)
      · replace h := zif1 c h
        refine rmk [false, false, false, true, false, false] (L2 := [none, none, none, some (1, v3), none, none]) rfl ?_
        obtain rfl := Option.some.inj h
        exact k
      · replace h := zif2 c h
        obtain ⟨g1_0, h⟩ := zgd h
        refine rb true 2 (L2 := [some (2, Int.ofNat 26), none, none, some (1, (zwl ((31 * v3) + (H_weights (Int.toNat v5))))), none, some (0, v5)]) rfl rfl g1_0 ?_
        obtain ⟨g2_0, h⟩ := zgd h
        refine rg true 3 (t := 5) (L2 := [some (2, Int.ofNat 26), none, none, some (1, (zwl ((31 * v3) + (H_weights (Int.toNat v5))))), none, some (0, (v5 + 1))]) rfl rfl rfl g2_0 ?_
        exact ih (zwl ((31 * v3) + (H_weights (Int.toNat v5)))) (v5 + 1) H_weights y h k
  unfold f_X3_foldInto at h
  refine rb true 0 (L2 := [some (2, Int.ofNat 26), some (1, p1), none, some (1, p1), none, some (0, 0)]) rfl rfl trivial ?_
  refine rmk [true, false, false, true, false, true] (L2 := [some (2, Int.ofNat 26), none, none, some (1, p1), none, some (0, 0)]) rfl ?_
  obtain ⟨x3, hx3, h⟩ := zbd h
  refine LP5 zN p1 0 H_weights x3 hx3 ?_
  obtain rfl := Option.some.inj h
  exact r3 true 4 rfl rfl rfl rfl rfl rfl trivial
def bX5_isName : zB := [(0, [(.iload_n 0, 1), (.iconst 1, 1)], 2, .if_icmp .lt 13, 3), (5, [(.iload_n 0, 1), (.bipush 6, 2)], 8, .if_icmp .gt 7, 3), (11, [(.iload_n 1, 1)], 12, .ifCond .ge 5, 3), (15, [(.iconst 0, 1)], 16, .ireturn, 1), (17, [(.iload_n 1, 1), (.istore_n 2, 1), (.iconst 0, 1), (.istore_n 3, 1)], 21, .nop, 0), (21, [(.iload_n 3, 1), (.iload_n 0, 1)], 23, .if_icmp .ge 23, 3), (26, [(.iload_n 2, 1), (.bipush 27, 2), (.irem, 1)], 30, .ifCond .ne 5, 3), (33, [(.iconst 0, 1)], 34, .ireturn, 1), (35, [(.iload_n 2, 1), (.bipush 27, 2), (.idiv, 1), (.istore_n 2, 1), (.iinc 3 1, 3)], 43, .goto (-22), 3), (46, [(.iload_n 2, 1)], 47, .ifCond .ne 7, 3), (50, [(.iconst 1, 1)], 51, .goto 4, 3), (54, [(.iconst 0, 1)], 55, .nop, 0), (55, [], 55, .ireturn, 1)]
theorem bX5_isName_ok : zBok cX5_isName 4 bX5_isName = true := by decide +kernel
abbrev wX5_isName : List Cond := Cond.code yX5_isName cX5_isName 4 (some .boolean) :: uU
def rX5_isName : Room := { frames := 0, cells := 0, slots := 0, locals := 0 }
set_option maxRecDepth 20000 in
set_option maxHeartbeats 4000000 in
theorem m_C_X5_isName (l : Launch) (M0 : zM) (M1 : zM) (M2 : zM) (M3 : zM) (M4 : zM) (M5 : zM) (M6 : zM) (M7 : zM) (M8 : zM) (M9 : zM) (M10 : zM) (M11 : zM) (M12 : zM) (M13 : zM) (p0 : Int) (p1 : Int) (x : Int) (h : f_X5_isName p0 p1 = some x) : zD l yX5_isName wX5_isName rX5_isName lamC shpC [(0, p0), (0, p1)] [M0, M1, M2, M3, M4, M5, M6, M7, M8, M9, M10, M11, M12, M13] (some (0, x)) [M0, M1, M2, M3, M4, M5, M6, M7, M8, M9, M10, M11, M12, M13] := by
  refine zD_of (B := bX5_isName) (E := eX5n) (by decide) rfl lokC (eX5n_ok _) bX5_isName_ok (Or.inl rfl) rfl (fun S R => ?_)
  obtain ⟨rb, rg, ri, rv, rs, r0, r1, r2, r3, rt, rmk⟩ := R
  show S 0 [some (0, p0), some (0, p1), none, none] [] [M0, M1, M2, M3, M4, M5, M6, M7, M8, M9, M10, M11, M12, M13]
  have LP21 : ∀ (n : Nat) (v0 : Int) (v2 : Int) (v3 : Int), l_X5_isName_21 n v0 v2 v3 = some x → S 21 [some (0, v0), none, some (0, v2), some (0, v3)] [] [M0, M1, M2, M3, M4, M5, M6, M7, M8, M9, M10, M11, M12, M13] := by
    intro n
    induction n with
    | zero =>
      intro v0 v2 v3 h
      rw [l_X5_isName_21] at h
      cases h
    | succ n ih =>
      intro v0 v2 v3 h
      rw [l_X5_isName_21] at h
      refine ri false 5 (q := v3 < v0) (t1 := 26) (t2 := 46) rfl rfl trivial (fun c => ?_) (fun c => ?_)
      · replace h := zif1 c h
        refine ri false 6 (q := (Int.tmod v2 27) = 0) (t1 := 33) (t2 := 35) rfl rfl (show (27 : Int) ≠ 0 by decide) (fun c => ?_) (fun c => ?_)
        · replace h := zif1 c h
          obtain rfl := Option.some.inj h
          exact r2 false 7 rfl rfl rfl rfl trivial (by decide)
        · replace h := zif2 c h
          obtain ⟨⟨g1_0, g1_1⟩, h⟩ := zgd h
          refine rg false 8 (t := 21) (L2 := [some (0, v0), none, some (0, (Int.tdiv v2 27)), some (0, (v3 + 1))]) rfl rfl rfl (And.intro (show (27 : Int) ≠ 0 by decide) (And.intro g1_0 g1_1)) ?_
          exact ih v0 (Int.tdiv v2 27) (v3 + 1) h
      · replace h := zif2 c h
        refine ri false 9 (q := v2 = 0) (t1 := 50) (t2 := 54) rfl rfl trivial (fun c => ?_) (fun c => ?_)
        · replace h := zif1 c h
          refine rg false 10 (t := 55) (st2 := [(0, 1)]) rfl rfl rfl trivial ?_
          obtain rfl := Option.some.inj h
          exact r2 false 12 rfl rfl rfl rfl trivial (by decide)
        · replace h := zif2 c h
          refine rb false 11 (st2 := [(0, 0)]) rfl rfl trivial ?_
          obtain rfl := Option.some.inj h
          exact r2 false 12 rfl rfl rfl rfl trivial (by decide)
  unfold f_X5_isName at h
  refine ri false 0 (q := p0 < 1) (t1 := 15) (t2 := 5) rfl rfl trivial (fun c => ?_) (fun c => ?_)
  · replace h := zif1 c h
    obtain rfl := Option.some.inj h
    exact r2 false 3 rfl rfl rfl rfl trivial (by decide)
  · replace h := zif2 c h
    refine ri false 1 (q := (6 : Int) < p0) (t1 := 15) (t2 := 11) rfl rfl trivial (fun c => ?_) (fun c => ?_)
    · replace h := zif1 c h
      obtain rfl := Option.some.inj h
      exact r2 false 3 rfl rfl rfl rfl trivial (by decide)
    · replace h := zif2 c h
      refine ri false 2 (q := p1 < 0) (t1 := 15) (t2 := 17) rfl rfl trivial (fun c => ?_) (fun c => ?_)
      · replace h := zif1 c h
        obtain rfl := Option.some.inj h
        exact r2 false 3 rfl rfl rfl rfl trivial (by decide)
      · replace h := zif2 c h
        refine rb false 4 (L2 := [some (0, p0), some (0, p1), some (0, p1), some (0, 0)]) rfl rfl trivial ?_
        refine rmk [true, false, true, true] (L2 := [some (0, p0), none, some (0, p1), some (0, 0)]) rfl ?_
        exact LP21 zN p0 p1 0 h
def bX5_compare : zB := [(0, [(.iload_n 1, 1), (.bipush 6, 2), (.imul, 1), (.istore_n 3, 1), (.iload_n 2, 1), (.bipush 6, 2), (.imul, 1), (.istore 4, 2), (.iconst 0, 1), (.istore 5, 2)], 14, .nop, 0), (14, [(.iload 5, 2), (.aload_n 0, 1), (.getfield 11, 3), (.iload_n 2, 1), (.iaload, 1)], 22, .if_icmp .gt 18, 3), (25, [(.aload_n 0, 1), (.getfield 30, 3), (.iload 5, 2), (.iload 5, 2), (.iastore, 1), (.iinc 5 1, 3)], 37, .goto (-23), 3), (40, [(.iconst 1, 1), (.istore 5, 2)], 43, .nop, 0), (43, [(.iload 5, 2), (.aload_n 0, 1), (.getfield 11, 3), (.iload_n 1, 1), (.iaload, 1)], 51, .if_icmp .gt 151, 3), (54, [(.iconst 0, 1), (.istore 6, 2)], 57, .nop, 0), (57, [(.iload 6, 2), (.aload_n 0, 1), (.getfield 11, 3), (.iload_n 2, 1), (.iaload, 1)], 65, .if_icmp .gt 23, 3), (68, [(.aload_n 0, 1), (.getfield 27, 3), (.iload 6, 2), (.aload_n 0, 1), (.getfield 30, 3), (.iload 6, 2), (.iaload, 1), (.iastore, 1), (.iinc 6 1, 3)], 85, .goto (-28), 3), (88, [(.aload_n 0, 1), (.getfield 30, 3), (.iconst 0, 1), (.iload 5, 2), (.iastore, 1), (.iconst 1, 1), (.istore 6, 2)], 99, .nop, 0), (99, [(.iload 6, 2), (.aload_n 0, 1), (.getfield 11, 3), (.iload_n 2, 1), (.iaload, 1)], 107, .if_icmp .gt 89, 3), (110, [(.aload_n 0, 1), (.getfield 18, 3), (.iload_n 3, 1), (.iload 5, 2), (.iadd, 1), (.iconst 1, 1), (.isub, 1), (.iaload, 1), (.aload_n 0, 1), (.getfield 18, 3), (.iload 4, 2), (.iload 6, 2), (.iadd, 1), (.iconst 1, 1), (.isub, 1), (.iaload, 1)], 133, .if_icmp .ne 7, 3), (136, [(.iconst 0, 1)], 137, .goto 4, 3), (140, [(.iconst 1, 1)], 141, .nop, 0), (141, [(.istore 7, 2), (.aload_n 0, 1), (.getfield 27, 3), (.iload 6, 2), (.iaload, 1), (.aload_n 0, 1), (.getfield 30, 3), (.iload 6, 2), (.iconst 1, 1), (.isub, 1), (.iaload, 1), (.invokestatic 41, 3), (.iconst 1, 1), (.iadd, 1), (.istore 8, 2)], 166, .nop, 0), (166, [(.aload_n 0, 1), (.getfield 30, 3), (.iload 6, 2), (.iload 8, 2), (.aload_n 0, 1), (.getfield 27, 3), (.iload 6, 2), (.iconst 1, 1), (.isub, 1), (.iaload, 1), (.iload 7, 2), (.iadd, 1), (.invokestatic 41, 3), (.iastore, 1)], 190, .nop, 0), (190, [(.iinc 6 1, 3)], 193, .goto (-94), 3), (196, [(.iinc 5 1, 3)], 199, .goto (-156), 3), (202, [(.aload_n 0, 1), (.getfield 30, 3), (.aload_n 0, 1), (.getfield 11, 3), (.iload_n 2, 1), (.iaload, 1), (.iaload, 1)], 213, .ireturn, 1)]
theorem bX5_compare_ok : zBok cX5_compare 9 bX5_compare = true := by decide +kernel
abbrev wX5_compare : List Cond := Cond.code yX5_compare cX5_compare 9 (some .int) :: uU
def rX5_compare : Room := { frames := 1, cells := 0, slots := 0, locals := 21 }
set_option maxRecDepth 20000 in
set_option maxHeartbeats 4000000 in
theorem m_C_X5_compare (l : Launch) (M0 : zM) (M1 : zM) (M3 : zM) (M4 : zM) (M5 : zM) (M6 : zM) (M7 : zM) (M8 : zM) (M9 : zM) (M10 : zM) (M11 : zM) (M12 : zM) (M13 : zM) (p1 : Int) (p2 : Int) (N_count : Int) (N_lengths : Nat → Int) (N_told : Nat → Int) (N_digits : Nat → Int) (N_slipped : Nat → Int) (N_weights : Nat → Int) (N_ahead : Nat → Int) (N_row : Nat → Int) (x : Int × (Nat → Int) × (Nat → Int)) (h : f_X5_compare p1 p2 N_lengths N_digits N_ahead N_row = some x) : zD l yX5_compare wX5_compare rX5_compare lamC shpC [(2, Int.ofNat 18), (0, p1), (0, p2)] [M0, M1, ([N_count], [N_lengths, N_told, N_digits, N_slipped, N_weights, N_ahead, N_row]), M3, M4, M5, M6, M7, M8, M9, M10, M11, M12, M13] (some (0, x.1)) [M0, M1, ([N_count], [N_lengths, N_told, N_digits, N_slipped, N_weights, x.2.1, x.2.2]), M3, M4, M5, M6, M7, M8, M9, M10, M11, M12, M13] := by
  refine zD_of (B := bX5_compare) (E := eX5) (by decide) rfl lokC (eX5_ok _) bX5_compare_ok (Or.inr ⟨Nat.le_of_ble_eq_true rfl, Nat.le_of_ble_eq_true rfl⟩) rfl (fun S R => ?_)
  obtain ⟨rb, rg, ri, rv, rs, r0, r1, r2, r3, rt, rmk⟩ := R
  show S 0 [some (2, Int.ofNat 18), some (0, p1), some (0, p2), none, none, none, none, none, none] [] [M0, M1, ([N_count], [N_lengths, N_told, N_digits, N_slipped, N_weights, N_ahead, N_row]), M3, M4, M5, M6, M7, M8, M9, M10, M11, M12, M13]
  have LP14 : ∀ (n : Nat) (v1 : Int) (v2 : Int) (v3 : Int) (v4 : Int) (v5 : Int) (N_count : Int) (N_lengths : Nat → Int) (N_told : Nat → Int) (N_digits : Nat → Int) (N_slipped : Nat → Int) (N_weights : Nat → Int) (N_ahead : Nat → Int) (N_row : Nat → Int) (y : Nat → Int), l_X5_compare_14 n v1 v2 v3 v4 v5 N_lengths N_row = some y → S 40 [some (2, Int.ofNat 18), some (0, v1), some (0, v2), some (0, v3), some (0, v4), none, none, none, none] [] [M0, M1, ([N_count], [N_lengths, N_told, N_digits, N_slipped, N_weights, N_ahead, y]), M3, M4, M5, M6, M7, M8, M9, M10, M11, M12, M13] → S 14 [some (2, Int.ofNat 18), some (0, v1), some (0, v2), some (0, v3), some (0, v4), some (0, v5), none, none, none] [] [M0, M1, ([N_count], [N_lengths, N_told, N_digits, N_slipped, N_weights, N_ahead, N_row]), M3, M4, M5, M6, M7, M8, M9, M10, M11, M12, M13] := by
    intro n
    induction n with
    | zero =>
      intro v1 v2 v3 v4 v5 N_count N_lengths N_told N_digits N_slipped N_weights N_ahead N_row y h k
      rw [l_X5_compare_14] at h
      cases h
    | succ n ih =>
      intro v1 v2 v3 v4 v5 N_count N_lengths N_told N_digits N_slipped N_weights N_ahead N_row y h k
      rw [l_X5_compare_14] at h
      obtain ⟨g2_0, h⟩ := zgd h
      refine ri false 1 (q := (N_lengths (Int.toNat v2)) < v5) (t1 := 40) (t2 := 25) rfl rfl g2_0 (fun c => ?_) (fun c => ?_)
      · replace h := zif1 c h
        refine rmk [true, true, true, true, true, false, false, false, false] (L2 := [some (2, Int.ofNat 18), some (0, v1), some (0, v2), some (0, v3), some (0, v4), none, none, none, none]) rfl ?_
        obtain rfl := Option.some.inj h
        exact k
      · replace h := zif2 c h
        obtain ⟨⟨g3_0, g3_1⟩, h⟩ := zgd h
        refine rg false 2 (t := 14) (L2 := [some (2, Int.ofNat 18), some (0, v1), some (0, v2), some (0, v3), some (0, v4), some (0, (v5 + 1)), none, none, none]) (σ2 := [M0, M1, ([N_count], [N_lengths, N_told, N_digits, N_slipped, N_weights, N_ahead, (zu N_row (Int.toNat v5) v5)]), M3, M4, M5, M6, M7, M8, M9, M10, M11, M12, M13]) rfl rfl rfl (And.intro g3_0 g3_1) ?_
        exact ih v1 v2 v3 v4 (v5 + 1) N_count N_lengths N_told N_digits N_slipped N_weights N_ahead (zu N_row (Int.toNat v5) v5) y h k
  have LP57 : ∀ (n : Nat) (v1 : Int) (v2 : Int) (v3 : Int) (v4 : Int) (v5 : Int) (v6 : Int) (N_count : Int) (N_lengths : Nat → Int) (N_told : Nat → Int) (N_digits : Nat → Int) (N_slipped : Nat → Int) (N_weights : Nat → Int) (N_ahead : Nat → Int) (N_row : Nat → Int) (y : Nat → Int), l_X5_compare_57 n v1 v2 v3 v4 v5 v6 N_lengths N_ahead N_row = some y → S 88 [some (2, Int.ofNat 18), some (0, v1), some (0, v2), some (0, v3), some (0, v4), some (0, v5), none, none, none] [] [M0, M1, ([N_count], [N_lengths, N_told, N_digits, N_slipped, N_weights, y, N_row]), M3, M4, M5, M6, M7, M8, M9, M10, M11, M12, M13] → S 57 [some (2, Int.ofNat 18), some (0, v1), some (0, v2), some (0, v3), some (0, v4), some (0, v5), some (0, v6), none, none] [] [M0, M1, ([N_count], [N_lengths, N_told, N_digits, N_slipped, N_weights, N_ahead, N_row]), M3, M4, M5, M6, M7, M8, M9, M10, M11, M12, M13] := by
    intro n
    induction n with
    | zero =>
      intro v1 v2 v3 v4 v5 v6 N_count N_lengths N_told N_digits N_slipped N_weights N_ahead N_row y h k
      rw [l_X5_compare_57] at h
      cases h
    | succ n ih =>
      intro v1 v2 v3 v4 v5 v6 N_count N_lengths N_told N_digits N_slipped N_weights N_ahead N_row y h k
      rw [l_X5_compare_57] at h
      obtain ⟨g6_0, h⟩ := zgd h
      refine ri false 6 (q := (N_lengths (Int.toNat v2)) < v6) (t1 := 88) (t2 := 68) rfl rfl g6_0 (fun c => ?_) (fun c => ?_)
      · replace h := zif1 c h
        refine rmk [true, true, true, true, true, true, false, false, false] (L2 := [some (2, Int.ofNat 18), some (0, v1), some (0, v2), some (0, v3), some (0, v4), some (0, v5), none, none, none]) rfl ?_
        obtain rfl := Option.some.inj h
        exact k
      · replace h := zif2 c h
        obtain ⟨⟨g7_0, g7_1, g7_2⟩, h⟩ := zgd h
        refine rg false 7 (t := 57) (L2 := [some (2, Int.ofNat 18), some (0, v1), some (0, v2), some (0, v3), some (0, v4), some (0, v5), some (0, (v6 + 1)), none, none]) (σ2 := [M0, M1, ([N_count], [N_lengths, N_told, N_digits, N_slipped, N_weights, (zu N_ahead (Int.toNat v6) (N_row (Int.toNat v6))), N_row]), M3, M4, M5, M6, M7, M8, M9, M10, M11, M12, M13]) rfl rfl rfl (And.intro g7_0 (And.intro g7_1 g7_2)) ?_
        exact ih v1 v2 v3 v4 v5 (v6 + 1) N_count N_lengths N_told N_digits N_slipped N_weights (zu N_ahead (Int.toNat v6) (N_row (Int.toNat v6))) N_row y h k
  have LP99 : ∀ (n : Nat) (v1 : Int) (v2 : Int) (v3 : Int) (v4 : Int) (v5 : Int) (v6 : Int) (N_count : Int) (N_lengths : Nat → Int) (N_told : Nat → Int) (N_digits : Nat → Int) (N_slipped : Nat → Int) (N_weights : Nat → Int) (N_ahead : Nat → Int) (N_row : Nat → Int) (y : Nat → Int), l_X5_compare_99 n v1 v2 v3 v4 v5 v6 N_lengths N_digits N_ahead N_row = some y → S 196 [some (2, Int.ofNat 18), some (0, v1), some (0, v2), some (0, v3), some (0, v4), some (0, v5), none, none, none] [] [M0, M1, ([N_count], [N_lengths, N_told, N_digits, N_slipped, N_weights, N_ahead, y]), M3, M4, M5, M6, M7, M8, M9, M10, M11, M12, M13] → S 99 [some (2, Int.ofNat 18), some (0, v1), some (0, v2), some (0, v3), some (0, v4), some (0, v5), some (0, v6), none, none] [] [M0, M1, ([N_count], [N_lengths, N_told, N_digits, N_slipped, N_weights, N_ahead, N_row]), M3, M4, M5, M6, M7, M8, M9, M10, M11, M12, M13] := by
    intro n
    induction n with
    | zero =>
      intro v1 v2 v3 v4 v5 v6 N_count N_lengths N_told N_digits N_slipped N_weights N_ahead N_row y h k
      rw [l_X5_compare_99] at h
      cases h
    | succ n ih =>
      intro v1 v2 v3 v4 v5 v6 N_count N_lengths N_told N_digits N_slipped N_weights N_ahead N_row y h k
      rw [l_X5_compare_99] at h
      obtain ⟨g9_0, h⟩ := zgd h
      refine ri false 9 (q := (N_lengths (Int.toNat v2)) < v6) (t1 := 196) (t2 := 110) rfl rfl g9_0 (fun c => ?_) (fun c => ?_)
      · replace h := zif1 c h
        refine rmk [true, true, true, true, true, true, false, false, false] (L2 := [some (2, Int.ofNat 18), some (0, v1), some (0, v2), some (0, v3), some (0, v4), some (0, v5), none, none, none]) rfl ?_
        obtain rfl := Option.some.inj h
        exact k
      · replace h := zif2 c h
        obtain ⟨⟨g10_0, g10_1⟩, h⟩ := zgd h
        refine ri false 10 (q := (N_digits (Int.toNat ((v3 + v5) - 1))) = (N_digits (Int.toNat ((v4 + v6) - 1)))) (t1 := 136) (t2 := 140) rfl rfl (And.intro g10_0 g10_1) (fun c => ?_) (fun c => ?_)
        · replace h := zif1 c h
          refine rg false 11 (t := 141) (st2 := [(0, 0)]) rfl rfl rfl trivial ?_
          obtain ⟨⟨g11_0, g11_1, g11_2⟩, h⟩ := zgd h
          refine rb false 13 (L2 := [some (2, Int.ofNat 18), some (0, v1), some (0, v2), some (0, v3), some (0, v4), some (0, v5), some (0, v6), some (0, 0), some (0, ((min (N_ahead (Int.toNat v6)) (N_row (Int.toNat (v6 - 1)))) + 1))]) rfl rfl (And.intro g11_0 (And.intro g11_1 g11_2)) ?_
          obtain ⟨⟨g12_0, g12_1, g12_2⟩, h⟩ := zgd h
          refine rb false 14 (σ2 := [M0, M1, ([N_count], [N_lengths, N_told, N_digits, N_slipped, N_weights, N_ahead, (zu N_row (Int.toNat v6) (min ((min (N_ahead (Int.toNat v6)) (N_row (Int.toNat (v6 - 1)))) + 1) ((N_ahead (Int.toNat (v6 - 1))) + 0)))]), M3, M4, M5, M6, M7, M8, M9, M10, M11, M12, M13]) rfl rfl (And.intro g12_0 (And.intro g12_1 g12_2)) ?_
          obtain ⟨g13_0, h⟩ := zgd h
          refine rg false 15 (t := 99) (L2 := [some (2, Int.ofNat 18), some (0, v1), some (0, v2), some (0, v3), some (0, v4), some (0, v5), some (0, (v6 + 1)), some (0, 0), some (0, ((min (N_ahead (Int.toNat v6)) (N_row (Int.toNat (v6 - 1)))) + 1))]) rfl rfl rfl g13_0 ?_
          refine rmk [true, true, true, true, true, true, true, false, false] (L2 := [some (2, Int.ofNat 18), some (0, v1), some (0, v2), some (0, v3), some (0, v4), some (0, v5), some (0, (v6 + 1)), none, none]) rfl ?_
          exact ih v1 v2 v3 v4 v5 (v6 + 1) N_count N_lengths N_told N_digits N_slipped N_weights N_ahead (zu N_row (Int.toNat v6) (min ((min (N_ahead (Int.toNat v6)) (N_row (Int.toNat (v6 - 1)))) + 1) ((N_ahead (Int.toNat (v6 - 1))) + 0))) y h k
        · replace h := zif2 c h
          refine rb false 12 (st2 := [(0, 1)]) rfl rfl trivial ?_
          obtain ⟨⟨g14_0, g14_1, g14_2⟩, h⟩ := zgd h
          refine rb false 13 (L2 := [some (2, Int.ofNat 18), some (0, v1), some (0, v2), some (0, v3), some (0, v4), some (0, v5), some (0, v6), some (0, 1), some (0, ((min (N_ahead (Int.toNat v6)) (N_row (Int.toNat (v6 - 1)))) + 1))]) rfl rfl (And.intro g14_0 (And.intro g14_1 g14_2)) ?_
          obtain ⟨⟨g15_0, g15_1, g15_2⟩, h⟩ := zgd h
          refine rb false 14 (σ2 := [M0, M1, ([N_count], [N_lengths, N_told, N_digits, N_slipped, N_weights, N_ahead, (zu N_row (Int.toNat v6) (min ((min (N_ahead (Int.toNat v6)) (N_row (Int.toNat (v6 - 1)))) + 1) ((N_ahead (Int.toNat (v6 - 1))) + 1)))]), M3, M4, M5, M6, M7, M8, M9, M10, M11, M12, M13]) rfl rfl (And.intro g15_0 (And.intro g15_1 g15_2)) ?_
          obtain ⟨g16_0, h⟩ := zgd h
          refine rg false 15 (t := 99) (L2 := [some (2, Int.ofNat 18), some (0, v1), some (0, v2), some (0, v3), some (0, v4), some (0, v5), some (0, (v6 + 1)), some (0, 1), some (0, ((min (N_ahead (Int.toNat v6)) (N_row (Int.toNat (v6 - 1)))) + 1))]) rfl rfl rfl g16_0 ?_
          refine rmk [true, true, true, true, true, true, true, false, false] (L2 := [some (2, Int.ofNat 18), some (0, v1), some (0, v2), some (0, v3), some (0, v4), some (0, v5), some (0, (v6 + 1)), none, none]) rfl ?_
          exact ih v1 v2 v3 v4 v5 (v6 + 1) N_count N_lengths N_told N_digits N_slipped N_weights N_ahead (zu N_row (Int.toNat v6) (min ((min (N_ahead (Int.toNat v6)) (N_row (Int.toNat (v6 - 1)))) + 1) ((N_ahead (Int.toNat (v6 - 1))) + 1))) y h k
  have LP43 : ∀ (n : Nat) (v1 : Int) (v2 : Int) (v3 : Int) (v4 : Int) (v5 : Int) (N_count : Int) (N_lengths : Nat → Int) (N_told : Nat → Int) (N_digits : Nat → Int) (N_slipped : Nat → Int) (N_weights : Nat → Int) (N_ahead : Nat → Int) (N_row : Nat → Int) (y : (Nat → Int) × (Nat → Int)), l_X5_compare_43 n v1 v2 v3 v4 v5 N_lengths N_digits N_ahead N_row = some y → S 202 [some (2, Int.ofNat 18), none, some (0, v2), none, none, none, none, none, none] [] [M0, M1, ([N_count], [N_lengths, N_told, N_digits, N_slipped, N_weights, y.1, y.2]), M3, M4, M5, M6, M7, M8, M9, M10, M11, M12, M13] → S 43 [some (2, Int.ofNat 18), some (0, v1), some (0, v2), some (0, v3), some (0, v4), some (0, v5), none, none, none] [] [M0, M1, ([N_count], [N_lengths, N_told, N_digits, N_slipped, N_weights, N_ahead, N_row]), M3, M4, M5, M6, M7, M8, M9, M10, M11, M12, M13] := by
    intro n
    induction n with
    | zero =>
      intro v1 v2 v3 v4 v5 N_count N_lengths N_told N_digits N_slipped N_weights N_ahead N_row y h k
      rw [l_X5_compare_43] at h
      cases h
    | succ n ih =>
      intro v1 v2 v3 v4 v5 N_count N_lengths N_told N_digits N_slipped N_weights N_ahead N_row y h k
      rw [l_X5_compare_43] at h
      obtain ⟨g5_0, h⟩ := zgd h
      refine ri false 4 (q := (N_lengths (Int.toNat v1)) < v5) (t1 := 202) (t2 := 54) rfl rfl g5_0 (fun c => ?_) (fun c => ?_)
      · replace h := zif1 c h
        refine rmk [true, false, true, false, false, false, false, false, false] (L2 := [some (2, Int.ofNat 18), none, some (0, v2), none, none, none, none, none, none]) rfl ?_
        obtain rfl := Option.some.inj h
        exact k
      · replace h := zif2 c h
        refine rb false 5 (L2 := [some (2, Int.ofNat 18), some (0, v1), some (0, v2), some (0, v3), some (0, v4), some (0, v5), some (0, 0), none, none]) rfl rfl trivial ?_
        obtain ⟨x8, hx8, h⟩ := zbd h
        refine LP57 zN v1 v2 v3 v4 v5 0 N_count N_lengths N_told N_digits N_slipped N_weights N_ahead N_row x8 hx8 ?_
        refine rb false 8 (L2 := [some (2, Int.ofNat 18), some (0, v1), some (0, v2), some (0, v3), some (0, v4), some (0, v5), some (0, 1), none, none]) (σ2 := [M0, M1, ([N_count], [N_lengths, N_told, N_digits, N_slipped, N_weights, x8, (zu N_row (Int.toNat 0) v5)]), M3, M4, M5, M6, M7, M8, M9, M10, M11, M12, M13]) rfl rfl (show zin 0 7 by decide) ?_
        obtain ⟨x17, hx17, h⟩ := zbd h
        refine LP99 zN v1 v2 v3 v4 v5 1 N_count N_lengths N_told N_digits N_slipped N_weights x8 (zu N_row (Int.toNat 0) v5) x17 hx17 ?_
        obtain ⟨g18_0, h⟩ := zgd h
        refine rg false 16 (t := 43) (L2 := [some (2, Int.ofNat 18), some (0, v1), some (0, v2), some (0, v3), some (0, v4), some (0, (v5 + 1)), none, none, none]) rfl rfl rfl g18_0 ?_
        exact ih v1 v2 v3 v4 (v5 + 1) N_count N_lengths N_told N_digits N_slipped N_weights x8 x17 y h k
  unfold f_X5_compare at h
  obtain ⟨⟨g1_0, g1_1⟩, h⟩ := zgd h
  refine rb false 0 (L2 := [some (2, Int.ofNat 18), some (0, p1), some (0, p2), some (0, (p1 * 6)), some (0, (p2 * 6)), some (0, 0), none, none, none]) rfl rfl (And.intro g1_0 g1_1) ?_
  obtain ⟨x4, hx4, h⟩ := zbd h
  refine LP14 zN p1 p2 (p1 * 6) (p2 * 6) 0 N_count N_lengths N_told N_digits N_slipped N_weights N_ahead N_row x4 hx4 ?_
  refine rb false 3 (L2 := [some (2, Int.ofNat 18), some (0, p1), some (0, p2), some (0, (p1 * 6)), some (0, (p2 * 6)), some (0, 1), none, none, none]) rfl rfl trivial ?_
  obtain ⟨x19, hx19, h⟩ := zbd h
  refine LP43 zN p1 p2 (p1 * 6) (p2 * 6) 1 N_count N_lengths N_told N_digits N_slipped N_weights N_ahead x4 x19 hx19 ?_
  obtain ⟨⟨g20_0, g20_1⟩, h⟩ := zgd h
  obtain rfl := Option.some.inj h
  exact r1 false 17 rfl rfl rfl rfl rfl rfl (And.intro g20_0 g20_1)
def bX5_add : zB := [(0, [(.aload_n 0, 1), (.getfield 33, 3), (.bipush 10, 2)], 6, .if_icmp .ge 14, 3), (9, [(.iload_n 1, 1), (.iconst 1, 1)], 11, .if_icmp .lt 9, 3), (14, [(.iload_n 1, 1), (.bipush 6, 2)], 17, .if_icmp .le 6, 3), (20, [(.bipush (-4), 2)], 22, .ireturn, 1), (23, [(.aload_n 0, 1), (.getfield 11, 3), (.aload_n 0, 1), (.getfield 33, 3), (.iload_n 1, 1), (.iastore, 1), (.aload_n 0, 1), (.getfield 15, 3), (.aload_n 0, 1), (.getfield 33, 3), (.iload_n 2, 1), (.iastore, 1)], 43, .nop, 0), (43, [(.iload_n 2, 1), (.istore_n 3, 1), (.iload_n 1, 1), (.iconst 1, 1), (.isub, 1), (.istore 4, 2)], 50, .nop, 0), (50, [(.iload 4, 2)], 52, .ifCond .lt 33, 3), (55, [(.aload_n 0, 1), (.getfield 18, 3), (.aload_n 0, 1), (.getfield 33, 3), (.bipush 6, 2), (.imul, 1), (.iload 4, 2), (.iadd, 1), (.iload_n 3, 1), (.bipush 27, 2), (.irem, 1), (.iastore, 1)], 74, .nop, 0), (74, [(.iload_n 3, 1), (.bipush 27, 2), (.idiv, 1), (.istore_n 3, 1), (.iinc 4 (-1), 3)], 82, .goto (-32), 3), (85, [(.iconst 0, 1), (.istore 4, 2)], 88, .nop, 0), (88, [(.iload 4, 2), (.aload_n 0, 1), (.getfield 33, 3)], 94, .if_icmp .ge 55, 3), (97, [(.aload_n 0, 1), (.aload_n 0, 1), (.getfield 33, 3), (.iload 4, 2)], 104, .invokevirtual 37, 3), (107, [(.istore 5, 2), (.aload_n 0, 1), (.getfield 21, 3), (.aload_n 0, 1), (.getfield 33, 3), (.bipush 10, 2), (.imul, 1), (.iload 4, 2), (.iadd, 1), (.iload 5, 2), (.iastore, 1)], 126, .nop, 0), (126, [(.aload_n 0, 1), (.getfield 21, 3), (.iload 4, 2), (.bipush 10, 2), (.imul, 1), (.aload_n 0, 1), (.getfield 33, 3), (.iadd, 1), (.iload 5, 2), (.iastore, 1)], 143, .nop, 0), (143, [(.iinc 4 1, 3)], 146, .goto (-58), 3), (149, [(.aload_n 0, 1), (.dup, 1), (.getfield 33, 3), (.iconst 1, 1), (.iadd, 1), (.putfield 33, 3), (.aload_n 0, 1), (.getfield 33, 3), (.iconst 1, 1), (.isub, 1)], 165, .ireturn, 1)]
theorem bX5_add_ok : zBok cX5_add 6 bX5_add = true := by decide +kernel
abbrev wX5_add : List Cond := Cond.code yX5_add cX5_add 6 (some .int) :: uU
def rX5_add : Room := { frames := 2, cells := 0, slots := 0, locals := 49 }
set_option maxRecDepth 20000 in
set_option maxHeartbeats 4000000 in
theorem m_C_X5_add (l : Launch) (M0 : zM) (M1 : zM) (M3 : zM) (M4 : zM) (M5 : zM) (M6 : zM) (M7 : zM) (M8 : zM) (M9 : zM) (M10 : zM) (M11 : zM) (M12 : zM) (M13 : zM) (p1 : Int) (p2 : Int) (N_count : Int) (N_lengths : Nat → Int) (N_told : Nat → Int) (N_digits : Nat → Int) (N_slipped : Nat → Int) (N_weights : Nat → Int) (N_ahead : Nat → Int) (N_row : Nat → Int) (x : Int × Int × (Nat → Int) × (Nat → Int) × (Nat → Int) × (Nat → Int) × (Nat → Int) × (Nat → Int)) (h : f_X5_add p1 p2 N_count N_lengths N_told N_digits N_slipped N_ahead N_row = some x) : zD l yX5_add wX5_add rX5_add lamC shpC [(2, Int.ofNat 18), (0, p1), (0, p2)] [M0, M1, ([N_count], [N_lengths, N_told, N_digits, N_slipped, N_weights, N_ahead, N_row]), M3, M4, M5, M6, M7, M8, M9, M10, M11, M12, M13] (some (0, x.1)) [M0, M1, ([x.2.1], [x.2.2.1, x.2.2.2.1, x.2.2.2.2.1, x.2.2.2.2.2.1, N_weights, x.2.2.2.2.2.2.1, x.2.2.2.2.2.2.2]), M3, M4, M5, M6, M7, M8, M9, M10, M11, M12, M13] := by
  refine zD_of (B := bX5_add) (E := eX5n) (by decide) rfl lokC (eX5n_ok _) bX5_add_ok (Or.inl rfl) rfl (fun S R => ?_)
  obtain ⟨rb, rg, ri, rv, rs, r0, r1, r2, r3, rt, rmk⟩ := R
  show S 0 [some (2, Int.ofNat 18), some (0, p1), some (0, p2), none, none, none] [] [M0, M1, ([N_count], [N_lengths, N_told, N_digits, N_slipped, N_weights, N_ahead, N_row]), M3, M4, M5, M6, M7, M8, M9, M10, M11, M12, M13]
  have LP50 : ∀ (n : Nat) (v3 : Int) (v4 : Int) (N_count : Int) (N_lengths : Nat → Int) (N_told : Nat → Int) (N_digits : Nat → Int) (N_slipped : Nat → Int) (N_weights : Nat → Int) (N_ahead : Nat → Int) (N_row : Nat → Int) (y : Nat → Int), l_X5_add_50 n v3 v4 N_count N_digits = some y → S 85 [some (2, Int.ofNat 18), none, none, none, none, none] [] [M0, M1, ([N_count], [N_lengths, N_told, y, N_slipped, N_weights, N_ahead, N_row]), M3, M4, M5, M6, M7, M8, M9, M10, M11, M12, M13] → S 50 [some (2, Int.ofNat 18), none, none, some (0, v3), some (0, v4), none] [] [M0, M1, ([N_count], [N_lengths, N_told, N_digits, N_slipped, N_weights, N_ahead, N_row]), M3, M4, M5, M6, M7, M8, M9, M10, M11, M12, M13] := by
    intro n
    induction n with
    | zero =>
      intro v3 v4 N_count N_lengths N_told N_digits N_slipped N_weights N_ahead N_row y h k
      rw [l_X5_add_50] at h
      cases h
    | succ n ih =>
      intro v3 v4 N_count N_lengths N_told N_digits N_slipped N_weights N_ahead N_row y h k
      rw [l_X5_add_50] at h
      refine ri false 6 (q := v4 < 0) (t1 := 85) (t2 := 55) rfl rfl trivial (fun c => ?_) (fun c => ?_)
      · replace h := zif1 c h
        refine rmk [true, false, false, false, false, false] (L2 := [some (2, Int.ofNat 18), none, none, none, none, none]) rfl ?_
        obtain rfl := Option.some.inj h
        exact k
      · replace h := zif2 c h
        obtain ⟨g3_0, h⟩ := zgd h
        refine rb false 7 (σ2 := [M0, M1, ([N_count], [N_lengths, N_told, (zu N_digits (Int.toNat ((N_count * 6) + v4)) (Int.tmod v3 27)), N_slipped, N_weights, N_ahead, N_row]), M3, M4, M5, M6, M7, M8, M9, M10, M11, M12, M13]) rfl rfl (And.intro (show (27 : Int) ≠ 0 by decide) g3_0) ?_
        obtain ⟨⟨g4_0, g4_1⟩, h⟩ := zgd h
        refine rg false 8 (t := 50) (L2 := [some (2, Int.ofNat 18), none, none, some (0, (Int.tdiv v3 27)), some (0, (v4 + (-1))), none]) rfl rfl rfl (And.intro (show (27 : Int) ≠ 0 by decide) (And.intro g4_0 g4_1)) ?_
        exact ih (Int.tdiv v3 27) (v4 + (-1)) N_count N_lengths N_told (zu N_digits (Int.toNat ((N_count * 6) + v4)) (Int.tmod v3 27)) N_slipped N_weights N_ahead N_row y h k
  have LP88 : ∀ (n : Nat) (v4 : Int) (N_count : Int) (N_lengths : Nat → Int) (N_told : Nat → Int) (N_digits : Nat → Int) (N_slipped : Nat → Int) (N_weights : Nat → Int) (N_ahead : Nat → Int) (N_row : Nat → Int) (y : (Nat → Int) × (Nat → Int) × (Nat → Int)), l_X5_add_88 n v4 N_count N_lengths N_digits N_slipped N_ahead N_row = some y → S 149 [some (2, Int.ofNat 18), none, none, none, none, none] [] [M0, M1, ([N_count], [N_lengths, N_told, N_digits, y.1, N_weights, y.2.1, y.2.2]), M3, M4, M5, M6, M7, M8, M9, M10, M11, M12, M13] → S 88 [some (2, Int.ofNat 18), none, none, none, some (0, v4), none] [] [M0, M1, ([N_count], [N_lengths, N_told, N_digits, N_slipped, N_weights, N_ahead, N_row]), M3, M4, M5, M6, M7, M8, M9, M10, M11, M12, M13] := by
    intro n
    induction n with
    | zero =>
      intro v4 N_count N_lengths N_told N_digits N_slipped N_weights N_ahead N_row y h k
      rw [l_X5_add_88] at h
      cases h
    | succ n ih =>
      intro v4 N_count N_lengths N_told N_digits N_slipped N_weights N_ahead N_row y h k
      rw [l_X5_add_88] at h
      refine ri false 10 (q := v4 < N_count) (t1 := 97) (t2 := 149) rfl rfl trivial (fun c => ?_) (fun c => ?_)
      · replace h := zif1 c h
        obtain ⟨x6, hx6, h⟩ := zbd h
        refine rv false 11 2 rfl rfl trivial rfl (m_C_X5_compare l M0 M1 M3 M4 M5 M6 M7 M8 M9 M10 M11 M12 M13 N_count v4 N_count N_lengths N_told N_digits N_slipped N_weights N_ahead N_row x6 hx6) ⟨_, _, _, _, rfl, rfl, rfl, by decide +kernel, ⟨Nat.le_of_ble_eq_true rfl, Nat.le_of_ble_eq_true rfl⟩, uGin u_21_12 u_21_13 u_21_14 u_1_21 u_21_15⟩ ⟨rfl, _, _, _, rfl, rfl⟩ ?_
        obtain ⟨g7_0, h⟩ := zgd h
        refine rb false 12 (L2 := [some (2, Int.ofNat 18), none, none, none, some (0, v4), some (0, x6.1)]) (σ2 := [M0, M1, ([N_count], [N_lengths, N_told, N_digits, (zu N_slipped (Int.toNat ((N_count * 10) + v4)) x6.1), N_weights, x6.2.1, x6.2.2]), M3, M4, M5, M6, M7, M8, M9, M10, M11, M12, M13]) rfl rfl g7_0 ?_
        obtain ⟨g8_0, h⟩ := zgd h
        refine rb false 13 (σ2 := [M0, M1, ([N_count], [N_lengths, N_told, N_digits, (zu (zu N_slipped (Int.toNat ((N_count * 10) + v4)) x6.1) (Int.toNat ((v4 * 10) + N_count)) x6.1), N_weights, x6.2.1, x6.2.2]), M3, M4, M5, M6, M7, M8, M9, M10, M11, M12, M13]) rfl rfl g8_0 ?_
        obtain ⟨g9_0, h⟩ := zgd h
        refine rg false 14 (t := 88) (L2 := [some (2, Int.ofNat 18), none, none, none, some (0, (v4 + 1)), some (0, x6.1)]) rfl rfl rfl g9_0 ?_
        refine rmk [true, false, false, false, true, false] (L2 := [some (2, Int.ofNat 18), none, none, none, some (0, (v4 + 1)), none]) rfl ?_
        exact ih (v4 + 1) N_count N_lengths N_told N_digits (zu (zu N_slipped (Int.toNat ((N_count * 10) + v4)) x6.1) (Int.toNat ((v4 * 10) + N_count)) x6.1) N_weights x6.2.1 x6.2.2 y h k
      · replace h := zif2 c h
        refine rmk [true, false, false, false, false, false] (L2 := [some (2, Int.ofNat 18), none, none, none, none, none]) rfl ?_
        obtain rfl := Option.some.inj h
        exact k
  unfold f_X5_add at h
  refine ri false 0 (q := N_count < 10) (t1 := 9) (t2 := 20) rfl rfl trivial (fun c => ?_) (fun c => ?_)
  · replace h := zif1 c h
    refine ri false 1 (q := p1 < 1) (t1 := 20) (t2 := 14) rfl rfl trivial (fun c => ?_) (fun c => ?_)
    · replace h := zif1 c h
      obtain rfl := Option.some.inj h
      exact r1 false 3 rfl rfl rfl rfl rfl rfl trivial
    · replace h := zif2 c h
      refine ri false 2 (q := (6 : Int) < p1) (t1 := 20) (t2 := 23) rfl rfl trivial (fun c => ?_) (fun c => ?_)
      · replace h := zif1 c h
        obtain rfl := Option.some.inj h
        exact r1 false 3 rfl rfl rfl rfl rfl rfl trivial
      · replace h := zif2 c h
        obtain ⟨⟨g1_0, g1_1⟩, h⟩ := zgd h
        refine rb false 4 (σ2 := [M0, M1, ([N_count], [(zu N_lengths (Int.toNat N_count) p1), (zu N_told (Int.toNat N_count) p2), N_digits, N_slipped, N_weights, N_ahead, N_row]), M3, M4, M5, M6, M7, M8, M9, M10, M11, M12, M13]) rfl rfl (And.intro g1_0 g1_1) ?_
        obtain ⟨g2_0, h⟩ := zgd h
        refine rb false 5 (L2 := [some (2, Int.ofNat 18), some (0, p1), some (0, p2), some (0, p2), some (0, (p1 - 1)), none]) rfl rfl g2_0 ?_
        refine rmk [true, false, false, true, true, false] (L2 := [some (2, Int.ofNat 18), none, none, some (0, p2), some (0, (p1 - 1)), none]) rfl ?_
        obtain ⟨x5, hx5, h⟩ := zbd h
        refine LP50 zN p2 (p1 - 1) N_count (zu N_lengths (Int.toNat N_count) p1) (zu N_told (Int.toNat N_count) p2) N_digits N_slipped N_weights N_ahead N_row x5 hx5 ?_
        refine rb false 9 (L2 := [some (2, Int.ofNat 18), none, none, none, some (0, 0), none]) rfl rfl trivial ?_
        obtain ⟨x10, hx10, h⟩ := zbd h
        refine LP88 zN 0 N_count (zu N_lengths (Int.toNat N_count) p1) (zu N_told (Int.toNat N_count) p2) x5 N_slipped N_weights N_ahead N_row x10 hx10 ?_
        obtain ⟨⟨g11_0, g11_1⟩, h⟩ := zgd h
        obtain rfl := Option.some.inj h
        exact r1 false 15 rfl rfl rfl rfl rfl rfl (And.intro g11_0 g11_1)
  · replace h := zif2 c h
    obtain rfl := Option.some.inj h
    exact r1 false 3 rfl rfl rfl rfl rfl rfl trivial
def bX5_has : zB := [(0, [(.iload_n 1, 1)], 1, .ifCond .lt 15, 3), (4, [(.iload_n 1, 1), (.aload_n 0, 1), (.getfield 33, 3)], 9, .if_icmp .ge 7, 3), (12, [(.iconst 1, 1)], 13, .goto 4, 3), (16, [(.iconst 0, 1)], 17, .nop, 0), (17, [], 17, .ireturn, 1)]
theorem bX5_has_ok : zBok cX5_has 2 bX5_has = true := by decide +kernel
abbrev wX5_has : List Cond := Cond.code yX5_has cX5_has 2 (some .boolean) :: uU
def rX5_has : Room := { frames := 0, cells := 0, slots := 0, locals := 0 }
set_option maxRecDepth 20000 in
set_option maxHeartbeats 4000000 in
theorem m_C_X5_has (l : Launch) (M0 : zM) (M1 : zM) (M3 : zM) (M4 : zM) (M5 : zM) (M6 : zM) (M7 : zM) (M8 : zM) (M9 : zM) (M10 : zM) (M11 : zM) (M12 : zM) (M13 : zM) (p1 : Int) (N_count : Int) (N_lengths : Nat → Int) (N_told : Nat → Int) (N_digits : Nat → Int) (N_slipped : Nat → Int) (N_weights : Nat → Int) (N_ahead : Nat → Int) (N_row : Nat → Int) (x : Int) (h : f_X5_has p1 N_count = some x) : zD l yX5_has wX5_has rX5_has lamC shpC [(2, Int.ofNat 18), (0, p1)] [M0, M1, ([N_count], [N_lengths, N_told, N_digits, N_slipped, N_weights, N_ahead, N_row]), M3, M4, M5, M6, M7, M8, M9, M10, M11, M12, M13] (some (0, x)) [M0, M1, ([N_count], [N_lengths, N_told, N_digits, N_slipped, N_weights, N_ahead, N_row]), M3, M4, M5, M6, M7, M8, M9, M10, M11, M12, M13] := by
  refine zD_of (B := bX5_has) (E := eX5n) (by decide) rfl lokC (eX5n_ok _) bX5_has_ok (Or.inl rfl) rfl (fun S R => ?_)
  obtain ⟨rb, rg, ri, rv, rs, r0, r1, r2, r3, rt, rmk⟩ := R
  show S 0 [some (2, Int.ofNat 18), some (0, p1)] [] [M0, M1, ([N_count], [N_lengths, N_told, N_digits, N_slipped, N_weights, N_ahead, N_row]), M3, M4, M5, M6, M7, M8, M9, M10, M11, M12, M13]
  unfold f_X5_has at h
  refine ri false 0 (q := p1 < 0) (t1 := 16) (t2 := 4) rfl rfl trivial (fun c => ?_) (fun c => ?_)
  · replace h := zif1 c h
    refine rb false 3 (st2 := [(0, 0)]) rfl rfl trivial ?_
    obtain rfl := Option.some.inj h
    exact r2 false 4 rfl rfl rfl rfl trivial (by decide)
  · replace h := zif2 c h
    refine ri false 1 (q := p1 < N_count) (t1 := 12) (t2 := 16) rfl rfl trivial (fun c => ?_) (fun c => ?_)
    · replace h := zif1 c h
      refine rg false 2 (t := 17) (st2 := [(0, 1)]) rfl rfl rfl trivial ?_
      obtain rfl := Option.some.inj h
      exact r2 false 4 rfl rfl rfl rfl trivial (by decide)
    · replace h := zif2 c h
      refine rb false 3 (st2 := [(0, 0)]) rfl rfl trivial ?_
      obtain rfl := Option.some.inj h
      exact r2 false 4 rfl rfl rfl rfl trivial (by decide)
def bX5_slipsBetween : zB := [(0, [(.aload_n 0, 1), (.getfield 21, 3), (.iload_n 1, 1), (.bipush 10, 2), (.imul, 1), (.iload_n 2, 1), (.iadd, 1), (.iaload, 1)], 11, .ireturn, 1)]
theorem bX5_slipsBetween_ok : zBok cX5_slipsBetween 3 bX5_slipsBetween = true := by decide +kernel
abbrev wX5_slipsBetween : List Cond := Cond.code yX5_slipsBetween cX5_slipsBetween 3 (some .int) :: uU
def rX5_slipsBetween : Room := { frames := 0, cells := 0, slots := 0, locals := 0 }
set_option maxRecDepth 20000 in
set_option maxHeartbeats 4000000 in
theorem m_C_X5_slipsBetween (l : Launch) (M0 : zM) (M1 : zM) (M3 : zM) (M4 : zM) (M5 : zM) (M6 : zM) (M7 : zM) (M8 : zM) (M9 : zM) (M10 : zM) (M11 : zM) (M12 : zM) (M13 : zM) (p1 : Int) (p2 : Int) (N_count : Int) (N_lengths : Nat → Int) (N_told : Nat → Int) (N_digits : Nat → Int) (N_slipped : Nat → Int) (N_weights : Nat → Int) (N_ahead : Nat → Int) (N_row : Nat → Int) (x : Int) (h : f_X5_slipsBetween p1 p2 N_slipped = some x) : zD l yX5_slipsBetween wX5_slipsBetween rX5_slipsBetween lamC shpC [(2, Int.ofNat 18), (0, p1), (0, p2)] [M0, M1, ([N_count], [N_lengths, N_told, N_digits, N_slipped, N_weights, N_ahead, N_row]), M3, M4, M5, M6, M7, M8, M9, M10, M11, M12, M13] (some (0, x)) [M0, M1, ([N_count], [N_lengths, N_told, N_digits, N_slipped, N_weights, N_ahead, N_row]), M3, M4, M5, M6, M7, M8, M9, M10, M11, M12, M13] := by
  refine zD_of (B := bX5_slipsBetween) (E := eX5n) (by decide) rfl lokC (eX5n_ok _) bX5_slipsBetween_ok (Or.inl rfl) rfl (fun S R => ?_)
  obtain ⟨rb, rg, ri, rv, rs, r0, r1, r2, r3, rt, rmk⟩ := R
  show S 0 [some (2, Int.ofNat 18), some (0, p1), some (0, p2)] [] [M0, M1, ([N_count], [N_lengths, N_told, N_digits, N_slipped, N_weights, N_ahead, N_row]), M3, M4, M5, M6, M7, M8, M9, M10, M11, M12, M13]
  unfold f_X5_slipsBetween at h
  obtain ⟨g1_0, h⟩ := zgd h
  obtain rfl := Option.some.inj h
  exact r1 false 0 rfl rfl rfl rfl rfl rfl g1_0
def bX5_weightOfStep : zB := [(0, [(.aload_n 0, 1), (.getfield 21, 3), (.iload_n 1, 1), (.bipush 10, 2), (.imul, 1), (.iload_n 2, 1), (.iadd, 1), (.iaload, 1), (.istore_n 3, 1)], 12, .nop, 0), (12, [(.iload_n 3, 1), (.iload_n 3, 1), (.imul, 1), (.bipush 16, 2), (.imul, 1), (.iconst 1, 1), (.iadd, 1)], 20, .ireturn, 1)]
theorem bX5_weightOfStep_ok : zBok cX5_weightOfStep 4 bX5_weightOfStep = true := by decide +kernel
abbrev wX5_weightOfStep : List Cond := Cond.code yX5_weightOfStep cX5_weightOfStep 4 (some .int) :: uU
def rX5_weightOfStep : Room := { frames := 0, cells := 0, slots := 0, locals := 0 }
set_option maxRecDepth 20000 in
set_option maxHeartbeats 4000000 in
theorem m_C_X5_weightOfStep (l : Launch) (M0 : zM) (M1 : zM) (M3 : zM) (M4 : zM) (M5 : zM) (M6 : zM) (M7 : zM) (M8 : zM) (M9 : zM) (M10 : zM) (M11 : zM) (M12 : zM) (M13 : zM) (p1 : Int) (p2 : Int) (N_count : Int) (N_lengths : Nat → Int) (N_told : Nat → Int) (N_digits : Nat → Int) (N_slipped : Nat → Int) (N_weights : Nat → Int) (N_ahead : Nat → Int) (N_row : Nat → Int) (x : Int) (h : f_X5_weightOfStep p1 p2 N_slipped = some x) : zD l yX5_weightOfStep wX5_weightOfStep rX5_weightOfStep lamC shpC [(2, Int.ofNat 18), (0, p1), (0, p2)] [M0, M1, ([N_count], [N_lengths, N_told, N_digits, N_slipped, N_weights, N_ahead, N_row]), M3, M4, M5, M6, M7, M8, M9, M10, M11, M12, M13] (some (0, x)) [M0, M1, ([N_count], [N_lengths, N_told, N_digits, N_slipped, N_weights, N_ahead, N_row]), M3, M4, M5, M6, M7, M8, M9, M10, M11, M12, M13] := by
  refine zD_of (B := bX5_weightOfStep) (E := eX5n) (by decide) rfl lokC (eX5n_ok _) bX5_weightOfStep_ok (Or.inl rfl) rfl (fun S R => ?_)
  obtain ⟨rb, rg, ri, rv, rs, r0, r1, r2, r3, rt, rmk⟩ := R
  show S 0 [some (2, Int.ofNat 18), some (0, p1), some (0, p2), none] [] [M0, M1, ([N_count], [N_lengths, N_told, N_digits, N_slipped, N_weights, N_ahead, N_row]), M3, M4, M5, M6, M7, M8, M9, M10, M11, M12, M13]
  unfold f_X5_weightOfStep at h
  obtain ⟨g1_0, h⟩ := zgd h
  refine rb false 0 (L2 := [some (2, Int.ofNat 18), some (0, p1), some (0, p2), some (0, (N_slipped (Int.toNat ((p1 * 10) + p2))))]) rfl rfl g1_0 ?_
  obtain ⟨g2_0, h⟩ := zgd h
  obtain rfl := Option.some.inj h
  exact r1 false 1 rfl rfl rfl rfl rfl rfl g2_0
def bX5_weighTo : zB := [(0, [(.iconst 0, 1), (.istore_n 2, 1)], 2, .nop, 0), (2, [(.iload_n 2, 1), (.aload_n 0, 1), (.getfield 33, 3)], 7, .if_icmp .ge 30, 3), (10, [(.aload_n 0, 1), (.getfield 24, 3), (.iload_n 2, 1), (.iload_n 2, 1), (.iload_n 1, 1)], 17, .if_icmp .ne 7, 3), (20, [(.iconst 0, 1)], 21, .goto 9, 3), (24, [(.aload_n 0, 1), (.iload_n 2, 1), (.iload_n 1, 1)], 27, .invokevirtual 54, 3), (30, [(.iastore, 1), (.iinc 2 1, 3)], 34, .goto (-32), 3), (37, [(.iconst 0, 1), (.istore_n 2, 1)], 39, .nop, 0), (39, [(.iload_n 2, 1), (.aload_n 0, 1), (.getfield 33, 3)], 44, .if_icmp .ge 73, 3), (47, [(.iconst 0, 1), (.istore_n 3, 1)], 49, .nop, 0), (49, [(.iload_n 3, 1), (.aload_n 0, 1), (.getfield 33, 3)], 54, .if_icmp .ge 57, 3), (57, [(.iconst 0, 1), (.istore 4, 2)], 60, .nop, 0), (60, [(.iload 4, 2), (.aload_n 0, 1), (.getfield 33, 3)], 66, .if_icmp .ge 39, 3), (69, [(.aload_n 0, 1), (.getfield 24, 3), (.iload_n 3, 1), (.aload_n 0, 1), (.getfield 24, 3), (.iload_n 3, 1), (.iaload, 1), (.aload_n 0, 1), (.iload_n 3, 1), (.iload 4, 2)], 84, .invokevirtual 54, 3), (87, [(.aload_n 0, 1), (.getfield 24, 3), (.iload 4, 2), (.iaload, 1), (.iadd, 1), (.invokestatic 41, 3), (.iastore, 1), (.iinc 4 1, 3)], 102, .goto (-42), 3), (105, [(.iinc 3 1, 3)], 108, .goto (-59), 3), (111, [(.iinc 2 1, 3)], 114, .goto (-75), 3), (117, [], 117, .return_, 1)]
theorem bX5_weighTo_ok : zBok cX5_weighTo 5 bX5_weighTo = true := by decide +kernel
abbrev wX5_weighTo : List Cond := Cond.code yX5_weighTo cX5_weighTo 5 none :: uU
def rX5_weighTo : Room := { frames := 1, cells := 0, slots := 0, locals := 23 }
set_option maxRecDepth 20000 in
set_option maxHeartbeats 4000000 in
theorem m_C_X5_weighTo (l : Launch) (M0 : zM) (M1 : zM) (M3 : zM) (M4 : zM) (M5 : zM) (M6 : zM) (M7 : zM) (M8 : zM) (M9 : zM) (M10 : zM) (M11 : zM) (M12 : zM) (M13 : zM) (p1 : Int) (N_count : Int) (N_lengths : Nat → Int) (N_told : Nat → Int) (N_digits : Nat → Int) (N_slipped : Nat → Int) (N_weights : Nat → Int) (N_ahead : Nat → Int) (N_row : Nat → Int) (x : Nat → Int) (h : f_X5_weighTo p1 N_count N_slipped N_weights = some x) : zD l yX5_weighTo wX5_weighTo rX5_weighTo lamC shpC [(2, Int.ofNat 18), (0, p1)] [M0, M1, ([N_count], [N_lengths, N_told, N_digits, N_slipped, N_weights, N_ahead, N_row]), M3, M4, M5, M6, M7, M8, M9, M10, M11, M12, M13] (none) [M0, M1, ([N_count], [N_lengths, N_told, N_digits, N_slipped, x, N_ahead, N_row]), M3, M4, M5, M6, M7, M8, M9, M10, M11, M12, M13] := by
  refine zD_of (B := bX5_weighTo) (E := eX5) (by decide) rfl lokC (eX5_ok _) bX5_weighTo_ok (Or.inr ⟨Nat.le_of_ble_eq_true rfl, Nat.le_of_ble_eq_true rfl⟩) rfl (fun S R => ?_)
  obtain ⟨rb, rg, ri, rv, rs, r0, r1, r2, r3, rt, rmk⟩ := R
  show S 0 [some (2, Int.ofNat 18), some (0, p1), none, none, none] [] [M0, M1, ([N_count], [N_lengths, N_told, N_digits, N_slipped, N_weights, N_ahead, N_row]), M3, M4, M5, M6, M7, M8, M9, M10, M11, M12, M13]
  have LP2 : ∀ (n : Nat) (v1 : Int) (v2 : Int) (N_count : Int) (N_lengths : Nat → Int) (N_told : Nat → Int) (N_digits : Nat → Int) (N_slipped : Nat → Int) (N_weights : Nat → Int) (N_ahead : Nat → Int) (N_row : Nat → Int) (y : Nat → Int), l_X5_weighTo_2 n v1 v2 N_count N_slipped N_weights = some y → S 37 [some (2, Int.ofNat 18), none, none, none, none] [] [M0, M1, ([N_count], [N_lengths, N_told, N_digits, N_slipped, y, N_ahead, N_row]), M3, M4, M5, M6, M7, M8, M9, M10, M11, M12, M13] → S 2 [some (2, Int.ofNat 18), some (0, v1), some (0, v2), none, none] [] [M0, M1, ([N_count], [N_lengths, N_told, N_digits, N_slipped, N_weights, N_ahead, N_row]), M3, M4, M5, M6, M7, M8, M9, M10, M11, M12, M13] := by
    intro n
    induction n with
    | zero =>
      intro v1 v2 N_count N_lengths N_told N_digits N_slipped N_weights N_ahead N_row y h k
      rw [l_X5_weighTo_2] at h
      cases h
    | succ n ih =>
      intro v1 v2 N_count N_lengths N_told N_digits N_slipped N_weights N_ahead N_row y h k
      rw [l_X5_weighTo_2] at h
      refine ri false 1 (q := v2 < N_count) (t1 := 10) (t2 := 37) rfl rfl trivial (fun c => ?_) (fun c => ?_)
      · replace h := zif1 c h
        refine ri false 2 (q := v2 = v1) (t1 := 20) (t2 := 24) (st2 := [(0, v2), (2, Int.ofNat 23)]) rfl rfl trivial (fun c => ?_) (fun c => ?_)
        · replace h := zif1 c h
          refine rg false 3 (t := 30) (st2 := [(0, 0), (0, v2), (2, Int.ofNat 23)]) rfl rfl rfl trivial ?_
          obtain ⟨⟨g1_0, g1_1⟩, h⟩ := zgd h
          refine rg false 5 (t := 2) (L2 := [some (2, Int.ofNat 18), some (0, v1), some (0, (v2 + 1)), none, none]) (σ2 := [M0, M1, ([N_count], [N_lengths, N_told, N_digits, N_slipped, (zu N_weights (Int.toNat v2) 0), N_ahead, N_row]), M3, M4, M5, M6, M7, M8, M9, M10, M11, M12, M13]) rfl rfl rfl (And.intro g1_0 g1_1) ?_
          exact ih v1 (v2 + 1) N_count N_lengths N_told N_digits N_slipped (zu N_weights (Int.toNat v2) 0) N_ahead N_row y h k
        · replace h := zif2 c h
          obtain ⟨x2, hx2, h⟩ := zbd h
          refine rv false 4 2 (rest := [(0, v2), (2, Int.ofNat 23)]) rfl rfl trivial rfl (m_C_X5_weightOfStep l M0 M1 M3 M4 M5 M6 M7 M8 M9 M10 M11 M12 M13 v2 v1 N_count N_lengths N_told N_digits N_slipped N_weights N_ahead N_row x2 hx2) ⟨_, _, _, _, rfl, rfl, rfl, by decide +kernel, ⟨Nat.le_of_ble_eq_true rfl, Nat.le_of_ble_eq_true rfl⟩, uGin u_23_14 u_23_15 u_23_16 u_1_21 u_23_17⟩ ⟨rfl, _, _, _, rfl, rfl⟩ ?_
          obtain ⟨⟨g3_0, g3_1⟩, h⟩ := zgd h
          refine rg false 5 (t := 2) (L2 := [some (2, Int.ofNat 18), some (0, v1), some (0, (v2 + 1)), none, none]) (σ2 := [M0, M1, ([N_count], [N_lengths, N_told, N_digits, N_slipped, (zu N_weights (Int.toNat v2) x2), N_ahead, N_row]), M3, M4, M5, M6, M7, M8, M9, M10, M11, M12, M13]) rfl rfl rfl (And.intro g3_0 g3_1) ?_
          exact ih v1 (v2 + 1) N_count N_lengths N_told N_digits N_slipped (zu N_weights (Int.toNat v2) x2) N_ahead N_row y h k
      · replace h := zif2 c h
        refine rmk [true, false, false, false, false] (L2 := [some (2, Int.ofNat 18), none, none, none, none]) rfl ?_
        obtain rfl := Option.some.inj h
        exact k
  have LP60 : ∀ (n : Nat) (v2 : Int) (v3 : Int) (v4 : Int) (N_count : Int) (N_lengths : Nat → Int) (N_told : Nat → Int) (N_digits : Nat → Int) (N_slipped : Nat → Int) (N_weights : Nat → Int) (N_ahead : Nat → Int) (N_row : Nat → Int) (y : Nat → Int), l_X5_weighTo_60 n v2 v3 v4 N_count N_slipped N_weights = some y → S 105 [some (2, Int.ofNat 18), none, some (0, v2), some (0, v3), none] [] [M0, M1, ([N_count], [N_lengths, N_told, N_digits, N_slipped, y, N_ahead, N_row]), M3, M4, M5, M6, M7, M8, M9, M10, M11, M12, M13] → S 60 [some (2, Int.ofNat 18), none, some (0, v2), some (0, v3), some (0, v4)] [] [M0, M1, ([N_count], [N_lengths, N_told, N_digits, N_slipped, N_weights, N_ahead, N_row]), M3, M4, M5, M6, M7, M8, M9, M10, M11, M12, M13] := by
    intro n
    induction n with
    | zero =>
      intro v2 v3 v4 N_count N_lengths N_told N_digits N_slipped N_weights N_ahead N_row y h k
      rw [l_X5_weighTo_60] at h
      cases h
    | succ n ih =>
      intro v2 v3 v4 N_count N_lengths N_told N_digits N_slipped N_weights N_ahead N_row y h k
      rw [l_X5_weighTo_60] at h
      refine ri false 11 (q := v4 < N_count) (t1 := 69) (t2 := 105) rfl rfl trivial (fun c => ?_) (fun c => ?_)
      · replace h := zif1 c h
        obtain ⟨g6_0, h⟩ := zgd h
        obtain ⟨x5, hx5, h⟩ := zbd h
        refine rv false 12 2 (rest := [(0, (N_weights (Int.toNat v3))), (0, v3), (2, Int.ofNat 23)]) rfl rfl g6_0 rfl (m_C_X5_weightOfStep l M0 M1 M3 M4 M5 M6 M7 M8 M9 M10 M11 M12 M13 v3 v4 N_count N_lengths N_told N_digits N_slipped N_weights N_ahead N_row x5 hx5) ⟨_, _, _, _, rfl, rfl, rfl, by decide +kernel, ⟨Nat.le_of_ble_eq_true rfl, Nat.le_of_ble_eq_true rfl⟩, uGin u_23_14 u_23_15 u_23_16 u_1_21 u_23_17⟩ ⟨rfl, _, _, _, rfl, rfl⟩ ?_
        obtain ⟨⟨g7_0, g7_1, g7_2, g7_3⟩, h⟩ := zgd h
        refine rg false 13 (t := 60) (L2 := [some (2, Int.ofNat 18), none, some (0, v2), some (0, v3), some (0, (v4 + 1))]) (σ2 := [M0, M1, ([N_count], [N_lengths, N_told, N_digits, N_slipped, (zu N_weights (Int.toNat v3) (min (N_weights (Int.toNat v3)) (x5 + (N_weights (Int.toNat v4))))), N_ahead, N_row]), M3, M4, M5, M6, M7, M8, M9, M10, M11, M12, M13]) rfl rfl rfl (And.intro g7_0 (And.intro g7_1 (And.intro g7_2 g7_3))) ?_
        exact ih v2 v3 (v4 + 1) N_count N_lengths N_told N_digits N_slipped (zu N_weights (Int.toNat v3) (min (N_weights (Int.toNat v3)) (x5 + (N_weights (Int.toNat v4))))) N_ahead N_row y h k
      · replace h := zif2 c h
        refine rmk [true, false, true, true, false] (L2 := [some (2, Int.ofNat 18), none, some (0, v2), some (0, v3), none]) rfl ?_
        obtain rfl := Option.some.inj h
        exact k
  have LP49 : ∀ (n : Nat) (v2 : Int) (v3 : Int) (N_count : Int) (N_lengths : Nat → Int) (N_told : Nat → Int) (N_digits : Nat → Int) (N_slipped : Nat → Int) (N_weights : Nat → Int) (N_ahead : Nat → Int) (N_row : Nat → Int) (y : Nat → Int), l_X5_weighTo_49 n v2 v3 N_count N_slipped N_weights = some y → S 111 [some (2, Int.ofNat 18), none, some (0, v2), none, none] [] [M0, M1, ([N_count], [N_lengths, N_told, N_digits, N_slipped, y, N_ahead, N_row]), M3, M4, M5, M6, M7, M8, M9, M10, M11, M12, M13] → S 49 [some (2, Int.ofNat 18), none, some (0, v2), some (0, v3), none] [] [M0, M1, ([N_count], [N_lengths, N_told, N_digits, N_slipped, N_weights, N_ahead, N_row]), M3, M4, M5, M6, M7, M8, M9, M10, M11, M12, M13] := by
    intro n
    induction n with
    | zero =>
      intro v2 v3 N_count N_lengths N_told N_digits N_slipped N_weights N_ahead N_row y h k
      rw [l_X5_weighTo_49] at h
      cases h
    | succ n ih =>
      intro v2 v3 N_count N_lengths N_told N_digits N_slipped N_weights N_ahead N_row y h k
      rw [l_X5_weighTo_49] at h
      refine ri false 9 (q := v3 < N_count) (t1 := 57) (t2 := 111) rfl rfl trivial (fun c => ?_) (fun c => ?_)
      · replace h := zif1 c h
        refine rb false 10 (L2 := [some (2, Int.ofNat 18), none, some (0, v2), some (0, v3), some (0, 0)]) rfl rfl trivial ?_
        obtain ⟨x8, hx8, h⟩ := zbd h
        refine LP60 zN v2 v3 0 N_count N_lengths N_told N_digits N_slipped N_weights N_ahead N_row x8 hx8 ?_
        obtain ⟨g9_0, h⟩ := zgd h
        refine rg false 14 (t := 49) (L2 := [some (2, Int.ofNat 18), none, some (0, v2), some (0, (v3 + 1)), none]) rfl rfl rfl g9_0 ?_
        exact ih v2 (v3 + 1) N_count N_lengths N_told N_digits N_slipped x8 N_ahead N_row y h k
      · replace h := zif2 c h
        refine rmk [true, false, true, false, false] (L2 := [some (2, Int.ofNat 18), none, some (0, v2), none, none]) rfl ?_
        obtain rfl := Option.some.inj h
        exact k
  have LP39 : ∀ (n : Nat) (v2 : Int) (N_count : Int) (N_lengths : Nat → Int) (N_told : Nat → Int) (N_digits : Nat → Int) (N_slipped : Nat → Int) (N_weights : Nat → Int) (N_ahead : Nat → Int) (N_row : Nat → Int) (y : Nat → Int), l_X5_weighTo_39 n v2 N_count N_slipped N_weights = some y → S 117 [none, none, none, none, none] [] [M0, M1, ([N_count], [N_lengths, N_told, N_digits, N_slipped, y, N_ahead, N_row]), M3, M4, M5, M6, M7, M8, M9, M10, M11, M12, M13] → S 39 [some (2, Int.ofNat 18), none, some (0, v2), none, none] [] [M0, M1, ([N_count], [N_lengths, N_told, N_digits, N_slipped, N_weights, N_ahead, N_row]), M3, M4, M5, M6, M7, M8, M9, M10, M11, M12, M13] := by
    intro n
    induction n with
    | zero =>
      intro v2 N_count N_lengths N_told N_digits N_slipped N_weights N_ahead N_row y h k
      rw [l_X5_weighTo_39] at h
      cases h
    | succ n ih =>
      intro v2 N_count N_lengths N_told N_digits N_slipped N_weights N_ahead N_row y h k
      rw [l_X5_weighTo_39] at h
      refine ri false 7 (q := v2 < N_count) (t1 := 47) (t2 := 117) rfl rfl trivial (fun c => ?_) (fun c => ?_)
      · replace h := zif1 c h
        refine rb false 8 (L2 := [some (2, Int.ofNat 18), none, some (0, v2), some (0, 0), none]) rfl rfl trivial ?_
        obtain ⟨x10, hx10, h⟩ := zbd h
        refine LP49 zN v2 0 N_count N_lengths N_told N_digits N_slipped N_weights N_ahead N_row x10 hx10 ?_
        obtain ⟨g11_0, h⟩ := zgd h
        refine rg false 15 (t := 39) (L2 := [some (2, Int.ofNat 18), none, some (0, (v2 + 1)), none, none]) rfl rfl rfl g11_0 ?_
        exact ih (v2 + 1) N_count N_lengths N_told N_digits N_slipped x10 N_ahead N_row y h k
      · replace h := zif2 c h
        refine rmk [false, false, false, false, false] (L2 := [none, none, none, none, none]) rfl ?_
        obtain rfl := Option.some.inj h
        exact k
  unfold f_X5_weighTo at h
  refine rb false 0 (L2 := [some (2, Int.ofNat 18), some (0, p1), some (0, 0), none, none]) rfl rfl trivial ?_
  obtain ⟨x4, hx4, h⟩ := zbd h
  refine LP2 zN p1 0 N_count N_lengths N_told N_digits N_slipped N_weights N_ahead N_row x4 hx4 ?_
  refine rb false 6 (L2 := [some (2, Int.ofNat 18), none, some (0, 0), none, none]) rfl rfl trivial ?_
  obtain ⟨x12, hx12, h⟩ := zbd h
  refine LP39 zN 0 N_count N_lengths N_told N_digits N_slipped x4 N_ahead N_row x12 hx12 ?_
  obtain rfl := Option.some.inj h
  exact r0 false 16 rfl rfl rfl rfl trivial
def bX5_wornCost : zB := [(0, [(.aload_n 0, 1), (.iload_n 2, 1)], 2, .invokevirtual 46, 3), (5, [(.aload_n 0, 1), (.getfield 24, 3), (.iload_n 1, 1), (.iaload, 1), (.bipush 16, 2), (.idiv, 1)], 14, .ireturn, 1)]
theorem bX5_wornCost_ok : zBok cX5_wornCost 3 bX5_wornCost = true := by decide +kernel
abbrev wX5_wornCost : List Cond := Cond.code yX5_wornCost cX5_wornCost 3 (some .int) :: uU
def rX5_wornCost : Room := { frames := 2, cells := 0, slots := 0, locals := 47 }
set_option maxRecDepth 20000 in
set_option maxHeartbeats 4000000 in
theorem m_C_X5_wornCost (l : Launch) (M0 : zM) (M1 : zM) (M3 : zM) (M4 : zM) (M5 : zM) (M6 : zM) (M7 : zM) (M8 : zM) (M9 : zM) (M10 : zM) (M11 : zM) (M12 : zM) (M13 : zM) (p1 : Int) (p2 : Int) (N_count : Int) (N_lengths : Nat → Int) (N_told : Nat → Int) (N_digits : Nat → Int) (N_slipped : Nat → Int) (N_weights : Nat → Int) (N_ahead : Nat → Int) (N_row : Nat → Int) (x : Int × (Nat → Int)) (h : f_X5_wornCost p1 p2 N_count N_slipped N_weights = some x) : zD l yX5_wornCost wX5_wornCost rX5_wornCost lamC shpC [(2, Int.ofNat 18), (0, p1), (0, p2)] [M0, M1, ([N_count], [N_lengths, N_told, N_digits, N_slipped, N_weights, N_ahead, N_row]), M3, M4, M5, M6, M7, M8, M9, M10, M11, M12, M13] (some (0, x.1)) [M0, M1, ([N_count], [N_lengths, N_told, N_digits, N_slipped, x.2, N_ahead, N_row]), M3, M4, M5, M6, M7, M8, M9, M10, M11, M12, M13] := by
  refine zD_of (B := bX5_wornCost) (E := eX5n) (by decide) rfl lokC (eX5n_ok _) bX5_wornCost_ok (Or.inl rfl) rfl (fun S R => ?_)
  obtain ⟨rb, rg, ri, rv, rs, r0, r1, r2, r3, rt, rmk⟩ := R
  show S 0 [some (2, Int.ofNat 18), some (0, p1), some (0, p2)] [] [M0, M1, ([N_count], [N_lengths, N_told, N_digits, N_slipped, N_weights, N_ahead, N_row]), M3, M4, M5, M6, M7, M8, M9, M10, M11, M12, M13]
  unfold f_X5_wornCost at h
  obtain ⟨x1, hx1, h⟩ := zbd h
  refine rv false 0 1 rfl rfl trivial rfl (m_C_X5_weighTo l M0 M1 M3 M4 M5 M6 M7 M8 M9 M10 M11 M12 M13 p2 N_count N_lengths N_told N_digits N_slipped N_weights N_ahead N_row x1 hx1) ⟨_, _, _, _, rfl, rfl, rfl, by decide +kernel, ⟨Nat.le_of_ble_eq_true rfl, Nat.le_of_ble_eq_true rfl⟩, uGin u_23_10 u_23_11 u_23_12 u_1_21 u_23_13⟩ ⟨rfl, _, _, _, rfl, rfl⟩ ?_
  obtain ⟨⟨g2_0, g2_1⟩, h⟩ := zgd h
  obtain rfl := Option.some.inj h
  exact r1 false 1 rfl rfl rfl rfl rfl rfl (And.intro g2_0 (And.intro (show (16 : Int) ≠ 0 by decide) g2_1))
def bX5_nextFrom : zB := [(0, [(.iconst 0, 1), (.istore_n 2, 1)], 2, .nop, 0), (2, [(.iload_n 2, 1), (.aload_n 0, 1), (.getfield 33, 3)], 7, .if_icmp .ge 33, 3), (10, [(.aload_n 0, 1), (.iload_n 1, 1), (.iload_n 2, 1)], 13, .invokevirtual 54, 3), (16, [(.aload_n 0, 1), (.getfield 24, 3), (.iload_n 2, 1), (.iaload, 1), (.iadd, 1), (.aload_n 0, 1), (.getfield 24, 3), (.iload_n 1, 1), (.iaload, 1)], 29, .if_icmp .ne 5, 3), (32, [(.iload_n 2, 1)], 33, .ireturn, 1), (34, [(.iinc 2 1, 3)], 37, .goto (-35), 3), (40, [(.iconst (-1), 1)], 41, .ireturn, 1)]
theorem bX5_nextFrom_ok : zBok cX5_nextFrom 3 bX5_nextFrom = true := by decide +kernel
abbrev wX5_nextFrom : List Cond := Cond.code yX5_nextFrom cX5_nextFrom 3 (some .int) :: uU
def rX5_nextFrom : Room := { frames := 1, cells := 0, slots := 0, locals := 23 }
set_option maxRecDepth 20000 in
set_option maxHeartbeats 4000000 in
theorem m_C_X5_nextFrom (l : Launch) (M0 : zM) (M1 : zM) (M3 : zM) (M4 : zM) (M5 : zM) (M6 : zM) (M7 : zM) (M8 : zM) (M9 : zM) (M10 : zM) (M11 : zM) (M12 : zM) (M13 : zM) (p1 : Int) (N_count : Int) (N_lengths : Nat → Int) (N_told : Nat → Int) (N_digits : Nat → Int) (N_slipped : Nat → Int) (N_weights : Nat → Int) (N_ahead : Nat → Int) (N_row : Nat → Int) (x : Int) (h : f_X5_nextFrom p1 N_count N_slipped N_weights = some x) : zD l yX5_nextFrom wX5_nextFrom rX5_nextFrom lamC shpC [(2, Int.ofNat 18), (0, p1)] [M0, M1, ([N_count], [N_lengths, N_told, N_digits, N_slipped, N_weights, N_ahead, N_row]), M3, M4, M5, M6, M7, M8, M9, M10, M11, M12, M13] (some (0, x)) [M0, M1, ([N_count], [N_lengths, N_told, N_digits, N_slipped, N_weights, N_ahead, N_row]), M3, M4, M5, M6, M7, M8, M9, M10, M11, M12, M13] := by
  refine zD_of (B := bX5_nextFrom) (E := eX5n) (by decide) rfl lokC (eX5n_ok _) bX5_nextFrom_ok (Or.inl rfl) rfl (fun S R => ?_)
  obtain ⟨rb, rg, ri, rv, rs, r0, r1, r2, r3, rt, rmk⟩ := R
  show S 0 [some (2, Int.ofNat 18), some (0, p1), none] [] [M0, M1, ([N_count], [N_lengths, N_told, N_digits, N_slipped, N_weights, N_ahead, N_row]), M3, M4, M5, M6, M7, M8, M9, M10, M11, M12, M13]
  have LP2 : ∀ (n : Nat) (v1 : Int) (v2 : Int), l_X5_nextFrom_2 n v1 v2 N_count N_slipped N_weights = some x → S 2 [some (2, Int.ofNat 18), some (0, v1), some (0, v2)] [] [M0, M1, ([N_count], [N_lengths, N_told, N_digits, N_slipped, N_weights, N_ahead, N_row]), M3, M4, M5, M6, M7, M8, M9, M10, M11, M12, M13] := by
    intro n
    induction n with
    | zero =>
      intro v1 v2 h
      rw [l_X5_nextFrom_2] at h
      cases h
    | succ n ih =>
      intro v1 v2 h
      rw [l_X5_nextFrom_2] at h
      refine ri false 1 (q := v2 < N_count) (t1 := 10) (t2 := 40) rfl rfl trivial (fun c => ?_) (fun c => ?_)
      · replace h := zif1 c h
        obtain ⟨x1, hx1, h⟩ := zbd h
        refine rv false 2 2 rfl rfl trivial rfl (m_C_X5_weightOfStep l M0 M1 M3 M4 M5 M6 M7 M8 M9 M10 M11 M12 M13 v1 v2 N_count N_lengths N_told N_digits N_slipped N_weights N_ahead N_row x1 hx1) ⟨_, _, _, _, rfl, rfl, rfl, by decide +kernel, ⟨Nat.le_of_ble_eq_true rfl, Nat.le_of_ble_eq_true rfl⟩, uGin u_23_14 u_23_15 u_23_16 u_1_21 u_23_17⟩ ⟨rfl, _, _, _, rfl, rfl⟩ ?_
        obtain ⟨⟨g2_0, g2_1, g2_2⟩, h⟩ := zgd h
        refine ri false 3 (q := (x1 + (N_weights (Int.toNat v2))) = (N_weights (Int.toNat v1))) (t1 := 32) (t2 := 34) rfl rfl (And.intro g2_0 (And.intro g2_1 g2_2)) (fun c => ?_) (fun c => ?_)
        · replace h := zif1 c h
          obtain rfl := Option.some.inj h
          exact r1 false 4 rfl rfl rfl rfl rfl rfl trivial
        · replace h := zif2 c h
          obtain ⟨g3_0, h⟩ := zgd h
          refine rg false 5 (t := 2) (L2 := [some (2, Int.ofNat 18), some (0, v1), some (0, (v2 + 1))]) rfl rfl rfl g3_0 ?_
          exact ih v1 (v2 + 1) h
      · replace h := zif2 c h
        obtain rfl := Option.some.inj h
        exact r1 false 6 rfl rfl rfl rfl rfl rfl trivial
  unfold f_X5_nextFrom at h
  refine rb false 0 (L2 := [some (2, Int.ofNat 18), some (0, p1), some (0, 0)]) rfl rfl trivial ?_
  exact LP2 zN p1 0 h
def bX5_wornName : zB := [(0, [(.aload_n 0, 1), (.iload_n 2, 1)], 2, .invokevirtual 46, 3), (5, [(.iload_n 1, 1), (.istore 4, 2), (.iconst 0, 1), (.istore 5, 2)], 11, .nop, 0), (11, [(.iload 5, 2), (.iload_n 3, 1)], 14, .if_icmp .ge 37, 3), (17, [(.iload 5, 2), (.bipush 10, 2)], 21, .if_icmp .ge 30, 3), (24, [(.aload_n 0, 1), (.iload 4, 2)], 27, .invokevirtual 50, 3), (30, [(.istore 6, 2), (.iload 6, 2), (.iconst (-1), 1)], 35, .if_icmp .ne 6, 3), (38, [(.bipush (-5), 2)], 40, .ireturn, 1), (41, [(.iload 6, 2), (.istore 4, 2), (.iinc 5 1, 3)], 48, .goto (-37), 3), (51, [(.iload 4, 2)], 53, .ireturn, 1)]
theorem bX5_wornName_ok : zBok cX5_wornName 7 bX5_wornName = true := by decide +kernel
abbrev wX5_wornName : List Cond := Cond.code yX5_wornName cX5_wornName 7 (some .int) :: uU
def rX5_wornName : Room := { frames := 2, cells := 0, slots := 0, locals := 47 }
set_option maxRecDepth 20000 in
set_option maxHeartbeats 4000000 in
theorem m_C_X5_wornName (l : Launch) (M0 : zM) (M1 : zM) (M3 : zM) (M4 : zM) (M5 : zM) (M6 : zM) (M7 : zM) (M8 : zM) (M9 : zM) (M10 : zM) (M11 : zM) (M12 : zM) (M13 : zM) (p1 : Int) (p2 : Int) (p3 : Int) (N_count : Int) (N_lengths : Nat → Int) (N_told : Nat → Int) (N_digits : Nat → Int) (N_slipped : Nat → Int) (N_weights : Nat → Int) (N_ahead : Nat → Int) (N_row : Nat → Int) (x : Int × (Nat → Int)) (h : f_X5_wornName p1 p2 p3 N_count N_slipped N_weights = some x) : zD l yX5_wornName wX5_wornName rX5_wornName lamC shpC [(2, Int.ofNat 18), (0, p1), (0, p2), (0, p3)] [M0, M1, ([N_count], [N_lengths, N_told, N_digits, N_slipped, N_weights, N_ahead, N_row]), M3, M4, M5, M6, M7, M8, M9, M10, M11, M12, M13] (some (0, x.1)) [M0, M1, ([N_count], [N_lengths, N_told, N_digits, N_slipped, x.2, N_ahead, N_row]), M3, M4, M5, M6, M7, M8, M9, M10, M11, M12, M13] := by
  refine zD_of (B := bX5_wornName) (E := eX5n) (by decide) rfl lokC (eX5n_ok _) bX5_wornName_ok (Or.inl rfl) rfl (fun S R => ?_)
  obtain ⟨rb, rg, ri, rv, rs, r0, r1, r2, r3, rt, rmk⟩ := R
  show S 0 [some (2, Int.ofNat 18), some (0, p1), some (0, p2), some (0, p3), none, none, none] [] [M0, M1, ([N_count], [N_lengths, N_told, N_digits, N_slipped, N_weights, N_ahead, N_row]), M3, M4, M5, M6, M7, M8, M9, M10, M11, M12, M13]
  have LP11 : ∀ (n : Nat) (v3 : Int) (v4 : Int) (v5 : Int) (N_weights : Nat → Int), l_X5_wornName_11 n v3 v4 v5 N_count N_slipped N_weights = some x → S 11 [some (2, Int.ofNat 18), none, none, some (0, v3), some (0, v4), some (0, v5), none] [] [M0, M1, ([N_count], [N_lengths, N_told, N_digits, N_slipped, N_weights, N_ahead, N_row]), M3, M4, M5, M6, M7, M8, M9, M10, M11, M12, M13] := by
    intro n
    induction n with
    | zero =>
      intro v3 v4 v5 N_weights h
      rw [l_X5_wornName_11] at h
      cases h
    | succ n ih =>
      intro v3 v4 v5 N_weights h
      rw [l_X5_wornName_11] at h
      refine ri false 2 (q := v5 < v3) (t1 := 17) (t2 := 51) rfl rfl trivial (fun c => ?_) (fun c => ?_)
      · replace h := zif1 c h
        refine ri false 3 (q := v5 < 10) (t1 := 24) (t2 := 51) rfl rfl trivial (fun c => ?_) (fun c => ?_)
        · replace h := zif1 c h
          obtain ⟨x2, hx2, h⟩ := zbd h
          refine rv false 4 1 rfl rfl trivial rfl (m_C_X5_nextFrom l M0 M1 M3 M4 M5 M6 M7 M8 M9 M10 M11 M12 M13 v4 N_count N_lengths N_told N_digits N_slipped N_weights N_ahead N_row x2 hx2) ⟨_, _, _, _, rfl, rfl, rfl, by decide +kernel, ⟨Nat.le_of_ble_eq_true rfl, Nat.le_of_ble_eq_true rfl⟩, uGin u_23_22 u_23_23 u_24_0 u_1_21 u_24_1⟩ ⟨rfl, _, _, _, rfl, rfl⟩ ?_
          refine ri false 5 (q := x2 = (-1)) (t1 := 38) (t2 := 41) (L2 := [some (2, Int.ofNat 18), none, none, some (0, v3), some (0, v4), some (0, v5), some (0, x2)]) rfl rfl trivial (fun c => ?_) (fun c => ?_)
          · replace h := zif1 c h
            obtain rfl := Option.some.inj h
            exact r1 false 6 rfl rfl rfl rfl rfl rfl trivial
          · replace h := zif2 c h
            obtain ⟨g3_0, h⟩ := zgd h
            refine rg false 7 (t := 11) (L2 := [some (2, Int.ofNat 18), none, none, some (0, v3), some (0, x2), some (0, (v5 + 1)), some (0, x2)]) rfl rfl rfl g3_0 ?_
            refine rmk [true, false, false, true, true, true, false] (L2 := [some (2, Int.ofNat 18), none, none, some (0, v3), some (0, x2), some (0, (v5 + 1)), none]) rfl ?_
            exact ih v3 x2 (v5 + 1) N_weights h
        · replace h := zif2 c h
          obtain rfl := Option.some.inj h
          exact r1 false 8 rfl rfl rfl rfl rfl rfl trivial
      · replace h := zif2 c h
        obtain rfl := Option.some.inj h
        exact r1 false 8 rfl rfl rfl rfl rfl rfl trivial
  unfold f_X5_wornName at h
  obtain ⟨x1, hx1, h⟩ := zbd h
  refine rv false 0 1 rfl rfl trivial rfl (m_C_X5_weighTo l M0 M1 M3 M4 M5 M6 M7 M8 M9 M10 M11 M12 M13 p2 N_count N_lengths N_told N_digits N_slipped N_weights N_ahead N_row x1 hx1) ⟨_, _, _, _, rfl, rfl, rfl, by decide +kernel, ⟨Nat.le_of_ble_eq_true rfl, Nat.le_of_ble_eq_true rfl⟩, uGin u_23_10 u_23_11 u_23_12 u_1_21 u_23_13⟩ ⟨rfl, _, _, _, rfl, rfl⟩ ?_
  refine rb false 1 (L2 := [some (2, Int.ofNat 18), some (0, p1), some (0, p2), some (0, p3), some (0, p1), some (0, 0), none]) rfl rfl trivial ?_
  refine rmk [true, false, false, true, true, true, false] (L2 := [some (2, Int.ofNat 18), none, none, some (0, p3), some (0, p1), some (0, 0), none]) rfl ?_
  exact LP11 zN p3 p1 0 x1 h
def bX5_foldInto : zB := [(0, [(.lload_n 1, 1), (.lstore_n 3, 1), (.iconst 0, 1), (.istore 5, 2)], 5, .nop, 0), (5, [(.iload 5, 2), (.aload_n 0, 1), (.getfield 33, 3)], 11, .if_icmp .ge 39, 3), (14, [(.ldc2_w 57, 3), (.lload_n 3, 1), (.lmul, 1), (.aload_n 0, 1), (.getfield 11, 3), (.iload 5, 2), (.iaload, 1), (.i2l, 1), (.ladd, 1), (.lstore_n 3, 1)], 29, .nop, 0), (29, [(.ldc2_w 57, 3), (.lload_n 3, 1), (.lmul, 1), (.aload_n 0, 1), (.getfield 15, 3), (.iload 5, 2), (.iaload, 1), (.i2l, 1), (.ladd, 1), (.lstore_n 3, 1)], 44, .nop, 0), (44, [(.iinc 5 1, 3)], 47, .goto (-42), 3), (50, [(.lload_n 3, 1)], 51, .lreturn, 1)]
theorem bX5_foldInto_ok : zBok cX5_foldInto 6 bX5_foldInto = true := by decide +kernel
abbrev wX5_foldInto : List Cond := Cond.code yX5_foldInto cX5_foldInto 6 (some .long) :: uU
def rX5_foldInto : Room := { frames := 0, cells := 0, slots := 0, locals := 0 }
set_option maxRecDepth 20000 in
set_option maxHeartbeats 4000000 in
theorem m_C_X5_foldInto (l : Launch) (M0 : zM) (M1 : zM) (M3 : zM) (M4 : zM) (M5 : zM) (M6 : zM) (M7 : zM) (M8 : zM) (M9 : zM) (M10 : zM) (M11 : zM) (M12 : zM) (M13 : zM) (p1 : Int) (N_count : Int) (N_lengths : Nat → Int) (N_told : Nat → Int) (N_digits : Nat → Int) (N_slipped : Nat → Int) (N_weights : Nat → Int) (N_ahead : Nat → Int) (N_row : Nat → Int) (x : Int) (h : f_X5_foldInto p1 N_count N_lengths N_told = some x) : zD l yX5_foldInto wX5_foldInto rX5_foldInto lamC shpC [(2, Int.ofNat 18), (1, p1)] [M0, M1, ([N_count], [N_lengths, N_told, N_digits, N_slipped, N_weights, N_ahead, N_row]), M3, M4, M5, M6, M7, M8, M9, M10, M11, M12, M13] (some (1, x)) [M0, M1, ([N_count], [N_lengths, N_told, N_digits, N_slipped, N_weights, N_ahead, N_row]), M3, M4, M5, M6, M7, M8, M9, M10, M11, M12, M13] := by
  refine zD_of (B := bX5_foldInto) (E := eX5n) (by decide) rfl lokC (eX5n_ok _) bX5_foldInto_ok (Or.inl rfl) rfl (fun S R => ?_)
  obtain ⟨rb, rg, ri, rv, rs, r0, r1, r2, r3, rt, rmk⟩ := R
  show S 0 [some (2, Int.ofNat 18), some (1, p1), none, none, none, none] [] [M0, M1, ([N_count], [N_lengths, N_told, N_digits, N_slipped, N_weights, N_ahead, N_row]), M3, M4, M5, M6, M7, M8, M9, M10, M11, M12, M13]
  have LP5 : ∀ (n : Nat) (v3 : Int) (v5 : Int) (N_count : Int) (N_lengths : Nat → Int) (N_told : Nat → Int) (N_digits : Nat → Int) (N_slipped : Nat → Int) (N_weights : Nat → Int) (N_ahead : Nat → Int) (N_row : Nat → Int) (y : Int), l_X5_foldInto_5 n v3 v5 N_count N_lengths N_told = some y → S 50 [none, none, none, some (1, y), none, none] [] [M0, M1, ([N_count], [N_lengths, N_told, N_digits, N_slipped, N_weights, N_ahead, N_row]), M3, M4, M5, M6, M7, M8, M9, M10, M11, M12, M13] → S 5 [some (2, Int.ofNat 18), none, none, some (1, v3), none, some (0, v5)] [] [M0, M1, ([N_count], [N_lengths, N_told, N_digits, N_slipped, N_weights, N_ahead, N_row]), M3, M4, M5, M6, M7, M8, M9, M10, M11, M12, M13] := by
    intro n
    induction n with
    | zero =>
      intro v3 v5 N_count N_lengths N_told N_digits N_slipped N_weights N_ahead N_row y h k
      rw [l_X5_foldInto_5] at h
      cases h
    | succ n ih =>
      intro v3 v5 N_count N_lengths N_told N_digits N_slipped N_weights N_ahead N_row y h k
      rw [l_X5_foldInto_5] at h
      refine ri true 1 (q := v5 < N_count) (t1 := 14) (t2 := 50) rfl rfl trivial (fun c => ?_) (fun c => ?_)
      · replace h := zif1 c h
        obtain ⟨g1_0, h⟩ := zgd h
        refine rb true 2 (L2 := [some (2, Int.ofNat 18), none, none, some (1, (zwl ((31 * v3) + (N_lengths (Int.toNat v5))))), none, some (0, v5)]) rfl rfl g1_0 ?_
        obtain ⟨g2_0, h⟩ := zgd h
        refine rb true 3 (L2 := [some (2, Int.ofNat 18), none, none, some (1, (zwl ((31 * (zwl ((31 * v3) + (N_lengths (Int.toNat v5))))) + (N_told (Int.toNat v5))))), none, some (0, v5)]) rfl rfl g2_0 ?_
        obtain ⟨g3_0, h⟩ := zgd h
        refine rg true 4 (t := 5) (L2 := [some (2, Int.ofNat 18), none, none, some (1, (zwl ((31 * (zwl ((31 * v3) + (N_lengths (Int.toNat v5))))) + (N_told (Int.toNat v5))))), none, some (0, (v5 + 1))]) rfl rfl rfl g3_0 ?_
        exact ih (zwl ((31 * (zwl ((31 * v3) + (N_lengths (Int.toNat v5))))) + (N_told (Int.toNat v5)))) (v5 + 1) N_count N_lengths N_told N_digits N_slipped N_weights N_ahead N_row y h k
      · replace h := zif2 c h
        refine rmk [false, false, false, true, false, false] (L2 := [none, none, none, some (1, v3), none, none]) rfl ?_
        obtain rfl := Option.some.inj h
        exact k
  unfold f_X5_foldInto at h
  refine rb true 0 (L2 := [some (2, Int.ofNat 18), some (1, p1), none, some (1, p1), none, some (0, 0)]) rfl rfl trivial ?_
  refine rmk [true, false, false, true, false, true] (L2 := [some (2, Int.ofNat 18), none, none, some (1, p1), none, some (0, 0)]) rfl ?_
  obtain ⟨x4, hx4, h⟩ := zbd h
  refine LP5 zN p1 0 N_count N_lengths N_told N_digits N_slipped N_weights N_ahead N_row x4 hx4 ?_
  obtain rfl := Option.some.inj h
  exact r3 true 5 rfl rfl rfl rfl rfl rfl trivial
def bX7_has : zB := [(0, [(.iload_n 0, 1)], 1, .ifCond .lt 13, 3), (4, [(.iload_n 0, 1), (.bipush 10, 2)], 7, .if_icmp .ge 7, 3), (10, [(.iconst 1, 1)], 11, .goto 4, 3), (14, [(.iconst 0, 1)], 15, .nop, 0), (15, [], 15, .ireturn, 1)]
theorem bX7_has_ok : zBok cX7_has 1 bX7_has = true := by decide +kernel
abbrev wX7_has : List Cond := Cond.code yX7_has cX7_has 1 (some .boolean) :: uU
def rX7_has : Room := { frames := 0, cells := 0, slots := 0, locals := 0 }
set_option maxRecDepth 20000 in
set_option maxHeartbeats 4000000 in
theorem m_C_X7_has (l : Launch) (M0 : zM) (M1 : zM) (M2 : zM) (M3 : zM) (M4 : zM) (M5 : zM) (M6 : zM) (M7 : zM) (M8 : zM) (M9 : zM) (M10 : zM) (M11 : zM) (M12 : zM) (M13 : zM) (p0 : Int) (x : Int) (h : f_X7_has p0 = some x) : zD l yX7_has wX7_has rX7_has lamC shpC [(0, p0)] [M0, M1, M2, M3, M4, M5, M6, M7, M8, M9, M10, M11, M12, M13] (some (0, x)) [M0, M1, M2, M3, M4, M5, M6, M7, M8, M9, M10, M11, M12, M13] := by
  refine zD_of (B := bX7_has) (E := eX7) (by decide) rfl lokC (eX7_ok _) bX7_has_ok (Or.inl rfl) rfl (fun S R => ?_)
  obtain ⟨rb, rg, ri, rv, rs, r0, r1, r2, r3, rt, rmk⟩ := R
  show S 0 [some (0, p0)] [] [M0, M1, M2, M3, M4, M5, M6, M7, M8, M9, M10, M11, M12, M13]
  unfold f_X7_has at h
  refine ri false 0 (q := p0 < 0) (t1 := 14) (t2 := 4) rfl rfl trivial (fun c => ?_) (fun c => ?_)
  · replace h := zif1 c h
    refine rb false 3 (st2 := [(0, 0)]) rfl rfl trivial ?_
    obtain rfl := Option.some.inj h
    exact r2 false 4 rfl rfl rfl rfl trivial (by decide)
  · replace h := zif2 c h
    refine ri false 1 (q := p0 < 10) (t1 := 10) (t2 := 14) rfl rfl trivial (fun c => ?_) (fun c => ?_)
    · replace h := zif1 c h
      refine rg false 2 (t := 15) (st2 := [(0, 1)]) rfl rfl rfl trivial ?_
      obtain rfl := Option.some.inj h
      exact r2 false 4 rfl rfl rfl rfl trivial (by decide)
    · replace h := zif2 c h
      refine rb false 3 (st2 := [(0, 0)]) rfl rfl trivial ?_
      obtain rfl := Option.some.inj h
      exact r2 false 4 rfl rfl rfl rfl trivial (by decide)
def bX7_tellSends : zB := [(0, [(.aload_n 0, 1), (.getfield 9, 3), (.iload_n 1, 1), (.iaload, 1), (.istore_n 3, 1), (.aload_n 0, 1), (.getfield 9, 3), (.iload_n 1, 1), (.iload_n 2, 1), (.iastore, 1)], 14, .nop, 0), (14, [(.iload_n 3, 1)], 15, .ireturn, 1)]
theorem bX7_tellSends_ok : zBok cX7_tellSends 4 bX7_tellSends = true := by decide +kernel
abbrev wX7_tellSends : List Cond := Cond.code yX7_tellSends cX7_tellSends 4 (some .int) :: uU
def rX7_tellSends : Room := { frames := 0, cells := 0, slots := 0, locals := 0 }
set_option maxRecDepth 20000 in
set_option maxHeartbeats 4000000 in
theorem m_C_X7_tellSends (l : Launch) (M0 : zM) (M1 : zM) (M2 : zM) (M3 : zM) (M4 : zM) (M5 : zM) (M6 : zM) (M7 : zM) (M8 : zM) (M9 : zM) (M11 : zM) (M12 : zM) (M13 : zM) (p1 : Int) (p2 : Int) (E_others : Nat → Int) (E_copies : Nat → Int) (E_odds : Nat → Int) (E_often : Nat → Int) (E_days : Nat → Int) (E_times : Nat → Int) (E_next : Nat → Int) (x : Int × (Nat → Int)) (h : f_X7_tellSends p1 p2 E_others = some x) : zD l yX7_tellSends wX7_tellSends rX7_tellSends lamC shpC [(2, Int.ofNat 41), (0, p1), (0, p2)] [M0, M1, M2, M3, M4, M5, M6, M7, M8, M9, ([], [E_others, E_copies, E_odds, E_often, E_days, E_times, E_next]), M11, M12, M13] (some (0, x.1)) [M0, M1, M2, M3, M4, M5, M6, M7, M8, M9, ([], [x.2, E_copies, E_odds, E_often, E_days, E_times, E_next]), M11, M12, M13] := by
  refine zD_of (B := bX7_tellSends) (E := eX7) (by decide) rfl lokC (eX7_ok _) bX7_tellSends_ok (Or.inl rfl) rfl (fun S R => ?_)
  obtain ⟨rb, rg, ri, rv, rs, r0, r1, r2, r3, rt, rmk⟩ := R
  show S 0 [some (2, Int.ofNat 41), some (0, p1), some (0, p2), none] [] [M0, M1, M2, M3, M4, M5, M6, M7, M8, M9, ([], [E_others, E_copies, E_odds, E_often, E_days, E_times, E_next]), M11, M12, M13]
  unfold f_X7_tellSends at h
  obtain ⟨⟨g1_0, g1_1⟩, h⟩ := zgd h
  refine rb false 0 (L2 := [some (2, Int.ofNat 41), some (0, p1), some (0, p2), some (0, (E_others (Int.toNat p1)))]) (σ2 := [M0, M1, M2, M3, M4, M5, M6, M7, M8, M9, ([], [(zu E_others (Int.toNat p1) p2), E_copies, E_odds, E_often, E_days, E_times, E_next]), M11, M12, M13]) rfl rfl (And.intro g1_0 g1_1) ?_
  obtain rfl := Option.some.inj h
  exact r1 false 1 rfl rfl rfl rfl rfl rfl trivial
def bX7_tellCopies : zB := [(0, [(.aload_n 0, 1), (.getfield 13, 3), (.iload_n 1, 1), (.iload_n 2, 1), (.iastore, 1), (.aload_n 0, 1), (.getfield 16, 3), (.iload_n 1, 1), (.iload_n 3, 1), (.iastore, 1)], 14, .nop, 0), (14, [(.aload_n 0, 1), (.getfield 19, 3), (.iload_n 1, 1), (.iload 4, 2), (.iastore, 1)], 22, .return_, 1)]
theorem bX7_tellCopies_ok : zBok cX7_tellCopies 5 bX7_tellCopies = true := by decide +kernel
abbrev wX7_tellCopies : List Cond := Cond.code yX7_tellCopies cX7_tellCopies 5 none :: uU
def rX7_tellCopies : Room := { frames := 0, cells := 0, slots := 0, locals := 0 }
set_option maxRecDepth 20000 in
set_option maxHeartbeats 4000000 in
theorem m_C_X7_tellCopies (l : Launch) (M0 : zM) (M1 : zM) (M2 : zM) (M3 : zM) (M4 : zM) (M5 : zM) (M6 : zM) (M7 : zM) (M8 : zM) (M9 : zM) (M11 : zM) (M12 : zM) (M13 : zM) (p1 : Int) (p2 : Int) (p3 : Int) (p4 : Int) (E_others : Nat → Int) (E_copies : Nat → Int) (E_odds : Nat → Int) (E_often : Nat → Int) (E_days : Nat → Int) (E_times : Nat → Int) (E_next : Nat → Int) (x : (Nat → Int) × (Nat → Int) × (Nat → Int)) (h : f_X7_tellCopies p1 p2 p3 p4 E_copies E_odds E_often = some x) : zD l yX7_tellCopies wX7_tellCopies rX7_tellCopies lamC shpC [(2, Int.ofNat 41), (0, p1), (0, p2), (0, p3), (0, p4)] [M0, M1, M2, M3, M4, M5, M6, M7, M8, M9, ([], [E_others, E_copies, E_odds, E_often, E_days, E_times, E_next]), M11, M12, M13] (none) [M0, M1, M2, M3, M4, M5, M6, M7, M8, M9, ([], [E_others, x.1, x.2.1, x.2.2, E_days, E_times, E_next]), M11, M12, M13] := by
  refine zD_of (B := bX7_tellCopies) (E := eX7) (by decide) rfl lokC (eX7_ok _) bX7_tellCopies_ok (Or.inl rfl) rfl (fun S R => ?_)
  obtain ⟨rb, rg, ri, rv, rs, r0, r1, r2, r3, rt, rmk⟩ := R
  show S 0 [some (2, Int.ofNat 41), some (0, p1), some (0, p2), some (0, p3), some (0, p4)] [] [M0, M1, M2, M3, M4, M5, M6, M7, M8, M9, ([], [E_others, E_copies, E_odds, E_often, E_days, E_times, E_next]), M11, M12, M13]
  unfold f_X7_tellCopies at h
  obtain ⟨⟨g1_0, g1_1⟩, h⟩ := zgd h
  refine rb false 0 (σ2 := [M0, M1, M2, M3, M4, M5, M6, M7, M8, M9, ([], [E_others, (zu E_copies (Int.toNat p1) p2), (zu E_odds (Int.toNat p1) p3), E_often, E_days, E_times, E_next]), M11, M12, M13]) rfl rfl (And.intro g1_0 g1_1) ?_
  obtain ⟨g2_0, h⟩ := zgd h
  obtain rfl := Option.some.inj h
  exact r0 false 1 rfl rfl rfl rfl g2_0
def bX7_getters : zB := [(0, [(.iconst 0, 1), (.istore_n 2, 1), (.aload_n 0, 1), (.getfield 13, 3), (.iload_n 1, 1), (.iaload, 1), (.istore_n 3, 1), (.iconst 1, 1), (.istore 4, 2)], 12, .nop, 0), (12, [(.iload 4, 2), (.bipush 10, 2)], 16, .if_icmp .ge 46, 3), (19, [(.iload_n 3, 1)], 20, .ifCond .le 42, 3), (23, [(.iload_n 1, 1), (.iload 4, 2), (.iadd, 1), (.bipush 10, 2), (.irem, 1), (.istore 5, 2), (.aload_n 0, 1), (.getfield 9, 3), (.iload_n 1, 1), (.iaload, 1), (.iload 5, 2), (.ishr, 1), (.iconst 1, 1), (.iand, 1)], 43, .ifCond .eq 13, 3), (46, [(.iload_n 2, 1), (.iconst 1, 1), (.iload 5, 2), (.ishl, 1), (.ior, 1), (.istore_n 2, 1), (.iinc 3 (-1), 3)], 56, .nop, 0), (56, [(.iinc 4 1, 3)], 59, .goto (-47), 3), (62, [(.iload_n 2, 1)], 63, .ireturn, 1)]
theorem bX7_getters_ok : zBok cX7_getters 6 bX7_getters = true := by decide +kernel
abbrev wX7_getters : List Cond := Cond.code yX7_getters cX7_getters 6 (some .int) :: uU
def rX7_getters : Room := { frames := 0, cells := 0, slots := 0, locals := 0 }
set_option maxRecDepth 20000 in
set_option maxHeartbeats 4000000 in
theorem m_C_X7_getters (l : Launch) (M0 : zM) (M1 : zM) (M2 : zM) (M3 : zM) (M4 : zM) (M5 : zM) (M6 : zM) (M7 : zM) (M8 : zM) (M9 : zM) (M11 : zM) (M12 : zM) (M13 : zM) (p1 : Int) (E_others : Nat → Int) (E_copies : Nat → Int) (E_odds : Nat → Int) (E_often : Nat → Int) (E_days : Nat → Int) (E_times : Nat → Int) (E_next : Nat → Int) (x : Int) (h : f_X7_getters p1 E_others E_copies = some x) : zD l yX7_getters wX7_getters rX7_getters lamC shpC [(2, Int.ofNat 41), (0, p1)] [M0, M1, M2, M3, M4, M5, M6, M7, M8, M9, ([], [E_others, E_copies, E_odds, E_often, E_days, E_times, E_next]), M11, M12, M13] (some (0, x)) [M0, M1, M2, M3, M4, M5, M6, M7, M8, M9, ([], [E_others, E_copies, E_odds, E_often, E_days, E_times, E_next]), M11, M12, M13] := by
  refine zD_of (B := bX7_getters) (E := eX7) (by decide) rfl lokC (eX7_ok _) bX7_getters_ok (Or.inl rfl) rfl (fun S R => ?_)
  obtain ⟨rb, rg, ri, rv, rs, r0, r1, r2, r3, rt, rmk⟩ := R
  show S 0 [some (2, Int.ofNat 41), some (0, p1), none, none, none, none] [] [M0, M1, M2, M3, M4, M5, M6, M7, M8, M9, ([], [E_others, E_copies, E_odds, E_often, E_days, E_times, E_next]), M11, M12, M13]
  have LP12 : ∀ (n : Nat) (v1 : Int) (v2 : Int) (v3 : Int) (v4 : Int) (E_others : Nat → Int) (E_copies : Nat → Int) (E_odds : Nat → Int) (E_often : Nat → Int) (E_days : Nat → Int) (E_times : Nat → Int) (E_next : Nat → Int) (y : Int), l_X7_getters_12 n v1 v2 v3 v4 E_others = some y → S 62 [none, none, some (0, y), none, none, none] [] [M0, M1, M2, M3, M4, M5, M6, M7, M8, M9, ([], [E_others, E_copies, E_odds, E_often, E_days, E_times, E_next]), M11, M12, M13] → S 12 [some (2, Int.ofNat 41), some (0, v1), some (0, v2), some (0, v3), some (0, v4), none] [] [M0, M1, M2, M3, M4, M5, M6, M7, M8, M9, ([], [E_others, E_copies, E_odds, E_often, E_days, E_times, E_next]), M11, M12, M13] := by
    intro n
    induction n with
    | zero =>
      intro v1 v2 v3 v4 E_others E_copies E_odds E_often E_days E_times E_next y h k
      rw [l_X7_getters_12] at h
      cases h
    | succ n ih =>
      intro v1 v2 v3 v4 E_others E_copies E_odds E_often E_days E_times E_next y h k
      rw [l_X7_getters_12] at h
      refine ri false 1 (q := v4 < 10) (t1 := 19) (t2 := 62) rfl rfl trivial (fun c => ?_) (fun c => ?_)
      · replace h := zif1 c h
        refine ri false 2 (q := (0 : Int) < v3) (t1 := 23) (t2 := 62) rfl rfl trivial (fun c => ?_) (fun c => ?_)
        · replace h := zif1 c h
          obtain ⟨⟨g2_0, g2_1⟩, h⟩ := zgd h
          refine ri false 3 (q := (zand (zshr (E_others (Int.toNat v1)) (Int.tmod (v1 + v4) 10)) 1) = 0) (t1 := 56) (t2 := 46) (L2 := [some (2, Int.ofNat 41), some (0, v1), some (0, v2), some (0, v3), some (0, v4), some (0, (Int.tmod (v1 + v4) 10))]) rfl rfl (And.intro g2_0 (And.intro (show (10 : Int) ≠ 0 by decide) g2_1)) (fun c => ?_) (fun c => ?_)
          · replace h := zif1 c h
            obtain ⟨g3_0, h⟩ := zgd h
            refine rg false 5 (t := 12) (L2 := [some (2, Int.ofNat 41), some (0, v1), some (0, v2), some (0, v3), some (0, (v4 + 1)), some (0, (Int.tmod (v1 + v4) 10))]) rfl rfl rfl g3_0 ?_
            refine rmk [true, true, true, true, true, false] (L2 := [some (2, Int.ofNat 41), some (0, v1), some (0, v2), some (0, v3), some (0, (v4 + 1)), none]) rfl ?_
            exact ih v1 v2 v3 (v4 + 1) E_others E_copies E_odds E_often E_days E_times E_next y h k
          · replace h := zif2 c h
            obtain ⟨g4_0, h⟩ := zgd h
            refine rb false 4 (L2 := [some (2, Int.ofNat 41), some (0, v1), some (0, (zor v2 (zshl 1 (Int.tmod (v1 + v4) 10)))), some (0, (v3 + (-1))), some (0, v4), some (0, (Int.tmod (v1 + v4) 10))]) rfl rfl g4_0 ?_
            obtain ⟨g5_0, h⟩ := zgd h
            refine rg false 5 (t := 12) (L2 := [some (2, Int.ofNat 41), some (0, v1), some (0, (zor v2 (zshl 1 (Int.tmod (v1 + v4) 10)))), some (0, (v3 + (-1))), some (0, (v4 + 1)), some (0, (Int.tmod (v1 + v4) 10))]) rfl rfl rfl g5_0 ?_
            refine rmk [true, true, true, true, true, false] (L2 := [some (2, Int.ofNat 41), some (0, v1), some (0, (zor v2 (zshl 1 (Int.tmod (v1 + v4) 10)))), some (0, (v3 + (-1))), some (0, (v4 + 1)), none]) rfl ?_
            exact ih v1 (zor v2 (zshl 1 (Int.tmod (v1 + v4) 10))) (v3 + (-1)) (v4 + 1) E_others E_copies E_odds E_often E_days E_times E_next y h k
        · replace h := zif2 c h
          refine rmk [false, false, true, false, false, false] (L2 := [none, none, some (0, v2), none, none, none]) rfl ?_
          obtain rfl := Option.some.inj h
          exact k
      · replace h := zif2 c h
        refine rmk [false, false, true, false, false, false] (L2 := [none, none, some (0, v2), none, none, none]) rfl ?_
        obtain rfl := Option.some.inj h
        exact k
  unfold f_X7_getters at h
  obtain ⟨g1_0, h⟩ := zgd h
  refine rb false 0 (L2 := [some (2, Int.ofNat 41), some (0, p1), some (0, 0), some (0, (E_copies (Int.toNat p1))), some (0, 1), none]) rfl rfl g1_0 ?_
  obtain ⟨x6, hx6, h⟩ := zbd h
  refine LP12 zN p1 0 (E_copies (Int.toNat p1)) 1 E_others E_copies E_odds E_often E_days E_times E_next x6 hx6 ?_
  obtain rfl := Option.some.inj h
  exact r1 false 6 rfl rfl rfl rfl rfl rfl trivial
def bX7_countDay : zB := [(0, [(.iconst 0, 1), (.istore_n 2, 1)], 2, .nop, 0), (2, [(.iload_n 2, 1), (.bipush 10, 2)], 5, .if_icmp .ge 23, 3), (8, [(.aload_n 0, 1), (.getfield 22, 3), (.iload_n 2, 1), (.dup2, 1), (.iaload, 1), (.iload_n 1, 1), (.iload_n 2, 1), (.ishr, 1), (.iconst 1, 1), (.iand, 1), (.iadd, 1), (.iastore, 1)], 22, .nop, 0), (22, [(.iinc 2 1, 3)], 25, .goto (-23), 3), (28, [], 28, .return_, 1)]
theorem bX7_countDay_ok : zBok cX7_countDay 3 bX7_countDay = true := by decide +kernel
abbrev wX7_countDay : List Cond := Cond.code yX7_countDay cX7_countDay 3 none :: uU
def rX7_countDay : Room := { frames := 0, cells := 0, slots := 0, locals := 0 }
set_option maxRecDepth 20000 in
set_option maxHeartbeats 4000000 in
theorem m_C_X7_countDay (l : Launch) (M0 : zM) (M1 : zM) (M2 : zM) (M3 : zM) (M4 : zM) (M5 : zM) (M6 : zM) (M7 : zM) (M8 : zM) (M9 : zM) (M11 : zM) (M12 : zM) (M13 : zM) (p1 : Int) (E_others : Nat → Int) (E_copies : Nat → Int) (E_odds : Nat → Int) (E_often : Nat → Int) (E_days : Nat → Int) (E_times : Nat → Int) (E_next : Nat → Int) (x : Nat → Int) (h : f_X7_countDay p1 E_days = some x) : zD l yX7_countDay wX7_countDay rX7_countDay lamC shpC [(2, Int.ofNat 41), (0, p1)] [M0, M1, M2, M3, M4, M5, M6, M7, M8, M9, ([], [E_others, E_copies, E_odds, E_often, E_days, E_times, E_next]), M11, M12, M13] (none) [M0, M1, M2, M3, M4, M5, M6, M7, M8, M9, ([], [E_others, E_copies, E_odds, E_often, x, E_times, E_next]), M11, M12, M13] := by
  refine zD_of (B := bX7_countDay) (E := eX7) (by decide) rfl lokC (eX7_ok _) bX7_countDay_ok (Or.inl rfl) rfl (fun S R => ?_)
  obtain ⟨rb, rg, ri, rv, rs, r0, r1, r2, r3, rt, rmk⟩ := R
  show S 0 [some (2, Int.ofNat 41), some (0, p1), none] [] [M0, M1, M2, M3, M4, M5, M6, M7, M8, M9, ([], [E_others, E_copies, E_odds, E_often, E_days, E_times, E_next]), M11, M12, M13]
  have LP2 : ∀ (n : Nat) (v1 : Int) (v2 : Int) (E_others : Nat → Int) (E_copies : Nat → Int) (E_odds : Nat → Int) (E_often : Nat → Int) (E_days : Nat → Int) (E_times : Nat → Int) (E_next : Nat → Int) (y : Nat → Int), l_X7_countDay_2 n v1 v2 E_days = some y → S 28 [none, none, none] [] [M0, M1, M2, M3, M4, M5, M6, M7, M8, M9, ([], [E_others, E_copies, E_odds, E_often, y, E_times, E_next]), M11, M12, M13] → S 2 [some (2, Int.ofNat 41), some (0, v1), some (0, v2)] [] [M0, M1, M2, M3, M4, M5, M6, M7, M8, M9, ([], [E_others, E_copies, E_odds, E_often, E_days, E_times, E_next]), M11, M12, M13] := by
    intro n
    induction n with
    | zero =>
      intro v1 v2 E_others E_copies E_odds E_often E_days E_times E_next y h k
      rw [l_X7_countDay_2] at h
      cases h
    | succ n ih =>
      intro v1 v2 E_others E_copies E_odds E_often E_days E_times E_next y h k
      rw [l_X7_countDay_2] at h
      refine ri false 1 (q := v2 < 10) (t1 := 8) (t2 := 28) rfl rfl trivial (fun c => ?_) (fun c => ?_)
      · replace h := zif1 c h
        obtain ⟨⟨g1_0, g1_1, g1_2⟩, h⟩ := zgd h
        refine rb false 2 (σ2 := [M0, M1, M2, M3, M4, M5, M6, M7, M8, M9, ([], [E_others, E_copies, E_odds, E_often, (zu E_days (Int.toNat v2) ((E_days (Int.toNat v2)) + (zand (zshr v1 v2) 1))), E_times, E_next]), M11, M12, M13]) rfl rfl (And.intro g1_0 (And.intro g1_1 g1_2)) ?_
        obtain ⟨g2_0, h⟩ := zgd h
        refine rg false 3 (t := 2) (L2 := [some (2, Int.ofNat 41), some (0, v1), some (0, (v2 + 1))]) rfl rfl rfl g2_0 ?_
        exact ih v1 (v2 + 1) E_others E_copies E_odds E_often (zu E_days (Int.toNat v2) ((E_days (Int.toNat v2)) + (zand (zshr v1 v2) 1))) E_times E_next y h k
      · replace h := zif2 c h
        refine rmk [false, false, false] (L2 := [none, none, none]) rfl ?_
        obtain rfl := Option.some.inj h
        exact k
  unfold f_X7_countDay at h
  refine rb false 0 (L2 := [some (2, Int.ofNat 41), some (0, p1), some (0, 0)]) rfl rfl trivial ?_
  obtain ⟨x3, hx3, h⟩ := zbd h
  refine LP2 zN p1 0 E_others E_copies E_odds E_often E_days E_times E_next x3 hx3 ?_
  obtain rfl := Option.some.inj h
  exact r0 false 4 rfl rfl rfl rfl trivial
def bX7_goThrough : zB := [(0, [(.iconst 0, 1), (.istore_n 3, 1)], 2, .nop, 0), (2, [(.iload_n 3, 1), (.bipush 10, 2)], 5, .if_icmp .ge 32, 3), (8, [(.aload_n 0, 1), (.getfield 22, 3), (.iload_n 3, 1), (.iload_n 3, 1), (.iload_n 1, 1)], 15, .if_icmp .ne 7, 3), (18, [(.iconst 1, 1)], 19, .goto 4, 3), (22, [(.iconst 0, 1)], 23, .nop, 0), (23, [(.iastore, 1), (.aload_n 0, 1), (.getfield 25, 3), (.iload_n 3, 1), (.iconst 0, 1), (.iastore, 1), (.iinc 3 1, 3)], 34, .goto (-32), 3), (37, [(.iload_n 2, 1), (.istore_n 3, 1), (.iconst 1, 1), (.iload_n 1, 1), (.ishl, 1), (.istore 4, 2), (.iconst 0, 1), (.istore 5, 2), (.iconst 1, 1), (.istore 6, 2)], 50, .nop, 0), (50, [(.iload 6, 2), (.bipush 60, 2)], 54, .if_icmp .gt 130, 3), (57, [(.iload 4, 2)], 59, .ifCond .eq 125, 3), (62, [(.iconst 0, 1), (.istore 7, 2), (.iconst 0, 1), (.istore 8, 2)], 68, .nop, 0), (68, [(.iload 8, 2), (.bipush 10, 2)], 72, .if_icmp .ge 87, 3), (75, [(.iload 4, 2), (.iload 8, 2), (.ishr, 1), (.iconst 1, 1), (.iand, 1)], 82, .ifCond .ne 6, 3), (85, [], 85, .goto 68, 3), (88, [(.iload_n 3, 1), (.ldc 31, 2), (.imul, 1), (.sipush 12345, 3), (.iadd, 1), (.istore_n 3, 1), (.iload_n 3, 1), (.bipush 16, 2), (.iushr, 1), (.bipush 100, 2), (.irem, 1), (.aload_n 0, 1), (.getfield 16, 3), (.iload 8, 2), (.iaload, 1)], 111, .if_icmp .ge 42, 3), (114, [(.aload_n 0, 1), (.getfield 25, 3), (.iload 8, 2), (.iaload, 1), (.aload_n 0, 1), (.getfield 19, 3), (.iload 8, 2), (.iaload, 1)], 128, .if_icmp .ge 25, 3), (131, [(.aload_n 0, 1), (.getfield 25, 3), (.iload 8, 2), (.dup2, 1), (.iaload, 1), (.iconst 1, 1), (.iadd, 1), (.iastore, 1), (.iload 7, 2), (.aload_n 0, 1), (.iload 8, 2)], 147, .invokevirtual 32, 3), (150, [(.ior, 1), (.istore 7, 2)], 153, .nop, 0), (153, [(.iinc 8 1, 3)], 156, .goto (-88), 3), (159, [(.iload 7, 2)], 161, .ifCond .eq 7, 3), (164, [(.iload 6, 2), (.istore 5, 2)], 168, .nop, 0), (168, [(.aload_n 0, 1), (.iload 7, 2)], 171, .invokevirtual 36, 3), (174, [(.iload 7, 2), (.istore 4, 2), (.iinc 6 1, 3)], 181, .goto (-131), 3), (184, [(.iload 5, 2)], 186, .ireturn, 1)]
theorem bX7_goThrough_ok : zBok cX7_goThrough 9 bX7_goThrough = true := by decide +kernel
abbrev wX7_goThrough : List Cond := Cond.code yX7_goThrough cX7_goThrough 9 (some .int) :: uU
def rX7_goThrough : Room := { frames := 1, cells := 0, slots := 0, locals := 25 }
set_option maxRecDepth 20000 in
set_option maxHeartbeats 4000000 in
theorem m_C_X7_goThrough (l : Launch) (M0 : zM) (M1 : zM) (M2 : zM) (M3 : zM) (M4 : zM) (M5 : zM) (M6 : zM) (M7 : zM) (M8 : zM) (M9 : zM) (M11 : zM) (M12 : zM) (M13 : zM) (p1 : Int) (p2 : Int) (E_others : Nat → Int) (E_copies : Nat → Int) (E_odds : Nat → Int) (E_often : Nat → Int) (E_days : Nat → Int) (E_times : Nat → Int) (E_next : Nat → Int) (x : Int × (Nat → Int) × (Nat → Int)) (h : f_X7_goThrough p1 p2 E_others E_copies E_odds E_often E_days E_times = some x) : zD l yX7_goThrough wX7_goThrough rX7_goThrough lamC shpC [(2, Int.ofNat 41), (0, p1), (0, p2)] [M0, M1, M2, M3, M4, M5, M6, M7, M8, M9, ([], [E_others, E_copies, E_odds, E_often, E_days, E_times, E_next]), M11, M12, M13] (some (0, x.1)) [M0, M1, M2, M3, M4, M5, M6, M7, M8, M9, ([], [E_others, E_copies, E_odds, E_often, x.2.1, x.2.2, E_next]), M11, M12, M13] := by
  refine zD_of (B := bX7_goThrough) (E := eX7) (by decide) rfl lokC (eX7_ok _) bX7_goThrough_ok (Or.inl rfl) rfl (fun S R => ?_)
  obtain ⟨rb, rg, ri, rv, rs, r0, r1, r2, r3, rt, rmk⟩ := R
  show S 0 [some (2, Int.ofNat 41), some (0, p1), some (0, p2), none, none, none, none, none, none] [] [M0, M1, M2, M3, M4, M5, M6, M7, M8, M9, ([], [E_others, E_copies, E_odds, E_often, E_days, E_times, E_next]), M11, M12, M13]
  have LP2 : ∀ (n : Nat) (v1 : Int) (v2 : Int) (v3 : Int) (E_others : Nat → Int) (E_copies : Nat → Int) (E_odds : Nat → Int) (E_often : Nat → Int) (E_days : Nat → Int) (E_times : Nat → Int) (E_next : Nat → Int) (y : (Nat → Int) × (Nat → Int)), l_X7_goThrough_2 n v1 v2 v3 E_days E_times = some y → S 37 [some (2, Int.ofNat 41), some (0, v1), some (0, v2), none, none, none, none, none, none] [] [M0, M1, M2, M3, M4, M5, M6, M7, M8, M9, ([], [E_others, E_copies, E_odds, E_often, y.1, y.2, E_next]), M11, M12, M13] → S 2 [some (2, Int.ofNat 41), some (0, v1), some (0, v2), some (0, v3), none, none, none, none, none] [] [M0, M1, M2, M3, M4, M5, M6, M7, M8, M9, ([], [E_others, E_copies, E_odds, E_often, E_days, E_times, E_next]), M11, M12, M13] := by
    intro n
    induction n with
    | zero =>
      intro v1 v2 v3 E_others E_copies E_odds E_often E_days E_times E_next y h k
      rw [l_X7_goThrough_2] at h
      cases h
    | succ n ih =>
      intro v1 v2 v3 E_others E_copies E_odds E_often E_days E_times E_next y h k
      rw [l_X7_goThrough_2] at h
      refine ri false 1 (q := v3 < 10) (t1 := 8) (t2 := 37) rfl rfl trivial (fun c => ?_) (fun c => ?_)
      · replace h := zif1 c h
        refine ri false 2 (q := v3 = v1) (t1 := 18) (t2 := 22) (st2 := [(0, v3), (2, Int.ofNat 46)]) rfl rfl trivial (fun c => ?_) (fun c => ?_)
        · replace h := zif1 c h
          refine rg false 3 (t := 23) (st2 := [(0, 1), (0, v3), (2, Int.ofNat 46)]) rfl rfl rfl trivial ?_
          obtain ⟨⟨g1_0, g1_1, g1_2⟩, h⟩ := zgd h
          refine rg false 5 (t := 2) (L2 := [some (2, Int.ofNat 41), some (0, v1), some (0, v2), some (0, (v3 + 1)), none, none, none, none, none]) (σ2 := [M0, M1, M2, M3, M4, M5, M6, M7, M8, M9, ([], [E_others, E_copies, E_odds, E_often, (zu E_days (Int.toNat v3) 1), (zu E_times (Int.toNat v3) 0), E_next]), M11, M12, M13]) rfl rfl rfl (And.intro g1_0 (And.intro g1_1 g1_2)) ?_
          exact ih v1 v2 (v3 + 1) E_others E_copies E_odds E_often (zu E_days (Int.toNat v3) 1) (zu E_times (Int.toNat v3) 0) E_next y h k
        · replace h := zif2 c h
          refine rb false 4 (st2 := [(0, 0), (0, v3), (2, Int.ofNat 46)]) rfl rfl trivial ?_
          obtain ⟨⟨g2_0, g2_1, g2_2⟩, h⟩ := zgd h
          refine rg false 5 (t := 2) (L2 := [some (2, Int.ofNat 41), some (0, v1), some (0, v2), some (0, (v3 + 1)), none, none, none, none, none]) (σ2 := [M0, M1, M2, M3, M4, M5, M6, M7, M8, M9, ([], [E_others, E_copies, E_odds, E_often, (zu E_days (Int.toNat v3) 0), (zu E_times (Int.toNat v3) 0), E_next]), M11, M12, M13]) rfl rfl rfl (And.intro g2_0 (And.intro g2_1 g2_2)) ?_
          exact ih v1 v2 (v3 + 1) E_others E_copies E_odds E_often (zu E_days (Int.toNat v3) 0) (zu E_times (Int.toNat v3) 0) E_next y h k
      · replace h := zif2 c h
        refine rmk [true, true, true, false, false, false, false, false, false] (L2 := [some (2, Int.ofNat 41), some (0, v1), some (0, v2), none, none, none, none, none, none]) rfl ?_
        obtain rfl := Option.some.inj h
        exact k
  have LP68 : ∀ (n : Nat) (v4 : Int) (v5 : Int) (v6 : Int) (v3 : Int) (v7 : Int) (v8 : Int) (E_others : Nat → Int) (E_copies : Nat → Int) (E_odds : Nat → Int) (E_often : Nat → Int) (E_days : Nat → Int) (E_times : Nat → Int) (E_next : Nat → Int) (y : Int × Int × (Nat → Int)), l_X7_goThrough_68 n v4 v5 v6 v3 v7 v8 E_others E_copies E_odds E_often E_times = some y → S 159 [some (2, Int.ofNat 41), none, none, some (0, y.1), none, some (0, v5), some (0, v6), some (0, y.2.1), none] [] [M0, M1, M2, M3, M4, M5, M6, M7, M8, M9, ([], [E_others, E_copies, E_odds, E_often, E_days, y.2.2, E_next]), M11, M12, M13] → S 68 [some (2, Int.ofNat 41), none, none, some (0, v3), some (0, v4), some (0, v5), some (0, v6), some (0, v7), some (0, v8)] [] [M0, M1, M2, M3, M4, M5, M6, M7, M8, M9, ([], [E_others, E_copies, E_odds, E_often, E_days, E_times, E_next]), M11, M12, M13] := by
    intro n
    induction n with
    | zero =>
      intro v4 v5 v6 v3 v7 v8 E_others E_copies E_odds E_often E_days E_times E_next y h k
      rw [l_X7_goThrough_68] at h
      cases h
    | succ n ih =>
      intro v4 v5 v6 v3 v7 v8 E_others E_copies E_odds E_often E_days E_times E_next y h k
      rw [l_X7_goThrough_68] at h
      refine ri false 10 (q := v8 < 10) (t1 := 75) (t2 := 159) rfl rfl trivial (fun c => ?_) (fun c => ?_)
      · replace h := zif1 c h
        refine ri false 11 (q := (zand (zshr v4 v8) 1) = 0) (t1 := 85) (t2 := 88) rfl rfl trivial (fun c => ?_) (fun c => ?_)
        · replace h := zif1 c h
          refine rg false 12 (t := 153) rfl rfl rfl trivial ?_
          obtain ⟨g4_0, h⟩ := zgd h
          refine rg false 17 (t := 68) (L2 := [some (2, Int.ofNat 41), none, none, some (0, v3), some (0, v4), some (0, v5), some (0, v6), some (0, v7), some (0, (v8 + 1))]) rfl rfl rfl g4_0 ?_
          exact ih v4 v5 v6 v3 v7 (v8 + 1) E_others E_copies E_odds E_often E_days E_times E_next y h k
        · replace h := zif2 c h
          obtain ⟨g5_0, h⟩ := zgd h
          refine ri true 13 (q := (Int.tmod (zushr (zw ((v3 * 1103515245) + 12345)) 16) 100) < (E_odds (Int.toNat v8))) (t1 := 114) (t2 := 153) (L2 := [some (2, Int.ofNat 41), none, none, some (0, (zw ((v3 * 1103515245) + 12345))), some (0, v4), some (0, v5), some (0, v6), some (0, v7), some (0, v8)]) rfl rfl (And.intro (show (100 : Int) ≠ 0 by decide) g5_0) (fun c => ?_) (fun c => ?_)
          · replace h := zif1 c h
            obtain ⟨⟨g6_0, g6_1⟩, h⟩ := zgd h
            refine ri false 14 (q := (E_times (Int.toNat v8)) < (E_often (Int.toNat v8))) (t1 := 131) (t2 := 153) rfl rfl (And.intro g6_0 g6_1) (fun c => ?_) (fun c => ?_)
            · replace h := zif1 c h
              obtain ⟨⟨g8_0, g8_1, g8_2⟩, h⟩ := zgd h
              obtain ⟨x7, hx7, h⟩ := zbd h
              refine rv false 15 1 (σ2 := [M0, M1, M2, M3, M4, M5, M6, M7, M8, M9, ([], [E_others, E_copies, E_odds, E_often, E_days, (zu E_times (Int.toNat v8) ((E_times (Int.toNat v8)) + 1)), E_next]), M11, M12, M13]) (rest := [(0, v7)]) rfl rfl (And.intro g8_0 (And.intro g8_1 g8_2)) rfl (m_C_X7_getters l M0 M1 M2 M3 M4 M5 M6 M7 M8 M9 M11 M12 M13 v8 E_others E_copies E_odds E_often E_days (zu E_times (Int.toNat v8) ((E_times (Int.toNat v8)) + 1)) E_next x7 hx7) ⟨_, _, _, _, rfl, rfl, rfl, by decide +kernel, ⟨Nat.le_of_ble_eq_true rfl, Nat.le_of_ble_eq_true rfl⟩, uGin u_34_13 u_34_14 u_34_15 u_2_9 u_34_16⟩ ⟨rfl, _, _, _, rfl, rfl⟩ ?_
              refine rb false 16 (L2 := [some (2, Int.ofNat 41), none, none, some (0, (zw ((v3 * 1103515245) + 12345))), some (0, v4), some (0, v5), some (0, v6), some (0, (zor v7 x7)), some (0, v8)]) rfl rfl trivial ?_
              obtain ⟨g9_0, h⟩ := zgd h
              refine rg false 17 (t := 68) (L2 := [some (2, Int.ofNat 41), none, none, some (0, (zw ((v3 * 1103515245) + 12345))), some (0, v4), some (0, v5), some (0, v6), some (0, (zor v7 x7)), some (0, (v8 + 1))]) rfl rfl rfl g9_0 ?_
              exact ih v4 v5 v6 (zw ((v3 * 1103515245) + 12345)) (zor v7 x7) (v8 + 1) E_others E_copies E_odds E_often E_days (zu E_times (Int.toNat v8) ((E_times (Int.toNat v8)) + 1)) E_next y h k
            · replace h := zif2 c h
              obtain ⟨g10_0, h⟩ := zgd h
              refine rg false 17 (t := 68) (L2 := [some (2, Int.ofNat 41), none, none, some (0, (zw ((v3 * 1103515245) + 12345))), some (0, v4), some (0, v5), some (0, v6), some (0, v7), some (0, (v8 + 1))]) rfl rfl rfl g10_0 ?_
              exact ih v4 v5 v6 (zw ((v3 * 1103515245) + 12345)) v7 (v8 + 1) E_others E_copies E_odds E_often E_days E_times E_next y h k
          · replace h := zif2 c h
            obtain ⟨g11_0, h⟩ := zgd h
            refine rg false 17 (t := 68) (L2 := [some (2, Int.ofNat 41), none, none, some (0, (zw ((v3 * 1103515245) + 12345))), some (0, v4), some (0, v5), some (0, v6), some (0, v7), some (0, (v8 + 1))]) rfl rfl rfl g11_0 ?_
            exact ih v4 v5 v6 (zw ((v3 * 1103515245) + 12345)) v7 (v8 + 1) E_others E_copies E_odds E_often E_days E_times E_next y h k
      · replace h := zif2 c h
        refine rmk [true, false, false, true, false, true, true, true, false] (L2 := [some (2, Int.ofNat 41), none, none, some (0, v3), none, some (0, v5), some (0, v6), some (0, v7), none]) rfl ?_
        obtain rfl := Option.some.inj h
        exact k
  have LP50 : ∀ (n : Nat) (v3 : Int) (v4 : Int) (v5 : Int) (v6 : Int) (E_others : Nat → Int) (E_copies : Nat → Int) (E_odds : Nat → Int) (E_often : Nat → Int) (E_days : Nat → Int) (E_times : Nat → Int) (E_next : Nat → Int) (y : Int × (Nat → Int) × (Nat → Int)), l_X7_goThrough_50 n v3 v4 v5 v6 E_others E_copies E_odds E_often E_days E_times = some y → S 184 [none, none, none, none, none, some (0, y.1), none, none, none] [] [M0, M1, M2, M3, M4, M5, M6, M7, M8, M9, ([], [E_others, E_copies, E_odds, E_often, y.2.1, y.2.2, E_next]), M11, M12, M13] → S 50 [some (2, Int.ofNat 41), none, none, some (0, v3), some (0, v4), some (0, v5), some (0, v6), none, none] [] [M0, M1, M2, M3, M4, M5, M6, M7, M8, M9, ([], [E_others, E_copies, E_odds, E_often, E_days, E_times, E_next]), M11, M12, M13] := by
    intro n
    induction n with
    | zero =>
      intro v3 v4 v5 v6 E_others E_copies E_odds E_often E_days E_times E_next y h k
      rw [l_X7_goThrough_50] at h
      cases h
    | succ n ih =>
      intro v3 v4 v5 v6 E_others E_copies E_odds E_often E_days E_times E_next y h k
      rw [l_X7_goThrough_50] at h
      refine ri false 7 (q := (60 : Int) < v6) (t1 := 184) (t2 := 57) rfl rfl trivial (fun c => ?_) (fun c => ?_)
      · replace h := zif1 c h
        refine rmk [false, false, false, false, false, true, false, false, false] (L2 := [none, none, none, none, none, some (0, v5), none, none, none]) rfl ?_
        obtain rfl := Option.some.inj h
        exact k
      · replace h := zif2 c h
        refine ri false 8 (q := v4 = 0) (t1 := 184) (t2 := 62) rfl rfl trivial (fun c => ?_) (fun c => ?_)
        · replace h := zif1 c h
          refine rmk [false, false, false, false, false, true, false, false, false] (L2 := [none, none, none, none, none, some (0, v5), none, none, none]) rfl ?_
          obtain rfl := Option.some.inj h
          exact k
        · replace h := zif2 c h
          refine rb false 9 (L2 := [some (2, Int.ofNat 41), none, none, some (0, v3), some (0, v4), some (0, v5), some (0, v6), some (0, 0), some (0, 0)]) rfl rfl trivial ?_
          obtain ⟨x12, hx12, h⟩ := zbd h
          refine LP68 zN v4 v5 v6 v3 0 0 E_others E_copies E_odds E_often E_days E_times E_next x12 hx12 ?_
          refine ri false 18 (q := x12.2.1 = 0) (t1 := 168) (t2 := 164) rfl rfl trivial (fun c => ?_) (fun c => ?_)
          · replace h := zif1 c h
            obtain ⟨x13, hx13, h⟩ := zbd h
            refine rv false 20 1 rfl rfl trivial rfl (m_C_X7_countDay l M0 M1 M2 M3 M4 M5 M6 M7 M8 M9 M11 M12 M13 x12.2.1 E_others E_copies E_odds E_often E_days x12.2.2 E_next x13 hx13) ⟨_, _, _, _, rfl, rfl, rfl, by decide +kernel, ⟨Nat.le_of_ble_eq_true rfl, Nat.le_of_ble_eq_true rfl⟩, uGin u_34_17 u_34_18 u_34_19 u_2_9 u_34_20⟩ ⟨rfl, _, _, _, rfl, rfl⟩ ?_
            obtain ⟨g14_0, h⟩ := zgd h
            refine rg false 21 (t := 50) (L2 := [some (2, Int.ofNat 41), none, none, some (0, x12.1), some (0, x12.2.1), some (0, v5), some (0, (v6 + 1)), some (0, x12.2.1), none]) rfl rfl rfl g14_0 ?_
            refine rmk [true, false, false, true, true, true, true, false, false] (L2 := [some (2, Int.ofNat 41), none, none, some (0, x12.1), some (0, x12.2.1), some (0, v5), some (0, (v6 + 1)), none, none]) rfl ?_
            exact ih x12.1 x12.2.1 v5 (v6 + 1) E_others E_copies E_odds E_often x13 x12.2.2 E_next y h k
          · replace h := zif2 c h
            refine rb false 19 (L2 := [some (2, Int.ofNat 41), none, none, some (0, x12.1), none, some (0, v6), some (0, v6), some (0, x12.2.1), none]) rfl rfl trivial ?_
            obtain ⟨x15, hx15, h⟩ := zbd h
            refine rv false 20 1 rfl rfl trivial rfl (m_C_X7_countDay l M0 M1 M2 M3 M4 M5 M6 M7 M8 M9 M11 M12 M13 x12.2.1 E_others E_copies E_odds E_often E_days x12.2.2 E_next x15 hx15) ⟨_, _, _, _, rfl, rfl, rfl, by decide +kernel, ⟨Nat.le_of_ble_eq_true rfl, Nat.le_of_ble_eq_true rfl⟩, uGin u_34_17 u_34_18 u_34_19 u_2_9 u_34_20⟩ ⟨rfl, _, _, _, rfl, rfl⟩ ?_
            obtain ⟨g16_0, h⟩ := zgd h
            refine rg false 21 (t := 50) (L2 := [some (2, Int.ofNat 41), none, none, some (0, x12.1), some (0, x12.2.1), some (0, v6), some (0, (v6 + 1)), some (0, x12.2.1), none]) rfl rfl rfl g16_0 ?_
            refine rmk [true, false, false, true, true, true, true, false, false] (L2 := [some (2, Int.ofNat 41), none, none, some (0, x12.1), some (0, x12.2.1), some (0, v6), some (0, (v6 + 1)), none, none]) rfl ?_
            exact ih x12.1 x12.2.1 v6 (v6 + 1) E_others E_copies E_odds E_often x15 x12.2.2 E_next y h k
  unfold f_X7_goThrough at h
  refine rb false 0 (L2 := [some (2, Int.ofNat 41), some (0, p1), some (0, p2), some (0, 0), none, none, none, none, none]) rfl rfl trivial ?_
  obtain ⟨x3, hx3, h⟩ := zbd h
  refine LP2 zN p1 p2 0 E_others E_copies E_odds E_often E_days E_times E_next x3 hx3 ?_
  refine rb false 6 (L2 := [some (2, Int.ofNat 41), some (0, p1), some (0, p2), some (0, p2), some (0, (zshl 1 p1)), some (0, 0), some (0, 1), none, none]) rfl rfl trivial ?_
  refine rmk [true, false, false, true, true, true, true, false, false] (L2 := [some (2, Int.ofNat 41), none, none, some (0, p2), some (0, (zshl 1 p1)), some (0, 0), some (0, 1), none, none]) rfl ?_
  obtain ⟨x17, hx17, h⟩ := zbd h
  refine LP50 zN p2 (zshl 1 p1) 0 1 E_others E_copies E_odds E_often x3.1 x3.2 E_next x17 hx17 ?_
  obtain rfl := Option.some.inj h
  exact r1 false 22 rfl rfl rfl rfl rfl rfl trivial
def bX7_daysOf : zB := [(0, [(.aload_n 0, 1), (.getfield 22, 3), (.iload_n 1, 1), (.iaload, 1)], 6, .ireturn, 1)]
theorem bX7_daysOf_ok : zBok cX7_daysOf 2 bX7_daysOf = true := by decide +kernel
abbrev wX7_daysOf : List Cond := Cond.code yX7_daysOf cX7_daysOf 2 (some .int) :: uU
def rX7_daysOf : Room := { frames := 0, cells := 0, slots := 0, locals := 0 }
set_option maxRecDepth 20000 in
set_option maxHeartbeats 4000000 in
theorem m_C_X7_daysOf (l : Launch) (M0 : zM) (M1 : zM) (M2 : zM) (M3 : zM) (M4 : zM) (M5 : zM) (M6 : zM) (M7 : zM) (M8 : zM) (M9 : zM) (M11 : zM) (M12 : zM) (M13 : zM) (p1 : Int) (E_others : Nat → Int) (E_copies : Nat → Int) (E_odds : Nat → Int) (E_often : Nat → Int) (E_days : Nat → Int) (E_times : Nat → Int) (E_next : Nat → Int) (x : Int) (h : f_X7_daysOf p1 E_days = some x) : zD l yX7_daysOf wX7_daysOf rX7_daysOf lamC shpC [(2, Int.ofNat 41), (0, p1)] [M0, M1, M2, M3, M4, M5, M6, M7, M8, M9, ([], [E_others, E_copies, E_odds, E_often, E_days, E_times, E_next]), M11, M12, M13] (some (0, x)) [M0, M1, M2, M3, M4, M5, M6, M7, M8, M9, ([], [E_others, E_copies, E_odds, E_often, E_days, E_times, E_next]), M11, M12, M13] := by
  refine zD_of (B := bX7_daysOf) (E := eX7) (by decide) rfl lokC (eX7_ok _) bX7_daysOf_ok (Or.inl rfl) rfl (fun S R => ?_)
  obtain ⟨rb, rg, ri, rv, rs, r0, r1, r2, r3, rt, rmk⟩ := R
  show S 0 [some (2, Int.ofNat 41), some (0, p1)] [] [M0, M1, M2, M3, M4, M5, M6, M7, M8, M9, ([], [E_others, E_copies, E_odds, E_often, E_days, E_times, E_next]), M11, M12, M13]
  unfold f_X7_daysOf at h
  obtain ⟨g1_0, h⟩ := zgd h
  obtain rfl := Option.some.inj h
  exact r1 false 0 rfl rfl rfl rfl rfl rfl g1_0
def bX7_lookAhead : zB := [(0, [(.iconst 0, 1), (.istore_n 1, 1)], 2, .nop, 0), (2, [(.iload_n 1, 1), (.bipush 10, 2)], 5, .if_icmp .ge 33, 3), (8, [(.aload_n 0, 1), (.getfield 28, 3), (.iload_n 1, 1), (.aload_n 0, 1), (.getfield 16, 3), (.iload_n 1, 1), (.iaload, 1)], 19, .ifCond .le 11, 3), (22, [(.aload_n 0, 1), (.iload_n 1, 1)], 24, .invokevirtual 32, 3), (27, [], 27, .goto 4, 3), (30, [(.iconst 0, 1)], 31, .nop, 0), (31, [(.iastore, 1), (.iinc 1 1, 3)], 35, .goto (-33), 3), (38, [], 38, .return_, 1)]
theorem bX7_lookAhead_ok : zBok cX7_lookAhead 2 bX7_lookAhead = true := by decide +kernel
abbrev wX7_lookAhead : List Cond := Cond.code yX7_lookAhead cX7_lookAhead 2 none :: uU
def rX7_lookAhead : Room := { frames := 1, cells := 0, slots := 0, locals := 25 }
set_option maxRecDepth 20000 in
set_option maxHeartbeats 4000000 in
theorem m_C_X7_lookAhead (l : Launch) (M0 : zM) (M1 : zM) (M2 : zM) (M3 : zM) (M4 : zM) (M5 : zM) (M6 : zM) (M7 : zM) (M8 : zM) (M9 : zM) (M11 : zM) (M12 : zM) (M13 : zM) (E_others : Nat → Int) (E_copies : Nat → Int) (E_odds : Nat → Int) (E_often : Nat → Int) (E_days : Nat → Int) (E_times : Nat → Int) (E_next : Nat → Int) (x : Nat → Int) (h : f_X7_lookAhead E_others E_copies E_odds E_next = some x) : zD l yX7_lookAhead wX7_lookAhead rX7_lookAhead lamC shpC [(2, Int.ofNat 41)] [M0, M1, M2, M3, M4, M5, M6, M7, M8, M9, ([], [E_others, E_copies, E_odds, E_often, E_days, E_times, E_next]), M11, M12, M13] (none) [M0, M1, M2, M3, M4, M5, M6, M7, M8, M9, ([], [E_others, E_copies, E_odds, E_often, E_days, E_times, x]), M11, M12, M13] := by
  refine zD_of (B := bX7_lookAhead) (E := eX7) (by decide) rfl lokC (eX7_ok _) bX7_lookAhead_ok (Or.inl rfl) rfl (fun S R => ?_)
  obtain ⟨rb, rg, ri, rv, rs, r0, r1, r2, r3, rt, rmk⟩ := R
  show S 0 [some (2, Int.ofNat 41), none] [] [M0, M1, M2, M3, M4, M5, M6, M7, M8, M9, ([], [E_others, E_copies, E_odds, E_often, E_days, E_times, E_next]), M11, M12, M13]
  have LP2 : ∀ (n : Nat) (v1 : Int) (E_others : Nat → Int) (E_copies : Nat → Int) (E_odds : Nat → Int) (E_often : Nat → Int) (E_days : Nat → Int) (E_times : Nat → Int) (E_next : Nat → Int) (y : Nat → Int), l_X7_lookAhead_2 n v1 E_others E_copies E_odds E_next = some y → S 38 [none, none] [] [M0, M1, M2, M3, M4, M5, M6, M7, M8, M9, ([], [E_others, E_copies, E_odds, E_often, E_days, E_times, y]), M11, M12, M13] → S 2 [some (2, Int.ofNat 41), some (0, v1)] [] [M0, M1, M2, M3, M4, M5, M6, M7, M8, M9, ([], [E_others, E_copies, E_odds, E_often, E_days, E_times, E_next]), M11, M12, M13] := by
    intro n
    induction n with
    | zero =>
      intro v1 E_others E_copies E_odds E_often E_days E_times E_next y h k
      rw [l_X7_lookAhead_2] at h
      cases h
    | succ n ih =>
      intro v1 E_others E_copies E_odds E_often E_days E_times E_next y h k
      rw [l_X7_lookAhead_2] at h
      refine ri false 1 (q := v1 < 10) (t1 := 8) (t2 := 38) rfl rfl trivial (fun c => ?_) (fun c => ?_)
      · replace h := zif1 c h
        obtain ⟨g1_0, h⟩ := zgd h
        refine ri false 2 (q := (0 : Int) < (E_odds (Int.toNat v1))) (t1 := 22) (t2 := 30) (st2 := [(0, v1), (2, Int.ofNat 48)]) rfl rfl g1_0 (fun c => ?_) (fun c => ?_)
        · replace h := zif1 c h
          obtain ⟨x2, hx2, h⟩ := zbd h
          refine rv false 3 1 (rest := [(0, v1), (2, Int.ofNat 48)]) rfl rfl trivial rfl (m_C_X7_getters l M0 M1 M2 M3 M4 M5 M6 M7 M8 M9 M11 M12 M13 v1 E_others E_copies E_odds E_often E_days E_times E_next x2 hx2) ⟨_, _, _, _, rfl, rfl, rfl, by decide +kernel, ⟨Nat.le_of_ble_eq_true rfl, Nat.le_of_ble_eq_true rfl⟩, uGin u_34_13 u_34_14 u_34_15 u_2_9 u_34_16⟩ ⟨rfl, _, _, _, rfl, rfl⟩ ?_
          refine rg false 4 (t := 31) (st2 := [(0, x2), (0, v1), (2, Int.ofNat 48)]) rfl rfl rfl trivial ?_
          obtain ⟨⟨g3_0, g3_1⟩, h⟩ := zgd h
          refine rg false 6 (t := 2) (L2 := [some (2, Int.ofNat 41), some (0, (v1 + 1))]) (σ2 := [M0, M1, M2, M3, M4, M5, M6, M7, M8, M9, ([], [E_others, E_copies, E_odds, E_often, E_days, E_times, (zu E_next (Int.toNat v1) x2)]), M11, M12, M13]) rfl rfl rfl (And.intro g3_0 g3_1) ?_
          exact ih (v1 + 1) E_others E_copies E_odds E_often E_days E_times (zu E_next (Int.toNat v1) x2) y h k
        · replace h := zif2 c h
          refine rb false 5 (st2 := [(0, 0), (0, v1), (2, Int.ofNat 48)]) rfl rfl trivial ?_
          obtain ⟨⟨g4_0, g4_1⟩, h⟩ := zgd h
          refine rg false 6 (t := 2) (L2 := [some (2, Int.ofNat 41), some (0, (v1 + 1))]) (σ2 := [M0, M1, M2, M3, M4, M5, M6, M7, M8, M9, ([], [E_others, E_copies, E_odds, E_often, E_days, E_times, (zu E_next (Int.toNat v1) 0)]), M11, M12, M13]) rfl rfl rfl (And.intro g4_0 g4_1) ?_
          exact ih (v1 + 1) E_others E_copies E_odds E_often E_days E_times (zu E_next (Int.toNat v1) 0) y h k
      · replace h := zif2 c h
        refine rmk [false, false] (L2 := [none, none]) rfl ?_
        obtain rfl := Option.some.inj h
        exact k
  unfold f_X7_lookAhead at h
  refine rb false 0 (L2 := [some (2, Int.ofNat 41), some (0, 0)]) rfl rfl trivial ?_
  obtain ⟨x5, hx5, h⟩ := zbd h
  refine LP2 zN 0 E_others E_copies E_odds E_often E_days E_times E_next x5 hx5 ?_
  obtain rfl := Option.some.inj h
  exact r0 false 7 rfl rfl rfl rfl trivial
def bX7_reached : zB := [(0, [(.iconst 1, 1), (.iload_n 1, 1), (.ishl, 1), (.istore_n 3, 1), (.iload_n 2, 1), (.iload_n 3, 1), (.iand, 1)], 7, .ifCond .eq 5, 3), (10, [(.iload_n 3, 1)], 11, .ireturn, 1), (12, [(.iload_n 3, 1), (.istore 4, 2), (.iload_n 3, 1), (.istore 5, 2), (.iconst 0, 1), (.istore 6, 2)], 21, .nop, 0), (21, [(.iload 6, 2), (.bipush 10, 2)], 25, .if_icmp .ge 75, 3), (28, [(.iload 5, 2)], 30, .ifCond .eq 70, 3), (33, [(.iconst 0, 1), (.istore 7, 2), (.iconst 0, 1), (.istore 8, 2)], 39, .nop, 0), (39, [(.iload 8, 2), (.bipush 10, 2)], 43, .if_icmp .ge 31, 3), (46, [(.iload 5, 2), (.iload 8, 2), (.ishr, 1), (.iconst 1, 1), (.iand, 1)], 53, .ifCond .eq 15, 3), (56, [(.iload 7, 2), (.aload_n 0, 1), (.getfield 28, 3), (.iload 8, 2), (.iaload, 1), (.ior, 1), (.istore 7, 2)], 68, .nop, 0), (68, [(.iinc 8 1, 3)], 71, .goto (-32), 3), (74, [(.iload 7, 2), (.iload 4, 2), (.iconst (-1), 1), (.ixor, 1), (.iand, 1), (.iload_n 2, 1), (.iconst (-1), 1), (.ixor, 1), (.iand, 1), (.istore 5, 2)], 87, .nop, 0), (87, [(.iload 4, 2), (.iload 5, 2), (.ior, 1), (.istore 4, 2), (.iinc 6 1, 3)], 97, .goto (-76), 3), (100, [(.iload 4, 2)], 102, .ireturn, 1)]
theorem bX7_reached_ok : zBok cX7_reached 9 bX7_reached = true := by decide +kernel
abbrev wX7_reached : List Cond := Cond.code yX7_reached cX7_reached 9 (some .int) :: uU
def rX7_reached : Room := { frames := 0, cells := 0, slots := 0, locals := 0 }
set_option maxRecDepth 20000 in
set_option maxHeartbeats 4000000 in
theorem m_C_X7_reached (l : Launch) (M0 : zM) (M1 : zM) (M2 : zM) (M3 : zM) (M4 : zM) (M5 : zM) (M6 : zM) (M7 : zM) (M8 : zM) (M9 : zM) (M11 : zM) (M12 : zM) (M13 : zM) (p1 : Int) (p2 : Int) (E_others : Nat → Int) (E_copies : Nat → Int) (E_odds : Nat → Int) (E_often : Nat → Int) (E_days : Nat → Int) (E_times : Nat → Int) (E_next : Nat → Int) (x : Int) (h : f_X7_reached p1 p2 E_next = some x) : zD l yX7_reached wX7_reached rX7_reached lamC shpC [(2, Int.ofNat 41), (0, p1), (0, p2)] [M0, M1, M2, M3, M4, M5, M6, M7, M8, M9, ([], [E_others, E_copies, E_odds, E_often, E_days, E_times, E_next]), M11, M12, M13] (some (0, x)) [M0, M1, M2, M3, M4, M5, M6, M7, M8, M9, ([], [E_others, E_copies, E_odds, E_often, E_days, E_times, E_next]), M11, M12, M13] := by
  refine zD_of (B := bX7_reached) (E := eX7) (by decide) rfl lokC (eX7_ok _) bX7_reached_ok (Or.inl rfl) rfl (fun S R => ?_)
  obtain ⟨rb, rg, ri, rv, rs, r0, r1, r2, r3, rt, rmk⟩ := R
  show S 0 [some (2, Int.ofNat 41), some (0, p1), some (0, p2), none, none, none, none, none, none] [] [M0, M1, M2, M3, M4, M5, M6, M7, M8, M9, ([], [E_others, E_copies, E_odds, E_often, E_days, E_times, E_next]), M11, M12, M13]
  have LP39 : ∀ (n : Nat) (v2 : Int) (v4 : Int) (v5 : Int) (v6 : Int) (v7 : Int) (v8 : Int) (E_others : Nat → Int) (E_copies : Nat → Int) (E_odds : Nat → Int) (E_often : Nat → Int) (E_days : Nat → Int) (E_times : Nat → Int) (E_next : Nat → Int) (y : Int), l_X7_reached_39 n v2 v4 v5 v6 v7 v8 E_next = some y → S 74 [some (2, Int.ofNat 41), none, some (0, v2), none, some (0, v4), none, some (0, v6), some (0, y), none] [] [M0, M1, M2, M3, M4, M5, M6, M7, M8, M9, ([], [E_others, E_copies, E_odds, E_often, E_days, E_times, E_next]), M11, M12, M13] → S 39 [some (2, Int.ofNat 41), none, some (0, v2), none, some (0, v4), some (0, v5), some (0, v6), some (0, v7), some (0, v8)] [] [M0, M1, M2, M3, M4, M5, M6, M7, M8, M9, ([], [E_others, E_copies, E_odds, E_often, E_days, E_times, E_next]), M11, M12, M13] := by
    intro n
    induction n with
    | zero =>
      intro v2 v4 v5 v6 v7 v8 E_others E_copies E_odds E_often E_days E_times E_next y h k
      rw [l_X7_reached_39] at h
      cases h
    | succ n ih =>
      intro v2 v4 v5 v6 v7 v8 E_others E_copies E_odds E_often E_days E_times E_next y h k
      rw [l_X7_reached_39] at h
      refine ri false 6 (q := v8 < 10) (t1 := 46) (t2 := 74) rfl rfl trivial (fun c => ?_) (fun c => ?_)
      · replace h := zif1 c h
        refine ri false 7 (q := (zand (zshr v5 v8) 1) = 0) (t1 := 68) (t2 := 56) rfl rfl trivial (fun c => ?_) (fun c => ?_)
        · replace h := zif1 c h
          obtain ⟨g1_0, h⟩ := zgd h
          refine rg false 9 (t := 39) (L2 := [some (2, Int.ofNat 41), none, some (0, v2), none, some (0, v4), some (0, v5), some (0, v6), some (0, v7), some (0, (v8 + 1))]) rfl rfl rfl g1_0 ?_
          exact ih v2 v4 v5 v6 v7 (v8 + 1) E_others E_copies E_odds E_often E_days E_times E_next y h k
        · replace h := zif2 c h
          obtain ⟨g2_0, h⟩ := zgd h
          refine rb false 8 (L2 := [some (2, Int.ofNat 41), none, some (0, v2), none, some (0, v4), some (0, v5), some (0, v6), some (0, (zor v7 (E_next (Int.toNat v8)))), some (0, v8)]) rfl rfl g2_0 ?_
          obtain ⟨g3_0, h⟩ := zgd h
          refine rg false 9 (t := 39) (L2 := [some (2, Int.ofNat 41), none, some (0, v2), none, some (0, v4), some (0, v5), some (0, v6), some (0, (zor v7 (E_next (Int.toNat v8)))), some (0, (v8 + 1))]) rfl rfl rfl g3_0 ?_
          exact ih v2 v4 v5 v6 (zor v7 (E_next (Int.toNat v8))) (v8 + 1) E_others E_copies E_odds E_often E_days E_times E_next y h k
      · replace h := zif2 c h
        refine rmk [true, false, true, false, true, false, true, true, false] (L2 := [some (2, Int.ofNat 41), none, some (0, v2), none, some (0, v4), none, some (0, v6), some (0, v7), none]) rfl ?_
        obtain rfl := Option.some.inj h
        exact k
  have LP21 : ∀ (n : Nat) (v2 : Int) (v4 : Int) (v5 : Int) (v6 : Int) (E_others : Nat → Int) (E_copies : Nat → Int) (E_odds : Nat → Int) (E_often : Nat → Int) (E_days : Nat → Int) (E_times : Nat → Int) (E_next : Nat → Int) (y : Int), l_X7_reached_21 n v2 v4 v5 v6 E_next = some y → S 100 [none, none, none, none, some (0, y), none, none, none, none] [] [M0, M1, M2, M3, M4, M5, M6, M7, M8, M9, ([], [E_others, E_copies, E_odds, E_often, E_days, E_times, E_next]), M11, M12, M13] → S 21 [some (2, Int.ofNat 41), none, some (0, v2), none, some (0, v4), some (0, v5), some (0, v6), none, none] [] [M0, M1, M2, M3, M4, M5, M6, M7, M8, M9, ([], [E_others, E_copies, E_odds, E_often, E_days, E_times, E_next]), M11, M12, M13] := by
    intro n
    induction n with
    | zero =>
      intro v2 v4 v5 v6 E_others E_copies E_odds E_often E_days E_times E_next y h k
      rw [l_X7_reached_21] at h
      cases h
    | succ n ih =>
      intro v2 v4 v5 v6 E_others E_copies E_odds E_often E_days E_times E_next y h k
      rw [l_X7_reached_21] at h
      refine ri false 3 (q := v6 < 10) (t1 := 28) (t2 := 100) rfl rfl trivial (fun c => ?_) (fun c => ?_)
      · replace h := zif1 c h
        refine ri false 4 (q := v5 = 0) (t1 := 100) (t2 := 33) rfl rfl trivial (fun c => ?_) (fun c => ?_)
        · replace h := zif1 c h
          refine rmk [false, false, false, false, true, false, false, false, false] (L2 := [none, none, none, none, some (0, v4), none, none, none, none]) rfl ?_
          obtain rfl := Option.some.inj h
          exact k
        · replace h := zif2 c h
          refine rb false 5 (L2 := [some (2, Int.ofNat 41), none, some (0, v2), none, some (0, v4), some (0, v5), some (0, v6), some (0, 0), some (0, 0)]) rfl rfl trivial ?_
          obtain ⟨x4, hx4, h⟩ := zbd h
          refine LP39 zN v2 v4 v5 v6 0 0 E_others E_copies E_odds E_often E_days E_times E_next x4 hx4 ?_
          refine rb false 10 (L2 := [some (2, Int.ofNat 41), none, some (0, v2), none, some (0, v4), some (0, (zand (zand x4 (zxor v4 (-1))) (zxor v2 (-1)))), some (0, v6), some (0, x4), none]) rfl rfl trivial ?_
          obtain ⟨g5_0, h⟩ := zgd h
          refine rg false 11 (t := 21) (L2 := [some (2, Int.ofNat 41), none, some (0, v2), none, some (0, (zor v4 (zand (zand x4 (zxor v4 (-1))) (zxor v2 (-1))))), some (0, (zand (zand x4 (zxor v4 (-1))) (zxor v2 (-1)))), some (0, (v6 + 1)), some (0, x4), none]) rfl rfl rfl g5_0 ?_
          refine rmk [true, false, true, false, true, true, true, false, false] (L2 := [some (2, Int.ofNat 41), none, some (0, v2), none, some (0, (zor v4 (zand (zand x4 (zxor v4 (-1))) (zxor v2 (-1))))), some (0, (zand (zand x4 (zxor v4 (-1))) (zxor v2 (-1)))), some (0, (v6 + 1)), none, none]) rfl ?_
          exact ih v2 (zor v4 (zand (zand x4 (zxor v4 (-1))) (zxor v2 (-1)))) (zand (zand x4 (zxor v4 (-1))) (zxor v2 (-1))) (v6 + 1) E_others E_copies E_odds E_often E_days E_times E_next y h k
      · replace h := zif2 c h
        refine rmk [false, false, false, false, true, false, false, false, false] (L2 := [none, none, none, none, some (0, v4), none, none, none, none]) rfl ?_
        obtain rfl := Option.some.inj h
        exact k
  unfold f_X7_reached at h
  refine ri false 0 (q := (zand p2 (zshl 1 p1)) = 0) (t1 := 12) (t2 := 10) (L2 := [some (2, Int.ofNat 41), some (0, p1), some (0, p2), some (0, (zshl 1 p1)), none, none, none, none, none]) rfl rfl trivial (fun c => ?_) (fun c => ?_)
  · replace h := zif1 c h
    refine rb false 2 (L2 := [some (2, Int.ofNat 41), some (0, p1), some (0, p2), some (0, (zshl 1 p1)), some (0, (zshl 1 p1)), some (0, (zshl 1 p1)), some (0, 0), none, none]) rfl rfl trivial ?_
    refine rmk [true, false, true, false, true, true, true, false, false] (L2 := [some (2, Int.ofNat 41), none, some (0, p2), none, some (0, (zshl 1 p1)), some (0, (zshl 1 p1)), some (0, 0), none, none]) rfl ?_
    obtain ⟨x6, hx6, h⟩ := zbd h
    refine LP21 zN p2 (zshl 1 p1) (zshl 1 p1) 0 E_others E_copies E_odds E_often E_days E_times E_next x6 hx6 ?_
    obtain rfl := Option.some.inj h
    exact r1 false 12 rfl rfl rfl rfl rfl rfl trivial
  · replace h := zif2 c h
    obtain rfl := Option.some.inj h
    exact r1 false 1 rfl rfl rfl rfl rfl rfl trivial
def bX7_fewestTold : zB := [(0, [(.aload_n 0, 1), (.iload_n 1, 1), (.iconst 0, 1)], 3, .invokevirtual 40, 3), (6, [(.iconst 1, 1), (.iload_n 1, 1), (.ishl, 1), (.iconst (-1), 1), (.ixor, 1), (.iand, 1), (.istore_n 3, 1), (.iload_n 3, 1), (.istore 4, 2)], 16, .nop, 0), (16, [(.iconst 0, 1), (.istore 5, 2)], 19, .nop, 0), (19, [(.iload 5, 2), (.iload_n 3, 1)], 22, .if_icmp .gt 52, 3), (25, [(.iload 5, 2), (.iload_n 3, 1), (.iconst (-1), 1), (.ixor, 1), (.iand, 1)], 31, .ifCond .ne 37, 3), (34, [(.iload 5, 2)], 36, .invokestatic 44, 3), (39, [(.iload 4, 2)], 41, .invokestatic 44, 3), (44, [], 44, .if_icmp .lt 6, 3), (47, [], 47, .goto 21, 3), (50, [(.aload_n 0, 1), (.iload_n 1, 1), (.iload 5, 2)], 54, .invokevirtual 40, 3), (57, [], 57, .invokestatic 44, 3), (60, [(.iload_n 2, 1)], 61, .if_icmp .gt 7, 3), (64, [(.iload 5, 2), (.istore 4, 2)], 68, .nop, 0), (68, [(.iinc 5 1, 3)], 71, .goto (-52), 3), (74, [(.iload 4, 2)], 76, .ireturn, 1)]
theorem bX7_fewestTold_ok : zBok cX7_fewestTold 6 bX7_fewestTold = true := by decide +kernel
abbrev wX7_fewestTold : List Cond := Cond.code yX7_fewestTold cX7_fewestTold 6 (some .int) :: uU
def rX7_fewestTold : Room := { frames := 1, cells := 0, slots := 0, locals := 28 }
set_option maxRecDepth 20000 in
set_option maxHeartbeats 4000000 in
theorem m_C_X7_fewestTold (l : Launch) (M0 : zM) (M1 : zM) (M2 : zM) (M3 : zM) (M4 : zM) (M5 : zM) (M6 : zM) (M7 : zM) (M8 : zM) (M9 : zM) (M11 : zM) (M12 : zM) (M13 : zM) (p1 : Int) (p2 : Int) (E_others : Nat → Int) (E_copies : Nat → Int) (E_odds : Nat → Int) (E_often : Nat → Int) (E_days : Nat → Int) (E_times : Nat → Int) (E_next : Nat → Int) (x : Int) (h : f_X7_fewestTold p1 p2 E_next = some x) : zD l yX7_fewestTold wX7_fewestTold rX7_fewestTold lamC shpC [(2, Int.ofNat 41), (0, p1), (0, p2)] [M0, M1, M2, M3, M4, M5, M6, M7, M8, M9, ([], [E_others, E_copies, E_odds, E_often, E_days, E_times, E_next]), M11, M12, M13] (some (0, x)) [M0, M1, M2, M3, M4, M5, M6, M7, M8, M9, ([], [E_others, E_copies, E_odds, E_often, E_days, E_times, E_next]), M11, M12, M13] := by
  refine zD_of (B := bX7_fewestTold) (E := eX7) (by decide) rfl lokC (eX7_ok _) bX7_fewestTold_ok (Or.inl rfl) rfl (fun S R => ?_)
  obtain ⟨rb, rg, ri, rv, rs, r0, r1, r2, r3, rt, rmk⟩ := R
  show S 0 [some (2, Int.ofNat 41), some (0, p1), some (0, p2), none, none, none] [] [M0, M1, M2, M3, M4, M5, M6, M7, M8, M9, ([], [E_others, E_copies, E_odds, E_often, E_days, E_times, E_next]), M11, M12, M13]
  have LP19 : ∀ (n : Nat) (v1 : Int) (v2 : Int) (v3 : Int) (v4 : Int) (v5 : Int) (E_others : Nat → Int) (E_copies : Nat → Int) (E_odds : Nat → Int) (E_often : Nat → Int) (E_days : Nat → Int) (E_times : Nat → Int) (E_next : Nat → Int) (y : Int), l_X7_fewestTold_19 n v1 v2 v3 v4 v5 E_next = some y → S 74 [none, none, none, none, some (0, y), none] [] [M0, M1, M2, M3, M4, M5, M6, M7, M8, M9, ([], [E_others, E_copies, E_odds, E_often, E_days, E_times, E_next]), M11, M12, M13] → S 19 [some (2, Int.ofNat 41), some (0, v1), some (0, v2), some (0, v3), some (0, v4), some (0, v5)] [] [M0, M1, M2, M3, M4, M5, M6, M7, M8, M9, ([], [E_others, E_copies, E_odds, E_often, E_days, E_times, E_next]), M11, M12, M13] := by
    intro n
    induction n with
    | zero =>
      intro v1 v2 v3 v4 v5 E_others E_copies E_odds E_often E_days E_times E_next y h k
      rw [l_X7_fewestTold_19] at h
      cases h
    | succ n ih =>
      intro v1 v2 v3 v4 v5 E_others E_copies E_odds E_often E_days E_times E_next y h k
      rw [l_X7_fewestTold_19] at h
      refine ri false 3 (q := v3 < v5) (t1 := 74) (t2 := 25) rfl rfl trivial (fun c => ?_) (fun c => ?_)
      · replace h := zif1 c h
        refine rmk [false, false, false, false, true, false] (L2 := [none, none, none, none, some (0, v4), none]) rfl ?_
        obtain rfl := Option.some.inj h
        exact k
      · replace h := zif2 c h
        refine ri false 4 (q := (zand v5 (zxor v3 (-1))) = 0) (t1 := 34) (t2 := 68) rfl rfl trivial (fun c => ?_) (fun c => ?_)
        · replace h := zif1 c h
          obtain ⟨x2, hx2, h⟩ := zbd h
          refine rs false 5 1 rfl rfl trivial rfl (m_C_J6_bitCount_0f7a4 l M0 M1 M2 M3 M4 M5 M6 M7 M8 M9 ([], [E_others, E_copies, E_odds, E_often, E_days, E_times, E_next]) M11 M12 M13 v5 x2 hx2) ⟨_, _, _, _, rfl, rfl, rfl, by decide +kernel, ⟨Nat.le_of_ble_eq_true rfl, Nat.le_of_ble_eq_true rfl⟩, uGinS u_36_15 u_36_16 u_36_17 u_36_18⟩ ?_
          obtain ⟨x3, hx3, h⟩ := zbd h
          refine rs false 6 1 (rest := [(0, x2)]) rfl rfl trivial rfl (m_C_J6_bitCount_0f7a4 l M0 M1 M2 M3 M4 M5 M6 M7 M8 M9 ([], [E_others, E_copies, E_odds, E_often, E_days, E_times, E_next]) M11 M12 M13 v4 x3 hx3) ⟨_, _, _, _, rfl, rfl, rfl, by decide +kernel, ⟨Nat.le_of_ble_eq_true rfl, Nat.le_of_ble_eq_true rfl⟩, uGinS u_36_15 u_36_16 u_36_17 u_36_18⟩ ?_
          refine ri false 7 (q := x2 < x3) (t1 := 50) (t2 := 47) rfl rfl trivial (fun c => ?_) (fun c => ?_)
          · replace h := zif1 c h
            obtain ⟨x4, hx4, h⟩ := zbd h
            refine rv false 9 2 rfl rfl trivial rfl (m_C_X7_reached l M0 M1 M2 M3 M4 M5 M6 M7 M8 M9 M11 M12 M13 v1 v5 E_others E_copies E_odds E_often E_days E_times E_next x4 hx4) ⟨_, _, _, _, rfl, rfl, rfl, by decide +kernel, ⟨Nat.le_of_ble_eq_true rfl, Nat.le_of_ble_eq_true rfl⟩, uGin u_36_14 u_35_19 u_35_20 u_2_9 u_35_21⟩ ⟨rfl, _, _, _, rfl, rfl⟩ ?_
            obtain ⟨x5, hx5, h⟩ := zbd h
            refine rs false 10 1 rfl rfl trivial rfl (m_C_J6_bitCount_0f7a4 l M0 M1 M2 M3 M4 M5 M6 M7 M8 M9 ([], [E_others, E_copies, E_odds, E_often, E_days, E_times, E_next]) M11 M12 M13 x4 x5 hx5) ⟨_, _, _, _, rfl, rfl, rfl, by decide +kernel, ⟨Nat.le_of_ble_eq_true rfl, Nat.le_of_ble_eq_true rfl⟩, uGinS u_36_15 u_36_16 u_36_17 u_36_18⟩ ?_
            refine ri false 11 (q := v2 < x5) (t1 := 68) (t2 := 64) rfl rfl trivial (fun c => ?_) (fun c => ?_)
            · replace h := zif1 c h
              obtain ⟨g6_0, h⟩ := zgd h
              refine rg false 13 (t := 19) (L2 := [some (2, Int.ofNat 41), some (0, v1), some (0, v2), some (0, v3), some (0, v4), some (0, (v5 + 1))]) rfl rfl rfl g6_0 ?_
              exact ih v1 v2 v3 v4 (v5 + 1) E_others E_copies E_odds E_often E_days E_times E_next y h k
            · replace h := zif2 c h
              refine rb false 12 (L2 := [some (2, Int.ofNat 41), some (0, v1), some (0, v2), some (0, v3), some (0, v5), some (0, v5)]) rfl rfl trivial ?_
              obtain ⟨g7_0, h⟩ := zgd h
              refine rg false 13 (t := 19) (L2 := [some (2, Int.ofNat 41), some (0, v1), some (0, v2), some (0, v3), some (0, v5), some (0, (v5 + 1))]) rfl rfl rfl g7_0 ?_
              exact ih v1 v2 v3 v5 (v5 + 1) E_others E_copies E_odds E_often E_days E_times E_next y h k
          · replace h := zif2 c h
            refine rg false 8 (t := 68) rfl rfl rfl trivial ?_
            obtain ⟨g8_0, h⟩ := zgd h
            refine rg false 13 (t := 19) (L2 := [some (2, Int.ofNat 41), some (0, v1), some (0, v2), some (0, v3), some (0, v4), some (0, (v5 + 1))]) rfl rfl rfl g8_0 ?_
            exact ih v1 v2 v3 v4 (v5 + 1) E_others E_copies E_odds E_often E_days E_times E_next y h k
        · replace h := zif2 c h
          obtain ⟨g9_0, h⟩ := zgd h
          refine rg false 13 (t := 19) (L2 := [some (2, Int.ofNat 41), some (0, v1), some (0, v2), some (0, v3), some (0, v4), some (0, (v5 + 1))]) rfl rfl rfl g9_0 ?_
          exact ih v1 v2 v3 v4 (v5 + 1) E_others E_copies E_odds E_often E_days E_times E_next y h k
  unfold f_X7_fewestTold at h
  obtain ⟨x1, hx1, h⟩ := zbd h
  refine rv false 0 2 rfl rfl trivial rfl (m_C_X7_reached l M0 M1 M2 M3 M4 M5 M6 M7 M8 M9 M11 M12 M13 p1 0 E_others E_copies E_odds E_often E_days E_times E_next x1 hx1) ⟨_, _, _, _, rfl, rfl, rfl, by decide +kernel, ⟨Nat.le_of_ble_eq_true rfl, Nat.le_of_ble_eq_true rfl⟩, uGin u_36_14 u_35_19 u_35_20 u_2_9 u_35_21⟩ ⟨rfl, _, _, _, rfl, rfl⟩ ?_
  refine rb false 1 (L2 := [some (2, Int.ofNat 41), some (0, p1), some (0, p2), some (0, (zand x1 (zxor (zshl 1 p1) (-1)))), some (0, (zand x1 (zxor (zshl 1 p1) (-1)))), none]) rfl rfl trivial ?_
  refine rb false 2 (L2 := [some (2, Int.ofNat 41), some (0, p1), some (0, p2), some (0, (zand x1 (zxor (zshl 1 p1) (-1)))), some (0, (zand x1 (zxor (zshl 1 p1) (-1)))), some (0, 0)]) rfl rfl trivial ?_
  obtain ⟨x10, hx10, h⟩ := zbd h
  refine LP19 zN p1 p2 (zand x1 (zxor (zshl 1 p1) (-1))) (zand x1 (zxor (zshl 1 p1) (-1))) 0 E_others E_copies E_odds E_often E_days E_times E_next x10 hx10 ?_
  obtain rfl := Option.some.inj h
  exact r1 false 14 rfl rfl rfl rfl rfl rfl trivial
def bX7_foldInto : zB := [(0, [(.lload_n 1, 1), (.lstore_n 3, 1), (.iconst 0, 1), (.istore 5, 2)], 5, .nop, 0), (5, [(.iload 5, 2), (.bipush 10, 2)], 9, .if_icmp .ge 69, 3), (12, [(.ldc2_w 49, 3), (.lload_n 3, 1), (.lmul, 1), (.aload_n 0, 1), (.getfield 9, 3), (.iload 5, 2), (.iaload, 1), (.i2l, 1), (.ladd, 1), (.lstore_n 3, 1)], 27, .nop, 0), (27, [(.ldc2_w 49, 3), (.lload_n 3, 1), (.lmul, 1), (.aload_n 0, 1), (.getfield 13, 3), (.iload 5, 2), (.iaload, 1), (.i2l, 1), (.ladd, 1), (.lstore_n 3, 1)], 42, .nop, 0), (42, [(.ldc2_w 49, 3), (.lload_n 3, 1), (.lmul, 1), (.aload_n 0, 1), (.getfield 16, 3), (.iload 5, 2), (.iaload, 1), (.i2l, 1), (.ladd, 1), (.lstore_n 3, 1)], 57, .nop, 0), (57, [(.ldc2_w 49, 3), (.lload_n 3, 1), (.lmul, 1), (.aload_n 0, 1), (.getfield 19, 3), (.iload 5, 2), (.iaload, 1), (.i2l, 1), (.ladd, 1), (.lstore_n 3, 1)], 72, .nop, 0), (72, [(.iinc 5 1, 3)], 75, .goto (-70), 3), (78, [(.lload_n 3, 1)], 79, .lreturn, 1)]
theorem bX7_foldInto_ok : zBok cX7_foldInto 6 bX7_foldInto = true := by decide +kernel
abbrev wX7_foldInto : List Cond := Cond.code yX7_foldInto cX7_foldInto 6 (some .long) :: uU
def rX7_foldInto : Room := { frames := 0, cells := 0, slots := 0, locals := 0 }
set_option maxRecDepth 20000 in
set_option maxHeartbeats 4000000 in
theorem m_C_X7_foldInto (l : Launch) (M0 : zM) (M1 : zM) (M2 : zM) (M3 : zM) (M4 : zM) (M5 : zM) (M6 : zM) (M7 : zM) (M8 : zM) (M9 : zM) (M11 : zM) (M12 : zM) (M13 : zM) (p1 : Int) (E_others : Nat → Int) (E_copies : Nat → Int) (E_odds : Nat → Int) (E_often : Nat → Int) (E_days : Nat → Int) (E_times : Nat → Int) (E_next : Nat → Int) (x : Int) (h : f_X7_foldInto p1 E_others E_copies E_odds E_often = some x) : zD l yX7_foldInto wX7_foldInto rX7_foldInto lamC shpC [(2, Int.ofNat 41), (1, p1)] [M0, M1, M2, M3, M4, M5, M6, M7, M8, M9, ([], [E_others, E_copies, E_odds, E_often, E_days, E_times, E_next]), M11, M12, M13] (some (1, x)) [M0, M1, M2, M3, M4, M5, M6, M7, M8, M9, ([], [E_others, E_copies, E_odds, E_often, E_days, E_times, E_next]), M11, M12, M13] := by
  refine zD_of (B := bX7_foldInto) (E := eX7) (by decide) rfl lokC (eX7_ok _) bX7_foldInto_ok (Or.inl rfl) rfl (fun S R => ?_)
  obtain ⟨rb, rg, ri, rv, rs, r0, r1, r2, r3, rt, rmk⟩ := R
  show S 0 [some (2, Int.ofNat 41), some (1, p1), none, none, none, none] [] [M0, M1, M2, M3, M4, M5, M6, M7, M8, M9, ([], [E_others, E_copies, E_odds, E_often, E_days, E_times, E_next]), M11, M12, M13]
  have LP5 : ∀ (n : Nat) (v3 : Int) (v5 : Int) (E_others : Nat → Int) (E_copies : Nat → Int) (E_odds : Nat → Int) (E_often : Nat → Int) (E_days : Nat → Int) (E_times : Nat → Int) (E_next : Nat → Int) (y : Int), l_X7_foldInto_5 n v3 v5 E_others E_copies E_odds E_often = some y → S 78 [none, none, none, some (1, y), none, none] [] [M0, M1, M2, M3, M4, M5, M6, M7, M8, M9, ([], [E_others, E_copies, E_odds, E_often, E_days, E_times, E_next]), M11, M12, M13] → S 5 [some (2, Int.ofNat 41), none, none, some (1, v3), none, some (0, v5)] [] [M0, M1, M2, M3, M4, M5, M6, M7, M8, M9, ([], [E_others, E_copies, E_odds, E_often, E_days, E_times, E_next]), M11, M12, M13] := by
    intro n
    induction n with
    | zero =>
      intro v3 v5 E_others E_copies E_odds E_often E_days E_times E_next y h k
      rw [l_X7_foldInto_5] at h
      cases h
    | succ n ih =>
      intro v3 v5 E_others E_copies E_odds E_often E_days E_times E_next y h k
      rw [l_X7_foldInto_5] at h
      refine ri true 1 (q := v5 < 10) (t1 := 12) (t2 := 78) rfl rfl trivial (fun c => ?_) (fun c => ?_)
      · replace h := zif1 c h
        obtain ⟨g1_0, h⟩ := zgd h
        refine rb true 2 (L2 := [some (2, Int.ofNat 41), none, none, some (1, (zwl ((31 * v3) + (E_others (Int.toNat v5))))), none, some (0, v5)]) rfl rfl g1_0 ?_
        obtain ⟨g2_0, h⟩ := zgd h
        refine rb true 3 (L2 := [some (2, Int.ofNat 41), none, none, some (1, (zwl ((31 * (zwl ((31 * v3) + (E_others (Int.toNat v5))))) + (E_copies (Int.toNat v5))))), none, some (0, v5)]) rfl rfl g2_0 ?_
        obtain ⟨g3_0, h⟩ := zgd h
        refine rb true 4 (L2 := [some (2, Int.ofNat 41), none, none, some (1, (zwl ((31 * (zwl ((31 * (zwl ((31 * v3) + (E_others (Int.toNat v5))))) + (E_copies (Int.toNat v5))))) + (E_odds (Int.toNat v5))))), none, some (0, v5)]) rfl rfl g3_0 ?_
        obtain ⟨g4_0, h⟩ := zgd h
        refine rb true 5 (L2 := [some (2, Int.ofNat 41), none, none, some (1, (zwl ((31 * (zwl ((31 * (zwl ((31 * (zwl ((31 * v3) + (E_others (Int.toNat v5))))) + (E_copies (Int.toNat v5))))) + (E_odds (Int.toNat v5))))) + (E_often (Int.toNat v5))))), none, some (0, v5)]) rfl rfl g4_0 ?_
        obtain ⟨g5_0, h⟩ := zgd h
        refine rg true 6 (t := 5) (L2 := [some (2, Int.ofNat 41), none, none, some (1, (zwl ((31 * (zwl ((31 * (zwl ((31 * (zwl ((31 * v3) + (E_others (Int.toNat v5))))) + (E_copies (Int.toNat v5))))) + (E_odds (Int.toNat v5))))) + (E_often (Int.toNat v5))))), none, some (0, (v5 + 1))]) rfl rfl rfl g5_0 ?_
        exact ih (zwl ((31 * (zwl ((31 * (zwl ((31 * (zwl ((31 * v3) + (E_others (Int.toNat v5))))) + (E_copies (Int.toNat v5))))) + (E_odds (Int.toNat v5))))) + (E_often (Int.toNat v5)))) (v5 + 1) E_others E_copies E_odds E_often E_days E_times E_next y h k
      · replace h := zif2 c h
        refine rmk [false, false, false, true, false, false] (L2 := [none, none, none, some (1, v3), none, none]) rfl ?_
        obtain rfl := Option.some.inj h
        exact k
  unfold f_X7_foldInto at h
  refine rb true 0 (L2 := [some (2, Int.ofNat 41), some (1, p1), none, some (1, p1), none, some (0, 0)]) rfl rfl trivial ?_
  refine rmk [true, false, false, true, false, true] (L2 := [some (2, Int.ofNat 41), none, none, some (1, p1), none, some (0, 0)]) rfl ?_
  obtain ⟨x6, hx6, h⟩ := zbd h
  refine LP5 zN p1 0 E_others E_copies E_odds E_often E_days E_times E_next x6 hx6 ?_
  obtain rfl := Option.some.inj h
  exact r3 true 7 rfl rfl rfl rfl rfl rfl trivial
