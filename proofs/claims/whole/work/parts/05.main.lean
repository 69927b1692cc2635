section ZX3
variable {p : Program} {l : Launch} {e : Env} {R : Room} {s : State} {m : MethodId} {args : Array Value} {below : List Frame} {meth : Method} {c : Code} {Q : State → Prop} {D : va_G} {cA : ClassId} {ad : Nat → Nat} {A : Nat → Prop} {Λ : List zE} {shp : List (Nat × Nat)} {nL : Nat} {cc : ByteArray} {own : String} {Ts : List Cond} {E : zEnv}
variable {pc n : Nat} {L L2 : zL} {st st2 : List zV} {σ σ2 : zT} {ps : List Prop} {wr : Bool}
theorem z_tmod_ok {x y : Int} (hx : zI x) : zI (x.tmod y) := by
  obtain ⟨a, b⟩ := hx
  have h2 : (x.tmod y).natAbs ≤ x.natAbs := by rw [Int.natAbs_tmod]; exact Nat.mod_le _ _
  by_cases h : x = -2147483648
  · subst h
    have h3 : (-2147483648 : Int).tmod y ≤ 0 := by
      have := Int.tmod_nonneg (a := 2147483648) y (by omega)
      have e : (-2147483648 : Int) = -(2147483648) := rfl
      rw [e, Int.neg_tmod]
      omega
    constructor <;> omega
  · constructor <;> omega
theorem z_tmod32 (x y : Int) (hx : zI x) (hy : zI y) : Int32.ofInt (x.tmod y) = Int32.ofInt x - Int32.ofInt x / Int32.ofInt y * Int32.ofInt y := by
  apply Int32.toInt_inj.mp
  rw [rem_toInt, zti hx, zti hy]
  exact zti (z_tmod_ok hx)
theorem z_tmodl_ok {x y : Int} (hx : zJ x) : zJ (x.tmod y) := by
  obtain ⟨a, b⟩ := hx
  have h2 : (x.tmod y).natAbs ≤ x.natAbs := by rw [Int.natAbs_tmod]; exact Nat.mod_le _ _
  by_cases h : x = -9223372036854775808
  · subst h
    have h3 : (-9223372036854775808 : Int).tmod y ≤ 0 := by
      have := Int.tmod_nonneg (a := 9223372036854775808) y (by omega)
      have e : (-9223372036854775808 : Int) = -(9223372036854775808) := rfl
      rw [e, Int.neg_tmod]
      omega
    constructor <;> omega
  · constructor <;> omega
theorem z_tmod64 (x y : Int) (hx : zJ x) (hy : zJ y) : Int64.ofInt (x.tmod y) = Int64.ofInt x - Int64.ofInt x / Int64.ofInt y * Int64.ofInt y := by
  apply Int64.toInt_inj.mp
  have e : (Int64.ofInt x - Int64.ofInt x / Int64.ofInt y * Int64.ofInt y).toInt = (Int64.ofInt x).toInt.tmod (Int64.ofInt y).toInt := by
    have e2 : Int64.ofInt x - Int64.ofInt x / Int64.ofInt y * Int64.ofInt y = Int64.ofInt x % Int64.ofInt y := by
      apply Int64.toInt_inj.mp
      have h1 := Int64.le_toInt (Int64.ofInt x % Int64.ofInt y)
      have h2 := Int64.toInt_lt (Int64.ofInt x % Int64.ofInt y)
      rw [Int64.toInt_sub, Int64.toInt_mul, Int64.toInt_div, Int.bmod_mul_bmod, Int.sub_bmod_bmod, Int.mul_comm ((Int64.ofInt x).toInt.tdiv (Int64.ofInt y).toInt), ← Int.tmod_def, ← Int64.toInt_mod]
      exact Int.bmod_eq_of_le_mul_two (by omega) (by omega)
    rw [e2]
    exact Int64.toInt_mod _ _
  rw [e, ztl hx, ztl hy]
  exact ztl (z_tmodl_ok hx)
theorem z_div32 (x y : Int) (hx : zI x) (hy : zI y) : Int32.ofInt (x.tdiv y) = Int32.ofInt x / Int32.ofInt y := by
  apply Int32.toInt_inj.mp
  rw [Int32.toInt_div, zti hx, zti hy, Int32.toInt_ofInt]
theorem z_div64 (x y : Int) (hx : zJ x) (hy : zJ y) : Int64.ofInt (x.tdiv y) = Int64.ofInt x / Int64.ofInt y := by
  apply Int64.toInt_inj.mp
  rw [Int64.toInt_div, ztl hx, ztl hy, Int64.toInt_ofInt]
theorem z_lcmp (x y : Int) (hx : zJ x) (hy : zJ y) : Int32.ofInt (zlc x y) = lg_cmp (Int64.ofInt x) (Int64.ofInt y) := by
  unfold zlc lg_cmp
  have h1 : (Int64.ofInt x > Int64.ofInt y) ↔ y < x := by rw [gt_iff_lt, Int64.lt_iff_toInt_lt, ztl hx, ztl hy]
  have h2 : (Int64.ofInt x = Int64.ofInt y) ↔ x = y := by rw [← Int64.toInt_inj, ztl hx, ztl hy]
  by_cases a : x < y
  · rw [if_pos a, if_neg (by rw [h1]; omega), if_neg (by rw [h2]; omega)]
    rfl
  · rw [if_neg a]
    by_cases b : x = y
    · rw [if_pos b, if_neg (by rw [h1]; omega), if_pos (by rw [h2]; exact b)]
      rfl
    · rw [if_neg b, if_pos (by rw [h1]; omega)]
      rfl
theorem z_bip {v : Int} (h : -128 ≤ v ∧ v ≤ 127) : (Int8.ofInt v).toInt32 = Int32.ofInt v := by
  apply Int32.toInt_inj.mp
  rw [Int8.toInt_toInt32, zti ⟨by omega, by omega⟩]
  exact Int8.toInt_ofInt_of_le h.1 (by omega)
theorem z_sip {v : Int} (h : -32768 ≤ v ∧ v ≤ 32767) : (Int16.ofInt v).toInt32 = Int32.ofInt v := by
  apply Int32.toInt_inj.mp
  rw [Int16.toInt_toInt32, zti ⟨by omega, by omega⟩]
  exact Int16.toInt_ofInt_of_le h.1 (by omega)
theorem zx_ok (C0 : zC p R s m args c D cA A Λ shp cc own nL Ts E) {i : Instr} (hd : decode cc pc = .ok (i, n)) (hl : zlit nL i n = true) (hx : zx Λ E wr i L st σ = some (ps, L2, st2, σ2)) (hp : zcj ps) (k : zS p l e R s m args below meth c Q D cA ad A Λ shp nL (pc + n) L2 st2 σ2) : zS p l e R s m args below meth c Q D cA ad A Λ shp nL pc L st σ := by
  have hex : p.tables.exec = Jvm.exec := C0.1
  have hb : c.code = cc := C0.2.1
  have hown : s.vm.findClass own = some m.cls := C0.2.2.2.1
  have hts := C0.2.2.2.2.1
  have hE := C0.2.2.2.2.2.2.2.2.1
  cases i
  case iconst v =>
    have hl : n = 1 ∧ zI v := by simpa [zlit] using hl
    obtain ⟨rfl, hv⟩ := hl
    simp only [zx, Option.some.injEq, Prod.mk.injEq] at hx
    obtain ⟨-, rfl, rfl, rfl⟩ := hx
    exact zx_push (v := (0, v)) hv (fun H locs ls rest k => lv_iconst hex hb hd rfl k) k
  case bipush v =>
    have hl : n = 2 ∧ -128 ≤ v ∧ v ≤ 127 := by simpa [zlit] using hl
    obtain ⟨rfl, hv⟩ := hl
    simp only [zx, Option.some.injEq, Prod.mk.injEq] at hx
    obtain ⟨-, rfl, rfl, rfl⟩ := hx
    exact zx_push (v := (0, v)) (show zI v from ⟨by omega, by omega⟩) (fun H locs ls rest k => lv_bipush hex hb hd (z_bip hv) k) k
  case sipush v =>
    have hl : n = 3 ∧ -32768 ≤ v ∧ v ≤ 32767 := by simpa [zlit] using hl
    obtain ⟨rfl, hv⟩ := hl
    simp only [zx, Option.some.injEq, Prod.mk.injEq] at hx
    obtain ⟨-, rfl, rfl, rfl⟩ := hx
    exact zx_push (v := (0, v)) (show zI v from ⟨by omega, by omega⟩) (fun H locs ls rest k => lv_sipush hex hb hd (z_sip hv) k) k
  case lconst v =>
    have hl : n = 1 := by simpa [zlit] using hl
    subst hl
    simp only [zx, Option.some.injEq, Prod.mk.injEq] at hx
    obtain ⟨-, rfl, rfl, rfl⟩ := hx
    match v, hd, k with
    | ⟨0, _⟩, hd, k => exact zx_push (v := (1, 0)) (show zJ 0 from ⟨by omega, by omega⟩) (fun H locs ls rest k => lv_lconst hex hb hd rfl k) k
    | ⟨1, _⟩, hd, k => exact zx_push (v := (1, 1)) (show zJ 1 from ⟨by omega, by omega⟩) (fun H locs ls rest k => lv_lconst hex hb hd rfl k) k
  case ldc q =>
    have hl : n = 2 := by simpa [zlit] using hl
    subst hl
    simp only [zx] at hx
    cases hz : zlk E.2.1 q with
    | none => rw [hz] at hx; cases hx
    | some v =>
      rw [hz] at hx
      simp only [Option.some.injEq, Prod.mk.injEq] at hx
      obtain ⟨-, rfl, rfl, rfl⟩ := hx
      exact zx_push (v := (0, v)) (hE.2.1 q v hz).1 (fun H locs ls rest k => lv_ldc hex hb hown (hts _ (hE.2.1 q v hz).2) hd k) k
  case ldc_w q =>
    have hl : n = 3 := by simpa [zlit] using hl
    subst hl
    simp only [zx] at hx
    cases hz : zlk E.2.1 q with
    | none => rw [hz] at hx; cases hx
    | some v =>
      rw [hz] at hx
      simp only [Option.some.injEq, Prod.mk.injEq] at hx
      obtain ⟨-, rfl, rfl, rfl⟩ := hx
      exact zx_push (v := (0, v)) (hE.2.1 q v hz).1 (fun H locs ls rest k => lv_ldcw hex hb hown (hts _ (hE.2.1 q v hz).2) hd k) k
  case ldc2_w q =>
    have hl : n = 3 := by simpa [zlit] using hl
    subst hl
    simp only [zx] at hx
    cases hz : zlk E.2.2.1 q with
    | none => rw [hz] at hx; cases hx
    | some v =>
      rw [hz] at hx
      simp only [Option.some.injEq, Prod.mk.injEq] at hx
      obtain ⟨-, rfl, rfl, rfl⟩ := hx
      exact zx_push (v := (1, v)) (hE.2.2.1 q v hz).1 (fun H locs ls rest k => lv_ldc2 hex hb hown (hts _ (hE.2.2.1 q v hz).2) hd k) k
  case iload q =>
    have hl : n = 2 := by simpa [zlit] using hl
    subst hl
    exact zx_load (fun H locs ls rest x h k => lv_iload hex hb hd h k) hx k
  case iload_n q =>
    have hl : n = 1 := by simpa [zlit] using hl
    subst hl
    exact zx_load (fun H locs ls rest x h k => lv_iload_n hex hb hd rfl h k) hx k
  case lload q =>
    have hl : n = 2 := by simpa [zlit] using hl
    subst hl
    exact zx_load (fun H locs ls rest x h k => lv_lload hex hb hd h k) hx k
  case lload_n q =>
    have hl : n = 1 := by simpa [zlit] using hl
    subst hl
    exact zx_load (fun H locs ls rest x h k => lv_lload_n hex hb hd rfl h k) hx k
  case aload q =>
    have hl : n = 2 := by simpa [zlit] using hl
    subst hl
    exact zx_load (fun H locs ls rest x h k => lv_aload hex hb hd h k) hx k
  case aload_n q =>
    have hl : n = 1 := by simpa [zlit] using hl
    subst hl
    exact zx_load (fun H locs ls rest x h k => lv_aload_n hex hb hd rfl h k) hx k
  case istore q =>
    have hl : n = 2 ∧ q < nL := by simpa [zlit, Nat.blt_eq] using hl
    obtain ⟨rfl, hq⟩ := hl
    refine zx_store (fun H locs ls rest v hv h kk => ?_) (fun v hv => by rw [znrm_i hv]; rfl) hx hp k
    obtain ⟨t, x⟩ := v
    have e1 := zc_i hv ad x
    rw [e1]
    exact lv_istore hex hb hd h hq rfl (fun ls' h' => kk ls' (zst_has (wide := false) (fun q => Or.inl rfl) (by rw [e1]; exact h')))
  case istore_n q =>
    have hl : n = 1 ∧ q.val < nL := by simpa [zlit, Nat.blt_eq] using hl
    obtain ⟨rfl, hq⟩ := hl
    refine zx_store (fun H locs ls rest v hv h kk => ?_) (fun v hv => by rw [znrm_i hv]; rfl) hx hp k
    obtain ⟨t, x⟩ := v
    have e1 := zc_i hv ad x
    rw [e1]
    exact lv_istore_n hex hb hd rfl h hq rfl (fun ls' h' => kk ls' (zst_has (wide := false) (fun q => Or.inl rfl) (by rw [e1]; exact h')))
  case lstore q =>
    have hl : n = 2 ∧ q + 1 < nL := by simpa [zlit, Nat.blt_eq] using hl
    obtain ⟨rfl, hq⟩ := hl
    refine zx_store (fun H locs ls rest v hv h kk => ?_) (fun v hv => ?_) hx hp k
    · obtain ⟨t, x⟩ := v
      have e1 := zc_l hv ad x
      rw [e1]
      exact lv_lstore hex hb hd h hq rfl (fun ls' h' => kk ls' (zst_has (wide := true) (fun q => Or.inr ⟨rfl, rfl⟩) (by rw [e1]; exact h')))
    · obtain ⟨t, x⟩ := v
      match t, hv with
      | 1, _ => rfl
      | 4, _ => cases wr <;> rfl
  case lstore_n q =>
    have hl : n = 1 ∧ q.val + 1 < nL := by simpa [zlit, Nat.blt_eq] using hl
    obtain ⟨rfl, hq⟩ := hl
    refine zx_store (fun H locs ls rest v hv h kk => ?_) (fun v hv => ?_) hx hp k
    · obtain ⟨t, x⟩ := v
      have e1 := zc_l hv ad x
      rw [e1]
      exact lv_lstore_n hex hb hd rfl h hq rfl (fun ls' h' => kk ls' (zst_has (wide := true) (fun q => Or.inr ⟨rfl, rfl⟩) (by rw [e1]; exact h')))
    · obtain ⟨t, x⟩ := v
      match t, hv with
      | 1, _ => rfl
      | 4, _ => cases wr <;> rfl
  case astore q =>
    have hl : n = 2 ∧ q < nL := by simpa [zlit, Nat.blt_eq] using hl
    obtain ⟨rfl, hq⟩ := hl
    refine zx_store (fun H locs ls rest v hv h kk => ?_) (fun v hv => ?_) hx hp k
    · obtain ⟨t, x⟩ := v
      have ht : 2 = t := zbeq hv
      subst ht
      exact lv_astore hex hb hd h hq rfl (fun ls' h' => kk ls' (zst_has (wide := false) (fun q => Or.inl rfl) h'))
    · obtain ⟨t, x⟩ := v
      have ht : 2 = t := zbeq hv
      subst ht
      rfl
  case astore_n q =>
    have hl : n = 1 ∧ q.val < nL := by simpa [zlit, Nat.blt_eq] using hl
    obtain ⟨rfl, hq⟩ := hl
    refine zx_store (fun H locs ls rest v hv h kk => ?_) (fun v hv => ?_) hx hp k
    · obtain ⟨t, x⟩ := v
      have ht : 2 = t := zbeq hv
      subst ht
      exact lv_astore_n hex hb hd rfl h hq rfl (fun ls' h' => kk ls' (zst_has (wide := false) (fun q => Or.inl rfl) h'))
    · obtain ⟨t, x⟩ := v
      have ht : 2 = t := zbeq hv
      subst ht
      rfl
  case iinc q w =>
    have hl : n = 3 ∧ q < nL := by simpa [zlit, Nat.blt_eq] using hl
    obtain ⟨rfl, hq⟩ := hl
    simp only [zx] at hx
    cases hz : zg none L q with
    | none => rw [hz] at hx; cases hx
    | some v =>
      obtain ⟨t, x⟩ := v
      rw [hz] at hx
      replace hx := zcond hx
      obtain ⟨h1, hx⟩ := hx
      simp only [Option.some.injEq, Prod.mk.injEq] at hx
      obtain ⟨rfl, rfl, rfl, rfl⟩ := hx
      have ht : t = 0 := zbeq h1
      subst ht
      have hp : zI (x + w) := hp
      intro q1 q2 q3 H locs ls hP hD hS hl
      have hm : (q, zc ad (0, x)) ∈ zA ad 0 L := (zA_mem ad L 0 _).mpr ⟨q, _, by simp, hz⟩
      obtain ⟨kk, hkk⟩ := List.getElem?_of_mem hm
      refine lv_iinc hex hb hd hl hkk (v := Int32.ofInt (x + w)) (by rw [Int32.ofInt_add]) hq rfl (fun ls' h' => ?_)
      refine k q1 (fun i v hi => ?_) q3 H locs ls' hP hD hS ⟨h'.1, h'.2.1, fun u hu => h'.2.2 u ?_⟩
      · rw [zg_zp] at hi
        split at hi
        · cases hi; exact hp
        · exact q2 i v hi
      · obtain ⟨i, v, rfl, hi⟩ := (zA_mem ad _ 0 u).mp hu
        rw [zg_zp] at hi
        split at hi
        next hc =>
          cases hi
          rw [hc.1, Nat.zero_add]
          exact List.mem_cons_self
        next hc =>
          refine List.mem_cons_of_mem _ (List.mem_filter.mpr ⟨(zA_mem ad L 0 _).mpr ⟨i, v, rfl, hi⟩, ?_⟩)
          have hlt : i < L.length := by
            rw [zg_get] at hi
            cases hq : L[i]? with
            | none => rw [hq] at hi; cases hi
            | some u => exact (List.getElem?_eq_some_iff.mp hq).1
          have h6 : (0 + i == q) = false := beq_eq_false_iff_ne.mpr (fun hh => hc ⟨by omega, by omega⟩)
          have h5 : (0 + i + 1 == q && (zc ad v).category == 2) = false := by
            cases hcat : (zc ad v).category == 2 with
            | false => simp
            | true =>
              simp only [Bool.and_true]
              refine beq_eq_false_iff_ne.mpr (fun hh => ?_)
              have g1 := zA_read hl hi
              have g2 := hl.2.1.1 i _ g1 (eq_of_beq hcat)
              have g3 := zA_read hl hz
              rw [show i + 1 = q by omega, g3] at g2
              cases g2
          simp only [h5, h6]
          rfl
  case iadd =>
    have hl : n = 1 := by simpa [zlit] using hl
    subst hl
    exact zx_ii (f := fun x y => (3, x + y)) (fun a b => .int (a + b)) (fun x y => by show Value.int _ = _; rw [Int32.ofInt_add]) (fun _ _ => trivial) (fun H locs ls rest a b k => lv_iadd hex hb hd k) hx k
  case isub =>
    have hl : n = 1 := by simpa [zlit] using hl
    subst hl
    exact zx_ii (f := fun x y => (3, x - y)) (fun a b => .int (a - b)) (fun x y => by show Value.int _ = _; rw [Int32.ofInt_sub]) (fun _ _ => trivial) (fun H locs ls rest a b k => lv_isub hex hb hd k) hx k
  case imul =>
    have hl : n = 1 := by simpa [zlit] using hl
    subst hl
    exact zx_ii (f := fun x y => (3, x * y)) (fun a b => .int (a * b)) (fun x y => by show Value.int _ = _; rw [Int32.ofInt_mul]) (fun _ _ => trivial) (fun H locs ls rest a b k => lv_imul hex hb hd k) hx k
  case iand =>
    have hl : n = 1 := by simpa [zlit] using hl
    subst hl
    exact zx_ii (f := fun x y => (0, zand x y)) (fun a b => .int (a &&& b)) (fun x y => by show Value.int (Int32.ofInt (zand x y)) = _; unfold zand; rw [zoi]) (fun _ _ => zI_of32 _) (fun H locs ls rest a b k => lv_iand hex hb hd k) hx k
  case ior =>
    have hl : n = 1 := by simpa [zlit] using hl
    subst hl
    exact zx_ii (f := fun x y => (0, zor x y)) (fun a b => .int (a ||| b)) (fun x y => by show Value.int (Int32.ofInt (zor x y)) = _; unfold zor; rw [zoi]) (fun _ _ => zI_of32 _) (fun H locs ls rest a b k => lv_ior hex hb hd k) hx k
  case ixor =>
    have hl : n = 1 := by simpa [zlit] using hl
    subst hl
    exact zx_ii (f := fun x y => (0, zxor x y)) (fun a b => .int (a ^^^ b)) (fun x y => by show Value.int (Int32.ofInt (zxor x y)) = _; unfold zxor; rw [zoi]) (fun _ _ => zI_of32 _) (fun H locs ls rest a b k => lv_ixor hex hb hd k) hx k
  case ishl =>
    have hl : n = 1 := by simpa [zlit] using hl
    subst hl
    exact zx_ii (f := fun x y => (0, zshl x y)) (fun a b => .int (a <<< (b &&& 31))) (fun x y => by show Value.int (Int32.ofInt (zshl x y)) = _; unfold zshl; rw [zoi]) (fun _ _ => zI_of32 _) (fun H locs ls rest a b k => lv_ishl hex hb hd k) hx k
  case ishr =>
    have hl : n = 1 := by simpa [zlit] using hl
    subst hl
    exact zx_ii (f := fun x y => (0, zshr x y)) (fun a b => .int (a >>> (b &&& 31))) (fun x y => by show Value.int (Int32.ofInt (zshr x y)) = _; unfold zshr; rw [zoi]) (fun _ _ => zI_of32 _) (fun H locs ls rest a b k => lv_ishr hex hb hd k) hx k
  case iushr =>
    have hl : n = 1 := by simpa [zlit] using hl
    subst hl
    exact zx_ii (f := fun x y => (0, zushr x y)) (fun a b => .int ((a.toUInt32 >>> (b.toUInt32 &&& Int32.toUInt32 31)).toInt32)) (fun x y => by show Value.int (Int32.ofInt (zushr x y)) = _; unfold zushr; rw [zoi]) (fun _ _ => zI_of32 _) (fun H locs ls rest a b k => lv_iushr hex hb hd rfl k) hx k
  case idiv =>
    have hl : n = 1 := by simpa [zlit] using hl
    subst hl
    exact zx_iiv (f := fun x y => (3, x.tdiv y)) (fun a b => .int (a / b)) (fun x y hx hy _ => by show Value.int _ = _; rw [z_div32 x y hx hy]) (fun _ _ _ _ => trivial) (fun H locs ls rest a b hne k => lv_idiv hex hb hd (hne rfl) k) hx hp k
  case irem =>
    have hl : n = 1 := by simpa [zlit] using hl
    subst hl
    exact zx_iiv (f := fun x y => (0, x.tmod y)) (fun a b => .int (a - a / b * b)) (fun x y hx hy _ => by show Value.int _ = _; rw [z_tmod32 x y hx hy]) (fun _ _ hx _ => z_tmod_ok hx) (fun H locs ls rest a b hne k => lv_irem hex hb hd (hne rfl) k) hx hp k
  case ladd =>
    have hl : n = 1 := by simpa [zlit] using hl
    subst hl
    exact zx_ll (f := fun x y => (4, x + y)) (fun a b => .long (a + b)) (fun x y => by show Value.long _ = _; rw [Int64.ofInt_add]) (fun _ _ => trivial) (fun H locs ls rest a b k => lv_ladd hex hb hd k) hx k
  case lsub =>
    have hl : n = 1 := by simpa [zlit] using hl
    subst hl
    exact zx_ll (f := fun x y => (4, x - y)) (fun a b => .long (a - b)) (fun x y => by show Value.long _ = _; rw [Int64.ofInt_sub]) (fun _ _ => trivial) (fun H locs ls rest a b k => lv_lsub hex hb hd k) hx k
  case lmul =>
    have hl : n = 1 := by simpa [zlit] using hl
    subst hl
    exact zx_ll (f := fun x y => (4, x * y)) (fun a b => .long (a * b)) (fun x y => by show Value.long _ = _; rw [Int64.ofInt_mul]) (fun _ _ => trivial) (fun H locs ls rest a b k => lv_lmul hex hb hd k) hx k
  case land =>
    have hl : n = 1 := by simpa [zlit] using hl
    subst hl
    exact zx_ll (f := fun x y => (1, zandl x y)) (fun a b => .long (a &&& b)) (fun x y => by show Value.long (Int64.ofInt (zandl x y)) = _; unfold zandl; rw [zol]) (fun _ _ => zJ_of64 _) (fun H locs ls rest a b k => lv_land hex hb hd k) hx k
  case lor =>
    have hl : n = 1 := by simpa [zlit] using hl
    subst hl
    exact zx_ll (f := fun x y => (1, zorl x y)) (fun a b => .long (a ||| b)) (fun x y => by show Value.long (Int64.ofInt (zorl x y)) = _; unfold zorl; rw [zol]) (fun _ _ => zJ_of64 _) (fun H locs ls rest a b k => lv_lor hex hb hd k) hx k
  case lshl =>
    have hl : n = 1 := by simpa [zlit] using hl
    subst hl
    exact zx_li (f := fun x y => (1, zshll x y)) (fun a b => .long (a <<< (b.toInt64 &&& 63))) (fun x y => by show Value.long (Int64.ofInt (zshll x y)) = _; unfold zshll; rw [zol]) (fun _ _ => zJ_of64 _) (fun H locs ls rest a b k => lv_lshl hex hb hd rfl k) hx k
  case lshr =>
    have hl : n = 1 := by simpa [zlit] using hl
    subst hl
    exact zx_li (f := fun x y => (1, zshrl x y)) (fun a b => .long (a >>> (b.toInt64 &&& 63))) (fun x y => by show Value.long (Int64.ofInt (zshrl x y)) = _; unfold zshrl; rw [zol]) (fun _ _ => zJ_of64 _) (fun H locs ls rest a b k => lv_lshr hex hb hd rfl k) hx k
  case lushr =>
    have hl : n = 1 := by simpa [zlit] using hl
    subst hl
    exact zx_li (f := fun x y => (1, zushrl x y)) (fun a b => .long ((a.toUInt64 >>> (b.toInt64.toUInt64 &&& Int64.toUInt64 63)).toInt64)) (fun x y => by show Value.long (Int64.ofInt (zushrl x y)) = _; unfold zushrl; rw [zol]) (fun _ _ => zJ_of64 _) (fun H locs ls rest a b k => lv_lushr hex hb hd rfl k) hx k
  case ldiv =>
    have hl : n = 1 := by simpa [zlit] using hl
    subst hl
    exact zx_llv (f := fun x y => (4, x.tdiv y)) (fun a b => .long (a / b)) (fun x y hx hy _ => by show Value.long _ = _; rw [z_div64 x y hx hy]) (fun _ _ _ _ => trivial) (fun H locs ls rest a b hne k => lv_ldiv hex hb hd (hne rfl) k) hx hp k
  case lrem =>
    have hl : n = 1 := by simpa [zlit] using hl
    subst hl
    exact zx_llv (f := fun x y => (1, x.tmod y)) (fun a b => .long (a - a / b * b)) (fun x y hx hy _ => by show Value.long _ = _; rw [z_tmod64 x y hx hy]) (fun _ _ hx _ => z_tmodl_ok hx) (fun H locs ls rest a b hne k => lv_lrem hex hb hd (hne rfl) k) hx hp k
  case lcmp =>
    have hl : n = 1 := by simpa [zlit] using hl
    subst hl
    exact zx_llv (f := fun x y => (0, zlc x y)) (fun a b => .int (lg_cmp a b)) (fun x y hx hy _ => by show Value.int (Int32.ofInt (zlc x y)) = _; rw [z_lcmp x y hx hy]) (fun x y _ _ => by show zI (zlc x y); unfold zlc; split <;> (try split) <;> exact ⟨by omega, by omega⟩) (fun H locs ls rest a b hne k => W.lcmp hex hb hd k) hx hp k
  case lneg =>
    have hl : n = 1 := by simpa [zlit] using hl
    subst hl
    match st, hx with
    | [], hx => cases hx
    | (t, x) :: r, hx =>
      replace hx := zcond hx
      obtain ⟨h1, hx⟩ := hx
      simp only [Option.some.injEq, Prod.mk.injEq] at hx
      obtain ⟨-, rfl, rfl, rfl⟩ := hx
      intro q1 q2 q3 H locs ls hP hD hS hl
      simp only [List.map_cons, zc_l h1]
      refine lv_lneg hex hb hd ?_
      rw [← Int64.ofInt_neg]
      exact k q1 q2 (zokT_cons (v := (4, -x)) trivial (zokT_tl q3)) H locs ls hP hD hS hl
  case ineg =>
    have hl : n = 1 := by simpa [zlit] using hl
    subst hl
    match st, hx with
    | [], hx => cases hx
    | (t, x) :: r, hx =>
      replace hx := zcond hx
      obtain ⟨h1, hx⟩ := hx
      simp only [Option.some.injEq, Prod.mk.injEq] at hx
      obtain ⟨-, rfl, rfl, rfl⟩ := hx
      intro q1 q2 q3 H locs ls hP hD hS hl
      simp only [List.map_cons, zc_i h1]
      refine lv_ineg hex hb hd ?_
      rw [← Int32.ofInt_neg]
      exact k q1 q2 (zokT_cons (v := (3, -x)) trivial (zokT_tl q3)) H locs ls hP hD hS hl
  case i2l =>
    have hl : n = 1 := by simpa [zlit] using hl
    subst hl
    match st, hx with
    | [], hx => cases hx
    | (t, x) :: r, hx =>
      replace hx := zcond hx
      obtain ⟨h1, hx⟩ := hx
      simp only [Option.some.injEq, Prod.mk.injEq] at hx
      obtain ⟨rfl, rfl, rfl, rfl⟩ := hx
      intro q1 q2 q3 H locs ls hP hD hS hl
      have o1 := zr_ok h1 (zokT_hd q3) hp
      simp only [List.map_cons, zc_i h1]
      refine lv_i2l hex hb hd (v := Int64.ofInt x) ?_ (k q1 q2 (zokT_cons (v := (1, x)) (show zJ x from ⟨by have := o1.1; omega, by have := o1.2; omega⟩) (zokT_tl q3)) H locs ls hP hD hS hl)
      apply Int64.toInt_inj.mp
      rw [Int32.toInt_toInt64, zti o1, ztl ⟨by have := o1.1; omega, by have := o1.2; omega⟩]
  case l2i =>
    have hl : n = 1 := by simpa [zlit] using hl
    subst hl
    match st, hx with
    | [], hx => cases hx
    | (t, x) :: r, hx =>
      replace hx := zcond hx
      obtain ⟨h1, hx⟩ := hx
      simp only [Option.some.injEq, Prod.mk.injEq] at hx
      obtain ⟨-, rfl, rfl, rfl⟩ := hx
      intro q1 q2 q3 H locs ls hP hD hS hl
      simp only [List.map_cons, zc_l h1]
      exact lv_l2i hex hb hd (v := Int32.ofInt x) (by rw [Int64.toInt32_ofInt]) (k q1 q2 (zokT_cons (v := (3, x)) trivial (zokT_tl q3)) H locs ls hP hD hS hl)
  case getfield q =>
    have hl : n = 3 := by simpa [zlit] using hl
    subst hl
    exact zx_getf C0 hd hx k
  case putfield q =>
    have hl : n = 3 := by simpa [zlit] using hl
    subst hl
    exact zx_putf C0 hd hx hp k
  case iaload =>
    have hl : n = 1 := by simpa [zlit] using hl
    subst hl
    exact zx_aload C0 hd hx hp k
  case iastore =>
    have hl : n = 1 := by simpa [zlit] using hl
    subst hl
    exact zx_astore C0 hd hx hp k
  case arraylength =>
    have hl : n = 1 := by simpa [zlit] using hl
    subst hl
    exact zx_alen C0 hd hx k
  case dup =>
    have hl : n = 1 := by simpa [zlit] using hl
    subst hl
    match st, hx with
    | [], hx => cases hx
    | v :: r, hx =>
      replace hx := zcond hx
      obtain ⟨h1, hx⟩ := hx
      simp only [Option.some.injEq, Prod.mk.injEq] at hx
      obtain ⟨-, rfl, rfl, rfl⟩ := hx
      intro q1 q2 q3 H locs ls hP hD hS hl
      exact lv_dup hex hb hd (by rw [zcat, h1]; rfl) (k q1 q2 (zokT_cons (zokT_hd q3) q3) H locs ls hP hD hS hl)
  case pop =>
    have hl : n = 1 := by simpa [zlit] using hl
    subst hl
    match st, hx with
    | [], hx => cases hx
    | v :: r, hx =>
      replace hx := zcond hx
      obtain ⟨h1, hx⟩ := hx
      simp only [Option.some.injEq, Prod.mk.injEq] at hx
      obtain ⟨-, rfl, rfl, rfl⟩ := hx
      intro q1 q2 q3 H locs ls hP hD hS hl
      exact lv_pop hex hb hd (by rw [zcat, h1]; rfl) (k q1 q2 (zokT_tl q3) H locs ls hP hD hS hl)
  case dup2 =>
    have hl : n = 1 := by simpa [zlit] using hl
    subst hl
    match st, hx with
    | [], hx => cases hx
    | [_], hx => cases hx
    | v :: w :: r, hx =>
      replace hx := zcond hx
      obtain ⟨h1, hx⟩ := hx
      replace hx := zcond hx
      obtain ⟨h2, hx⟩ := hx
      simp only [Option.some.injEq, Prod.mk.injEq] at hx
      obtain ⟨-, rfl, rfl, rfl⟩ := hx
      intro q1 q2 q3 H locs ls hP hD hS hl
      exact lv_dup2_11 hex hb hd (by rw [zcat, h1]; rfl) (by rw [zcat, h2]; rfl) (k q1 q2 (zokT_cons (zokT_hd q3) (zokT_cons (zokT_hd (zokT_tl q3)) q3)) H locs ls hP hD hS hl)
  case invokestatic q =>
    have hl : n = 3 := by simpa [zlit] using hl
    subst hl
    exact zx_mm C0 hd hx hp k
  all_goals (simp only [zx] at hx; cases hx)
theorem zxs_ok (C0 : zC p R s m args c D cA A Λ shp cc own nL Ts E) (blk : List (Instr × Nat)) {z : Nat} (hd : zdk cc nL pc blk z = true) (hx : zxs Λ E wr blk L st σ = some (ps, L2, st2, σ2)) (hp : zcj ps) (k : zS p l e R s m args below meth c Q D cA ad A Λ shp nL z L2 st2 σ2) : zS p l e R s m args below meth c Q D cA ad A Λ shp nL pc L st σ := by
  induction blk generalizing pc L st σ ps with
  | nil =>
    have hz : pc = z := Nat.eq_of_beq_eq_true hd
    subst hz
    simp only [zxs, Option.some.injEq, Prod.mk.injEq] at hx
    obtain ⟨-, rfl, rfl, rfl⟩ := hx
    exact k
  | cons i r ih =>
    simp only [zdk, Bool.and_eq_true, decide_eq_true_eq] at hd
    obtain ⟨⟨h1, h2⟩, h3⟩ := hd
    simp only [zxs] at hx
    cases hz : zx Λ E wr i.1 L st σ with
    | none => rw [hz] at hx; cases hx
    | some u =>
      obtain ⟨ps1, L1, st1, σ1⟩ := u
      rw [hz] at hx
      simp only at hx
      cases hz2 : zxs Λ E wr r L1 st1 σ1 with
      | none => rw [hz2] at hx; cases hx
      | some u =>
        obtain ⟨ps2, L3, st3, σ3⟩ := u
        rw [hz2] at hx
        simp only [Option.some.injEq, Prod.mk.injEq] at hx
        obtain ⟨rfl, rfl, rfl, rfl⟩ := hx
        obtain ⟨g1, g2⟩ := zcj_append hp
        exact zx_ok C0 h1 h2 hz g1 (ih h3 hz2 g2)
end ZX3
