/-! ===== the law's body: its rules ===== -/
theorem lGin {own C : String} {idx : Nat} {y : MethodName} {cd : Cond} (h1 : Cond.methodLink own idx y ∈ uU) (h2 : Cond.instanceMethod y ∈ uU) (h3 : Cond.selects C y y ∈ uU) (h4 : Cond.initialized C ∈ uU) (h5 : cd ∈ uU) : GoodIn lw_tbl (wsV own idx C y (cd :: uU)) := by
  intro w hw
  obtain ⟨h6, h7⟩ := uGin (c0 := cd) h1 h2 h3 h4 h5 w hw
  refine ⟨?_, h7⟩
  rcases List.mem_cons.mp h6 with rfl | h6
  · exact uU_tbl _ h5
  · exact uU_tbl _ h6
theorem lGinI {cd : Cond} (h5 : cd ∈ uU) : GoodIn lw_tbl (cd :: uU) := by
  intro w hw
  obtain ⟨h6, h7⟩ := uGinI (c0 := cd) h5 w hw
  refine ⟨?_, h7⟩
  rcases List.mem_cons.mp h6 with rfl | h6
  · exact uU_tbl _ h5
  · exact uU_tbl _ h6
theorem zde_app {cc : ByteArray} : ∀ {a b : List (Instr × Nat)} {pc z : Nat}, zde cc pc (a ++ b) z = true → ∃ z1, zde cc pc a z1 = true ∧ zde cc z1 b z = true
  | [], b, pc, z, h => ⟨pc, by simp [zde], h⟩
  | i :: a, b, pc, z, h => by
    obtain ⟨h1, h2⟩ := zde_hd (i := i) (r := a ++ b) h
    obtain ⟨z1, h3, h4⟩ := zde_app h2
    exact ⟨z1, by simp only [zde, Bool.and_eq_true, decide_eq_true_eq]; exact ⟨h1, h3⟩, h4⟩
def argsB : List Nat → List (Instr × Nat)
  | [] => []
  | k :: r => (.aload_n 0, 1) :: (.iload_n 3, 1) :: (.iconst (k : Int), 1) :: (.iadd, 1) :: (.iaload, 1) :: argsB r
section LAW
variable {p : Program} {l : Launch} {e : Env} {s : State} {m : MethodId} {below : List Frame} {meth : Method} {c : Code} {D : va_G} {cA : ClassId} {b L : Nat} {xs : Nat → Int32} {adx adm : Nat → Nat}
def lC (p : Program) (s : State) (m : MethodId) (meth : Method) (c : Code) (D : va_G) (cA : ClassId) (b L : Nat) (xs : Nat → Int32) : Prop := lw_At p s m meth c b L xs ∧ zKc p s m #[Value.ref b] c D cA (fun q => s.heap.size ≤ q) code R_law lw_tbl 4 ∧ L ≤ 2560
def lS (p : Program) (l : Launch) (e : Env) (s : State) (m : MethodId) (below : List Frame) (meth : Method) (c : Code) (D : va_G) (cA : ClassId) (b : Nat) (adx adm : Nat → Nat) (pc i : Nat) (st : List Value) (σ τ : zT) : Prop :=
  zok shpC σ → zok shpM τ → zK p l e room_1 s m #[Value.ref b] below meth c (lw_Z below #[Value.ref b] s) D (fun q => s.heap.size ≤ q) 4 [(0, .ref b), (1, .ref (adx 0)), (2, .ref (adm 0)), (3, .int (nI i))] 84 7730 pc st (zW cA adx σ 0 lamC ++ zW cA adm τ 0 lamM)
theorem l_x (C0 : lC p s m meth c D cA b L xs) {pc i : Nat} {st : List Value} {σ τ : zT} (hd : decode code pc = .ok (.aload_n 1, 1)) (k : lS p l e s m below meth c D cA b adx adm (pc + 1) i (.ref (adx 0) :: st) σ τ) : lS p l e s m below meth c D cA b adx adm pc i st σ τ := by
  intro o1 o2 H locs ls hP hD hS hl
  obtain ⟨-, ⟨hx, hb, -⟩, -⟩ := C0
  exact lv_aload_n hx hb hd rfl (lv_at hl 1 rfl) (k o1 o2 H locs ls hP hD hS hl)
theorem l_m (C0 : lC p s m meth c D cA b L xs) {pc i : Nat} {st : List Value} {σ τ : zT} (hd : decode code pc = .ok (.aload_n 2, 1)) (k : lS p l e s m below meth c D cA b adx adm (pc + 1) i (.ref (adm 0) :: st) σ τ) : lS p l e s m below meth c D cA b adx adm pc i st σ τ := by
  intro o1 o2 H locs ls hP hD hS hl
  obtain ⟨-, ⟨hx, hb, -⟩, -⟩ := C0
  exact lv_aload_n hx hb hd rfl (lv_at hl 2 rfl) (k o1 o2 H locs ls hP hD hS hl)
theorem l_arg (C0 : lC p s m meth c D cA b L xs) {pc z i k : Nat} {st : List Value} {σ τ : zT} (hi : i + k < L) (hde : zde code pc [(.aload_n 0, 1), (.iload_n 3, 1), (.iconst (k : Int), 1), (.iadd, 1), (.iaload, 1)] z = true) (kk : lS p l e s m below meth c D cA b adx adm z i (.int (xs (i + k)) :: st) σ τ) : lS p l e s m below meth c D cA b adx adm pc i st σ τ := by
  intro o1 o2 H locs ls hP hD hS hl
  obtain ⟨⟨-, -, -, -, -, -, hX, hbl, -, -⟩, ⟨hx, hb, -⟩, hL⟩ := C0
  obtain ⟨d0, hde⟩ := zde_hd hde
  obtain ⟨d1, hde⟩ := zde_hd hde
  obtain ⟨d2, hde⟩ := zde_hd hde
  obtain ⟨d3, hde⟩ := zde_hd hde
  obtain ⟨d4, hde⟩ := zde_hd hde
  have hz := zde_nil hde
  refine lv_aload_n hx hb d0 rfl (lv_at hl 0 rfl) ?_
  refine lv_iload_n hx hb d1 rfl (lv_at hl 3 rfl) ?_
  refine lv_iconst (v := nI k) hx hb d2 (by rfl) ?_
  refine lv_iadd hx hb d3 ?_
  rw [nI_add]
  refine va_sld hx hb hX hbl (Nat.not_le.mpr hbl) hS (vp_in_nI hi (by omega)) d4 ?_
  rw [nI_clamp (by omega)]
  have := kk o1 o2 H locs ls hP hD hS hl
  rw [← hz] at this
  exact this
theorem l_args (C0 : lC p s m meth c D cA b L xs) {i : Nat} {σ τ : zT} (hi : i + 5 ≤ L) : ∀ (ks : List Nat) {pc z : Nat} {st : List Value}, (∀ k ∈ ks, k < 5) → zde code pc (argsB ks) z = true → lS p l e s m below meth c D cA b adx adm z i ((ks.map (fun k => Value.int (xs (i + k)))).reverse ++ st) σ τ → lS p l e s m below meth c D cA b adx adm pc i st σ τ := by
  intro ks
  induction ks with
  | nil =>
    intro pc z st _ hde kk
    have hz := zde_nil hde
    rw [hz]
    exact kk
  | cons k r ih =>
    intro pc z st hk hde kk
    obtain ⟨z1, h1, h2⟩ := zde_app (a := [(.aload_n 0, 1), (.iload_n 3, 1), (.iconst (k : Int), 1), (.iadd, 1), (.iaload, 1)]) (b := argsB r) hde
    refine l_arg C0 (k := k) (by have := hk k List.mem_cons_self; omega) h1 ?_
    refine ih (fun q hq => hk q (List.mem_cons_of_mem _ hq)) h2 ?_
    have e1 : (((k :: r).map (fun k => Value.int (xs (i + k)))).reverse ++ st) = ((r.map (fun k => Value.int (xs (i + k)))).reverse ++ (.int (xs (i + k)) :: st)) := by simp
    rw [e1] at kk
    exact kk
theorem l_call1 (C0 : lC p s m meth c D cA b L xs) {pc i idx n : Nat} {rest : List Value} {σ σ2 τ : zT} {av : List zV} {y : MethodName} {yw : List Cond} {rm : Room} {r : zV} (hd : decode code pc = .ok (.invokevirtual idx, 3)) (hM : zD l y yw rm lamC shpC ((2, Int.ofNat 0) :: av) σ (some r) σ2) (hcw : zCw true lw_tbl R_law room_1 idx y yw rm n) (hrc : zrcv lamC y.cls (2, Int.ofNat 0)) (hav : zokT av) (hn : av.length = n) (hct8 : (rest.map fun v => v.category).sum ≤ 8)
    (kk : lS p l e s m below meth c D cA b adx adm (pc + 3) i (zc adx r :: rest) σ2 τ) : lS p l e s m below meth c D cA b adx adm pc i ((av.map (zc adx)).reverse ++ .ref (adx 0) :: rest) σ τ := by
  intro o1 o2
  exact zK.swap (zk_callz (v := (2, Int.ofNat 0)) C0.2.1 hM hcw hrc o1 (zokT_cons trivial hav) hn hct8 hd (Nat.le_of_ble_eq_true rfl) (Nat.le_of_ble_eq_true rfl) (fun o3 => zK.swap (kk o3 o2)))
theorem l_call2 (C0 : lC p s m meth c D cA b L xs) {pc i idx n : Nat} {rest : List Value} {σ τ τ2 : zT} {av : List zV} {y : MethodName} {yw : List Cond} {rm : Room} {r : zV} (hd : decode code pc = .ok (.invokevirtual idx, 3)) (hM : zD l y yw rm lamM shpM ((2, Int.ofNat 0) :: av) τ (some r) τ2) (hcw : zCw true lw_tbl R_law room_1 idx y yw rm n) (hrc : zrcv lamM y.cls (2, Int.ofNat 0)) (hav : zokT av) (hn : av.length = n) (hct8 : (rest.map fun v => v.category).sum ≤ 8)
    (kk : lS p l e s m below meth c D cA b adx adm (pc + 3) i (zc adm r :: rest) σ τ2) : lS p l e s m below meth c D cA b adx adm pc i ((av.map (zc adm)).reverse ++ .ref (adm 0) :: rest) σ τ := by
  intro o1 o2
  exact zk_callz (v := (2, Int.ofNat 0)) C0.2.1 hM hcw hrc o2 (zokT_cons trivial hav) hn hct8 hd (Nat.le_of_ble_eq_true rfl) (Nat.le_of_ble_eq_true rfl) (fun o3 => kk o1 o3)
theorem l_cmpI (C0 : lC p s m meth c D cA b L xs) {pc i tgt : Nat} {off : Int} {v : Int32} {σ τ : zT} (hd : decode code pc = .ok (.if_icmp .eq off, 3)) (ht : (pc : Int) + off = (tgt : Int)) (kk : lS p l e s m below meth c D cA b adx adm tgt i [] σ τ) : lS p l e s m below meth c D cA b adx adm pc i [.int v, .int v] σ τ := by
  intro o1 o2 H locs ls hP hD hS hl
  obtain ⟨-, ⟨hx, hb, -⟩, -⟩ := C0
  exact lv_icmp_eq hx hb hd ht (fun _ => kk o1 o2 H locs ls hP hD hS hl) (fun h => absurd rfl h)
theorem l_cmpJ (C0 : lC p s m meth c D cA b L xs) {pc i tgt : Nat} {off : Int} {v : Int64} {σ τ : zT} (hd : decode code pc = .ok (.lcmp, 1)) (hd2 : decode code (pc + 1) = .ok (.ifCond .eq off, 3)) (ht : ((pc + 1 : Nat) : Int) + off = (tgt : Int)) (kk : lS p l e s m below meth c D cA b adx adm tgt i [] σ τ) : lS p l e s m below meth c D cA b adx adm pc i [.long v, .long v] σ τ := by
  intro o1 o2 H locs ls hP hD hS hl
  obtain ⟨-, ⟨hx, hb, -⟩, -⟩ := C0
  refine W.lcmp hx hb hd ?_
  refine lv_if_eq hx hb hd2 ht (fun _ => kk o1 o2 H locs ls hP hD hS hl) (fun h => absurd ?_ h)
  simp [lg_cmp]
theorem l_av (ad : Nat → Nat) (i : Nat) (ks : List Nat) : (ks.map (fun k => ((0 : Nat), (xs (i + k)).toInt))).map (zc ad) = ks.map (fun k => Value.int (xs (i + k))) := by
  rw [List.map_map]
  refine List.map_congr_left (fun k _ => ?_)
  show Value.int (Int32.ofInt (xs (i + k)).toInt) = _
  rw [zoi]
theorem l_avok (i : Nat) (ks : List Nat) : zokT (ks.map (fun k => ((0 : Nat), (xs (i + k)).toInt))) := fun v hv => by
  obtain ⟨k, -, rfl⟩ := List.mem_map.mp hv
  exact zI_of32 (xs (i + k))
/-- one kind of call, on both, its answer an int -/
theorem l_case (C0 : lC p s m meth c D cA b L xs) {pc z i idx1 idx2 n : Nat} {off : Int} {ks : List Nat} {σ τ σ2 τ2 : zT} {y1 y2 : MethodName} {yw1 yw2 : List Cond} {rm1 rm2 : Room} {r : Int} (hi : i + 5 ≤ L) (hks : ∀ k ∈ ks, k < 5) (hn : ks.length = n)
    (hde : zde code pc ((.aload_n 1, 1) :: (argsB ks ++ (.invokevirtual idx1, 3) :: (.aload_n 2, 1) :: (argsB ks ++ [(.invokevirtual idx2, 3), (.if_icmp .eq off, 3)]))) z = true) (ht : (z : Int) + off = 1137)
    (m1 : zD l y1 yw1 rm1 lamC shpC ((2, Int.ofNat 0) :: ks.map (fun k => (0, (xs (i + k)).toInt))) σ (some (0, r)) σ2) (m2 : zD l y2 yw2 rm2 lamM shpM ((2, Int.ofNat 0) :: ks.map (fun k => (0, (xs (i + k)).toInt))) τ (some (0, r)) τ2)
    (c1 : zCw true lw_tbl R_law room_1 idx1 y1 yw1 rm1 n) (r1 : zrcv lamC y1.cls (2, Int.ofNat 0)) (c2 : zCw true lw_tbl R_law room_1 idx2 y2 yw2 rm2 n) (r2 : zrcv lamM y2.cls (2, Int.ofNat 0))
    (kk : lS p l e s m below meth c D cA b adx adm 1134 i [] σ2 τ2) : lS p l e s m below meth c D cA b adx adm pc i [] σ τ := by
  obtain ⟨d0, hde⟩ := zde_hd hde
  obtain ⟨z1, a1, hde⟩ := zde_app hde
  obtain ⟨d1, hde⟩ := zde_hd hde
  obtain ⟨d2, hde⟩ := zde_hd hde
  obtain ⟨z2, a2, hde⟩ := zde_app hde
  obtain ⟨d3, hde⟩ := zde_hd hde
  obtain ⟨d4, hde⟩ := zde_hd hde
  have hz := zde_nil hde
  refine l_x C0 d0 (l_args C0 hi ks hks a1 ?_)
  have k1 := l_call1 (adx := adx) (adm := adm) (below := below) (e := e) (i := i) (τ := τ) (rest := []) C0 d1 m1 c1 r1 (l_avok i ks) (by rw [List.length_map]; exact hn) (Nat.le_of_ble_eq_true rfl)
  rw [l_av] at k1
  refine k1 (l_m C0 d2 (l_args C0 hi ks hks a2 ?_))
  have k2 := l_call2 (adx := adx) (adm := adm) (below := below) (e := e) (i := i) (σ := σ2) (rest := [zc adx (0, r)]) C0 d3 m2 c2 r2 (l_avok i ks) (by rw [List.length_map]; exact hn) (Nat.le_of_ble_eq_true rfl)
  rw [l_av] at k2
  refine k2 (l_cmpI (v := Int32.ofInt r) (off := off) (tgt := 1134) C0 d4 (by
    have : z = z2 + 3 + 3 := hz.symm
    omega) kk)
theorem l_caseJ (C0 : lC p s m meth c D cA b L xs) {pc z i idx1 idx2 n : Nat} {off : Int} {ks : List Nat} {σ τ σ2 τ2 : zT} {y1 y2 : MethodName} {yw1 yw2 : List Cond} {rm1 rm2 : Room} {r : Int} (hi : i + 5 ≤ L) (hks : ∀ k ∈ ks, k < 5) (hn : ks.length = n)
    (hde : zde code pc ((.aload_n 1, 1) :: (argsB ks ++ (.invokevirtual idx1, 3) :: (.aload_n 2, 1) :: (argsB ks ++ [(.invokevirtual idx2, 3), (.lcmp, 1), (.ifCond .eq off, 3)]))) z = true) (ht : (z : Int) + off = 1137)
    (m1 : zD l y1 yw1 rm1 lamC shpC ((2, Int.ofNat 0) :: ks.map (fun k => (0, (xs (i + k)).toInt))) σ (some (1, r)) σ2) (m2 : zD l y2 yw2 rm2 lamM shpM ((2, Int.ofNat 0) :: ks.map (fun k => (0, (xs (i + k)).toInt))) τ (some (1, r)) τ2)
    (c1 : zCw true lw_tbl R_law room_1 idx1 y1 yw1 rm1 n) (r1 : zrcv lamC y1.cls (2, Int.ofNat 0)) (c2 : zCw true lw_tbl R_law room_1 idx2 y2 yw2 rm2 n) (r2 : zrcv lamM y2.cls (2, Int.ofNat 0))
    (kk : lS p l e s m below meth c D cA b adx adm 1134 i [] σ2 τ2) : lS p l e s m below meth c D cA b adx adm pc i [] σ τ := by
  obtain ⟨d0, hde⟩ := zde_hd hde
  obtain ⟨z1, a1, hde⟩ := zde_app hde
  obtain ⟨d1, hde⟩ := zde_hd hde
  obtain ⟨d2, hde⟩ := zde_hd hde
  obtain ⟨z2, a2, hde⟩ := zde_app hde
  obtain ⟨d3, hde⟩ := zde_hd hde
  obtain ⟨d4, hde⟩ := zde_hd hde
  obtain ⟨d5, hde⟩ := zde_hd hde
  have hz := zde_nil hde
  refine l_x C0 d0 (l_args C0 hi ks hks a1 ?_)
  have k1 := l_call1 (adx := adx) (adm := adm) (below := below) (e := e) (i := i) (τ := τ) (rest := []) C0 d1 m1 c1 r1 (l_avok i ks) (by rw [List.length_map]; exact hn) (Nat.le_of_ble_eq_true rfl)
  rw [l_av] at k1
  refine k1 (l_m C0 d2 (l_args C0 hi ks hks a2 ?_))
  have k2 := l_call2 (adx := adx) (adm := adm) (below := below) (e := e) (i := i) (σ := σ2) (rest := [zc adx (1, r)]) C0 d3 m2 c2 r2 (l_avok i ks) (by rw [List.length_map]; exact hn) (Nat.le_of_ble_eq_true rfl)
  rw [l_av] at k2
  refine k2 (l_cmpJ (v := Int64.ofInt r) (off := off) (tgt := 1134) C0 d4 d5 (by
    have : z = z2 + 3 + 1 + 3 := hz.symm
    omega) kk)
/-- a long out of two ints -/
def lV (xs : Nat → Int32) (i : Nat) : Int64 := (xs (i + 2)).toInt64 <<< ((32 : Int32).toInt64 &&& 63) ||| ((xs (i + 3)).toInt64 &&& 4294967295)
def longB : List (Instr × Nat) := argsB [2] ++ (.i2l, 1) :: (.bipush 32, 2) :: (.lshl, 1) :: (argsB [3] ++ [(.i2l, 1), (.ldc2_w 94, 3), (.land, 1), (.lor, 1)])
theorem l_long (C0 : lC p s m meth c D cA b L xs) {pc z i : Nat} {st : List Value} {σ τ : zT} (hi : i + 5 ≤ L) (hde : zde code pc longB z = true) (kk : lS p l e s m below meth c D cA b adx adm z i (.long (lV xs i) :: st) σ τ) : lS p l e s m below meth c D cA b adx adm pc i st σ τ := by
  obtain ⟨z1, a1, hde⟩ := zde_app hde
  obtain ⟨d0, hde⟩ := zde_hd hde
  obtain ⟨d1, hde⟩ := zde_hd hde
  obtain ⟨d2, hde⟩ := zde_hd hde
  obtain ⟨z2, a2, hde⟩ := zde_app hde
  obtain ⟨d3, hde⟩ := zde_hd hde
  obtain ⟨d4, hde⟩ := zde_hd hde
  obtain ⟨d5, hde⟩ := zde_hd hde
  obtain ⟨d6, hde⟩ := zde_hd hde
  have hz := zde_nil hde
  refine l_args C0 hi [2] (by decide) a1 ?_
  have mid : lS p l e s m below meth c D cA b adx adm (z1 + 1 + 2 + 1) i (.long ((xs (i + 2)).toInt64 <<< ((32 : Int32).toInt64 &&& 63)) :: st) σ τ := by
    refine l_args C0 hi [3] (by decide) a2 ?_
    intro o1 o2 H locs ls hP hD hS hl
    obtain ⟨-, ⟨hx, hb, -, hown, hts, -⟩, -⟩ := C0
    refine lv_i2l hx hb d3 rfl ?_
    refine lv_ldc2 hx hb hown (hts _ (uU_tbl _ u_1_6)) d4 ?_
    refine lv_land hx hb d5 ?_
    refine lv_lor hx hb d6 ?_
    have := kk o1 o2 H locs ls hP hD hS hl
    rw [← hz] at this
    exact this
  intro o1 o2 H locs ls hP hD hS hl
  obtain ⟨-, ⟨hx, hb, -, hown, hts, -⟩, -⟩ := id C0
  refine lv_i2l hx hb d0 rfl ?_
  refine lv_bipush (v := 32) hx hb d1 (by decide) ?_
  refine lv_lshl hx hb d2 rfl ?_
  exact mid o1 o2 H locs ls hP hD hS hl
theorem l_caseO (C0 : lC p s m meth c D cA b L xs) {pc z i idx1 idx2 : Nat} {off : Int} {σ τ σ2 τ2 : zT} {y1 y2 : MethodName} {yw1 yw2 : List Cond} {rm1 rm2 : Room} {r : Int} (hi : i + 5 ≤ L)
    (hde : zde code pc ((.aload_n 1, 1) :: (argsB [1] ++ (longB ++ (.invokevirtual idx1, 3) :: (.aload_n 2, 1) :: (argsB [1] ++ (longB ++ [(.invokevirtual idx2, 3), (.if_icmp .eq off, 3)]))))) z = true) (ht : (z : Int) + off = 1137)
    (m1 : zD l y1 yw1 rm1 lamC shpC [(2, Int.ofNat 0), (0, (xs (i + 1)).toInt), (1, (lV xs i).toInt)] σ (some (0, r)) σ2) (m2 : zD l y2 yw2 rm2 lamM shpM [(2, Int.ofNat 0), (0, (xs (i + 1)).toInt), (1, (lV xs i).toInt)] τ (some (0, r)) τ2)
    (c1 : zCw true lw_tbl R_law room_1 idx1 y1 yw1 rm1 2) (r1 : zrcv lamC y1.cls (2, Int.ofNat 0)) (c2 : zCw true lw_tbl R_law room_1 idx2 y2 yw2 rm2 2) (r2 : zrcv lamM y2.cls (2, Int.ofNat 0))
    (kk : lS p l e s m below meth c D cA b adx adm 1134 i [] σ2 τ2) : lS p l e s m below meth c D cA b adx adm pc i [] σ τ := by
  obtain ⟨d0, hde⟩ := zde_hd hde
  obtain ⟨z1, a1, hde⟩ := zde_app hde
  obtain ⟨z3, a3, hde⟩ := zde_app hde
  obtain ⟨d1, hde⟩ := zde_hd hde
  obtain ⟨d2, hde⟩ := zde_hd hde
  obtain ⟨z2, a2, hde⟩ := zde_app hde
  obtain ⟨z4, a4, hde⟩ := zde_app hde
  obtain ⟨d3, hde⟩ := zde_hd hde
  obtain ⟨d4, hde⟩ := zde_hd hde
  have hz := zde_nil hde
  have hav : zokT [((0 : Nat), (xs (i + 1)).toInt), (1, (lV xs i).toInt)] := zokT_cons (zI_of32 _) (zokT_cons (zJ_of64 _) (fun v h => absurd h List.not_mem_nil))
  have hst : ∀ ad : Nat → Nat, [((0 : Nat), (xs (i + 1)).toInt), (1, (lV xs i).toInt)].map (zc ad) = [.int (xs (i + 1)), .long (lV xs i)] := fun ad => by
    show [Value.int (Int32.ofInt (xs (i + 1)).toInt), Value.long (Int64.ofInt (lV xs i).toInt)] = _
    rw [zoi, zol]
  refine l_x C0 d0 (l_args C0 hi [1] (by decide) a1 (l_long C0 hi a3 ?_))
  have k1 := l_call1 (adx := adx) (adm := adm) (below := below) (e := e) (i := i) (τ := τ) (rest := []) C0 d1 m1 c1 r1 hav rfl (Nat.le_of_ble_eq_true rfl)
  rw [hst] at k1
  refine k1 (l_m C0 d2 (l_args C0 hi [1] (by decide) a2 (l_long C0 hi a4 ?_)))
  have k2 := l_call2 (adx := adx) (adm := adm) (below := below) (e := e) (i := i) (σ := σ2) (rest := [zc adx (0, r)]) C0 d3 m2 c2 r2 hav rfl (Nat.le_of_ble_eq_true rfl)
  rw [hst] at k2
  refine k2 (l_cmpI (v := Int32.ofInt r) (off := off) (tgt := 1134) C0 d4 (by
    have : z = z4 + 3 + 3 := hz.symm
    omega) kk)
theorem l_next (C0 : lC p s m meth c D cA b L xs) {i : Nat} {σ τ : zT} (hde : zde code 1134 [(.iinc 3 5, 3), (.goto (-1119), 3)] 1140 = true) (kk : lS p l e s m below meth c D cA b adx adm 18 (i + 5) [] σ τ) : lS p l e s m below meth c D cA b adx adm 1134 i [] σ τ := by
  intro o1 o2 H locs ls hP hD hS hl
  obtain ⟨-, ⟨hx, hb, -⟩, -⟩ := C0
  obtain ⟨d0, hde⟩ := zde_hd hde
  obtain ⟨d1, hde⟩ := zde_hd hde
  refine lv_iinc (v := nI (i + 5)) (lv' := [(3, .int (nI (i + 5))), (0, .ref b), (1, .ref (adx 0)), (2, .ref (adm 0))]) hx hb d0 hl (k := 3) rfl (nI_add i 5) (by decide) rfl (fun ls hl => ?_)
  refine lv_goto (tgt := 18) hx hb d1 (by decide) ?_
  exact kk o1 o2 H locs ls hP hD hS (lv_sub hl [1, 2, 3, 0] rfl)
theorem l_len {L : Nat} (h : L ≤ 2560) : (Int32.ofNat L - 5).toInt = (L : Int) - 5 := by
  have e : (Int32.ofNat L).toInt = (L : Int) := nI_toInt (n := L) (by omega)
  rw [Int32.toInt_sub, e]
  show Int.bmod ((L : Int) - 5) (2 ^ 32) = _
  exact Int.bmod_eq_of_le (show -((2 : Int) ^ 32 / 2) ≤ (L : Int) - 5 by omega) (show (L : Int) - 5 < ((2 : Int) ^ 32 + 1) / 2 by omega)
theorem l_head (C0 : lC p s m meth c D cA b L xs) {i : Nat} {σ τ : zT} (hi : i ≤ L + 5) (hde : zde code 18 [(.iload_n 3, 1), (.aload_n 0, 1), (.arraylength, 1), (.iconst 5, 1), (.isub, 1), (.if_icmp .gt 1117, 3)] 26 = true) (hde2 : zde code 1140 [(.iconst 1, 1), (.ireturn, 1)] 1142 = true) (kk : i + 5 ≤ L → lS p l e s m below meth c D cA b adx adm 26 i [] σ τ) : lS p l e s m below meth c D cA b adx adm 18 i [] σ τ := by
  intro o1 o2 H locs ls hP hD hS hl
  obtain ⟨⟨-, -, hr, -, -, -, hX, hbl, hlocks, -⟩, ⟨hx, hb, -⟩, hL⟩ := id C0
  obtain ⟨d0, hde⟩ := zde_hd hde
  obtain ⟨d1, hde⟩ := zde_hd hde
  obtain ⟨d2, hde⟩ := zde_hd hde
  obtain ⟨d3, hde⟩ := zde_hd hde
  obtain ⟨d4, hde⟩ := zde_hd hde
  obtain ⟨d5, hde⟩ := zde_hd hde
  obtain ⟨f0, hde2⟩ := zde_hd hde2
  obtain ⟨f1, hde2⟩ := zde_hd hde2
  refine lv_iload_n hx hb d0 rfl (lv_at hl 3 rfl) ?_
  refine lv_aload_n hx hb d1 rfl (lv_at hl 0 rfl) ?_
  refine va_slen hx hb hX hbl (Nat.not_le.mpr hbl) hS d2 ?_
  refine lv_iconst (v := 5) hx hb d3 (by decide) ?_
  refine lv_isub hx hb d4 ?_
  have e1 : (nI i).toInt = (i : Int) := nI_toInt (by omega)
  have e2 := l_len hL
  refine lv_icmp_gt (tgt := 1140) hx hb d5 (by decide) (fun _ => ?_) (fun h => ?_)
  · refine lv_iconst (v := 1) hx hb f0 (by decide) ?_
    refine va_forget (fun q hq => hS.2.2 q hq) ?_
    exact lw_ret hx hb hr hlocks f1
  · rw [Int32.lt_iff_toInt_lt, e1, e2] at h
    exact kk (by omega) o1 o2 H locs ls hP hD hS hl
theorem l_31 (x : Int32) : ∃ K : Nat, K < 32 ∧ (x &&& 31).toInt = (K : Int) := by
  have h : (x &&& 31).toBitVec.toNat = x.toBitVec.toNat &&& 31 := by
    show (x.toBitVec &&& (31 : Int32).toBitVec).toNat = _
    rw [BitVec.toNat_and]
    rfl
  have h2 : x.toBitVec.toNat &&& 31 ≤ 31 := Nat.and_le_right
  exact ⟨x.toBitVec.toNat &&& 31, by omega, i32_nat h (by omega)⟩
theorem l_sw (C0 : lC p s m meth c D cA b L xs) {i n : Nat} {σ τ : zT} {dd : Int} {offs : Array Int} {tg : List Nat} (hi : i + 5 ≤ L) (hde : zde code 26 [(.aload_n 0, 1), (.iload_n 3, 1), (.iaload, 1), (.bipush 31, 2), (.iand, 1)] 32 = true) (hd : decode code 32 = .ok (.tableswitch dd 0 31 offs, n)) (ho : ∀ K : Nat, K < 32 → ∃ t : Nat, tg[K]? = some t ∧ offs[K]? = some ((t : Int) - 32))
    (kk : ∀ K t : Nat, tg[K]? = some t → lS p l e s m below meth c D cA b adx adm t i [] σ τ) : lS p l e s m below meth c D cA b adx adm 26 i [] σ τ := by
  intro o1 o2 H locs ls hP hD hS hl
  obtain ⟨⟨-, -, -, -, -, -, hX, hbl, -, -⟩, ⟨hx, hb, -⟩, hL⟩ := id C0
  obtain ⟨d0, hde⟩ := zde_hd hde
  obtain ⟨d1, hde⟩ := zde_hd hde
  obtain ⟨d2, hde⟩ := zde_hd hde
  obtain ⟨d3, hde⟩ := zde_hd hde
  obtain ⟨d4, hde⟩ := zde_hd hde
  refine lv_aload_n hx hb d0 rfl (lv_at hl 0 rfl) ?_
  refine lv_iload_n hx hb d1 rfl (lv_at hl 3 rfl) ?_
  refine va_sld hx hb hX hbl (Nat.not_le.mpr hbl) hS (vp_in_nI (by omega) (by omega)) d2 ?_
  rw [nI_clamp (by omega)]
  refine lv_bipush (v := 31) hx hb d3 (by decide) ?_
  refine lv_iand hx hb d4 ?_
  obtain ⟨K, hK, eK⟩ := l_31 (xs i)
  obtain ⟨t, ht, hoff⟩ := ho K hK
  refine lv_tableIn (off := (t : Int) - 32) (tgt := t) hx hb hd (by omega) (by omega) (by rw [eK]; simpa using hoff) (by omega) ?_
  exact kk K t ht o1 o2 H locs ls hP hD hS hl
end LAW
/-! ===== the same cells, their rows cut to their lengths ===== -/
theorem zgi_fst {σ σ' : zT} (h : σ.map Prod.fst = σ'.map Prod.fst) (m j : Nat) : zgi σ m j = zgi σ' m j := by
  have e : ∀ ρ : zT, (zg ([], []) ρ m).1 = zg [] (ρ.map Prod.fst) m := fun ρ => by
    rw [zg_get, zg_get, List.getElem?_map]
    cases ρ[m]? <;> rfl
  unfold zgi
  rw [e, e, h]
theorem zW_cut {D : va_G} {cA : ClassId} {ad : Nat → Nat} {Λ : List zE} {σ σ' : zT} {H : Heap} (h1 : σ.map Prod.fst = σ'.map Prod.fst) (h2 : ∀ u ∈ Λ, ∀ a, u = .inl a → ∀ j, j < a.2.2 → zga σ a.1 a.2.1 j = zga σ' a.1 a.2.1 j) (hP : va_P D vwCl (zW cA ad σ 0 Λ) H) : va_P D vwCl (zW cA ad σ' 0 Λ) H := by
  intro k q hk
  rw [zW_get] at hk
  cases hz : zo Λ k with
  | none => rw [hz] at hk; cases hk
  | some u =>
    rw [hz] at hk
    have hq : q = (ad (0 + k), zEc cA ad σ' u) := (Option.some.inj hk).symm
    have h3 : va_at D vwCl (ad (0 + k), zEc cA ad σ u) H := hP k _ (by rw [zW_get, hz]; rfl)
    rw [hq]
    cases u with
    | inr o =>
      have e : o.2.map (zF ad σ') = o.2.map (zF ad σ) := List.map_congr_left (fun f _ => by
        cases f with
        | inl k => rfl
        | inr mj =>
          show Value.int (Int32.ofInt (zgi σ' mj.1 mj.2)) = Value.int (Int32.ofInt (zgi σ mj.1 mj.2))
          rw [zgi_fst h1])
      show va_at D vwCl (ad (0 + k), .inr (o.1, o.2.map (zF ad σ'))) H
      rw [e]
      exact h3
    | inl a =>
      have hm : Sum.inl a ∈ Λ := by
        rw [zo_get] at hz
        exact List.mem_of_getElem? hz
      have h4 : H[ad (0 + k)]? = some (vp_cell cA (a.2.2, .inl (fun q => Int32.ofInt (zga σ a.1 a.2.1 q)))) := h3
      show H[ad (0 + k)]? = some (vp_cell cA (a.2.2, .inl (fun q => Int32.ofInt (zga σ' a.1 a.2.1 q))))
      rw [h4, vp_cell_i, vp_cell_i]
      unfold arrV
      congr 3
      funext j
      show Value.int (Int32.ofInt (zga σ a.1 a.2.1 j.val)) = Value.int (Int32.ofInt (zga σ' a.1 a.2.1 j.val))
      rw [h2 _ hm a rfl j.val j.isLt]
theorem zW_cutD {A : Nat → Prop} {cA : ClassId} {ad : Nat → Nat} {Λ : List zE} {σ σ' : zT} (hD : va_D A (zW cA ad σ 0 Λ)) : va_D A (zW cA ad σ' 0 Λ) := by
  have key : ∀ (k : Nat) (q : Nat × va_E), (zW cA ad σ' 0 Λ)[k]? = some q → ∃ q2, (zW cA ad σ 0 Λ)[k]? = some q2 ∧ q2.1 = q.1 := by
    intro k q hk
    rw [zW_get] at hk
    cases hz : zo Λ k with
    | none => rw [hz] at hk; cases hk
    | some u =>
      rw [hz] at hk
      have hq : q = (ad (0 + k), zEc cA ad σ' u) := (Option.some.inj hk).symm
      exact ⟨(ad (0 + k), zEc cA ad σ u), by rw [zW_get, hz]; rfl, by rw [hq]⟩
  refine ⟨fun i j x y hi hj hxy => ?_, fun k q hk => ?_⟩
  · obtain ⟨a, a1, a2⟩ := key i x hi
    obtain ⟨b, b1, b2⟩ := key j y hj
    exact hD.1 i j a b a1 b1 (by rw [a2, b2, hxy])
  · obtain ⟨a, a1, a2⟩ := key k q hk
    rw [← a2]
    exact hD.2 k a a1
def zcq (σ σ' : zT) (u : zE) : Prop := ∀ a, u = .inl a → ∀ j, j < a.2.2 → zga σ a.1 a.2.1 j = zga σ' a.1 a.2.1 j
theorem zcq_o {σ σ' : zT} {o : Nat × List (Nat ⊕ (Nat × Nat))} : zcq σ σ' (.inr o) := fun a h => by cases h
theorem zcq_a {σ σ' : zT} {a : Nat × Nat × Nat} (h : ∀ j, j < a.2.2 → zga σ a.1 a.2.1 j = zga σ' a.1 a.2.1 j) : zcq σ σ' (.inl a) := fun b hb => by
  cases hb
  exact h
theorem cutC (t : Int) (g : Nat → Int) : ∀ u ∈ lamC, zcq (sC0 t g) (sC0 t (zcut 40 g)) u := by
  unfold lamC
  repeat' first
    | exact zall_nil
    | refine zall_cons zcq_o ?_
    | refine zall_cons (zcq_a (fun j hj => rfl)) ?_
    | refine zall_cons (zcq_a (fun j hj => (zcut_lt hj).symm)) ?_
theorem cutM (L W : Nat → Int) : ∀ u ∈ lamM, zcq (sM0 L W) (sM0 (zcut 630 L) (zcut 9 W)) u := by
  unfold lamM
  repeat' first
    | exact zall_nil
    | refine zall_cons zcq_o ?_
    | refine zall_cons (zcq_a (fun j hj => rfl)) ?_
    | refine zall_cons (zcq_a (fun j hj => (zcut_lt hj).symm)) ?_
theorem zW_key {cA : ClassId} {ad : Nat → Nat} {Λ : List zE} {σ σ' : zT} : ∀ (k : Nat) (q : Nat × va_E), (zW cA ad σ' 0 Λ)[k]? = some q → ∃ q2, (zW cA ad σ 0 Λ)[k]? = some q2 ∧ q2.1 = q.1 := by
  intro k q hk
  rw [zW_get] at hk
  cases hz : zo Λ k with
  | none => rw [hz] at hk; cases hk
  | some u =>
    rw [hz] at hk
    have hq : q = (ad (0 + k), zEc cA ad σ' u) := (Option.some.inj hk).symm
    exact ⟨(ad (0 + k), zEc cA ad σ u), by rw [zW_get, hz]; rfl, by rw [hq]⟩
theorem cut_both {A : Nat → Prop} {D : va_G} {cA : ClassId} {H : Heap} {a1 a2 : Nat → Nat} {t : Int} {g L W : Nat → Int} (hP : va_P D vwCl (zW cA a1 (sC0 t g) 0 lamC ++ zW cA a2 (sM0 L W) 0 lamM) H) (hD : va_D A (zW cA a1 (sC0 t g) 0 lamC ++ zW cA a2 (sM0 L W) 0 lamM)) :
    va_P D vwCl (zW cA a1 (sC0 t (zcut 40 g)) 0 lamC ++ zW cA a2 (sM0 (zcut 630 L) (zcut 9 W)) 0 lamM) H ∧ va_D A (zW cA a1 (sC0 t (zcut 40 g)) 0 lamC ++ zW cA a2 (sM0 (zcut 630 L) (zcut 9 W)) 0 lamM) := by
  obtain ⟨p1, p2⟩ := va_P_app hP
  obtain ⟨d1, d2, d3⟩ := va_D_app hD
  refine ⟨(zW_cut (σ := sC0 t g) (σ' := sC0 t (zcut 40 g)) rfl (cutC t g) p1).app (zW_cut (σ := sM0 L W) (σ' := sM0 (zcut 630 L) (zcut 9 W)) rfl (cutM L W) p2), (zW_cutD d1).app (zW_cutD d2) (fun i j x y hi hj hxy => ?_)⟩
  obtain ⟨b1, c1, e1⟩ := zW_key (σ := sC0 t g) i x hi
  obtain ⟨b2, c2, e2⟩ := zW_key (σ := sM0 L W) j y hj
  exact d3 i j b1 b2 c1 c2 (by rw [e1, e2, hxy])
