/-- a branch: its condition (of a ne, ge, le the opposite), whether that was turned, what it asks, the stack behind it -/
def zcnd (i : Instr) (st : List zV) : Option (Prop × Bool × List Prop × List zV) := match i with
  | .ifCond o _ => match st with
    | (t, x) :: r => cond (zi t) (match o with
      | .eq => some (x = 0, false, zr t x, r)
      | .ne => some (x = 0, true, zr t x, r)
      | .lt => some (x < 0, false, zr t x, r)
      | .ge => some (x < 0, true, zr t x, r)
      | .gt => some (0 < x, false, zr t x, r)
      | .le => some (0 < x, true, zr t x, r)) none
    | _ => none
  | .if_icmp o _ => match st with
    | (u, y) :: (t, x) :: r => cond (zi u) (cond (zi t) (match o with
      | .eq => some (x = y, false, zr t x ++ zr u y, r)
      | .ne => some (x = y, true, zr t x ++ zr u y, r)
      | .lt => some (x < y, false, zr t x ++ zr u y, r)
      | .ge => some (x < y, true, zr t x ++ zr u y, r)
      | .gt => some (y < x, false, zr t x ++ zr u y, r)
      | .le => some (y < x, true, zr t x ++ zr u y, r)) none) none
    | _ => none
  | _ => none
def zto (pc : Nat) (off : Int) : Option Nat := match Int.ofNat pc + off with
  | .ofNat t => some t
  | .negSucc _ => none
def zoff (i : Instr) : Int := match i with
  | .ifCond _ o => o
  | .if_icmp _ o => o
  | .goto o => o
  | _ => 0
def zbif (Λ : List zE) (E : zEnv) (wr : Bool) (blk : List (Instr × Nat)) (i : Instr) (pcT : Nat) (L : zL) (st : List zV) (σ : zT) : Option (List Prop × Prop × Nat × Nat × zL × List zV × zT) := match zxs Λ E wr blk L st σ with
  | some (ps, L2, st2, σ2) => match zcnd i st2 with
    | some (q, sw, gs, r) => match zto pcT (zoff i) with
      | some t => some (ps ++ gs, q, cond sw (pcT + 3) t, cond sw t (pcT + 3), L2, r, σ2)
      | none => none
    | none => none
  | none => none
def zpop (wr : Bool) : Nat → List zV → List zV → Option (List Prop × List zV × List zV)
  | 0, st, acc => some ([], acc, st)
  | n + 1, v :: r, acc => match znrm wr v with
    | (qs, w) => match zpop wr n r (w :: acc) with
      | some (ps, a, s) => some (qs ++ ps, a, s)
      | none => none
  | _ + 1, [], _ => none
def zbc (Λ : List zE) (E : zEnv) (wr : Bool) (blk : List (Instr × Nat)) (n : Nat) (L : zL) (st : List zV) (σ : zT) : Option (List Prop × List zV × zL × List zV × zT) := match zxs Λ E wr blk L st σ with
  | some (ps, L2, st2, σ2) => match zpop wr n st2 [] with
    | some (qs, av, rest) => some (ps ++ qs, av, L2, rest, σ2)
    | none => none
  | none => none
abbrev zB : Type := List (Nat × List (Instr × Nat) × Nat × Instr × Nat)
def zBok (cc : ByteArray) (nL : Nat) (B : zB) : Bool := B.all (fun b => zdk cc nL b.1 b.2.1 b.2.2.1 && (b.2.2.2.2 == 0 || decide (decode cc b.2.2.1 = .ok (b.2.2.2.1, b.2.2.2.2))))
def zenl : List zV → zL
  | [] => []
  | v :: r => some v :: cond (zc1 v.1) (zenl r) (none :: zenl r)
def zpad : Nat → zL → zL
  | 0, _ => []
  | n + 1, [] => none :: zpad n []
  | n + 1, o :: L => o :: zpad n L
def zen (n : Nat) (av : List zV) : zL := zpad n (zenl av)
/-- which cells a method of a layout may change -/
def zAd (ad : Nat → Nat) (Λ : List zE) (sz : Nat) : Nat → Prop := fun q => (∃ k, k < Λ.length ∧ q = ad k) ∨ sz ≤ q
def zQ (D : va_G) (cA : ClassId) (ad : Nat → Nat) (A : Nat → Prop) (Λ : List zE) (shp : List (Nat × Nat)) (r : Option zV) (σ : zT) : Array Value → State → Outcome → State → Prop := fun _ st oc t =>
  oc = .returned (r.map (zc ad)) ∧ zok shp σ ∧ (∀ v, r = some v → zokV v) ∧ va_P D vwCl (zW cA ad σ 0 Λ) t.heap ∧ va_K D vwCl [(cA, .int)] t ∧ va_D A (zW cA ad σ 0 Λ) ∧ va_F A st t
def zPc (D : va_G) (cA : ClassId) (ad : Nat → Nat) (Λ : List zE) (shp : List (Nat × Nat)) (av : List zV) (σ : zT) (sz : Nat) : Array Value → State → Prop :=
  va_Pc (av.map (zc ad)) (fun U => zok shp σ ∧ zokT av ∧ U.heap.size = sz ∧ va_P D vwCl (zW cA ad σ 0 Λ) U.heap ∧ va_K D vwCl [(cA, .int)] U ∧ va_D (fun _ => True) (zW cA ad σ 0 Λ))
/-- THE CONTRACT of a method over a layout: of the arguments av and the cells σ it makes the answer r and the cells σ2 -/
def zD (l : Launch) (y : MethodName) (ws : List Cond) (rm : Room) (Λ : List zE) (shp : List (Nat × Nat)) (av : List zV) (σ : zT) (r : Option zV) (σ2 : zT) : Prop :=
  ∀ (D : va_G) (cA : ClassId) (ad : Nat → Nat) (sz : Nat), Met l y ws rm (zPc D cA ad Λ shp av σ sz) (zQ D cA ad (zAd ad Λ sz) Λ shp r σ2) 0 0 (zAd ad Λ sz)
def zmask : List Bool → zL → zL
  | [], L => L
  | true :: b, o :: L => o :: zmask b L
  | false :: b, _ :: L => none :: zmask b L
  | _ :: _, [] => []
/-- what of a call is looked at once -/
def zCw (virt : Bool) (Ts : List Cond) (own : String) (rm0 : Room) (idx : Nat) (y : MethodName) (ws : List Cond) (rm : Room) (n : Nat) : Prop :=
  ∃ (bytes : ByteArray) (maxL : Nat) (ret : Option FieldType) (ws2 : List Cond), ws = Cond.code y bytes maxL ret :: ws2 ∧ rm.cells = 0 ∧ rm.slots = 0 ∧
    (y.cls ≠ "java/lang/invoke/MethodHandle" ∧ y.cls ≠ "java/lang/invoke/VarHandle" ∧ (parseMethodDescriptor y.desc).map (fun d => d.parameters.length) = some n) ∧ (rm.frames + 1 ≤ rm0.frames ∧ 8 + (maxL + 11) + rm.locals ≤ rm0.locals) ∧
    (match virt with
      | true => GoodIn Ts (wsV own idx y.cls y ws)
      | false => GoodIn Ts (va_wsS own idx y ws))
def zrcv (Λ : List zE) (C : String) (v : zV) : Prop := v.1 = 2 ∧ ∃ (o : Nat × List (Nat ⊕ (Nat × Nat))) (T : u_T) (N : Nat), zo Λ v.2.toNat = some (.inr o) ∧ vwCl[o.1]? = some (C, T, N)
/-- THE RULES by which a method is walked: S pc locals stack cells -/
def zR (l : Launch) (B : zB) (Λ : List zE) (shp : List (Nat × Nat)) (E : zEnv) (Ts : List Cond) (own : String) (rm0 : Room) (ret : Option FieldType) (r0 : Option zV) (σ0 : zT) (S : Nat → zL → List zV → zT → Prop) : Prop :=
  (∀ (wr : Bool) (j : Nat) {pc : Nat} {blk : List (Instr × Nat)} {pcT : Nat} {i : Instr} {n : Nat} {L : zL} {st : List zV} {σ : zT} {ps : List Prop} {L2 : zL} {st2 : List zV} {σ2 : zT}, zo B j = some (pc, blk, pcT, i, n) → zxs Λ E wr blk L st σ = some (ps, L2, st2, σ2) → zcj ps → S pcT L2 st2 σ2 → S pc L st σ) ∧
  (∀ (wr : Bool) (j : Nat) {pc : Nat} {blk : List (Instr × Nat)} {pcT : Nat} {o : Int} {t : Nat} {L : zL} {st : List zV} {σ : zT} {ps : List Prop} {L2 : zL} {st2 : List zV} {σ2 : zT}, zo B j = some (pc, blk, pcT, .goto o, 3) → zxs Λ E wr blk L st σ = some (ps, L2, st2, σ2) → zto pcT o = some t → zcj ps → S t L2 st2 σ2 → S pc L st σ) ∧
  (∀ (wr : Bool) (j : Nat) {pc : Nat} {blk : List (Instr × Nat)} {pcT : Nat} {i : Instr} {t1 t2 : Nat} {q : Prop} {L : zL} {st : List zV} {σ : zT} {ps : List Prop} {L2 : zL} {st2 : List zV} {σ2 : zT}, zo B j = some (pc, blk, pcT, i, 3) → zbif Λ E wr blk i pcT L st σ = some (ps, q, t1, t2, L2, st2, σ2) → zcj ps → (q → S t1 L2 st2 σ2) → (¬ q → S t2 L2 st2 σ2) → S pc L st σ) ∧
  (∀ (wr : Bool) (j n : Nat) {pc : Nat} {blk : List (Instr × Nat)} {pcT idx : Nat} {L : zL} {st : List zV} {σ : zT} {ps : List Prop} {v : zV} {av : List zV} {L2 : zL} {rest : List zV} {σ2 : zT} {y : MethodName} {ws : List Cond} {rm : Room} {r : Option zV} {σ3 : zT}, zo B j = some (pc, blk, pcT, .invokevirtual idx, 3) → zbc Λ E wr blk (n + 1) L st σ = some (ps, v :: av, L2, rest, σ2) → zcj ps → Nat.ble (zct rest) 8 = true → zD l y ws rm Λ shp (v :: av) σ2 r σ3 → zCw true Ts own rm0 idx y ws rm n → zrcv Λ y.cls v → S (pcT + 3) L2 (r.toList ++ rest) σ3 → S pc L st σ) ∧
  (∀ (wr : Bool) (j n : Nat) {pc : Nat} {blk : List (Instr × Nat)} {pcT idx : Nat} {L : zL} {st : List zV} {σ : zT} {ps : List Prop} {av : List zV} {L2 : zL} {rest : List zV} {σ2 : zT} {y : MethodName} {ws : List Cond} {rm : Room} {r : Option zV} {σ3 : zT}, zo B j = some (pc, blk, pcT, .invokestatic idx, 3) → zbc Λ E wr blk n L st σ = some (ps, av, L2, rest, σ2) → zcj ps → Nat.ble (zct rest) 8 = true → zD l y ws rm Λ shp av σ2 r σ3 → zCw false Ts own rm0 idx y ws rm n → S (pcT + 3) L2 (r.toList ++ rest) σ3 → S pc L st σ) ∧
  (∀ (wr : Bool) (j : Nat) {pc : Nat} {blk : List (Instr × Nat)} {pcT : Nat} {L : zL} {st : List zV} {σ : zT} {ps : List Prop} {L2 : zL}, ret = none → r0 = none → zo B j = some (pc, blk, pcT, .return_, 1) → zxs Λ E wr blk L st σ = some (ps, L2, [], σ0) → zcj ps → S pc L st σ) ∧
  (∀ (wr : Bool) (j : Nat) {pc : Nat} {blk : List (Instr × Nat)} {pcT : Nat} {L : zL} {st : List zV} {σ : zT} {ps : List Prop} {L2 : zL} {v w : zV} {qs : List Prop}, ret = some .int → zo B j = some (pc, blk, pcT, .ireturn, 1) → zxs Λ E wr blk L st σ = some (ps, L2, [v], σ0) → zi v.1 = true → znrm wr v = (qs, w) → r0 = some w → zcj (ps ++ qs) → S pc L st σ) ∧
  (∀ (wr : Bool) (j : Nat) {pc : Nat} {blk : List (Instr × Nat)} {pcT : Nat} {L : zL} {st : List zV} {σ : zT} {ps : List Prop} {L2 : zL} {x : Int}, ret = some .boolean → zo B j = some (pc, blk, pcT, .ireturn, 1) → zxs Λ E wr blk L st σ = some (ps, L2, [(0, x)], σ0) → r0 = some (0, x) → zcj ps → zbit x → S pc L st σ) ∧
  (∀ (wr : Bool) (j : Nat) {pc : Nat} {blk : List (Instr × Nat)} {pcT : Nat} {L : zL} {st : List zV} {σ : zT} {ps : List Prop} {L2 : zL} {v w : zV} {qs : List Prop}, ret = some .long → zo B j = some (pc, blk, pcT, .lreturn, 1) → zxs Λ E wr blk L st σ = some (ps, L2, [v], σ0) → zil v.1 = true → znrm wr v = (qs, w) → r0 = some w → zcj (ps ++ qs) → S pc L st σ) ∧
  (∀ (wr : Bool) (j : Nat) {pc : Nat} {blk : List (Instr × Nat)} {pcT n : Nat} {dd lo hi : Int} {offs : Array Int} {L : zL} {st : List zV} {σ : zT} {ps : List Prop} {L2 : zL} {v : zV} {rest : List zV} {σ2 : zT}, zo B j = some (pc, blk, pcT, .tableswitch dd lo hi offs, n) → Nat.beq n 0 = false → zxs Λ E wr blk L st σ = some (ps, L2, v :: rest, σ2) → zi v.1 = true → zcj (ps ++ zr v.1 v.2) → hi - lo + 1 = (offs.size : Int) → (∀ (q : Nat) (off : Int), offs[q]? = some off → v.2 = lo + q → ∃ t : Nat, zto pcT off = some t ∧ S t L2 rest σ2) → (v.2 < lo ∨ hi < v.2 → ∃ t : Nat, zto pcT dd = some t ∧ S t L2 rest σ2) → S pc L st σ) ∧
  (∀ (b : List Bool) {pc : Nat} {L : zL} {st : List zV} {σ : zT} {L2 : zL}, zmask b L = L2 → S pc L2 st σ → S pc L st σ)
section ZR
variable {p : Program} {l : Launch} {e : Env} {R : Room} {s : State} {m : MethodId} {args : Array Value} {below : List Frame} {meth : Method} {c : Code} {Q : State → Prop} {D : va_G} {cA : ClassId} {ad : Nat → Nat} {A : Nat → Prop} {Λ : List zE} {shp : List (Nat × Nat)} {nL : Nat} {cc : ByteArray} {own : String} {Ts : List Cond} {E : zEnv}
variable {pc n : Nat} {L L2 : zL} {st st2 : List zV} {σ σ2 : zT} {ps : List Prop} {wr : Bool}
theorem zto_eq {pc t : Nat} {o : Int} (h : zto pc o = some t) : (pc : Int) + o = (t : Int) := by
  unfold zto at h
  split at h
  next u hu => cases h; exact hu
  next => cases h
theorem z32lt (x y : Int) (hx : zI x) (hy : zI y) : Int32.ofInt x < Int32.ofInt y ↔ x < y := by rw [Int32.lt_iff_toInt_lt, zti hx, zti hy]
theorem z32le (x y : Int) (hx : zI x) (hy : zI y) : Int32.ofInt x ≤ Int32.ofInt y ↔ x ≤ y := by rw [Int32.le_iff_toInt_le, zti hx, zti hy]
theorem z32eq (x y : Int) (hx : zI x) (hy : zI y) : Int32.ofInt x = Int32.ofInt y ↔ x = y := by rw [← Int32.toInt_inj, zti hx, zti hy]
theorem zI0 : zI 0 := ⟨by omega, by omega⟩
theorem zs_br (C0 : zC p R s m args c D cA A Λ shp cc own nL Ts E) {i : Instr} (hd : decode cc pc = .ok (i, 3)) {q : Prop} {sw : Bool} {gs : List Prop} {r : List zV} {t : Nat} (hc : zcnd i st = some (q, sw, gs, r)) (ht : zto pc (zoff i) = some t) (hg : zcj gs)
    (k1 : q → zS p l e R s m args below meth c Q D cA ad A Λ shp nL (cond sw (pc + 3) t) L r σ) (k2 : ¬ q → zS p l e R s m args below meth c Q D cA ad A Λ shp nL (cond sw t (pc + 3)) L r σ) : zS p l e R s m args below meth c Q D cA ad A Λ shp nL pc L st σ := by
  have hex : p.tables.exec = Jvm.exec := C0.1
  have hb : c.code = cc := C0.2.1
  have htt := zto_eq ht
  intro q1 q2 q3 H locs ls hP hD hS hl
  cases i with
  | ifCond o off =>
    have htt : (pc : Int) + off = (t : Int) := htt
    match st, hc with
    | [], hc => cases hc
    | (tv, x) :: r', hc =>
      replace hc := zcond hc
      obtain ⟨h1, hc⟩ := hc
      have q4 := zokT_tl q3
      have h0 : (0 : Int32) = Int32.ofInt 0 := rfl
      simp only [List.map_cons, zc_i h1]
      cases o with
      | eq =>
        simp only [Option.some.injEq, Prod.mk.injEq] at hc
        obtain ⟨rfl, rfl, rfl, rfl⟩ := hc
        have hx := zr_ok h1 (zokT_hd q3) hg
        exact lv_if_eq hex hb hd htt (fun h => k1 ((z32eq x 0 hx zI0).mp h) q1 q2 q4 H locs ls hP hD hS hl) (fun h => k2 (fun g => h ((z32eq x 0 hx zI0).mpr g)) q1 q2 q4 H locs ls hP hD hS hl)
      | ne =>
        simp only [Option.some.injEq, Prod.mk.injEq] at hc
        obtain ⟨rfl, rfl, rfl, rfl⟩ := hc
        have hx := zr_ok h1 (zokT_hd q3) hg
        exact lv_if_ne hex hb hd htt (fun h => k2 (fun g => h ((z32eq x 0 hx zI0).mpr g)) q1 q2 q4 H locs ls hP hD hS hl) (fun h => k1 ((z32eq x 0 hx zI0).mp h) q1 q2 q4 H locs ls hP hD hS hl)
      | lt =>
        simp only [Option.some.injEq, Prod.mk.injEq] at hc
        obtain ⟨rfl, rfl, rfl, rfl⟩ := hc
        have hx := zr_ok h1 (zokT_hd q3) hg
        exact lv_if_lt hex hb hd htt (fun h => k1 ((z32lt x 0 hx zI0).mp h) q1 q2 q4 H locs ls hP hD hS hl) (fun h => k2 (fun g => h ((z32lt x 0 hx zI0).mpr g)) q1 q2 q4 H locs ls hP hD hS hl)
      | ge =>
        simp only [Option.some.injEq, Prod.mk.injEq] at hc
        obtain ⟨rfl, rfl, rfl, rfl⟩ := hc
        have hx := zr_ok h1 (zokT_hd q3) hg
        have e := z32le 0 x zI0 hx
        exact lv_if_ge hex hb hd htt (fun h => k2 (fun g => by have := e.mp h; omega) q1 q2 q4 H locs ls hP hD hS hl) (fun h => k1 (by have : ¬ 0 ≤ x := fun g => h (e.mpr g); omega) q1 q2 q4 H locs ls hP hD hS hl)
      | gt =>
        simp only [Option.some.injEq, Prod.mk.injEq] at hc
        obtain ⟨rfl, rfl, rfl, rfl⟩ := hc
        have hx := zr_ok h1 (zokT_hd q3) hg
        have e := z32lt 0 x zI0 hx
        exact lv_if_gt hex hb hd htt (fun h => k1 (e.mp h) q1 q2 q4 H locs ls hP hD hS hl) (fun h => k2 (fun g => h (e.mpr g)) q1 q2 q4 H locs ls hP hD hS hl)
      | le =>
        simp only [Option.some.injEq, Prod.mk.injEq] at hc
        obtain ⟨rfl, rfl, rfl, rfl⟩ := hc
        have hx := zr_ok h1 (zokT_hd q3) hg
        have e := z32le x 0 hx zI0
        exact lv_if_le hex hb hd htt (fun h => k2 (fun g => by have := e.mp h; omega) q1 q2 q4 H locs ls hP hD hS hl) (fun h => k1 (by have : ¬ x ≤ 0 := fun g => h (e.mpr g); omega) q1 q2 q4 H locs ls hP hD hS hl)
  | if_icmp o off =>
    have htt : (pc : Int) + off = (t : Int) := htt
    match st, hc with
    | [], hc => cases hc
    | [_], hc => cases hc
    | (tw, y) :: (tv, x) :: r', hc =>
      replace hc := zcond hc
      obtain ⟨h2, hc⟩ := hc
      replace hc := zcond hc
      obtain ⟨h1, hc⟩ := hc
      have q4 := zokT_tl (zokT_tl q3)
      have hxy : zcj (zr tv x ++ zr tw y) → zI x ∧ zI y := fun hg => by
        obtain ⟨g1, g2⟩ := zcj_append hg
        exact ⟨zr_ok h1 (zokT_hd (zokT_tl q3)) g1, zr_ok h2 (zokT_hd q3) g2⟩
      simp only [List.map_cons, zc_i h1, zc_i h2]
      cases o with
      | eq =>
        simp only [Option.some.injEq, Prod.mk.injEq] at hc
        obtain ⟨rfl, rfl, rfl, rfl⟩ := hc
        obtain ⟨hx, hy⟩ := hxy hg
        have e := z32eq x y hx hy
        exact lv_icmp_eq hex hb hd htt (fun h => k1 (e.mp h) q1 q2 q4 H locs ls hP hD hS hl) (fun h => k2 (fun g => h (e.mpr g)) q1 q2 q4 H locs ls hP hD hS hl)
      | ne =>
        simp only [Option.some.injEq, Prod.mk.injEq] at hc
        obtain ⟨rfl, rfl, rfl, rfl⟩ := hc
        obtain ⟨hx, hy⟩ := hxy hg
        have e := z32eq x y hx hy
        exact lv_icmp_ne hex hb hd htt (fun h => k2 (fun g => h (e.mpr g)) q1 q2 q4 H locs ls hP hD hS hl) (fun h => k1 (e.mp h) q1 q2 q4 H locs ls hP hD hS hl)
      | lt =>
        simp only [Option.some.injEq, Prod.mk.injEq] at hc
        obtain ⟨rfl, rfl, rfl, rfl⟩ := hc
        obtain ⟨hx, hy⟩ := hxy hg
        have e := z32lt x y hx hy
        exact lv_icmp_lt hex hb hd htt (fun h => k1 (e.mp h) q1 q2 q4 H locs ls hP hD hS hl) (fun h => k2 (fun g => h (e.mpr g)) q1 q2 q4 H locs ls hP hD hS hl)
      | ge =>
        simp only [Option.some.injEq, Prod.mk.injEq] at hc
        obtain ⟨rfl, rfl, rfl, rfl⟩ := hc
        obtain ⟨hx, hy⟩ := hxy hg
        have e := z32le y x hy hx
        exact lv_icmp_ge hex hb hd htt (fun h => k2 (fun g => by have := e.mp h; omega) q1 q2 q4 H locs ls hP hD hS hl) (fun h => k1 (by have : ¬ y ≤ x := fun g => h (e.mpr g); omega) q1 q2 q4 H locs ls hP hD hS hl)
      | gt =>
        simp only [Option.some.injEq, Prod.mk.injEq] at hc
        obtain ⟨rfl, rfl, rfl, rfl⟩ := hc
        obtain ⟨hx, hy⟩ := hxy hg
        have e := z32lt y x hy hx
        exact lv_icmp_gt hex hb hd htt (fun h => k1 (e.mp h) q1 q2 q4 H locs ls hP hD hS hl) (fun h => k2 (fun g => h (e.mpr g)) q1 q2 q4 H locs ls hP hD hS hl)
      | le =>
        simp only [Option.some.injEq, Prod.mk.injEq] at hc
        obtain ⟨rfl, rfl, rfl, rfl⟩ := hc
        obtain ⟨hx, hy⟩ := hxy hg
        have e := z32le x y hx hy
        exact lv_icmp_le hex hb hd htt (fun h => k2 (fun g => by have := e.mp h; omega) q1 q2 q4 H locs ls hP hD hS hl) (fun h => k1 (by have : ¬ x ≤ y := fun g => h (e.mpr g); omega) q1 q2 q4 H locs ls hP hD hS hl)
  | _ => cases hc
theorem zbif_inv {blk : List (Instr × Nat)} {i : Instr} {pcT t1 t2 : Nat} {q : Prop} (h : zbif Λ E wr blk i pcT L st σ = some (ps, q, t1, t2, L2, st2, σ2)) : ∃ ps1 st1 sw gs t, zxs Λ E wr blk L st σ = some (ps1, L2, st1, σ2) ∧ zcnd i st1 = some (q, sw, gs, st2) ∧ zto pcT (zoff i) = some t ∧ ps = ps1 ++ gs ∧ t1 = cond sw (pcT + 3) t ∧ t2 = cond sw t (pcT + 3) := by
  unfold zbif at h
  split at h
  next ps1 L1 st1 σ1 h1 =>
    split at h
    next q1 sw gs r h2 =>
      split at h
      next t h3 =>
        simp only [Option.some.injEq, Prod.mk.injEq] at h
        obtain ⟨rfl, rfl, rfl, rfl, rfl, rfl, rfl⟩ := h
        exact ⟨ps1, st1, sw, gs, t, h1, h2, h3, rfl, rfl, rfl⟩
      next => cases h
    next => cases h
  next => cases h
theorem zpop_inv (ad : Nat → Nat) : ∀ (n : Nat) (st acc : List zV) {ps : List Prop} {av rest : List zV}, zpop wr n st acc = some (ps, av, rest) → ∃ ar, av = ar ++ acc ∧ ar.length = n ∧ st.map (zc ad) = (ar.map (zc ad)).reverse ++ rest.map (zc ad) ∧ (zokT st → zcj ps → zokT ar) ∧ (zokT st → zokT rest)
  | 0, st, acc, ps, av, rest, h => by
    simp only [zpop, Option.some.injEq, Prod.mk.injEq] at h
    obtain ⟨rfl, rfl, rfl⟩ := h
    exact ⟨[], rfl, rfl, by simp, fun _ _ v hv => by simp at hv, fun h => h⟩
  | n + 1, [], acc, ps, av, rest, h => by cases h
  | n + 1, v :: r, acc, ps, av, rest, h => by
    simp only [zpop] at h
    cases hz : zpop wr n r ((znrm wr v).2 :: acc) with
    | none => rw [hz] at h; cases h
    | some u =>
      obtain ⟨ps1, a1, s1⟩ := u
      rw [hz] at h
      simp only [Option.some.injEq, Prod.mk.injEq] at h
      obtain ⟨rfl, rfl, rfl⟩ := h
      obtain ⟨ar, h1, h2, h3, h4, h5⟩ := zpop_inv ad n r _ hz
      refine ⟨ar ++ [(znrm wr v).2], by rw [h1]; simp, by simp [h2], ?_, fun g1 g2 w hw => ?_, fun g => h5 (zokT_tl g)⟩
      · simp only [List.map_cons, h3, List.map_append, List.reverse_append, List.map_nil, List.reverse_cons, List.reverse_nil, List.nil_append, List.singleton_append, List.cons_append, znrm_c]
      · obtain ⟨g3, g4⟩ := zcj_append g2
        rcases List.mem_append.mp hw with hw | hw
        · exact h4 (zokT_tl g1) g4 w hw
        · rw [List.mem_singleton.mp hw]
          exact znrm_ok (zokT_hd g1) g3
theorem zbc_inv {blk : List (Instr × Nat)} {n : Nat} {av : List zV} (h : zbc Λ E wr blk n L st σ = some (ps, av, L2, st2, σ2)) : ∃ ps1 qs st1, zxs Λ E wr blk L st σ = some (ps1, L2, st1, σ2) ∧ zpop wr n st1 [] = some (qs, av, st2) ∧ ps = ps1 ++ qs := by
  unfold zbc at h
  split at h
  next ps1 L1 st1 σ1 h1 =>
    split at h
    next qs a r h2 =>
      simp only [Option.some.injEq, Prod.mk.injEq] at h
      obtain ⟨rfl, rfl, rfl, rfl, rfl⟩ := h
      exact ⟨ps1, qs, st1, h1, h2, rfl⟩
    next => cases h
  next => cases h
theorem zfree {H : Heap} {locs : List Loc} (hD : va_D A (zW cA ad σ 0 Λ)) (hS : va_S A s.heap H locs) (hA : ∀ q : Nat, s.heap.size ≤ q → A q) : ∀ q, zAd ad Λ H.size q → A q := by
  rintro q (⟨k, hk, rfl⟩ | h)
  · have : ∃ e, zo Λ k = some e := by rw [zo_get]; exact ⟨_, List.getElem?_eq_getElem hk⟩
    obtain ⟨e, he⟩ := this
    exact hD.2 k (ad k, zEc cA ad σ e) (by rw [zW_get, he]; simp)
  · exact hA q (Nat.le_trans hS.1 h)
/-- behind a call of this layer -/
theorem zs_back {H : Heap} {locs : List Loc} {ls : Array Slot} {st0 rest : List Value} {a : Array Value} {rs : List zV} {r : Option zV} {free : Addr → Prop} (hA : ∀ q : Nat, s.heap.size ≤ q → A q) (hP : va_P D vwCl (zW cA ad σ 0 Λ) H) (hD : va_D A (zW cA ad σ 0 Λ)) (hS : va_S A s.heap H locs) (hl : lv_has ls nL (zA ad 0 L)) (q2 : zokL L) (q3 : zokT rs)
    (hrest : rest = rs.map (zc ad)) (hfree : ∀ q, free q → A q)
    (hr : va_Run p l e R s m args below meth c H locs 0 0 0 0 (F0 m pc ls st0) rest (zQ D cA ad (zAd ad Λ H.size) Λ shp r σ2 a) free)
    (k : zS p l e R s m args below meth c Q D cA ad A Λ shp nL (pc + 3) L (r.toList ++ rs) σ2) : W p l e R s m args below meth c H locs 0 0 Q (F0 m pc ls st0) := by
  intro T hT X
  obtain ⟨v, st₀, t, T', L', h0, X', hL, e1, e2, ⟨hv, ok2, okr, hP2, hK2, hD2, hz, hk⟩, st⟩ := hr T hT X
  cases hv
  rw [h0] at hz hk
  have hF := zfree hD hS hA
  have hD3 : va_D A (zW cA ad σ2 0 Λ) := hD2.weaken (fun _ q _ h => hF q.1 h)
  have hS3 : va_S A s.heap T'.heap (locs ++ L') := by
    refine ⟨Nat.le_trans hS.1 (by rw [e1]; exact hz), fun q h1 h2 => ?_, fun q hq => ?_⟩
    · rw [e1, hk q (Nat.lt_of_lt_of_le h1 hS.1) (fun z => h2 (hF q z))]
      exact hS.2.1 q h1 h2
    · rcases List.mem_append.mp hq with h | h
      · exact hS.2.2 q h
      · exact hfree _ (hL q h)
  have hst3 : zokT (r.toList ++ rs) := fun w hw => by
    rcases List.mem_append.mp hw with h | h
    · cases r with
      | none => simp at h
      | some u =>
        have : w = u := by simpa using h
        rw [this]
        exact okr u rfl
    · exact q3 w h
  have hh : (r.map (zc ad)).toList ++ rest = (r.toList ++ rs).map (zc ad) := by
    rw [hrest]
    cases r <;> simp
  obtain ⟨t2, a1, b1⟩ := k ok2 q2 hst3 T'.heap (locs ++ L') ls (by rw [e1]; exact hP2) hD3 hS3 hl T' rfl X'
  refine ⟨t2, st t2 ?_, b1⟩
  show Steps p.tables e below (T'.setTop (F0 m (pc + 3) ls ((r.map (zc ad)).toList ++ rest))) t2
  rw [hh]
  exact a1
theorem zs_callV (C0 : zC p R s m args c D cA A Λ shp cc own nL Ts E) {idx : Nat} (hd : decode cc pc = .ok (.invokevirtual idx, 3)) {v : zV} {av rest : List zV} {y : MethodName} {ws : List Cond} {rm : Room} {r : Option zV} {n : Nat} (hpop : zpop wr (n + 1) st [] = some (ps, v :: av, rest)) (hp : zcj ps) (hct : Nat.ble (zct rest) 8 = true) (hM : zD l y ws rm Λ shp (v :: av) σ r σ2) (hcw : zCw true Ts own R idx y ws rm n) (hrc : zrcv Λ y.cls v)
    (k : zS p l e R s m args below meth c Q D cA ad A Λ shp nL (pc + 3) L (r.toList ++ rest) σ2) : zS p l e R s m args below meth c Q D cA ad A Λ shp nL pc L st σ := by
  obtain ⟨hex, hb, hml, hown, hts, hK, hA, hΛ, hE, -⟩ := C0
  intro q1 q2 q3 H locs ls hP hD hS hl
  obtain ⟨ar, h1, h2, h3, h4, h5⟩ := zpop_inv ad _ _ _ hpop
  rw [List.append_nil] at h1
  subst h1
  have hok := h4 q3 hp
  obtain ⟨bytes, maxL, ret, ws2, w1, w2, w3, w4, w5, w6⟩ := hcw
  obtain ⟨hv1, o, T, N, hv2, hv3⟩ := hrc
  obtain ⟨tv, xv⟩ := v
  have hv1 : tv = 2 := hv1
  subst hv1
  have he : (zW cA ad σ 0 Λ)[xv.toNat]? = some (ad xv.toNat, .inr (o.1, o.2.map (zF ad σ))) := by
    rw [zW_get, hv2]
    simp [zEc]
  have hlen : (av.map (zc ad)).length = n := by
    have : av.length + 1 = n + 1 := h2
    simp only [List.length_map]
    omega
  have e3 : st.map (zc ad) = (av.map (zc ad)).reverse ++ .ref (ad xv.toNat) :: rest.map (zc ad) := by
    rw [h3]
    simp only [List.map_cons, List.reverse_cons, List.append_assoc, List.singleton_append]
    rfl
  rw [e3]
  have hrun := va_runV (As := av.map (zc ad)) (rest := rest.map (zc ad)) (C := y.cls) (b := ad xv.toNat) (own := own) (H := H) (locs := locs) (cells := 0) (slots := 0) (p := p) (l := l) (e := e) (R := R) (below := below) (meth := meth) (index := idx) (g := F0 m pc ls ((av.map (zc ad)).reverse ++ .ref (ad xv.toNat) :: rest.map (zc ad)))
    (show CallFix p m c cc nL s args Ts own from ⟨hex, hb, hml, hown, hts⟩) (hM D cA ad H.size) (cwV n hts w6 w1 w2 w3 ⟨rfl, w4⟩ w5)
    ⟨fun a U g mk q => by
        obtain ⟨a1, a2, a3, a4, a5, a6, a7⟩ := q
        exact ⟨a1, a2, a3, a4, a5, va_K.moved (u := U) (U := U.calling g mk a) (Vm.Alike.refl U.vm) a6, a7⟩, va_recv hK hP hv3 he, fun U hU hW => ⟨by simp [zc], q1, hok, by rw [hU], by rw [hU]; exact hP, va_K.moved hW.alike hK, hD.weaken (fun _ _ _ _ => trivial)⟩⟩
    rfl hlen hl.1 rfl (lv_room (by rw [zcts]; exact Nat.le_of_ble_eq_true hct)) hd ⟨Nat.zero_le _, Nat.zero_le _⟩
  exact zs_back hA hP hD hS hl q2 (h5 q3) rfl (zfree hD hS hA) hrun k
theorem zs_callS (C0 : zC p R s m args c D cA A Λ shp cc own nL Ts E) {idx : Nat} (hd : decode cc pc = .ok (.invokestatic idx, 3)) {av rest : List zV} {y : MethodName} {ws : List Cond} {rm : Room} {r : Option zV} {n : Nat} (hpop : zpop wr n st [] = some (ps, av, rest)) (hp : zcj ps) (hct : Nat.ble (zct rest) 8 = true) (hM : zD l y ws rm Λ shp av σ r σ2) (hcw : zCw false Ts own R idx y ws rm n)
    (k : zS p l e R s m args below meth c Q D cA ad A Λ shp nL (pc + 3) L (r.toList ++ rest) σ2) : zS p l e R s m args below meth c Q D cA ad A Λ shp nL pc L st σ := by
  obtain ⟨hex, hb, hml, hown, hts, hK, hA, hΛ, hE, -⟩ := C0
  intro q1 q2 q3 H locs ls hP hD hS hl
  obtain ⟨ar, h1, h2, h3, h4, h5⟩ := zpop_inv ad _ _ _ hpop
  rw [List.append_nil] at h1
  subst h1
  have hok := h4 q3 hp
  obtain ⟨bytes, maxL, ret, ws2, w1, w2, w3, w4, w5, w6⟩ := hcw
  have hlen : (av.map (zc ad)).length = n := by rw [List.length_map]; exact h2
  rw [h3]
  have hrun := va_runS (As := av.map (zc ad)) (rest := rest.map (zc ad)) (own := own) (H := H) (locs := locs) (cells := 0) (slots := 0) (p := p) (l := l) (e := e) (R := R) (below := below) (meth := meth) (index := idx) (g := F0 m pc ls ((av.map (zc ad)).reverse ++ rest.map (zc ad)))
    (show CallFix p m c cc nL s args Ts own from ⟨hex, hb, hml, hown, hts⟩) (hM D cA ad H.size) (va_cwS n hts w6 w1 w2 w3 w4 w5)
    ⟨fun a U g mk q => by
        obtain ⟨a1, a2, a3, a4, a5, a6, a7⟩ := q
        exact ⟨a1, a2, a3, a4, a5, va_K.moved (u := U) (U := U.calling g mk a) (Vm.Alike.refl U.vm) a6, a7⟩, fun U hU hW => ⟨rfl, q1, hok, by rw [hU], by rw [hU]; exact hP, va_K.moved hW.alike hK, hD.weaken (fun _ _ _ _ => trivial)⟩⟩
    rfl hlen hl.1 rfl (lv_room (by rw [zcts]; exact Nat.le_of_ble_eq_true hct)) hd ⟨Nat.zero_le _, Nat.zero_le _⟩
  exact zs_back hA hP hD hS hl q2 (h5 q3) rfl (zfree hD hS hA) hrun k
end ZR
theorem zpad_get : ∀ (n : Nat) (L : zL) (i : Nat) (v : zV), zg none (zpad n L) i = some v → zg none L i = some v
  | 0, L, i, v, h => by cases h
  | n + 1, [], 0, v, h => by cases h
  | n + 1, [], i + 1, v, h => by
    have := zpad_get n [] i v h
    cases this
  | n + 1, o :: L, 0, v, h => h
  | n + 1, o :: L, i + 1, v, h => zpad_get n L i v h
theorem zenl_sub (ad : Nat → Nat) : ∀ (av : List zV) (k : Nat), ∀ q ∈ zA ad k (zenl av), q ∈ lv_args k (av.map (zc ad))
  | [], k, q, hq => by simp [zenl, zA] at hq
  | v :: r, k, q, hq => by
    simp only [zenl, zA, List.mem_cons] at hq
    simp only [List.map_cons, lv_args, zcat, List.mem_cons]
    rcases hq with h | h
    · exact Or.inl h
    · refine Or.inr ?_
      cases hc : zc1 v.1 with
      | true =>
        rw [hc] at h
        simp only [cond_true] at h ⊢
        exact zenl_sub ad r (k + 1) q h
      | false =>
        rw [hc] at h
        simp only [cond_false, zA] at h ⊢
        exact zenl_sub ad r (k + 1 + 1) q h
theorem zen_sub (ad : Nat → Nat) (av : List zV) (n k : Nat) (q : Nat × Value) (hq : q ∈ zA ad k (zen n av)) : q ∈ lv_args k (av.map (zc ad)) := by
  obtain ⟨i, v, rfl, hz⟩ := (zA_mem ad _ k q).mp hq
  exact zenl_sub ad av k _ ((zA_mem ad _ k _).mpr ⟨i, v, rfl, zpad_get n _ i v hz⟩)
theorem zmask_get : ∀ (b : List Bool) (L : zL) (i : Nat) (v : zV), zg none (zmask b L) i = some v → zg none L i = some v
  | [], L, i, v, h => h
  | true :: b, o :: L, 0, v, h => h
  | true :: b, o :: L, i + 1, v, h => zmask_get b L i v h
  | false :: b, o :: L, 0, v, h => by cases h
  | false :: b, o :: L, i + 1, v, h => zmask_get b L i v h
  | true :: b, [], i, v, h => by cases i <;> cases h
  | false :: b, [], i, v, h => by cases i <;> cases h
theorem zBok_at {cc : ByteArray} {nL : Nat} {B : zB} (h : zBok cc nL B = true) {j pc pcT n : Nat} {blk : List (Instr × Nat)} {i : Instr} (hj : zo B j = some (pc, blk, pcT, i, n)) : zdk cc nL pc blk pcT = true ∧ (Nat.beq n 0 = false → decode cc pcT = .ok (i, n)) := by
  rw [zo_get] at hj
  have h1 := List.all_eq_true.mp h _ (List.mem_of_getElem? hj)
  simp only [Bool.and_eq_true, Bool.or_eq_true, decide_eq_true_eq, beq_iff_eq] at h1
  refine ⟨h1.1, fun h2 => ?_⟩
  rcases h1.2 with h3 | h3
  · subst h3; cases h2
  · exact h3
