/-! ===== the layer: a method's state as whole numbers; straight stretches of code as one function ===== -/
abbrev zV : Type := Nat × Int
abbrev zM : Type := List Int × List (Nat → Int)
abbrev zT : Type := List zM
abbrev zL : Type := List (Option zV)
abbrev zE : Type := (Nat × Nat × Nat) ⊕ (Nat × List (Nat ⊕ (Nat × Nat)))
abbrev zI (x : Int) : Prop := -2147483648 ≤ x ∧ x ≤ 2147483647
abbrev zJ (x : Int) : Prop := -9223372036854775808 ≤ x ∧ x ≤ 9223372036854775807
abbrev zin (x : Int) (n : Nat) : Prop := 0 ≤ x ∧ x < (n : Int)
abbrev zbit (x : Int) : Prop := x = 0 ∨ x = 1
def zg {α : Type} (d : α) : List α → Nat → α
  | [], _ => d
  | a :: _, 0 => a
  | _ :: l, n + 1 => zg d l n
def zo {α : Type} : List α → Nat → Option α
  | [], _ => none
  | a :: _, 0 => some a
  | _ :: l, n + 1 => zo l n
def zp {α : Type} : List α → Nat → α → List α
  | [], _, _ => []
  | _ :: l, 0, v => v :: l
  | a :: l, n + 1, v => a :: zp l n v
def zlk {α : Type} : List (Nat × α) → Nat → Option α
  | [], _ => none
  | a :: l, n => cond (Nat.beq a.1 n) (some a.2) (zlk l n)
def zu (f : Nat → Int) (k : Nat) (v : Int) : Nat → Int := fun j => if j = k then v else f j
def zgi (σ : zT) (m j : Nat) : Int := zg 0 (zg ([], []) σ m).1 j
def zga (σ : zT) (m i : Nat) : Nat → Int := zg (fun _ => 0) (zg ([], []) σ m).2 i
def zpi (σ : zT) (m j : Nat) (v : Int) : zT := zp σ m (zp (zg ([], []) σ m).1 j v, (zg ([], []) σ m).2)
def zpa (σ : zT) (m i : Nat) (f : Nat → Int) : zT := zp σ m ((zg ([], []) σ m).1, zp (zg ([], []) σ m).2 i f)
def zw (x : Int) : Int := (Int32.ofInt x).toInt
def zwl (x : Int) : Int := (Int64.ofInt x).toInt
def zand (x y : Int) : Int := (Int32.ofInt x &&& Int32.ofInt y).toInt
def zor (x y : Int) : Int := (Int32.ofInt x ||| Int32.ofInt y).toInt
def zxor (x y : Int) : Int := (Int32.ofInt x ^^^ Int32.ofInt y).toInt
def zshl (x y : Int) : Int := (Int32.ofInt x <<< (Int32.ofInt y &&& 31)).toInt
def zshr (x y : Int) : Int := (Int32.ofInt x >>> (Int32.ofInt y &&& 31)).toInt
def zushr (x y : Int) : Int := ((Int32.ofInt x).toUInt32 >>> ((Int32.ofInt y).toUInt32 &&& Int32.toUInt32 31)).toInt32.toInt
def zandl (x y : Int) : Int := (Int64.ofInt x &&& Int64.ofInt y).toInt
def zorl (x y : Int) : Int := (Int64.ofInt x ||| Int64.ofInt y).toInt
def zshll (x y : Int) : Int := (Int64.ofInt x <<< ((Int32.ofInt y).toInt64 &&& 63)).toInt
def zshrl (x y : Int) : Int := (Int64.ofInt x >>> ((Int32.ofInt y).toInt64 &&& 63)).toInt
def zushrl (x y : Int) : Int := ((Int64.ofInt x).toUInt64 >>> ((Int32.ofInt y).toInt64.toUInt64 &&& Int64.toUInt64 63)).toInt64.toInt
def zlc (x y : Int) : Int := if x < y then -1 else if x = y then 0 else 1
/-! what an instruction does: the Props that it asks, the locals, the stack, the cells -/
abbrev zO : Type := Option (List Prop × zL × List zV × zT)
def zi (t : Nat) : Bool := match t with
  | 0 => true
  | 3 => true
  | _ => false
def zil (t : Nat) : Bool := match t with
  | 1 => true
  | 4 => true
  | _ => false
def zr (t : Nat) (x : Int) : List Prop := match t with
  | 3 => [zI x]
  | _ => []
def zrl (t : Nat) (x : Int) : List Prop := match t with
  | 4 => [zJ x]
  | _ => []
def znrm (wr : Bool) (v : zV) : List Prop × zV := match v with
  | (3, x) => cond wr ([], (0, zw x)) ([zI x], (0, x))
  | (4, x) => cond wr ([], (1, zwl x)) ([zJ x], (1, x))
  | v => ([], v)
def zld (t : Nat) (L : zL) (st : List zV) (σ : zT) (k : Nat) : zO := match zg none L k with
  | some (u, x) => cond (Nat.beq u t) (some ([], L, (u, x) :: st, σ)) none
  | none => none
def zc1 (t : Nat) : Bool := match t with
  | 1 => false
  | 4 => false
  | _ => true
def zcl (L : zL) (k : Nat) : zL := match k with
  | 0 => L
  | k + 1 => match zg none L k with
    | some v => cond (zc1 v.1) L (zp L k none)
    | none => L
def zst (ok : Nat → Bool) (wide wr : Bool) (L : zL) (σ : zT) (k : Nat) (st : List zV) : zO := match st with
  | (t, x) :: r => cond (ok t) (match znrm wr (t, x) with
    | (ps, w) => some (ps, cond wide (zp (zp (zcl L k) k (some w)) (k + 1) none) (zp (zcl L k) k (some w)), r, σ)) none
  | [] => none
def zii (f : Int → Int → zV) (L : zL) (σ : zT) (st : List zV) : zO := match st with
  | (t1, y) :: (t2, x) :: r => cond (zi t1) (cond (zi t2) (some ([], L, f x y :: r, σ)) none) none
  | _ => none
def zll (f : Int → Int → zV) (L : zL) (σ : zT) (st : List zV) : zO := match st with
  | (t1, y) :: (t2, x) :: r => cond (zil t1) (cond (zil t2) (some ([], L, f x y :: r, σ)) none) none
  | _ => none
def zli (f : Int → Int → zV) (L : zL) (σ : zT) (st : List zV) : zO := match st with
  | (t1, y) :: (t2, x) :: r => cond (zi t1) (cond (zil t2) (some ([], L, f x y :: r, σ)) none) none
  | _ => none
def ziiv (f : Int → Int → zV) (ne : Bool) (L : zL) (σ : zT) (st : List zV) : zO := match st with
  | (t1, y) :: (t2, x) :: r => cond (zi t1) (cond (zi t2) (some (zr t2 x ++ (zr t1 y ++ cond ne [y ≠ 0] []), L, f x y :: r, σ)) none) none
  | _ => none
def zllv (f : Int → Int → zV) (ne : Bool) (L : zL) (σ : zT) (st : List zV) : zO := match st with
  | (t1, y) :: (t2, x) :: r => cond (zil t1) (cond (zil t2) (some (zrl t2 x ++ (zrl t1 y ++ cond ne [y ≠ 0] []), L, f x y :: r, σ)) none) none
  | _ => none
abbrev zEnv : Type := List (Nat × Nat × Nat × Nat) × List (Nat × Int) × List (Nat × Int) × List (Nat × Bool)
def zgf (Λ : List zE) (E : zEnv) (L : zL) (σ : zT) (q : Nat) (st : List zV) : zO := match st with
  | (t, a) :: r => cond (Nat.beq t 2) (match zlk E.1 q with
    | some (ci, j, _) => match zo Λ a.toNat with
      | some (.inr (di, fs)) => cond (Nat.beq di ci) (match zo fs j with
        | some (.inl k) => some ([], L, (2, Int.ofNat k) :: r, σ)
        | some (.inr (m, i)) => match zo σ m with
          | some (is, _) => match zo is i with
            | some x => some ([], L, (0, x) :: r, σ)
            | none => none
          | none => none
        | none => none) none
      | _ => none
    | none => none) none
  | _ => none
def zpf (Λ : List zE) (E : zEnv) (wr : Bool) (L : zL) (σ : zT) (q : Nat) (st : List zV) : zO := match st with
  | (u, x) :: (t, a) :: r => cond (zi u) (cond (Nat.beq t 2) (match zlk E.1 q with
    | some (ci, j, kd) => match zo Λ a.toNat with
      | some (.inr (di, fs)) => cond (Nat.beq di ci) (match zo fs j with
        | some (.inr (m, i)) => match kd with
          | 1 => match znrm wr (u, x) with
            | (ps, _, y) => some (ps, L, r, zpi σ m i y)
          | 2 => some ([zbit x], L, r, zpi σ m i x)
          | _ => none
        | _ => none) none
      | _ => none
    | none => none) none) none
  | _ => none
def zal (Λ : List zE) (L : zL) (σ : zT) (st : List zV) : zO := match st with
  | (u, x) :: (t, a) :: r => cond (zi u) (cond (Nat.beq t 2) (match zo Λ a.toNat with
    | some (.inl (m, i, n)) => match zo σ m with
      | some (_, fs) => match zo fs i with
        | some f => some ([zin x n], L, (0, f x.toNat) :: r, σ)
        | none => none
      | none => none
    | _ => none) none) none
  | _ => none
def zas (Λ : List zE) (wr : Bool) (L : zL) (σ : zT) (st : List zV) : zO := match st with
  | (w, y) :: (u, x) :: (t, a) :: r => cond (zi w) (cond (zi u) (cond (Nat.beq t 2) (match zo Λ a.toNat with
    | some (.inl (m, i, n)) => match zo σ m with
      | some (_, fs) => match zo fs i with
        | some f => match znrm wr (w, y) with
          | (ps, _, z) => some (zin x n :: ps, L, r, zpa σ m i (zu f x.toNat z))
        | none => none
      | none => none
    | _ => none) none) none) none
  | _ => none
def zalen (Λ : List zE) (L : zL) (σ : zT) (st : List zV) : zO := match st with
  | (t, a) :: r => cond (Nat.beq t 2) (match zo Λ a.toNat with
    | some (.inl (_, _, n)) => some ([], L, (0, Int.ofNat n) :: r, σ)
    | _ => none) none
  | _ => none
def zct : List zV → Nat
  | [] => 0
  | v :: r => cond (zc1 v.1) 1 2 + zct r
def zmm (E : zEnv) (L : zL) (σ : zT) (q : Nat) (st : List zV) : zO := match st with
  | (t1, y) :: (t2, x) :: r => cond (zi t1) (cond (zi t2) (cond (Nat.ble (zct r) 8) (match zlk E.2.2.2 q with
    | some true => some (zr t2 x ++ zr t1 y, L, (0, max x y) :: r, σ)
    | some false => some (zr t2 x ++ zr t1 y, L, (0, min x y) :: r, σ)
    | none => none) none) none) none
  | _ => none
def zx (Λ : List zE) (E : zEnv) (wr : Bool) (i : Instr) (L : zL) (st : List zV) (σ : zT) : zO := match i with
  | .iconst n => some ([], L, (0, n) :: st, σ)
  | .bipush n => some ([], L, (0, n) :: st, σ)
  | .sipush n => some ([], L, (0, n) :: st, σ)
  | .lconst n => some ([], L, (match n.val with | 0 => (1, 0) | _ => (1, 1)) :: st, σ)
  | .ldc q => match zlk E.2.1 q with
    | some v => some ([], L, (0, v) :: st, σ)
    | none => none
  | .ldc_w q => match zlk E.2.1 q with
    | some v => some ([], L, (0, v) :: st, σ)
    | none => none
  | .ldc2_w q => match zlk E.2.2.1 q with
    | some v => some ([], L, (1, v) :: st, σ)
    | none => none
  | .iload k => zld 0 L st σ k
  | .iload_n k => zld 0 L st σ k.val
  | .lload k => zld 1 L st σ k
  | .lload_n k => zld 1 L st σ k.val
  | .aload k => zld 2 L st σ k
  | .aload_n k => zld 2 L st σ k.val
  | .istore k => zst zi false wr L σ k st
  | .istore_n k => zst zi false wr L σ k.val st
  | .lstore k => zst zil true wr L σ k st
  | .lstore_n k => zst zil true wr L σ k.val st
  | .astore k => zst (Nat.beq 2) false wr L σ k st
  | .astore_n k => zst (Nat.beq 2) false wr L σ k.val st
  | .iinc k n => match zg none L k with
    | some (t, x) => cond (Nat.beq t 0) (some ([zI (x + n)], zp L k (some (0, x + n)), st, σ)) none
    | none => none
  | .iadd => zii (fun x y => (3, x + y)) L σ st
  | .isub => zii (fun x y => (3, x - y)) L σ st
  | .imul => zii (fun x y => (3, x * y)) L σ st
  | .iand => zii (fun x y => (0, zand x y)) L σ st
  | .ior => zii (fun x y => (0, zor x y)) L σ st
  | .ixor => zii (fun x y => (0, zxor x y)) L σ st
  | .ishl => zii (fun x y => (0, zshl x y)) L σ st
  | .ishr => zii (fun x y => (0, zshr x y)) L σ st
  | .iushr => zii (fun x y => (0, zushr x y)) L σ st
  | .idiv => ziiv (fun x y => (3, x.tdiv y)) true L σ st
  | .irem => ziiv (fun x y => (0, x.tmod y)) true L σ st
  | .ladd => zll (fun x y => (4, x + y)) L σ st
  | .lsub => zll (fun x y => (4, x - y)) L σ st
  | .lmul => zll (fun x y => (4, x * y)) L σ st
  | .land => zll (fun x y => (1, zandl x y)) L σ st
  | .lor => zll (fun x y => (1, zorl x y)) L σ st
  | .lshl => zli (fun x y => (1, zshll x y)) L σ st
  | .lshr => zli (fun x y => (1, zshrl x y)) L σ st
  | .lushr => zli (fun x y => (1, zushrl x y)) L σ st
  | .ldiv => zllv (fun x y => (4, x.tdiv y)) true L σ st
  | .lrem => zllv (fun x y => (1, x.tmod y)) true L σ st
  | .lcmp => zllv (fun x y => (0, zlc x y)) false L σ st
  | .lneg => match st with
    | (t, x) :: r => cond (zil t) (some ([], L, (4, -x) :: r, σ)) none
    | _ => none
  | .ineg => match st with
    | (t, x) :: r => cond (zi t) (some ([], L, (3, -x) :: r, σ)) none
    | _ => none
  | .i2l => match st with
    | (t, x) :: r => cond (zi t) (some (zr t x, L, (1, x) :: r, σ)) none
    | _ => none
  | .l2i => match st with
    | (t, x) :: r => cond (zil t) (some ([], L, (3, x) :: r, σ)) none
    | _ => none
  | .getfield q => zgf Λ E L σ q st
  | .putfield q => zpf Λ E wr L σ q st
  | .iaload => zal Λ L σ st
  | .iastore => zas Λ wr L σ st
  | .arraylength => zalen Λ L σ st
  | .dup => match st with
    | v :: r => cond (zc1 v.1) (some ([], L, v :: v :: r, σ)) none
    | _ => none
  | .pop => match st with
    | v :: r => cond (zc1 v.1) (some ([], L, r, σ)) none
    | _ => none
  | .dup2 => match st with
    | v :: w :: r => cond (zc1 v.1) (cond (zc1 w.1) (some ([], L, v :: w :: v :: w :: r, σ)) none) none
    | _ => none
  | .invokestatic q => zmm E L σ q st
  | _ => none
def zxs (Λ : List zE) (E : zEnv) (wr : Bool) : List (Instr × Nat) → zL → List zV → zT → zO
  | [], L, st, σ => some ([], L, st, σ)
  | i :: r, L, st, σ => match zx Λ E wr i.1 L st σ with
    | some (ps, L', st', σ') => match zxs Λ E wr r L' st' σ' with
      | some (qs, L2, st2, σ2) => some (ps ++ qs, L2, st2, σ2)
      | none => none
    | none => none
def zcj : List Prop → Prop
  | [] => True
  | [p] => p
  | p :: q :: r => p ∧ zcj (q :: r)
/-- what of an instruction is looked at once: its length, its literals, its local -/
def zlit (nL : Nat) (i : Instr) (n : Nat) : Bool := match i with
  | .iconst v => decide (n = 1 ∧ zI v)
  | .bipush v => decide (n = 2 ∧ -128 ≤ v ∧ v ≤ 127)
  | .sipush v => decide (n = 3 ∧ -32768 ≤ v ∧ v ≤ 32767)
  | .ldc _ => n == 2
  | .ldc_w _ => n == 3
  | .ldc2_w _ => n == 3
  | .iload _ => n == 2
  | .lload _ => n == 2
  | .aload _ => n == 2
  | .istore k => n == 2 && Nat.blt k nL
  | .lstore k => n == 2 && Nat.blt (k + 1) nL
  | .astore k => n == 2 && Nat.blt k nL
  | .istore_n k => n == 1 && Nat.blt k.val nL
  | .lstore_n k => n == 1 && Nat.blt (k.val + 1) nL
  | .astore_n k => n == 1 && Nat.blt k.val nL
  | .iinc k _ => n == 3 && Nat.blt k nL
  | .getfield _ => n == 3
  | .putfield _ => n == 3
  | .invokestatic _ => n == 3
  | _ => n == 1
def zdk (cc : ByteArray) (nL : Nat) : Nat → List (Instr × Nat) → Nat → Bool
  | pc, [], z => Nat.beq pc z
  | pc, i :: r, z => decide (decode cc pc = .ok i) && zlit nL i.1 i.2 && zdk cc nL (pc + i.2) r z
/-! the worlds that the cells stand for -/
def zokV (v : zV) : Prop := match v with
  | (0, x) => zI x
  | (1, x) => zJ x
  | _ => True
def zc (ad : Nat → Nat) (v : zV) : Value := match v with
  | (1, x) => .long (Int64.ofInt x)
  | (2, x) => .ref (ad x.toNat)
  | (4, x) => .long (Int64.ofInt x)
  | (_, x) => .int (Int32.ofInt x)
def zF (ad : Nat → Nat) (σ : zT) (f : Nat ⊕ (Nat × Nat)) : Value := match f with
  | .inl k => .ref (ad k)
  | .inr mj => .int (Int32.ofInt (zgi σ mj.1 mj.2))
def zEc (cA : ClassId) (ad : Nat → Nat) (σ : zT) (e : zE) : va_E := match e with
  | .inl a => .inl (cA, a.2.2, .inl (fun q => Int32.ofInt (zga σ a.1 a.2.1 q)))
  | .inr o => .inr (o.1, o.2.map (zF ad σ))
def zW (cA : ClassId) (ad : Nat → Nat) (σ : zT) : Nat → List zE → va_W
  | _, [] => []
  | k, e :: r => (ad k, zEc cA ad σ e) :: zW cA ad σ (k + 1) r
def zA (ad : Nat → Nat) : Nat → zL → List (Nat × Value)
  | _, [] => []
  | k, none :: r => zA ad (k + 1) r
  | k, some v :: r => (k, zc ad v) :: zA ad (k + 1) r
def zok (shp : List (Nat × Nat)) (σ : zT) : Prop := σ.map (fun M => (M.1.length, M.2.length)) = shp ∧ (∀ m j, zI (zgi σ m j)) ∧ ∀ m i q, zI (zga σ m i q)
def zokL (L : zL) : Prop := ∀ i v, zg none L i = some v → zokV v
def zokT (st : List zV) : Prop := ∀ v ∈ st, zokV v
/-- a layout whose cells share nothing -/
def zLok (Λ : List zE) (shp : List (Nat × Nat)) : Prop :=
  (∀ k, k < Λ.length → match zo Λ k with
    | some (.inl a) => a.1 < shp.length ∧ a.2.1 < (zg (0, 0) shp a.1).2 ∧ a.2.2 < 2147483648
    | some (.inr o) => ∀ j, j < o.2.length → match zo o.2 j with
      | some (.inr mj) => mj.1 < shp.length ∧ mj.2 < (zg (0, 0) shp mj.1).1
      | some (.inl k) => k < Λ.length
      | none => True
    | none => True) ∧
  (∀ k, k < Λ.length → ∀ k2, k2 < Λ.length → match zo Λ k, zo Λ k2 with
    | some (.inl a), some (.inl b) => k = k2 ∨ ¬ (a.1 = b.1 ∧ a.2.1 = b.2.1)
    | some (.inr o), some (.inr u) => ∀ j, j < o.2.length → ∀ j2, j2 < u.2.length → match zo o.2 j, zo u.2 j2 with
      | some (.inr x), some (.inr y) => (k = k2 ∧ j = j2) ∨ ¬ (x.1 = y.1 ∧ x.2 = y.2)
      | _, _ => True
    | _, _ => True)
theorem zo_get {α : Type} (l : List α) (k : Nat) : zo l k = l[k]? := by
  induction l generalizing k with
  | nil => simp [zo]
  | cons a l ih => cases k with
    | zero => simp [zo]
    | succ k => simp [zo, ih]
theorem zg_get {α : Type} (d : α) (l : List α) (k : Nat) : zg d l k = (l[k]?).getD d := by
  induction l generalizing k with
  | nil => simp [zg]
  | cons a l ih => cases k with
    | zero => simp [zg]
    | succ k => simp [zg, ih]
theorem zp_set {α : Type} (l : List α) (k : Nat) (v : α) : zp l k v = l.set k v := by
  induction l generalizing k with
  | nil => simp [zp]
  | cons a l ih => cases k with
    | zero => simp [zp]
    | succ k => simp [zp, ih]
theorem zg_zp {α : Type} (d : α) (l : List α) (k j : Nat) (v : α) : zg d (zp l k v) j = if j = k ∧ k < l.length then v else zg d l j := by
  rw [zp_set, zg_get, zg_get, List.getElem?_set]
  by_cases h : k = j
  · subst h
    by_cases h2 : k < l.length
    · simp [h2]
    · simp [h2]
  · simp [h, Ne.symm h]
theorem zW_get (cA : ClassId) (ad : Nat → Nat) (σ : zT) (Λ : List zE) (b k : Nat) : (zW cA ad σ b Λ)[k]? = (zo Λ k).map (fun e => (ad (b + k), zEc cA ad σ e)) := by
  induction Λ generalizing b k with
  | nil => simp [zW, zo]
  | cons e r ih => cases k with
    | zero => simp [zW, zo]
    | succ k => simp [zW, zo, ih, Nat.add_assoc, Nat.add_comm 1 k]
theorem zW_len (cA : ClassId) (ad : Nat → Nat) (σ : zT) (Λ : List zE) (b : Nat) : (zW cA ad σ b Λ).length = Λ.length := by
  induction Λ generalizing b with
  | nil => rfl
  | cons e r ih => simp [zW, ih]
theorem zA_mem (ad : Nat → Nat) (L : zL) (b : Nat) (q : Nat × Value) : q ∈ zA ad b L ↔ ∃ k v, q = (b + k, zc ad v) ∧ zg none L k = some v := by
  induction L generalizing b with
  | nil => simp [zA, zg]
  | cons o r ih =>
    cases o with
    | none =>
      simp only [zA, ih]
      constructor
      · rintro ⟨k, v, h1, h2⟩
        exact ⟨k + 1, v, by rw [h1]; congr 1; omega, by simpa [zg] using h2⟩
      · rintro ⟨k, v, h1, h2⟩
        cases k with
        | zero => simp [zg] at h2
        | succ k => exact ⟨k, v, by rw [h1]; congr 1; omega, by simpa [zg] using h2⟩
    | some w =>
      simp only [zA, List.mem_cons, ih]
      constructor
      · rintro (h | ⟨k, v, h1, h2⟩)
        · exact ⟨0, w, by simpa using h, rfl⟩
        · exact ⟨k + 1, v, by rw [h1]; congr 1; omega, by simpa [zg] using h2⟩
      · rintro ⟨k, v, h1, h2⟩
        cases k with
        | zero =>
          simp [zg] at h2
          subst h2
          exact Or.inl (by simpa using h1)
        | succ k => exact Or.inr ⟨k, v, by rw [h1]; congr 1; omega, by simpa [zg] using h2⟩
theorem zA_read {ls : Array Slot} {n : Nat} {ad : Nat → Nat} {L : zL} (h : lv_has ls n (zA ad 0 L)) {k : Nat} {v : zV} (hk : zg none L k = some v) : ls[k]? = some (.val (zc ad v)) := by
  have := h.2.2 (k, zc ad v) ((zA_mem ad L 0 _).mpr ⟨k, v, by simp, hk⟩)
  exact this
theorem zmap_set {α β : Type} (f : α → β) (l : List α) (k : Nat) (a d : α) (h : f a = f (zg d l k)) : (zp l k a).map f = l.map f := by
  rw [zp_set]
  apply List.ext_getElem?
  intro i
  rw [List.getElem?_map, List.getElem?_map, List.getElem?_set]
  by_cases hk : k = i
  · subst hk
    by_cases h2 : k < l.length
    · simp only [h2, if_true]
      rw [Option.map_some, h, zg_get, List.getElem?_eq_getElem h2]
      rfl
    · simp [h2]
  · simp [hk]
theorem zg_map (shp : List (Nat × Nat)) (σ : zT) (m : Nat) (h : σ.map (fun M => (M.1.length, M.2.length)) = shp) : zg (0, 0) shp m = ((zg ([], []) σ m).1.length, (zg ([], []) σ m).2.length) := by
  subst h
  rw [zg_get, zg_get, List.getElem?_map]
  cases σ[m]? <;> rfl
theorem zp_len {α : Type} (l : List α) (k : Nat) (v : α) : (zp l k v).length = l.length := by rw [zp_set]; simp
theorem zgi_zpi (σ : zT) (m j m2 j2 : Nat) (v : Int) : zgi (zpi σ m j v) m2 j2 = if (m2 = m ∧ m < σ.length) ∧ (j2 = j ∧ j < (zg ([], []) σ m).1.length) then v else zgi σ m2 j2 := by
  unfold zgi zpi
  rw [zg_zp]
  by_cases h : m2 = m ∧ m < σ.length
  · rw [if_pos h]
    show zg 0 (zp (zg ([], []) σ m).1 j v) j2 = _
    rw [zg_zp]
    obtain ⟨rfl, h2⟩ := h
    by_cases h3 : j2 = j ∧ j < (zg ([], []) σ m2).1.length
    · simp [h3, h2]
    · rw [if_neg h3, if_neg (fun q => h3 q.2)]
  · rw [if_neg h, if_neg (fun q => h q.1)]
theorem zga_zpi (σ : zT) (m j m2 i2 : Nat) (v : Int) : zga (zpi σ m j v) m2 i2 = zga σ m2 i2 := by
  unfold zga zpi
  rw [zg_zp]
  by_cases h : m2 = m ∧ m < σ.length
  · rw [if_pos h]
    obtain ⟨rfl, h2⟩ := h
    rfl
  · rw [if_neg h]
theorem zgi_zpa (σ : zT) (m i m2 j2 : Nat) (f : Nat → Int) : zgi (zpa σ m i f) m2 j2 = zgi σ m2 j2 := by
  unfold zgi zpa
  rw [zg_zp]
  by_cases h : m2 = m ∧ m < σ.length
  · rw [if_pos h]
    obtain ⟨rfl, h2⟩ := h
    rfl
  · rw [if_neg h]
theorem zga_zpa (σ : zT) (m i m2 i2 : Nat) (f : Nat → Int) : zga (zpa σ m i f) m2 i2 = if (m2 = m ∧ m < σ.length) ∧ (i2 = i ∧ i < (zg ([], []) σ m).2.length) then f else zga σ m2 i2 := by
  unfold zga zpa
  rw [zg_zp]
  by_cases h : m2 = m ∧ m < σ.length
  · rw [if_pos h]
    show zg (fun _ => 0) (zp (zg ([], []) σ m).2 i f) i2 = _
    rw [zg_zp]
    obtain ⟨rfl, h2⟩ := h
    by_cases h3 : i2 = i ∧ i < (zg ([], []) σ m2).2.length
    · simp [h3, h2]
    · rw [if_neg h3, if_neg (fun q => h3 q.2)]
  · rw [if_neg h, if_neg (fun q => h q.1)]
theorem zok_zpi {shp : List (Nat × Nat)} {σ : zT} (h : zok shp σ) (m j : Nat) {v : Int} (hv : zI v) : zok shp (zpi σ m j v) := by
  refine ⟨?_, fun m2 j2 => ?_, fun m2 i2 q => ?_⟩
  · rw [← h.1]
    exact zmap_set _ σ m _ ([], []) (by simp [zp_len])
  · rw [zgi_zpi]
    split
    · exact hv
    · exact h.2.1 m2 j2
  · rw [zga_zpi]
    exact h.2.2 m2 i2 q
theorem zok_zpa {shp : List (Nat × Nat)} {σ : zT} (h : zok shp σ) (m i : Nat) {f : Nat → Int} (hv : ∀ q, zI (f q)) : zok shp (zpa σ m i f) := by
  refine ⟨?_, fun m2 j2 => ?_, fun m2 i2 q => ?_⟩
  · rw [← h.1]
    exact zmap_set _ σ m _ ([], []) (by simp [zp_len])
  · rw [zgi_zpa]
    exact h.2.1 m2 j2
  · rw [zga_zpa]
    split
    · exact hv q
    · exact h.2.2 m2 i2 q
theorem zo_lt {α : Type} {l : List α} {k : Nat} {a : α} (h : zo l k = some a) : k < l.length := by
  rw [zo_get] at h
  exact (List.getElem?_eq_some_iff.mp h).1
theorem zW_putA {Λ : List zE} {shp : List (Nat × Nat)} (hΛ : zLok Λ shp) {σ : zT} (hok : zok shp σ) (cA : ClassId) (ad : Nat → Nat) {k : Nat} {a : Nat × Nat × Nat} (hk : zo Λ k = some (.inl a)) (f : Nat → Int) : (zW cA ad σ 0 Λ).set k (ad k, .inl (cA, a.2.2, .inl (fun q => Int32.ofInt (f q)))) = zW cA ad (zpa σ a.1 a.2.1 f) 0 Λ := by
  have hkl := zo_lt hk
  have h1 := hΛ.1 k hkl
  rw [hk] at h1
  have hlen : σ.length = shp.length := by rw [← hok.1]; simp
  have hm : a.1 < σ.length := by rw [hlen]; exact h1.1
  have hi : a.2.1 < (zg ([], []) σ a.1).2.length := by
    have := h1.2.1
    rw [zg_map shp σ a.1 hok.1] at this
    exact this
  apply List.ext_getElem?
  intro i
  rw [List.getElem?_set, zW_get, zW_get, zW_len]
  by_cases hik : k = i
  · subst hik
    simp only [hkl, if_true, hk, Option.map_some, Nat.zero_add, zEc]
    rw [zga_zpa, if_pos ⟨⟨rfl, hm⟩, rfl, hi⟩]
  · rw [if_neg hik]
    cases hz : zo Λ i with
    | none => rfl
    | some e =>
      simp only [Option.map_some]
      congr 2
      have h2 := hΛ.2 k hkl i (zo_lt hz)
      rw [hk, hz] at h2
      cases e with
      | inl b =>
        simp only [zEc]
        rw [zga_zpa, if_neg]
        intro q
        rcases h2 with h2 | h2
        · exact hik h2
        · exact h2 ⟨q.1.1.symm, q.2.1.symm⟩
      | inr o =>
        simp only [zEc]
        congr 2
        apply List.map_congr_left
        intro f' _
        cases f' with
        | inl k => rfl
        | inr mj => simp [zF, zgi_zpa]
theorem zW_putI {Λ : List zE} {shp : List (Nat × Nat)} (hΛ : zLok Λ shp) {σ : zT} (hok : zok shp σ) (cA : ClassId) (ad : Nat → Nat) {k j : Nat} {o : Nat × List (Nat ⊕ (Nat × Nat))} {mj : Nat × Nat} (hk : zo Λ k = some (.inr o)) (hj : zo o.2 j = some (.inr mj)) (v : Int) : (zW cA ad σ 0 Λ).set k (ad k, .inr (o.1, (o.2.map (zF ad σ)).set j (.int (Int32.ofInt v)))) = zW cA ad (zpi σ mj.1 mj.2 v) 0 Λ := by
  have hkl := zo_lt hk
  have hjl := zo_lt hj
  have h1 := hΛ.1 k hkl
  rw [hk] at h1
  have h1 := h1 j hjl
  rw [hj] at h1
  have hlen : σ.length = shp.length := by rw [← hok.1]; simp
  have hm : mj.1 < σ.length := by rw [hlen]; exact h1.1
  have hi : mj.2 < (zg ([], []) σ mj.1).1.length := by
    have := h1.2
    rw [zg_map shp σ mj.1 hok.1] at this
    exact this
  apply List.ext_getElem?
  intro i
  rw [List.getElem?_set, zW_get, zW_get, zW_len]
  by_cases hik : k = i
  · subst hik
    simp only [hkl, if_true, hk, Option.map_some, Nat.zero_add, zEc]
    congr 4
    apply List.ext_getElem?
    intro j2
    rw [List.getElem?_set, List.getElem?_map, List.getElem?_map, List.length_map]
    by_cases hj2 : j = j2
    · subst hj2
      rw [zo_get] at hj
      simp only [hjl, if_true, hj, Option.map_some, zF]
      rw [zgi_zpi, if_pos ⟨⟨rfl, hm⟩, rfl, hi⟩]
    · rw [if_neg hj2]
      cases hz : o.2[j2]? with
      | none => rfl
      | some f' =>
        simp only [Option.map_some]
        congr 1
        cases f' with
        | inl k => rfl
        | inr u =>
          simp only [zF]
          rw [zgi_zpi, if_neg]
          intro q
          have h2 := hΛ.2 k hkl k hkl
          rw [hk] at h2
          have h2 := h2 j hjl j2 (List.getElem?_eq_some_iff.mp hz).1
          rw [hj, zo_get, hz] at h2
          rcases h2 with h2 | h2
          · exact hj2 h2.2
          · exact h2 ⟨q.1.1.symm, q.2.1.symm⟩
  · rw [if_neg hik]
    cases hz : zo Λ i with
    | none => rfl
    | some e =>
      simp only [Option.map_some]
      congr 2
      have h2 := hΛ.2 k hkl i (zo_lt hz)
      rw [hk, hz] at h2
      cases e with
      | inl b => simp only [zEc, zga_zpi]
      | inr u =>
        simp only [zEc]
        congr 2
        apply List.ext_getElem?
        intro j2
        rw [List.getElem?_map, List.getElem?_map]
        cases hz2 : u.2[j2]? with
        | none => rfl
        | some f' =>
          simp only [Option.map_some]
          congr 1
          cases f' with
          | inl k => rfl
          | inr w =>
            simp only [zF]
            rw [zgi_zpi, if_neg]
            intro q
            have h3 := h2 j hjl j2 (List.getElem?_eq_some_iff.mp hz2).1
            rw [hj, zo_get, hz2] at h3
            rcases h3 with h3 | h3
            · exact hik h3.1
            · exact h3 ⟨q.1.1.symm, q.2.1.symm⟩
