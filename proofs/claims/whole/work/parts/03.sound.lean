def zFl (Ts : List Cond) (own : String) (q : Nat) (f : Nat × Nat × Nat) : Prop :=
  ∃ (C : String) (T : u_T) (N : Nat) (ty : Nat → FieldType), vwCl[f.1]? = some (C, T, N) ∧ f.2.1 < N ∧ (∀ w ∈ u_ws C T N, w ∈ Ts) ∧ Cond.fieldLink own q (T f.2.1).1 (T f.2.1).2.1 (T f.2.1).2.2.1 ∈ Ts ∧
    (∀ k, k < N → parseFieldDescriptor (T k).2.2.1 = some (ty k)) ∧ (∀ a, a < N → ∀ b, b < N → a ≠ b → (T a).2.1 ≠ (T b).2.1) ∧
    (f.2.2 = 1 → (T f.2.1).2.2.2 = false ∧ parseFieldDescriptor (T f.2.1).2.2.1 = some .int) ∧ (f.2.2 = 2 → (T f.2.1).2.2.2 = false ∧ parseFieldDescriptor (T f.2.1).2.2.1 = some .boolean)
def zEok (Ts : List Cond) (own : String) (E : zEnv) : Prop :=
  (∀ q f, zlk E.1 q = some f → zFl Ts own q f) ∧
  (∀ q v, zlk E.2.1 q = some v → zI v ∧ Cond.constant own q (Int32.ofInt v) ∈ Ts) ∧
  (∀ q v, zlk E.2.2.1 q = some v → zJ v ∧ Cond.constantLong own q (Int64.ofInt v) ∈ Ts) ∧
  (∀ q b, zlk E.2.2.2 q = some b → Cond.initialized "java/lang/Math" ∈ Ts ∧
    (b = true → Cond.methodLink own q Lib.Math.max.name ∈ Ts ∧ Cond.static Lib.Math.max.name ∈ Ts ∧ Cond.code Lib.Math.max.name Lib.Math.max.code 2 (some .int) ∈ Ts) ∧
    (b = false → Cond.methodLink own q Lib.Math.min.name ∈ Ts ∧ Cond.static Lib.Math.min.name ∈ Ts ∧ Cond.code Lib.Math.min.name Lib.Math.min.code 2 (some .int) ∈ Ts))
/-- what stands fast while a method runs -/
def zC (p : Program) (R : Room) (s : State) (m : MethodId) (args : Array Value) (c : Code) (D : va_G) (cA : ClassId) (A : Nat → Prop) (Λ : List zE) (shp : List (Nat × Nat)) (cc : ByteArray) (own : String) (nL : Nat) (Ts : List Cond) (E : zEnv) : Prop :=
  p.tables.exec = Jvm.exec ∧ c.code = cc ∧ c.maxLocals = nL ∧ s.vm.findClass own = some m.cls ∧ (∀ w ∈ Ts, w.before args s = true) ∧ va_K D vwCl [(cA, .int)] s ∧ (∀ q : Nat, s.heap.size ≤ q → A q) ∧ zLok Λ shp ∧ zEok Ts own E ∧ (E.2.2.2 = [] ∨ (1 ≤ R.frames ∧ 21 ≤ R.locals))
def zS (p : Program) (l : Launch) (e : Env) (R : Room) (s : State) (m : MethodId) (args : Array Value) (below : List Frame) (meth : Method) (c : Code) (Q : State → Prop) (D : va_G) (cA : ClassId) (ad : Nat → Nat) (A : Nat → Prop) (Λ : List zE) (shp : List (Nat × Nat)) (nL : Nat) (pc : Nat) (L : zL) (st : List zV) (σ : zT) : Prop :=
  zok shp σ → zokL L → zokT st → ∀ (H : Heap) (locs : List Loc) (ls : Array Slot), va_P D vwCl (zW cA ad σ 0 Λ) H → va_D A (zW cA ad σ 0 Λ) → va_S A s.heap H locs → lv_has ls nL (zA ad 0 L) → W p l e R s m args below meth c H locs 0 0 Q (F0 m pc ls (st.map (zc ad)))
theorem zokT_tl {v : zV} {r : List zV} (h : zokT (v :: r)) : zokT r := fun w hw => h w (List.mem_cons_of_mem _ hw)
theorem zokT_hd {v : zV} {r : List zV} (h : zokT (v :: r)) : zokV v := h v List.mem_cons_self
theorem zokT_cons {v : zV} {r : List zV} (hv : zokV v) (h : zokT r) : zokT (v :: r) := fun w hw => by
  rcases List.mem_cons.mp hw with rfl | hw
  · exact hv
  · exact h w hw
theorem zc_i {t : Nat} (h : zi t = true) (ad : Nat → Nat) (x : Int) : zc ad (t, x) = .int (Int32.ofInt x) := by
  match t, h with
  | 0, _ => rfl
  | 3, _ => rfl
theorem zc_l {t : Nat} (h : zil t = true) (ad : Nat → Nat) (x : Int) : zc ad (t, x) = .long (Int64.ofInt x) := by
  match t, h with
  | 1, _ => rfl
  | 4, _ => rfl
theorem zcond {b : Bool} {α : Type} {x : Option α} {y : α} (h : cond b x none = some y) : b = true ∧ x = some y := by
  cases b with
  | true => exact ⟨rfl, h⟩
  | false => cases h
theorem zI_of32 (x : Int32) : zI x.toInt := ⟨x.le_toInt, by have := x.toInt_lt; omega⟩
theorem zJ_of64 (x : Int64) : zJ x.toInt := ⟨x.le_toInt, by have := x.toInt_lt; omega⟩
theorem zti {x : Int} (h : zI x) : (Int32.ofInt x).toInt = x := Int32.toInt_ofInt_of_le h.1 (by have := h.2; omega)
theorem ztl {x : Int} (h : zJ x) : (Int64.ofInt x).toInt = x := Int64.toInt_ofInt_of_le h.1 (by have := h.2; omega)
theorem zoi (x : Int32) : Int32.ofInt x.toInt = x := Int32.ofInt_toInt x
theorem zol (x : Int64) : Int64.ofInt x.toInt = x := Int64.ofInt_toInt x
theorem zw_ok (x : Int) : zI (zw x) := zI_of32 _
theorem zwl_ok (x : Int) : zJ (zwl x) := zJ_of64 _
theorem zcj_cons {p : Prop} {r : List Prop} (h : zcj (p :: r)) : p ∧ zcj r := by
  cases r with
  | nil => exact ⟨h, trivial⟩
  | cons q r => exact h
theorem zcj_append {a b : List Prop} (h : zcj (a ++ b)) : zcj a ∧ zcj b := by
  induction a with
  | nil => exact ⟨trivial, h⟩
  | cons p r ih =>
    obtain ⟨h1, h2⟩ := zcj_cons h
    obtain ⟨h3, h4⟩ := ih h2
    cases r with
    | nil => exact ⟨h1, h4⟩
    | cons q r => exact ⟨⟨h1, h3⟩, h4⟩
theorem znrm_ok {wr : Bool} {v : zV} (hv : zokV v) (h : zcj (znrm wr v).1) : zokV (znrm wr v).2 := by
  obtain ⟨t, x⟩ := v
  match t, hv, h with
  | 0, hv, _ => exact hv
  | 1, hv, _ => exact hv
  | 2, _, _ => trivial
  | 3, _, h => cases wr with
    | true => exact zw_ok x
    | false => exact h
  | 4, _, h => cases wr with
    | true => exact zwl_ok x
    | false => exact h
  | n + 5, _, _ => trivial
theorem znrm_c (wr : Bool) (ad : Nat → Nat) (v : zV) : zc ad (znrm wr v).2 = zc ad v := by
  obtain ⟨t, x⟩ := v
  match t with
  | 0 => rfl
  | 1 => rfl
  | 2 => rfl
  | 3 => cases wr with
    | true => show Value.int (Int32.ofInt (zw x)) = .int (Int32.ofInt x); unfold zw; rw [zoi]
    | false => rfl
  | 4 => cases wr with
    | true => show Value.long (Int64.ofInt (zwl x)) = .long (Int64.ofInt x); unfold zwl; rw [zol]
    | false => rfl
  | n + 5 => rfl
theorem znrm_i {wr : Bool} {v : zV} (h : zi v.1 = true) : (znrm wr v).2.1 = 0 := by
  obtain ⟨t, x⟩ := v
  match t, h with
  | 0, _ => rfl
  | 3, _ => cases wr <;> rfl
theorem zr_ok {t : Nat} {x : Int} (h : zi t = true) (hv : zokV (t, x)) (hr : zcj (zr t x)) : zI x := by
  match t, h, hv, hr with
  | 0, _, hv, _ => exact hv
  | 3, _, _, hr => exact hr
theorem zrl_ok {t : Nat} {x : Int} (h : zil t = true) (hv : zokV (t, x)) (hr : zcj (zrl t x)) : zJ x := by
  match t, h, hv, hr with
  | 1, _, hv, _ => exact hv
  | 4, _, _, hr => exact hr
theorem zcat (ad : Nat → Nat) (v : zV) : (zc ad v).category = cond (zc1 v.1) 1 2 := by
  obtain ⟨t, x⟩ := v
  match t with
  | 0 => rfl
  | 1 => rfl
  | 2 => rfl
  | 3 => rfl
  | 4 => rfl
  | n + 5 => rfl
theorem zcts (ad : Nat → Nat) (st : List zV) : ((st.map (zc ad)).map fun v => v.category).sum = zct st := by
  induction st with
  | nil => rfl
  | cons v r ih =>
    simp only [List.map_cons, List.sum_cons, zct, zcat, ih]
theorem zvin {X : Int} {n : Nat} (h : zin X n) (hn : n < 2147483648) : vp_in (Int32.ofInt X) n ∧ (Int32.ofInt X).toNatClampNeg = X.toNat := by
  obtain ⟨h1, h2⟩ := h
  have e : (Int32.ofInt X).toInt = X := zti ⟨by omega, by omega⟩
  have e2 : (Int32.ofInt X).toNatClampNeg = X.toNat := by
    show (Int32.ofInt X).toInt.toNat = _
    rw [e]
  refine ⟨?_, e2⟩
  unfold vp_in
  rw [e2, Int32.lt_iff_toInt_lt, e]
  rintro (h | h)
  · have h0 : (0 : Int32).toInt = 0 := rfl
    omega
  · omega
theorem zupd_c (f : Nat → Int) (k : Nat) (v : Int) : (fun q => Int32.ofInt (zu f k v q)) = upd (fun q => Int32.ofInt (f q)) k (Int32.ofInt v) := by
  funext q
  unfold zu upd
  split <;> rfl
section ZX
variable {p : Program} {l : Launch} {e : Env} {R : Room} {s : State} {m : MethodId} {args : Array Value} {below : List Frame} {meth : Method} {c : Code} {Q : State → Prop} {D : va_G} {cA : ClassId} {ad : Nat → Nat} {A : Nat → Prop} {Λ : List zE} {shp : List (Nat × Nat)} {nL : Nat} {cc : ByteArray} {own : String} {Ts : List Cond} {E : zEnv}
variable {pc n : Nat} {L L2 : zL} {st st2 : List zV} {σ σ2 : zT} {ps : List Prop} {wr : Bool}
theorem zx_push {v : zV} (hv : zokV v) (row : ∀ (H : Heap) (locs : List Loc) (ls : Array Slot) (rest : List Value), W p l e R s m args below meth c H locs 0 0 Q (F0 m (pc + n) ls (zc ad v :: rest)) → W p l e R s m args below meth c H locs 0 0 Q (F0 m pc ls rest))
    (k : zS p l e R s m args below meth c Q D cA ad A Λ shp nL (pc + n) L (v :: st) σ) : zS p l e R s m args below meth c Q D cA ad A Λ shp nL pc L st σ :=
  fun h1 h2 h3 H locs ls hP hD hS hl => row H locs ls _ (k h1 h2 (zokT_cons hv h3) H locs ls hP hD hS hl)
theorem zx_bin {op : Int → Int → zV} {cx : Nat → Bool} {y x : zV} {r : List zV} {g : Int → Int → Value} (hg : zc ad (op x.2 y.2) = g x.2 y.2) (hv : zokV x → zokV y → zokV (op x.2 y.2))
    (row : ∀ (H : Heap) (locs : List Loc) (ls : Array Slot) (rest : List Value), W p l e R s m args below meth c H locs 0 0 Q (F0 m (pc + n) ls (g x.2 y.2 :: rest)) → W p l e R s m args below meth c H locs 0 0 Q (F0 m pc ls (zc ad y :: zc ad x :: rest)))
    (k : zS p l e R s m args below meth c Q D cA ad A Λ shp nL (pc + n) L (op x.2 y.2 :: r) σ) : zS p l e R s m args below meth c Q D cA ad A Λ shp nL pc L (y :: x :: r) σ := by
  intro h1 h2 h3 H locs ls hP hD hS hl
  refine row H locs ls _ ?_
  rw [← hg]
  exact k h1 h2 (zokT_cons (hv (zokT_hd (zokT_tl h3)) (zokT_hd h3)) (zokT_tl (zokT_tl h3))) H locs ls hP hD hS hl
theorem zii_inv {f : Int → Int → zV} (h : zii f L σ st = some (ps, L2, st2, σ2)) : ∃ t1 y t2 x r, st = (t1, y) :: (t2, x) :: r ∧ zi t1 = true ∧ zi t2 = true ∧ L2 = L ∧ st2 = f x y :: r ∧ σ2 = σ := by
  match st, h with
  | (t1, y) :: (t2, x) :: r, h =>
    replace h := zcond h
    obtain ⟨h1, h⟩ := h
    replace h := zcond h
    obtain ⟨h2, h⟩ := h
    simp only [Option.some.injEq, Prod.mk.injEq] at h
    exact ⟨t1, y, t2, x, r, rfl, h1, h2, h.2.1.symm, h.2.2.1.symm, h.2.2.2.symm⟩
  | [], h => cases h
  | [_], h => cases h
theorem zll_inv {f : Int → Int → zV} (h : zll f L σ st = some (ps, L2, st2, σ2)) : ∃ t1 y t2 x r, st = (t1, y) :: (t2, x) :: r ∧ zil t1 = true ∧ zil t2 = true ∧ L2 = L ∧ st2 = f x y :: r ∧ σ2 = σ := by
  match st, h with
  | (t1, y) :: (t2, x) :: r, h =>
    replace h := zcond h
    obtain ⟨h1, h⟩ := h
    replace h := zcond h
    obtain ⟨h2, h⟩ := h
    simp only [Option.some.injEq, Prod.mk.injEq] at h
    exact ⟨t1, y, t2, x, r, rfl, h1, h2, h.2.1.symm, h.2.2.1.symm, h.2.2.2.symm⟩
  | [], h => cases h
  | [_], h => cases h
theorem zli_inv {f : Int → Int → zV} (h : zli f L σ st = some (ps, L2, st2, σ2)) : ∃ t1 y t2 x r, st = (t1, y) :: (t2, x) :: r ∧ zi t1 = true ∧ zil t2 = true ∧ L2 = L ∧ st2 = f x y :: r ∧ σ2 = σ := by
  match st, h with
  | (t1, y) :: (t2, x) :: r, h =>
    replace h := zcond h
    obtain ⟨h1, h⟩ := h
    replace h := zcond h
    obtain ⟨h2, h⟩ := h
    simp only [Option.some.injEq, Prod.mk.injEq] at h
    exact ⟨t1, y, t2, x, r, rfl, h1, h2, h.2.1.symm, h.2.2.1.symm, h.2.2.2.symm⟩
  | [], h => cases h
  | [_], h => cases h
theorem ziiv_inv {f : Int → Int → zV} {ne : Bool} (h : ziiv f ne L σ st = some (ps, L2, st2, σ2)) : ∃ t1 y t2 x r, st = (t1, y) :: (t2, x) :: r ∧ zi t1 = true ∧ zi t2 = true ∧ L2 = L ∧ st2 = f x y :: r ∧ σ2 = σ ∧ ps = zr t2 x ++ (zr t1 y ++ cond ne [y ≠ 0] []) := by
  match st, h with
  | (t1, y) :: (t2, x) :: r, h =>
    replace h := zcond h
    obtain ⟨h1, h⟩ := h
    replace h := zcond h
    obtain ⟨h2, h⟩ := h
    simp only [Option.some.injEq, Prod.mk.injEq] at h
    exact ⟨t1, y, t2, x, r, rfl, h1, h2, h.2.1.symm, h.2.2.1.symm, h.2.2.2.symm, h.1.symm⟩
  | [], h => cases h
  | [_], h => cases h
theorem zllv_inv {f : Int → Int → zV} {ne : Bool} (h : zllv f ne L σ st = some (ps, L2, st2, σ2)) : ∃ t1 y t2 x r, st = (t1, y) :: (t2, x) :: r ∧ zil t1 = true ∧ zil t2 = true ∧ L2 = L ∧ st2 = f x y :: r ∧ σ2 = σ ∧ ps = zrl t2 x ++ (zrl t1 y ++ cond ne [y ≠ 0] []) := by
  match st, h with
  | (t1, y) :: (t2, x) :: r, h =>
    replace h := zcond h
    obtain ⟨h1, h⟩ := h
    replace h := zcond h
    obtain ⟨h2, h⟩ := h
    simp only [Option.some.injEq, Prod.mk.injEq] at h
    exact ⟨t1, y, t2, x, r, rfl, h1, h2, h.2.1.symm, h.2.2.1.symm, h.2.2.2.symm, h.1.symm⟩
  | [], h => cases h
  | [_], h => cases h
/-- two ints give one value -/
theorem zx_ii {f : Int → Int → zV} (g : Int32 → Int32 → Value) (hg : ∀ x y, zc ad (f x y) = g (Int32.ofInt x) (Int32.ofInt y)) (hv : ∀ x y, zokV (f x y))
    (row : ∀ (H : Heap) (locs : List Loc) (ls : Array Slot) (rest : List Value) (a b : Int32), W p l e R s m args below meth c H locs 0 0 Q (F0 m (pc + n) ls (g a b :: rest)) → W p l e R s m args below meth c H locs 0 0 Q (F0 m pc ls (.int b :: .int a :: rest)))
    (hx : zii f L σ st = some (ps, L2, st2, σ2)) (k : zS p l e R s m args below meth c Q D cA ad A Λ shp nL (pc + n) L2 st2 σ2) : zS p l e R s m args below meth c Q D cA ad A Λ shp nL pc L st σ := by
  obtain ⟨t1, y, t2, x, r, rfl, h1, h2, rfl, rfl, rfl⟩ := zii_inv hx
  intro q1 q2 q3 H locs ls hP hD hS hl
  simp only [List.map_cons, zc_i h1, zc_i h2]
  refine row H locs ls _ _ _ ?_
  rw [← hg]
  exact k q1 q2 (zokT_cons (hv x y) (zokT_tl (zokT_tl q3))) H locs ls hP hD hS hl
theorem zx_ll {f : Int → Int → zV} (g : Int64 → Int64 → Value) (hg : ∀ x y, zc ad (f x y) = g (Int64.ofInt x) (Int64.ofInt y)) (hv : ∀ x y, zokV (f x y))
    (row : ∀ (H : Heap) (locs : List Loc) (ls : Array Slot) (rest : List Value) (a b : Int64), W p l e R s m args below meth c H locs 0 0 Q (F0 m (pc + n) ls (g a b :: rest)) → W p l e R s m args below meth c H locs 0 0 Q (F0 m pc ls (.long b :: .long a :: rest)))
    (hx : zll f L σ st = some (ps, L2, st2, σ2)) (k : zS p l e R s m args below meth c Q D cA ad A Λ shp nL (pc + n) L2 st2 σ2) : zS p l e R s m args below meth c Q D cA ad A Λ shp nL pc L st σ := by
  obtain ⟨t1, y, t2, x, r, rfl, h1, h2, rfl, rfl, rfl⟩ := zll_inv hx
  intro q1 q2 q3 H locs ls hP hD hS hl
  simp only [List.map_cons, zc_l h1, zc_l h2]
  refine row H locs ls _ _ _ ?_
  rw [← hg]
  exact k q1 q2 (zokT_cons (hv x y) (zokT_tl (zokT_tl q3))) H locs ls hP hD hS hl
theorem zx_li {f : Int → Int → zV} (g : Int64 → Int32 → Value) (hg : ∀ x y, zc ad (f x y) = g (Int64.ofInt x) (Int32.ofInt y)) (hv : ∀ x y, zokV (f x y))
    (row : ∀ (H : Heap) (locs : List Loc) (ls : Array Slot) (rest : List Value) (a : Int64) (b : Int32), W p l e R s m args below meth c H locs 0 0 Q (F0 m (pc + n) ls (g a b :: rest)) → W p l e R s m args below meth c H locs 0 0 Q (F0 m pc ls (.int b :: .long a :: rest)))
    (hx : zli f L σ st = some (ps, L2, st2, σ2)) (k : zS p l e R s m args below meth c Q D cA ad A Λ shp nL (pc + n) L2 st2 σ2) : zS p l e R s m args below meth c Q D cA ad A Λ shp nL pc L st σ := by
  obtain ⟨t1, y, t2, x, r, rfl, h1, h2, rfl, rfl, rfl⟩ := zli_inv hx
  intro q1 q2 q3 H locs ls hP hD hS hl
  simp only [List.map_cons, zc_i h1, zc_l h2]
  refine row H locs ls _ _ _ ?_
  rw [← hg]
  exact k q1 q2 (zokT_cons (hv x y) (zokT_tl (zokT_tl q3))) H locs ls hP hD hS hl
/-- two ints that are looked at as numbers -/
theorem zx_iiv {f : Int → Int → zV} {ne : Bool} (g : Int32 → Int32 → Value) (hg : ∀ x y, zI x → zI y → (ne = true → y ≠ 0) → zc ad (f x y) = g (Int32.ofInt x) (Int32.ofInt y)) (hv : ∀ x y, zI x → zI y → zokV (f x y))
    (row : ∀ (H : Heap) (locs : List Loc) (ls : Array Slot) (rest : List Value) (a b : Int32), (ne = true → ¬ b = 0) → W p l e R s m args below meth c H locs 0 0 Q (F0 m (pc + n) ls (g a b :: rest)) → W p l e R s m args below meth c H locs 0 0 Q (F0 m pc ls (.int b :: .int a :: rest)))
    (hx : ziiv f ne L σ st = some (ps, L2, st2, σ2)) (hp : zcj ps) (k : zS p l e R s m args below meth c Q D cA ad A Λ shp nL (pc + n) L2 st2 σ2) : zS p l e R s m args below meth c Q D cA ad A Λ shp nL pc L st σ := by
  obtain ⟨t1, y, t2, x, r, rfl, h1, h2, rfl, rfl, rfl, rfl⟩ := ziiv_inv hx
  intro q1 q2 q3 H locs ls hP hD hS hl
  obtain ⟨g1, g2⟩ := zcj_append hp
  obtain ⟨g2, g3⟩ := zcj_append g2
  have o1 := zr_ok h2 (zokT_hd (zokT_tl q3)) g1
  have o2 := zr_ok h1 (zokT_hd q3) g2
  have o3 : ne = true → y ≠ 0 := fun h => by subst h; exact g3
  simp only [List.map_cons, zc_i h1, zc_i h2]
  refine row H locs ls _ _ _ (fun h h4 => o3 h ?_) ?_
  · have h5 := congrArg Int32.toInt h4
    rw [zti o2] at h5
    exact h5
  rw [← hg x y o1 o2 o3]
  exact k q1 q2 (zokT_cons (hv x y o1 o2) (zokT_tl (zokT_tl q3))) H locs ls hP hD hS hl
theorem zx_llv {f : Int → Int → zV} {ne : Bool} (g : Int64 → Int64 → Value) (hg : ∀ x y, zJ x → zJ y → (ne = true → y ≠ 0) → zc ad (f x y) = g (Int64.ofInt x) (Int64.ofInt y)) (hv : ∀ x y, zJ x → zJ y → zokV (f x y))
    (row : ∀ (H : Heap) (locs : List Loc) (ls : Array Slot) (rest : List Value) (a b : Int64), (ne = true → ¬ b = 0) → W p l e R s m args below meth c H locs 0 0 Q (F0 m (pc + n) ls (g a b :: rest)) → W p l e R s m args below meth c H locs 0 0 Q (F0 m pc ls (.long b :: .long a :: rest)))
    (hx : zllv f ne L σ st = some (ps, L2, st2, σ2)) (hp : zcj ps) (k : zS p l e R s m args below meth c Q D cA ad A Λ shp nL (pc + n) L2 st2 σ2) : zS p l e R s m args below meth c Q D cA ad A Λ shp nL pc L st σ := by
  obtain ⟨t1, y, t2, x, r, rfl, h1, h2, rfl, rfl, rfl, rfl⟩ := zllv_inv hx
  intro q1 q2 q3 H locs ls hP hD hS hl
  obtain ⟨g1, g2⟩ := zcj_append hp
  obtain ⟨g2, g3⟩ := zcj_append g2
  have o1 := zrl_ok h2 (zokT_hd (zokT_tl q3)) g1
  have o2 := zrl_ok h1 (zokT_hd q3) g2
  have o3 : ne = true → y ≠ 0 := fun h => by subst h; exact g3
  simp only [List.map_cons, zc_l h1, zc_l h2]
  refine row H locs ls _ _ _ (fun h h4 => o3 h ?_) ?_
  · have h5 := congrArg Int64.toInt h4
    rw [ztl o2] at h5
    exact h5
  rw [← hg x y o1 o2 o3]
  exact k q1 q2 (zokT_cons (hv x y o1 o2) (zokT_tl (zokT_tl q3))) H locs ls hP hD hS hl
theorem zx_load {t k : Nat} (row : ∀ (H : Heap) (locs : List Loc) (ls : Array Slot) (rest : List Value) (x : Int), ls[k]? = some (.val (zc ad (t, x))) → W p l e R s m args below meth c H locs 0 0 Q (F0 m (pc + n) ls (zc ad (t, x) :: rest)) → W p l e R s m args below meth c H locs 0 0 Q (F0 m pc ls rest))
    (hx : zld t L st σ k = some (ps, L2, st2, σ2)) (kk : zS p l e R s m args below meth c Q D cA ad A Λ shp nL (pc + n) L2 st2 σ2) : zS p l e R s m args below meth c Q D cA ad A Λ shp nL pc L st σ := by
  unfold zld at hx
  cases hz : zg none L k with
  | none => rw [hz] at hx; cases hx
  | some v =>
    obtain ⟨t', x⟩ := v
    rw [hz] at hx
    obtain ⟨h1, h⟩ := zcond hx
    simp only [Option.some.injEq, Prod.mk.injEq] at h
    obtain ⟨-, rfl, rfl, rfl⟩ := h
    have ht : t' = t := Nat.eq_of_beq_eq_true h1
    subst ht
    intro q1 q2 q3 H locs ls hP hD hS hl
    exact row H locs ls _ x (zA_read hl hz) (kk q1 q2 (zokT_cons (q2 k _ hz) q3) H locs ls hP hD hS hl)
theorem zcl_get (L : zL) (k i : Nat) (v : zV) (h : zg none (zcl L k) i = some v) : zg none L i = some v ∧ ¬ (i + 1 = k ∧ zc1 v.1 = false) := by
  unfold zcl at h
  cases k with
  | zero => exact ⟨h, fun q => by omega⟩
  | succ k =>
    simp only at h
    cases hz : zg none L k with
    | none =>
      rw [hz] at h
      simp only at h
      refine ⟨h, fun q => ?_⟩
      have : i = k := by omega
      subst this
      rw [hz] at h
      cases h
    | some w =>
      rw [hz] at h
      simp only at h
      cases hb : zc1 w.1 with
      | false =>
        rw [hb] at h
        simp only [cond_false, zg_zp] at h
        split at h
        · cases h
        next hn =>
          refine ⟨h, fun q => ?_⟩
          have : i = k := by omega
          subst this
          have hlt : i < L.length := by
            rw [zg_get] at h
            cases hq : L[i]? with
            | none => rw [hq] at h; cases h
            | some u => exact (List.getElem?_eq_some_iff.mp hq).1
          exact hn ⟨rfl, hlt⟩
      | true =>
        rw [hb] at h
        simp only [cond_true] at h
        refine ⟨h, fun q => ?_⟩
        have : i = k := by omega
        subst this
        rw [hz] at h
        cases h
        rw [q.2] at hb
        cases hb
/-- a store into a local: what the list says afterwards, of the array -/
theorem zst_has {ls : Array Slot} {ad : Nat → Nat} {L : zL} {k : Nat} {v : zV} {wide : Bool} {flt : Nat × Value → Bool}
    (hf : ∀ q : Nat × Value, flt q = (!(q.1 == k) && !(q.1 + 1 == k && q.2.category == 2)) ∨ (wide = true ∧ flt q = (!(q.1 == k) && (!(q.1 == k + 1) && !(q.1 + 1 == k && q.2.category == 2)))))
    (h : lv_has ls nL ((k, zc ad v) :: (zA ad 0 L).filter flt)) : lv_has ls nL (zA ad 0 (cond wide (zp (zp (zcl L k) k (some v)) (k + 1) none) (zp (zcl L k) k (some v)))) := by
  refine ⟨h.1, h.2.1, fun q hq => h.2.2 q ?_⟩
  obtain ⟨i, w, rfl, hz⟩ := (zA_mem ad _ 0 q).mp hq
  simp only [Nat.zero_add] at hq ⊢
  have key : (i = k ∧ w = v) ∨ (i ≠ k ∧ (wide = true → i ≠ k + 1) ∧ zg none (zcl L k) i = some w) := by
    cases wide with
    | true =>
      simp only [cond_true, zg_zp] at hz
      split at hz
      · cases hz
      next h1 =>
        split at hz
        next h2 => exact Or.inl ⟨h2.1, (Option.some.inj hz).symm⟩
        next h2 =>
          have hlt : i < (zcl L k).length := by
            rw [zg_get] at hz
            cases hq : (zcl L k)[i]? with
            | none => rw [hq] at hz; cases hz
            | some u => exact (List.getElem?_eq_some_iff.mp hq).1
          refine Or.inr ⟨fun q => h2 ⟨q, by omega⟩, fun _ q => h1 ⟨q, ?_⟩, hz⟩
          rw [zp_len]; omega
    | false =>
      simp only [cond_false, zg_zp] at hz
      split at hz
      next h2 => exact Or.inl ⟨h2.1, (Option.some.inj hz).symm⟩
      next h2 =>
        have hlt : i < (zcl L k).length := by
          rw [zg_get] at hz
          cases hq : (zcl L k)[i]? with
          | none => rw [hq] at hz; cases hz
          | some u => exact (List.getElem?_eq_some_iff.mp hq).1
        exact Or.inr ⟨fun q => h2 ⟨q, by omega⟩, fun q => (by cases q), hz⟩
  rcases key with ⟨rfl, rfl⟩ | ⟨h1, h2, h3⟩
  · exact List.mem_cons_self
  · refine List.mem_cons_of_mem _ (List.mem_filter.mpr ⟨(zA_mem ad L 0 _).mpr ⟨i, w, by simp, (zcl_get L k i w h3).1⟩, ?_⟩)
    have h4 := (zcl_get L k i w h3).2
    have h5 : (i + 1 == k && (zc ad w).category == 2) = false := by
      rw [zcat]
      cases hb : zc1 w.1 with
      | true => simp
      | false => simp only [cond_false, beq_self_eq_true, Bool.and_true]; exact beq_eq_false_iff_ne.mpr (fun q => h4 ⟨q, hb⟩)
    have h6 : (i == k) = false := beq_eq_false_iff_ne.mpr h1
    rcases hf (i, zc ad w) with hf | ⟨hw, hf⟩
    · rw [hf]; simp only [h5, h6]; rfl
    · rw [hf]
      have h7 : (i == k + 1) = false := beq_eq_false_iff_ne.mpr (h2 hw)
      simp only [h5, h6, h7]; rfl
theorem zx_store {ok : Nat → Bool} {wide : Bool} {k : Nat}
    (row : ∀ (H : Heap) (locs : List Loc) (ls : Array Slot) (rest : List Value) (v : zV), ok v.1 = true → lv_has ls nL (zA ad 0 L) → (∀ ls' : Array Slot, lv_has ls' nL (zA ad 0 (cond wide (zp (zp (zcl L k) k (some v)) (k + 1) none) (zp (zcl L k) k (some v)))) → W p l e R s m args below meth c H locs 0 0 Q (F0 m (pc + n) ls' rest)) → W p l e R s m args below meth c H locs 0 0 Q (F0 m pc ls (zc ad v :: rest)))
    (hnok : ∀ v : zV, ok v.1 = true → ok (znrm wr v).2.1 = true) (hx : zst ok wide wr L σ k st = some (ps, L2, st2, σ2)) (hp : zcj ps) (kk : zS p l e R s m args below meth c Q D cA ad A Λ shp nL (pc + n) L2 st2 σ2) : zS p l e R s m args below meth c Q D cA ad A Λ shp nL pc L st σ := by
  match st, hx with
  | v :: r, hx =>
    obtain ⟨h1, h⟩ : ok v.1 = true ∧ some ((znrm wr v).1, cond wide (zp (zp (zcl L k) k (some (znrm wr v).2)) (k + 1) none) (zp (zcl L k) k (some (znrm wr v).2)), r, σ) = some (ps, L2, st2, σ2) := zcond hx
    simp only [Option.some.injEq, Prod.mk.injEq] at h
    obtain ⟨rfl, rfl, rfl, rfl⟩ := h
    intro q1 q2 q3 H locs ls hP hD hS hl
    have hv := znrm_ok (zokT_hd q3) hp
    simp only [List.map_cons]
    rw [← znrm_c wr ad v]
    refine row H locs ls _ _ (hnok v h1) hl fun ls' hl' => kk q1 (fun i w hz => ?_) (zokT_tl q3) H locs ls' hP hD hS hl'
    have key : w = (znrm wr v).2 ∨ zg none (zcl L k) i = some w := by
      cases wide with
      | true =>
        simp only [cond_true, zg_zp] at hz
        split at hz
        · cases hz
        · split at hz
          · exact Or.inl (Option.some.inj hz).symm
          · exact Or.inr hz
      | false =>
        simp only [cond_false, zg_zp] at hz
        split at hz
        · exact Or.inl (Option.some.inj hz).symm
        · exact Or.inr hz
    rcases key with rfl | hz
    · exact hv
    · exact q2 i w (zcl_get L k i w hz).1
  | [], hx => cases hx
end ZX
