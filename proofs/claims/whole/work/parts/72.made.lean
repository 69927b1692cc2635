/-! ===== constructors: cells that are made, one after another ===== -/
def zde (cc : ByteArray) : Nat → List (Instr × Nat) → Nat → Bool
  | pc, [], z => Nat.beq pc z
  | pc, i :: r, z => decide (decode cc pc = .ok i) && zde cc (pc + i.2) r z
theorem zde_hd {cc : ByteArray} {pc z : Nat} {i : Instr × Nat} {r : List (Instr × Nat)} (h : zde cc pc (i :: r) z = true) : decode cc pc = .ok i ∧ zde cc (pc + i.2) r z = true := by
  simp only [zde, Bool.and_eq_true, decide_eq_true_eq] at h
  exact h
theorem zde_nil {cc : ByteArray} {pc z : Nat} (h : zde cc pc [] z = true) : pc = z := Nat.eq_of_beq_eq_true h
/-- a number pushed -/
def zpu (i : Instr) (len n : Nat) : Bool := match i with
  | .iconst v => len == 1 && decide (v = (n : Int)) && Nat.blt n 6
  | .bipush v => len == 2 && decide (v = (n : Int)) && Nat.blt n 128
  | .sipush v => len == 3 && decide (v = (n : Int)) && Nat.blt n 32768
  | _ => false
theorem va_P_app {D : va_G} {cl : List vw_C} {w1 w2 : va_W} {H : Heap} (h : va_P D cl (w1 ++ w2) H) : va_P D cl w1 H ∧ va_P D cl w2 H := by
  refine ⟨fun k q hk => h k q ?_, fun k q hk => h (w1.length + k) q ?_⟩
  · rw [List.getElem?_append_left (List.getElem?_eq_some_iff.mp hk).1]; exact hk
  · rw [List.getElem?_append_right (by omega), Nat.add_sub_cancel_left]; exact hk
theorem va_D_app {A : Nat → Prop} {w1 w2 : va_W} (h : va_D A (w1 ++ w2)) : va_D A w1 ∧ va_D A w2 ∧ ∀ (i j : Nat) (p q : Nat × va_E), w1[i]? = some p → w2[j]? = some q → p.1 ≠ q.1 := by
  have hl : ∀ {k : Nat} {q : Nat × va_E}, w1[k]? = some q → (w1 ++ w2)[k]? = some q := fun {k q} hk => by
    rw [List.getElem?_append_left (List.getElem?_eq_some_iff.mp hk).1]; exact hk
  have hr : ∀ {k : Nat} {q : Nat × va_E}, w2[k]? = some q → (w1 ++ w2)[w1.length + k]? = some q := fun {k q} hk => by
    rw [List.getElem?_append_right (by omega), Nat.add_sub_cancel_left]; exact hk
  refine ⟨⟨fun i j p q h1 h2 h3 => h.1 i j p q (hl h1) (hl h2) h3, fun k q hk => h.2 k q (hl hk)⟩, ⟨fun i j p q h1 h2 h3 => ?_, fun k q hk => h.2 _ q (hr hk)⟩, fun i j p q h1 h2 h3 => ?_⟩
  · have := h.1 _ _ p q (hr h1) (hr h2) h3
    omega
  · have := h.1 _ _ p q (hl h1) (hr h2) h3
    have := (List.getElem?_eq_some_iff.mp h1).1
    omega
/-- behind a call: the caller's other cells stand first -/
theorem va_joinE {A0 : Nat → Prop} {D : va_G} {cl : List vw_C} {wc wr w1 : va_W} {H H1 : Heap} (hP : va_P D cl (wr ++ wc) H) (hD : va_D A0 (wr ++ wc)) (hk : ∀ q : Nat, q < H.size → ¬ va_A wc H.size q → H1[q]? = H[q]?) (hF : ∀ q, va_A wc H.size q → A0 q) (hP1 : va_P D cl w1 H1) (hD1 : va_D (va_A wc H.size) w1) : va_P D cl (wr ++ w1) H1 ∧ va_D A0 (wr ++ w1) := by
  obtain ⟨hPr, hPc⟩ := va_P_app hP
  obtain ⟨hDr, hDc, hx⟩ := va_D_app hD
  have apart : ∀ (k : Nat) (q : Nat × va_E), wr[k]? = some q → q.1 < H.size ∧ ¬ va_A wc H.size q.1 := by
    intro k q hq
    have hl := (hPr k q hq).lt
    refine ⟨hl, fun h => ?_⟩
    rcases h with ⟨k2, e, h⟩ | h
    · exact hx k k2 q (q.1, e) hq h rfl
    · omega
  refine ⟨va_P.app (fun k q hq => ?_) hP1, va_D.app hDr (hD1.weaken (fun k q _ h => hF q.1 h)) (fun i j x y hx hy hxy => ?_)⟩
  · obtain ⟨g1, g2⟩ := apart k q hq
    exact (hPr k q hq).kept (hk q.1 g1 g2)
  · exact (apart i x hx).2 (by rw [hxy]; exact hD1.2 j y hy)
theorem va_freeE {A0 : Nat → Prop} {wr wc : va_W} {H0 H : Heap} {locs : List Loc} (hD : va_D A0 (wr ++ wc)) (hS : va_S A0 H0 H locs) (hA : ∀ q, H0.size ≤ q → A0 q) : ∀ q, va_A wc H.size q → A0 q := by
  rintro q (⟨k, e, h⟩ | h)
  · exact (va_D_app hD).2.1.2 k (q, e) h
  · exact hA q (Nat.le_trans hS.1 h)
theorem uGinI {c0 cd : Cond} (h5 : cd ∈ uU) : GoodIn (c0 :: uU) (cd :: uU) := by
  intro w hw
  have hm : w ∈ uU := by
    rcases List.mem_cons.mp hw with rfl | hw
    · exact h5
    · exact hw
  exact ⟨List.mem_cons_of_mem _ hm, good_of_word (uGood w hm)⟩
theorem zok_of {shp : List (Nat × Nat)} {σ : zT} (h1 : σ.map (fun M => (M.1.length, M.2.length)) = shp) (h2 : ∀ M ∈ σ, (∀ x ∈ M.1, zI x) ∧ ∀ f ∈ M.2, ∀ q, zI (f q)) : zok shp σ := by
  have h3 : ∀ m, (∀ x ∈ (zg ([], []) σ m).1, zI x) ∧ ∀ f ∈ (zg ([], []) σ m).2, ∀ q, zI (f q) := fun m => by
    rw [zg_get]
    cases h : σ[m]? with
    | none => exact ⟨fun x hx => by simp at hx, fun x hx => by simp at hx⟩
    | some M => exact h2 M (List.mem_of_getElem? h)
  refine ⟨h1, fun m j => ?_, fun m i q => ?_⟩
  · unfold zgi
    rw [zg_get]
    cases h : (zg ([], []) σ m).1[j]? with
    | none => exact zI0
    | some x => exact (h3 m).1 x (List.mem_of_getElem? h)
  · unfold zga
    rw [zg_get]
    cases h : (zg ([], []) σ m).2[i]? with
    | none => exact zI0
    | some f => exact (h3 m).2 f (List.mem_of_getElem? h) q
section ZK
variable {p : Program} {l : Launch} {e : Env} {R : Room} {s : State} {m : MethodId} {args : Array Value} {below : List Frame} {meth : Method} {c : Code} {Q : State → Prop} {D : va_G} {cA : ClassId} {A : Nat → Prop} {cc : ByteArray} {own : String} {Ts : List Cond} {nL : Nat}
/-- what stands fast in a constructor -/
def zKc (p : Program) (s : State) (m : MethodId) (args : Array Value) (c : Code) (D : va_G) (cA : ClassId) (A : Nat → Prop) (cc : ByteArray) (own : String) (Ts : List Cond) (nL : Nat) : Prop :=
  p.tables.exec = Jvm.exec ∧ c.code = cc ∧ c.maxLocals = nL ∧ s.vm.findClass own = some m.cls ∧ (∀ w ∈ Ts, w.before args s = true) ∧ va_K D vwCl [(cA, .int)] s ∧ (∀ q : Nat, s.heap.size ≤ q → A q)
def zK (p : Program) (l : Launch) (e : Env) (R : Room) (s : State) (m : MethodId) (args : Array Value) (below : List Frame) (meth : Method) (c : Code) (Q : State → Prop) (D : va_G) (A : Nat → Prop) (nL : Nat) (lv : List (Nat × Value)) (cells slots pc : Nat) (st : List Value) (ws : va_W) : Prop :=
  ∀ (H : Heap) (locs : List Loc) (ls : Array Slot), va_P D vwCl ws H → va_D A ws → va_S A s.heap H locs → lv_has ls nL lv → W p l e R s m args below meth c H locs cells slots Q (F0 m pc ls st)
theorem zK.eq {lv : List (Nat × Value)} {cells slots pc : Nat} {st : List Value} {ws ws2 : va_W} (h : ws = ws2) (k : zK p l e R s m args below meth c Q D A nL lv cells slots pc st ws2) : zK p l e R s m args below meth c Q D A nL lv cells slots pc st ws := h ▸ k
theorem zK_push (hx : p.tables.exec = Jvm.exec) (hb : c.code = cc) {i : Instr} {len n pc cells slots : Nat} {H : Heap} {locs : List Loc} {ls : Array Slot} {st : List Value} (hpu : zpu i len n = true) (hd : decode cc pc = .ok (i, len)) (k : n < 32768 → W p l e R s m args below meth c H locs cells slots Q (F0 m (pc + len) ls (.int (nI n) :: st))) : W p l e R s m args below meth c H locs cells slots Q (F0 m pc ls st) := by
  unfold zpu at hpu
  split at hpu
  next v =>
    simp only [Bool.and_eq_true, beq_iff_eq, decide_eq_true_eq, Nat.blt_eq] at hpu
    obtain ⟨⟨rfl, rfl⟩, h⟩ := hpu
    exact lv_iconst hx hb hd (by rfl) (k (by omega))
  next v =>
    simp only [Bool.and_eq_true, beq_iff_eq, decide_eq_true_eq, Nat.blt_eq] at hpu
    obtain ⟨⟨rfl, rfl⟩, h⟩ := hpu
    refine lv_bipush hx hb hd ?_ (k (by omega))
    refine Int32.toInt_inj.mp ?_
    rw [Int8.toInt_toInt32, nI_toInt (by omega), Int8.toInt_ofInt_of_le (by omega) (by omega)]
  next v =>
    simp only [Bool.and_eq_true, beq_iff_eq, decide_eq_true_eq, Nat.blt_eq] at hpu
    obtain ⟨⟨rfl, rfl⟩, h⟩ := hpu
    refine lv_sipush hx hb hd ?_ (k (by omega))
    refine Int32.toInt_inj.mp ?_
    rw [Int16.toInt_toInt32, nI_toInt (by omega), Int16.toInt_ofInt_of_le (by omega) (by omega)]
  next => cases hpu
/-- this.f = new int[n] -/
theorem zk_arr (K0 : zKc p s m args c D cA A cc own Ts nL) (hin2 : meth.name = "<init>") {C : String} {T : u_T} {N : Nat} (ty : Nat → FieldType) (hty : ∀ k, k < N → parseFieldDescriptor (T k).2.2.1 = some (ty k)) (hnm : ∀ a, a < N → ∀ b, b < N → a ≠ b → (T a).2.1 ≠ (T b).2.1) (hin : ∀ w ∈ u_ws C T N, w ∈ Ts) (hac : Cond.arrayClass .int ∈ Ts)
    {pc len idx n k ci h0 cells slots z : Nat} {i : Instr} {fs : List Value} {wr : va_W} {lv : List (Nat × Value)} {ws2 : Nat → va_W}
    (hc : vwCl[ci]? = some (C, T, N)) (hk : k < N) (hlink : Cond.fieldLink own idx (T k).1 (T k).2.1 (T k).2.2.1 ∈ Ts) (hfin : (T k).2.2.2 = true) (hdecl : (T k).1 = own) (hd : parseFieldDescriptor (T k).2.2.1 = some (.array .int)) (hl : k < fs.length)
    (hde : zde cc pc [(.aload_n 0, 1), (i, len), (.newarray .int, 2), (.putfield idx, 3)] z = true) (hpu : zpu i len n = true) (hlv : lv[0]? = some (0, .ref h0)) (h1 : Nat.ble (cells + 1) R.cells = true) (h2 : Nat.ble (slots + n) R.slots = true)
    (hw : ∀ q, (h0, .inr (ci, fs.set k (.ref q))) :: (wr ++ [(q, .inl (cA, n, .inl (fun x => Int32.ofInt (k0 x))))]) = ws2 q)
    (kk : ∀ q, zK p l e R s m args below meth c Q D A nL lv (cells + 1) (slots + n) z [] (ws2 q)) : zK p l e R s m args below meth c Q D A nL lv cells slots pc [] ((h0, .inr (ci, fs)) :: wr) := by
  intro H locs ls hP hD hS hl0
  obtain ⟨hx, hb, hml, hown, hts, hK, hA⟩ := K0
  obtain ⟨d0, hde⟩ := zde_hd hde
  obtain ⟨d1, hde⟩ := zde_hd hde
  obtain ⟨d2, hde⟩ := zde_hd hde
  obtain ⟨d3, hde⟩ := zde_hd hde
  have hz := zde_nil hde
  refine lv_aload_n hx hb d0 rfl (lv_at hl0 0 hlv) ?_
  refine zK_push hx hb hpu d1 (fun hn => ?_)
  refine va_newa (atype := .int) (ty := .int) (n := nI n) (N' := n) (a0 := (n, .inl (fun _ => 0))) hx hb (hts _ hac) rfl hK hP hD hS hA (fun _ => rfl) (nI_pos (by omega)) (nI_clamp (by omega)) (by show n * 4 ≤ _; omega) (Nat.le_of_ble_eq_true h1) (Nat.le_of_ble_eq_true h2) d2 (fun q cA2 H1 hK2 hP hD hS => ?_)
  have hcA : cA2 = cA := by
    have e1 : s.vm.findClass _ = some cA := (hK2.2 0 _ rfl).2
    have e2 : s.vm.findClass _ = some cA2 := (hK2.2 1 _ rfl).2
    exact Option.some.inj (e2.symm.trans e1)
  subst hcA
  refine va_putF (D := D) (ci := ci) (v := .ref q) (ty := .array .int) (C := C) (T := T) (N := N) hx hb hts hin ty hty hnm hown hK hP hD hS 0 rfl hc k hk (hts _ hlink) (fun _ h9 => h9) hfin hin2 hdecl hd rfl rfl hl d3 (fun H2 locs2 hP hD hS => ?_)
  have hP : va_P D vwCl (ws2 q) H2 := by rw [← hw q]; exact hP
  have hD : va_D A (ws2 q) := by rw [← hw q]; exact hD
  have := kk q H2 locs2 ls hP hD hS hl0
  rw [← hz] at this
  exact this
/-- a constructor's contract: the cells that stand behind it, at some addresses -/
def zCt (l : Launch) (y : MethodName) (ws : List Cond) (rm : Room) (ci : Nat) (fs ex : List Value) (wd : ClassId → Nat → List Nat → va_W) (mc ms : Nat) : Prop :=
  ∀ (D : va_G) (cA : ClassId) (h0 sz : Nat), Met l y ws rm (va_Pc (.ref h0 :: ex) (fun U => U.heap.size = sz ∧ va_P D vwCl [(h0, .inr (ci, fs))] U.heap ∧ va_K D vwCl [(cA, .int)] U ∧ va_D (fun _ => True) [(h0, .inr (ci, fs))]))
    (va_Qv (fun _ : Unit => True) (fun _ t => ∃ as : List Nat, va_P D vwCl (wd cA h0 as) t.heap ∧ va_K D vwCl [(cA, .int)] t ∧ va_D (va_A [(h0, .inr (ci, fs))] sz) (wd cA h0 as)) (va_A [(h0, .inr (ci, fs))] sz)) mc ms (va_A [(h0, .inr (ci, fs))] sz)
/-- the call of a constructor, the new cell the last one -/
theorem zk_init (K0 : zKc p s m args c D cA A cc own Ts nL) {pc idx cj q cells slots mc ms maxL na : Nat} {fs0 ex : List Value} {wr : va_W} {lv : List (Nat × Value)} {rest : List Value} {y : MethodName} {yw ws' : List Cond} {rm : Room} {wd : ClassId → Nat → List Nat → va_W} {bytes : ByteArray}
    (hct : zCt l y yw rm cj fs0 ex wd mc ms) (hyw : yw = Cond.code y bytes maxL none :: ws') (hG : GoodIn Ts yw) (hrc : rm.cells = mc) (hrs : rm.slots = ms) (hini : Cond.initialized y.cls ∈ Ts) (hyn : y.name = "<init>") (hml : Cond.methodLink own idx y ∈ Ts) (hims : Cond.instanceMethod y ∈ Ts)
    (hyd : y.cls ≠ "java/lang/invoke/MethodHandle" ∧ y.cls ≠ "java/lang/invoke/VarHandle" ∧ (parseMethodDescriptor y.desc).map (fun d => d.parameters.length) = some na) (hex : ex.length = na) (hR : rm.frames + 1 ≤ R.frames ∧ 8 + (maxL + 11) + rm.locals ≤ R.locals) (hct8 : (rest.map fun v => v.category).sum ≤ 8)
    (hd : decode cc pc = .ok (.invokespecial idx, 3)) (h1 : Nat.ble (cells + mc) R.cells = true) (h2 : Nat.ble (slots + ms) R.slots = true)
    (kk : ∀ as : List Nat, zK p l e R s m args below meth c Q D A nL lv (cells + mc) (slots + ms) (pc + 3) rest (wr ++ wd cA q as)) :
    zK p l e R s m args below meth c Q D A nL lv cells slots pc (ex.reverse ++ .ref q :: rest) (wr ++ [(q, .inr (cj, fs0))]) := by
  intro H locs ls hP hD hS hl0
  obtain ⟨hx, hb, hmL, hown, hts, hK, hA⟩ := K0
  have hPc := (va_P_app hP).2
  have hDc := (va_D_app hD).2.1
  have hFc := va_freeE hD hS hA
  refine va_callv (va_runI (As := ex) (rest := rest) ⟨hx, hb, hmL, hown, hts⟩ (hct D cA q H.size) (cwI na hts hG hyw hrc hrs (hts _ hini) (hts _ hml) (hts _ hims) hyn hyd hR) ⟨fun a U g mk q => by obtain ⟨q0, q1, qP, qK, qD⟩ := q; exact ⟨q0, q1, qP, va_K.moved (u := U) (U := U.calling g mk a) (Vm.Alike.refl U.vm) qK, qD⟩, fun U hU hW => ⟨rfl, by rw [hU], by rw [hU]; exact hPc, va_K.moved hW.alike hK, hDc.weaken (fun _ _ _ _ => trivial)⟩⟩ rfl hex hl0.1 rfl (lv_room hct8) hd ⟨Nat.le_of_ble_eq_true h1, Nat.le_of_ble_eq_true h2⟩) hS (fun q _ h => hFc q h) hFc (fun u t H1 locs ht hvm hw hB hz1 hk1 hS => ?_)
  obtain ⟨as, hP1, hK1, hD1⟩ := hB
  rw [ht] at hP1
  obtain ⟨hP, hD⟩ := va_joinE hP hD hk1 hFc hP1 hD1
  exact kk as H1 locs ls hP hD hS hl0
/-- this.f = new C() -/
theorem zk_obj (K0 : zKc p s m args c D cA A cc own Ts nL) (hin9 : meth.name = "<init>") {C : String} {T : u_T} {N : Nat} (ty : Nat → FieldType) (hty : ∀ k, k < N → parseFieldDescriptor (T k).2.2.1 = some (ty k)) (hnm : ∀ a, a < N → ∀ b, b < N → a ≠ b → (T a).2.1 ≠ (T b).2.1) (hin : ∀ w ∈ u_ws C T N, w ∈ Ts)
    {pc idx1 idx2 idx3 k ci cj h0 cells slots mc ms maxL z : Nat} {fs fs0 : List Value} {wr : va_W} {lv : List (Nat × Value)} {y : MethodName} {yw ws' : List Cond} {rm : Room} {wd : ClassId → Nat → List Nat → va_W} {bytes : ByteArray} {ws2 : Nat → List Nat → va_W}
    {C2 : String} {T2 : u_T} {N2 : Nat} (ty2 : Nat → FieldType) (hty2 : ∀ k, k < N2 → parseFieldDescriptor (T2 k).2.2.1 = some (ty2 k)) (hin2 : ∀ w ∈ u_ws C2 T2 N2, w ∈ Ts) (hc2 : vwCl[cj]? = some (C2, T2, N2)) (hcl : Cond.classLink own idx1 C2 ∈ Ts) (hinst : Cond.instantiable C2 N2 ∈ Ts) (hini2 : Cond.initialized C2 ∈ Ts) (hfs0 : ∀ j, j < N2 → defaultValue (ty2 j) = vp_V fs0 j)
    (hc : vwCl[ci]? = some (C, T, N)) (hk : k < N) (hlink : Cond.fieldLink own idx3 (T k).1 (T k).2.1 (T k).2.2.1 ∈ Ts) (hfin : (T k).2.2.2 = true) (hdecl : (T k).1 = own) (hd : parseFieldDescriptor (T k).2.2.1 = some (.object C2)) (hl : k < fs.length)
    (hct : zCt l y yw rm cj fs0 [] wd mc ms) (hyw : yw = Cond.code y bytes maxL none :: ws') (hG : GoodIn Ts yw) (hrc : rm.cells = mc) (hrs : rm.slots = ms) (hycl : y.cls = C2) (hyn : y.name = "<init>") (hml : Cond.methodLink own idx2 y ∈ Ts) (hims : Cond.instanceMethod y ∈ Ts)
    (hyd : y.cls ≠ "java/lang/invoke/MethodHandle" ∧ y.cls ≠ "java/lang/invoke/VarHandle" ∧ (parseMethodDescriptor y.desc).map (fun d => d.parameters.length) = some 0) (hR : rm.frames + 1 ≤ R.frames ∧ 8 + (maxL + 11) + rm.locals ≤ R.locals)
    (hde : zde cc pc [(.aload_n 0, 1), (.new idx1, 3), (.dup, 1), (.invokespecial idx2, 3), (.putfield idx3, 3)] z = true) (hlv : lv[0]? = some (0, .ref h0)) (h1 : Nat.ble (cells + 1 + mc) R.cells = true) (h2 : Nat.ble (slots + N2 + ms) R.slots = true)
    (hw : ∀ q as, (h0, .inr (ci, fs.set k (.ref q))) :: (wr ++ wd cA q as) = ws2 q as)
    (kk : ∀ q as, zK p l e R s m args below meth c Q D A nL lv (cells + 1 + mc) (slots + N2 + ms) z [] (ws2 q as)) : zK p l e R s m args below meth c Q D A nL lv cells slots pc [] ((h0, .inr (ci, fs)) :: wr) := by
  intro H locs ls hP hD hS hl0
  obtain ⟨hx, hb, hmL, hown, hts, hK, hA⟩ := id K0
  obtain ⟨d0, hde⟩ := zde_hd hde
  obtain ⟨d1, hde⟩ := zde_hd hde
  obtain ⟨d2, hde⟩ := zde_hd hde
  obtain ⟨d3, hde⟩ := zde_hd hde
  obtain ⟨d4, hde⟩ := zde_hd hde
  have hz := zde_nil hde
  have g1 := Nat.le_of_ble_eq_true h1
  have g2 := Nat.le_of_ble_eq_true h2
  refine lv_aload_n hx hb d0 rfl (lv_at hl0 0 hlv) ?_
  refine va_new (ci := cj) (fs := fs0) (C := C2) (T := T2) (N := N2) hx hb hts hin2 ty2 hty2 hown (hts _ hcl) (hts _ hinst) (hts _ hini2) hK hP hD hS hA hc2 hfs0 (by omega) (by omega) d1 (fun q H1 hP hD hS => ?_)
  refine lv_dup hx hb d2 rfl ?_
  refine zk_init (ex := []) (rest := [.ref q, .ref h0]) (wr := (h0, .inr (ci, fs)) :: wr) K0 hct hyw hG hrc hrs (by rw [hycl]; exact hini2) hyn hml hims hyd rfl hR (Nat.le_of_ble_eq_true rfl) d3 h1 h2 (fun as => ?_) H1 locs ls hP hD hS hl0
  intro H locs ls hP hD hS hl0
  refine va_putF (D := D) (ci := ci) (v := .ref q) (ty := .object C2) (C := C) (T := T) (N := N) hx hb hts hin ty hty hnm hown hK hP hD hS 0 rfl hc k hk (hts _ hlink) (fun _ h9 => h9) hfin hin9 hdecl hd rfl rfl hl d4 (fun H2 locs2 hP hD hS => ?_)
  have hP : va_P D vwCl (ws2 q as) H2 := by rw [← hw q as]; exact hP
  have hD : va_D A (ws2 q as) := by rw [← hw q as]; exact hD
  have := kk q as H2 locs2 ls hP hD hS hl0
  rw [← hz] at this
  exact this
/-- this.f = new C(this.g) -/
theorem zk_objT (K0 : zKc p s m args c D cA A cc own Ts nL) (hin9 : meth.name = "<init>") {C : String} {T : u_T} {N : Nat} (ty : Nat → FieldType) (hty : ∀ k, k < N → parseFieldDescriptor (T k).2.2.1 = some (ty k)) (hnm : ∀ a, a < N → ∀ b, b < N → a ≠ b → (T a).2.1 ≠ (T b).2.1) (hin : ∀ w ∈ u_ws C T N, w ∈ Ts)
    {pc idx1 idx2 idx3 idxg kg ag k ci cj h0 cells slots mc ms maxL z : Nat} {fs fs0 : List Value} {wr : va_W} {lv : List (Nat × Value)} {y : MethodName} {yw ws' : List Cond} {rm : Room} {wd : ClassId → Nat → List Nat → va_W} {bytes : ByteArray} {ws2 : Nat → List Nat → va_W}
    {C2 : String} {T2 : u_T} {N2 : Nat} (ty2 : Nat → FieldType) (hty2 : ∀ k, k < N2 → parseFieldDescriptor (T2 k).2.2.1 = some (ty2 k)) (hin2 : ∀ w ∈ u_ws C2 T2 N2, w ∈ Ts) (hc2 : vwCl[cj]? = some (C2, T2, N2)) (hcl : Cond.classLink own idx1 C2 ∈ Ts) (hinst : Cond.instantiable C2 N2 ∈ Ts) (hini2 : Cond.initialized C2 ∈ Ts) (hfs0 : ∀ j, j < N2 → defaultValue (ty2 j) = vp_V fs0 j)
    (hc : vwCl[ci]? = some (C, T, N)) (hk : k < N) (hlink : Cond.fieldLink own idx3 (T k).1 (T k).2.1 (T k).2.2.1 ∈ Ts) (hfin : (T k).2.2.2 = true) (hdecl : (T k).1 = own) (hd : parseFieldDescriptor (T k).2.2.1 = some (.object C2)) (hl : k < fs.length)
    (hkg : kg < N) (hlinkg : Cond.fieldLink own idxg (T kg).1 (T kg).2.1 (T kg).2.2.1 ∈ Ts) (hvg : fs[kg]? = some (.ref ag)) (hct : zCt l y yw rm cj fs0 [.ref ag] wd mc ms) (hyw : yw = Cond.code y bytes maxL none :: ws') (hG : GoodIn Ts yw) (hrc : rm.cells = mc) (hrs : rm.slots = ms) (hycl : y.cls = C2) (hyn : y.name = "<init>") (hml : Cond.methodLink own idx2 y ∈ Ts) (hims : Cond.instanceMethod y ∈ Ts)
    (hyd : y.cls ≠ "java/lang/invoke/MethodHandle" ∧ y.cls ≠ "java/lang/invoke/VarHandle" ∧ (parseMethodDescriptor y.desc).map (fun d => d.parameters.length) = some 1) (hR : rm.frames + 1 ≤ R.frames ∧ 8 + (maxL + 11) + rm.locals ≤ R.locals)
    (hde : zde cc pc [(.aload_n 0, 1), (.new idx1, 3), (.dup, 1), (.aload_n 0, 1), (.getfield idxg, 3), (.invokespecial idx2, 3), (.putfield idx3, 3)] z = true) (hlv : lv[0]? = some (0, .ref h0)) (h1 : Nat.ble (cells + 1 + mc) R.cells = true) (h2 : Nat.ble (slots + N2 + ms) R.slots = true)
    (hw : ∀ q as, (h0, .inr (ci, fs.set k (.ref q))) :: (wr ++ wd cA q as) = ws2 q as)
    (kk : ∀ q as, zK p l e R s m args below meth c Q D A nL lv (cells + 1 + mc) (slots + N2 + ms) z [] (ws2 q as)) : zK p l e R s m args below meth c Q D A nL lv cells slots pc [] ((h0, .inr (ci, fs)) :: wr) := by
  intro H locs ls hP hD hS hl0
  obtain ⟨hx, hb, hmL, hown, hts, hK, hA⟩ := id K0
  obtain ⟨d0, hde⟩ := zde_hd hde
  obtain ⟨d1, hde⟩ := zde_hd hde
  obtain ⟨d2, hde⟩ := zde_hd hde
  obtain ⟨d3, hde⟩ := zde_hd hde
  obtain ⟨d4, hde⟩ := zde_hd hde
  obtain ⟨d5, hde⟩ := zde_hd hde
  obtain ⟨d6, hde⟩ := zde_hd hde
  have hz := zde_nil hde
  have g1 := Nat.le_of_ble_eq_true h1
  have g2 := Nat.le_of_ble_eq_true h2
  refine lv_aload_n hx hb d0 rfl (lv_at hl0 0 hlv) ?_
  refine va_new (ci := cj) (fs := fs0) (C := C2) (T := T2) (N := N2) hx hb hts hin2 ty2 hty2 hown (hts _ hcl) (hts _ hinst) (hts _ hini2) hK hP hD hS hA hc2 hfs0 (by omega) (by omega) d1 (fun q H1 hP hD hS => ?_)
  refine lv_dup hx hb d2 rfl ?_
  refine lv_aload_n hx hb d3 rfl (lv_at hl0 0 hlv) ?_
  refine va_get (D := D) (ci := ci) (v := .ref ag) (C := C) (T := T) (N := N) hx hb hts hin hown hK hP 0 rfl hc kg hkg (hts _ hlinkg) (fun _ h9 => h9) hvg d4 ?_
  refine zk_init (ex := [.ref ag]) (rest := [.ref q, .ref h0]) (wr := (h0, .inr (ci, fs)) :: wr) K0 hct hyw hG hrc hrs (by rw [hycl]; exact hini2) hyn hml hims hyd rfl hR (Nat.le_of_ble_eq_true rfl) d5 h1 h2 (fun as => ?_) H1 locs ls hP hD hS hl0
  intro H locs ls hP hD hS hl0
  refine va_putF (D := D) (ci := ci) (v := .ref q) (ty := .object C2) (C := C) (T := T) (N := N) hx hb hts hin ty hty hnm hown hK hP hD hS 0 rfl hc k hk (hts _ hlink) (fun _ h9 => h9) hfin hin9 hdecl hd rfl rfl hl d6 (fun H2 locs2 hP hD hS => ?_)
  have hP : va_P D vwCl (ws2 q as) H2 := by rw [← hw q as]; exact hP
  have hD : va_D A (ws2 q as) := by rw [← hw q as]; exact hD
  have := kk q as H2 locs2 ls hP hD hS hl0
  rw [← hz] at this
  exact this
/-- this.f = a reference of local 1 -/
theorem zk_fld (K0 : zKc p s m args c D cA A cc own Ts nL) (hin9 : meth.name = "<init>") {C : String} {T : u_T} {N : Nat} (ty : Nat → FieldType) (hty : ∀ k, k < N → parseFieldDescriptor (T k).2.2.1 = some (ty k)) (hnm : ∀ a, a < N → ∀ b, b < N → a ≠ b → (T a).2.1 ≠ (T b).2.1) (hin : ∀ w ∈ u_ws C T N, w ∈ Ts)
    {pc idx k ci h0 a cells slots z : Nat} {fs : List Value} {wr : va_W} {lv : List (Nat × Value)} {ty1 : FieldType}
    (hc : vwCl[ci]? = some (C, T, N)) (hk : k < N) (hlink : Cond.fieldLink own idx (T k).1 (T k).2.1 (T k).2.2.1 ∈ Ts) (hfin : (T k).2.2.2 = true) (hdecl : (T k).1 = own) (hd : parseFieldDescriptor (T k).2.2.1 = some ty1) (hn : narrow ty1 (.ref a) = .ref a) (hfit : fits ty1 (.ref a) = true) (hl : k < fs.length)
    (hde : zde cc pc [(.aload_n 0, 1), (.aload_n 1, 1), (.putfield idx, 3)] z = true) (hlv : lv[0]? = some (0, .ref h0)) (hlv1 : lv[1]? = some (1, .ref a))
    (kk : zK p l e R s m args below meth c Q D A nL lv cells slots z [] ((h0, .inr (ci, fs.set k (.ref a))) :: wr)) : zK p l e R s m args below meth c Q D A nL lv cells slots pc [] ((h0, .inr (ci, fs)) :: wr) := by
  intro H locs ls hP hD hS hl0
  obtain ⟨hx, hb, hml, hown, hts, hK, hA⟩ := K0
  obtain ⟨d0, hde⟩ := zde_hd hde
  obtain ⟨d1, hde⟩ := zde_hd hde
  obtain ⟨d2, hde⟩ := zde_hd hde
  have hz := zde_nil hde
  refine lv_aload_n hx hb d0 rfl (lv_at hl0 0 hlv) ?_
  refine lv_aload_n hx hb d1 rfl (lv_at hl0 1 hlv1) ?_
  refine va_putF (D := D) (ci := ci) (v := .ref a) (ty := ty1) (C := C) (T := T) (N := N) hx hb hts hin ty hty hnm hown hK hP hD hS 0 rfl hc k hk (hts _ hlink) (fun _ h9 => h9) hfin hin9 hdecl hd hn hfit hl d2 (fun H2 locs2 hP hD hS => ?_)
  have := kk H2 locs2 ls hP hD hS hl0
  rw [← hz] at this
  exact this
/-- this.f = this.g.h -/
theorem zk_gg (K0 : zKc p s m args c D cA A cc own Ts nL) (hin9 : meth.name = "<init>") {C : String} {T : u_T} {N : Nat} (ty : Nat → FieldType) (hty : ∀ k, k < N → parseFieldDescriptor (T k).2.2.1 = some (ty k)) (hnm : ∀ a, a < N → ∀ b, b < N → a ≠ b → (T a).2.1 ≠ (T b).2.1) (hin : ∀ w ∈ u_ws C T N, w ∈ Ts)
    {C2 : String} {T2 : u_T} {N2 : Nat} (hin2 : ∀ w ∈ u_ws C2 T2 N2, w ∈ Ts) {pc idx idxg idxh k kg kh ci cj h0 q a b cells slots z : Nat} {fs fs2 : List Value} {wr : va_W} {lv : List (Nat × Value)} {ty1 : FieldType}
    (hc : vwCl[ci]? = some (C, T, N)) (hc2 : vwCl[cj]? = some (C2, T2, N2)) (hk : k < N) (hlink : Cond.fieldLink own idx (T k).1 (T k).2.1 (T k).2.2.1 ∈ Ts) (hfin : (T k).2.2.2 = true) (hdecl : (T k).1 = own) (hd : parseFieldDescriptor (T k).2.2.1 = some ty1) (hn : narrow ty1 (.ref a) = .ref a) (hfit : fits ty1 (.ref a) = true) (hl : k < fs.length)
    (hkg : kg < N) (hlinkg : Cond.fieldLink own idxg (T kg).1 (T kg).2.1 (T kg).2.2.1 ∈ Ts) (hvg : fs[kg]? = some (.ref b)) (hq : wr[q]? = some (b, .inr (cj, fs2))) (hkh : kh < N2) (hlinkh : Cond.fieldLink own idxh (T2 kh).1 (T2 kh).2.1 (T2 kh).2.2.1 ∈ Ts) (hvh : fs2[kh]? = some (.ref a))
    (hde : zde cc pc [(.aload_n 0, 1), (.aload_n 0, 1), (.getfield idxg, 3), (.getfield idxh, 3), (.putfield idx, 3)] z = true) (hlv : lv[0]? = some (0, .ref h0))
    (kk : zK p l e R s m args below meth c Q D A nL lv cells slots z [] ((h0, .inr (ci, fs.set k (.ref a))) :: wr)) : zK p l e R s m args below meth c Q D A nL lv cells slots pc [] ((h0, .inr (ci, fs)) :: wr) := by
  intro H locs ls hP hD hS hl0
  obtain ⟨hx, hb, hml, hown, hts, hK, hA⟩ := K0
  obtain ⟨d0, hde⟩ := zde_hd hde
  obtain ⟨d1, hde⟩ := zde_hd hde
  obtain ⟨d2, hde⟩ := zde_hd hde
  obtain ⟨d3, hde⟩ := zde_hd hde
  obtain ⟨d4, hde⟩ := zde_hd hde
  have hz := zde_nil hde
  refine lv_aload_n hx hb d0 rfl (lv_at hl0 0 hlv) ?_
  refine lv_aload_n hx hb d1 rfl (lv_at hl0 0 hlv) ?_
  refine va_get (D := D) (ci := ci) (v := .ref b) (C := C) (T := T) (N := N) hx hb hts hin hown hK hP 0 rfl hc kg hkg (hts _ hlinkg) (fun _ h9 => h9) hvg d2 ?_
  refine va_get (D := D) (ci := cj) (v := .ref a) (C := C2) (T := T2) (N := N2) hx hb hts hin2 hown hK hP (q + 1) (show ((h0, _) :: wr)[q + 1]? = _ by rw [List.getElem?_cons_succ]; exact hq) hc2 kh hkh (hts _ hlinkh) (fun _ h9 => h9) hvh d3 ?_
  refine va_putF (D := D) (ci := ci) (v := .ref a) (ty := ty1) (C := C) (T := T) (N := N) hx hb hts hin ty hty hnm hown hK hP hD hS 0 rfl hc k hk (hts _ hlink) (fun _ h9 => h9) hfin hin9 hdecl hd hn hfit hl d4 (fun H2 locs2 hP hD hS => ?_)
  have := kk H2 locs2 ls hP hD hS hl0
  rw [← hz] at this
  exact this
/-- int i = 0 -/
theorem zk_ini (K0 : zKc p s m args c D cA A cc own Ts nL) {pc z cells slots : Nat} {ws : va_W} {lv lv2 : List (Nat × Value)} (hn : 1 < nL) (hde : zde cc pc [(.iconst 0, 1), (.istore_n 1, 1)] z = true) (hlv : (1, Value.int (nI 0)) :: lv.filter (fun q => !(q.1 == 1) && !(q.1 + 1 == 1 && q.2.category == 2)) = lv2)
    (kk : zK p l e R s m args below meth c Q D A nL lv2 cells slots z [] ws) : zK p l e R s m args below meth c Q D A nL lv cells slots pc [] ws := by
  intro H locs ls hP hD hS hl0
  obtain ⟨hx, hb, -⟩ := K0
  obtain ⟨d0, hde⟩ := zde_hd hde
  obtain ⟨d1, hde⟩ := zde_hd hde
  have hz := zde_nil hde
  refine lv_iconst (v := nI 0) hx hb d0 (by decide) ?_
  refine lv_istore_n (i := 1) hx hb d1 rfl hl0 hn hlv (fun ls hl => ?_)
  have := kk H locs ls hP hD hS hl
  rw [← hz] at this
  exact this
/-- i++, and back -/
theorem zk_inc (K0 : zKc p s m args c D cA A cc own Ts nL) {pc z cells slots j tgt : Nat} {off : Int} {ws : va_W} {h0 : Nat} (hn : 1 < nL) (hde : zde cc pc [(.iinc 1 1, 3), (.goto off, 3)] z = true) (ht : ((pc + 3 : Nat) : Int) + off = (tgt : Int))
    (kk : zK p l e R s m args below meth c Q D A nL [(1, .int (nI (j + 1))), (0, .ref h0)] cells slots tgt [] ws) : zK p l e R s m args below meth c Q D A nL [(1, .int (nI j)), (0, .ref h0)] cells slots pc [] ws := by
  intro H locs ls hP hD hS hl0
  obtain ⟨hx, hb, -⟩ := K0
  obtain ⟨d0, hde⟩ := zde_hd hde
  obtain ⟨d1, hde⟩ := zde_hd hde
  refine lv_iinc (v := nI (j + 1)) (lv' := [(1, .int (nI (j + 1))), (0, .ref h0)]) hx hb d0 hl0 (k := 0) rfl (nI_1 j) hn rfl (fun ls hl => ?_)
  exact lv_goto hx hb d1 ht (kk H locs ls hP hD hS hl)
theorem zk_ge (K0 : zKc p s m args c D cA A cc own Ts nL) {pc z cells slots j n len tgt : Nat} {i : Instr} {off : Int} {ws : va_W} {h0 : Nat} (hde : zde cc pc [(.iload_n 1, 1), (i, len), (.if_icmp .ge off, 3)] z = true) (hpu : zpu i len n = true) (hj : j ≤ n) (ht : ((pc + 1 + len : Nat) : Int) + off = (tgt : Int))
    (k1 : j < n → zK p l e R s m args below meth c Q D A nL [(1, .int (nI j)), (0, .ref h0)] cells slots z [] ws) (k2 : j = n → zK p l e R s m args below meth c Q D A nL [(1, .int (nI j)), (0, .ref h0)] cells slots tgt [] ws) : zK p l e R s m args below meth c Q D A nL [(1, .int (nI j)), (0, .ref h0)] cells slots pc [] ws := by
  intro H locs ls hP hD hS hl0
  obtain ⟨hx, hb, -⟩ := K0
  obtain ⟨d0, hde⟩ := zde_hd hde
  obtain ⟨d1, hde⟩ := zde_hd hde
  obtain ⟨d2, hde⟩ := zde_hd hde
  have hz := zde_nil hde
  refine lv_iload_n hx hb d0 rfl (lv_at hl0 0 rfl) ?_
  refine zK_push hx hb hpu d1 (fun hn => ?_)
  refine lv_icmp_ge hx hb d2 ht (fun h => ?_) (fun h => ?_)
  · exact k2 (by rw [nI_leI (by omega) (by omega)] at h; omega) H locs ls hP hD hS hl0
  · have := k1 (by rw [nI_leI (by omega) (by omega)] at h; omega) H locs ls hP hD hS hl0
    rw [← hz] at this
    exact this
theorem zk_gt (K0 : zKc p s m args c D cA A cc own Ts nL) {pc z cells slots j n len tgt : Nat} {i : Instr} {off : Int} {ws : va_W} {h0 : Nat} (hde : zde cc pc [(.iload_n 1, 1), (i, len), (.if_icmp .gt off, 3)] z = true) (hpu : zpu i len n = true) (hj : j ≤ n + 1) (ht : ((pc + 1 + len : Nat) : Int) + off = (tgt : Int))
    (k1 : j < n + 1 → zK p l e R s m args below meth c Q D A nL [(1, .int (nI j)), (0, .ref h0)] cells slots z [] ws) (k2 : j = n + 1 → zK p l e R s m args below meth c Q D A nL [(1, .int (nI j)), (0, .ref h0)] cells slots tgt [] ws) : zK p l e R s m args below meth c Q D A nL [(1, .int (nI j)), (0, .ref h0)] cells slots pc [] ws := by
  intro H locs ls hP hD hS hl0
  obtain ⟨hx, hb, -⟩ := K0
  obtain ⟨d0, hde⟩ := zde_hd hde
  obtain ⟨d1, hde⟩ := zde_hd hde
  obtain ⟨d2, hde⟩ := zde_hd hde
  have hz := zde_nil hde
  refine lv_iload_n hx hb d0 rfl (lv_at hl0 0 rfl) ?_
  refine zK_push hx hb hpu d1 (fun hn => ?_)
  refine lv_icmp_gt hx hb d2 ht (fun h => ?_) (fun h => ?_)
  · exact k2 (by rw [nI_ltI (by omega) (by omega)] at h; omega) H locs ls hP hD hS hl0
  · have := k1 (by rw [nI_ltI (by omega) (by omega)] at h; omega) H locs ls hP hD hS hl0
    rw [← hz] at this
    exact this
/-- i < this.f.length -/
theorem zk_al (K0 : zKc p s m args c D cA A cc own Ts nL) {C : String} {T : u_T} {N : Nat} (hin : ∀ w ∈ u_ws C T N, w ∈ Ts) {pc z cells slots j n idx k ci q a tgt : Nat} {f : Nat → Int32} {off : Int} {fs : List Value} {wr : va_W} {h0 : Nat}
    (hc : vwCl[ci]? = some (C, T, N)) (hk : k < N) (hlink : Cond.fieldLink own idx (T k).1 (T k).2.1 (T k).2.2.1 ∈ Ts) (hv : fs[k]? = some (.ref a)) (hq : wr[q]? = some (a, .inl (cA, n, .inl f))) (hde : zde cc pc [(.iload_n 1, 1), (.aload_n 0, 1), (.getfield idx, 3), (.arraylength, 1), (.if_icmp .ge off, 3)] z = true) (hn : n < 100000) (hj : j ≤ n) (ht : ((pc + 1 + 1 + 3 + 1 : Nat) : Int) + off = (tgt : Int))
    (k1 : j < n → zK p l e R s m args below meth c Q D A nL [(1, .int (nI j)), (0, .ref h0)] cells slots z [] ((h0, .inr (ci, fs)) :: wr)) (k2 : j = n → zK p l e R s m args below meth c Q D A nL [(1, .int (nI j)), (0, .ref h0)] cells slots tgt [] ((h0, .inr (ci, fs)) :: wr)) : zK p l e R s m args below meth c Q D A nL [(1, .int (nI j)), (0, .ref h0)] cells slots pc [] ((h0, .inr (ci, fs)) :: wr) := by
  intro H locs ls hP hD hS hl0
  obtain ⟨hx, hb, hml, hown, hts, hK, hA⟩ := K0
  obtain ⟨d0, hde⟩ := zde_hd hde
  obtain ⟨d1, hde⟩ := zde_hd hde
  obtain ⟨d2, hde⟩ := zde_hd hde
  obtain ⟨d3, hde⟩ := zde_hd hde
  obtain ⟨d4, hde⟩ := zde_hd hde
  have hz := zde_nil hde
  refine lv_iload_n hx hb d0 rfl (lv_at hl0 0 rfl) ?_
  refine lv_aload_n hx hb d1 rfl (lv_at hl0 1 rfl) ?_
  refine va_get (D := D) (ci := ci) (v := .ref a) (C := C) (T := T) (N := N) hx hb hts hin hown hK hP 0 rfl hc k hk (hts _ hlink) (fun _ h9 => h9) hv d2 ?_
  refine va_alen hx hb hK hP (q + 1) 0 (show ((h0, _) :: wr)[q + 1]? = _ by rw [List.getElem?_cons_succ]; exact hq) rfl (v := nI n) rfl d3 ?_
  refine lv_icmp_ge hx hb d4 ht (fun h => ?_) (fun h => ?_)
  · exact k2 (by rw [nI_leI (by omega) (by omega)] at h; omega) H locs ls hP hD hS hl0
  · have := k1 (by rw [nI_leI (by omega) (by omega)] at h; omega) H locs ls hP hD hS hl0
    rw [← hz] at this
    exact this
/-- this.f[i] = 1 -/
theorem zk_one (K0 : zKc p s m args c D cA A cc own Ts nL) {C : String} {T : u_T} {N : Nat} (hin : ∀ w ∈ u_ws C T N, w ∈ Ts) {pc z cells slots j n idx k ci q a : Nat} {f : Nat → Int32} {fs : List Value} {wr : va_W} {h0 : Nat}
    (hc : vwCl[ci]? = some (C, T, N)) (hk : k < N) (hlink : Cond.fieldLink own idx (T k).1 (T k).2.1 (T k).2.2.1 ∈ Ts) (hv : fs[k]? = some (.ref a)) (hq : wr[q]? = some (a, .inl (cA, n, .inl f))) (hde : zde cc pc [(.aload_n 0, 1), (.getfield idx, 3), (.iload_n 1, 1), (.iconst 1, 1), (.iastore, 1)] z = true) (hn : n < 100000) (hj : j < n)
    (kk : zK p l e R s m args below meth c Q D A nL [(1, .int (nI j)), (0, .ref h0)] cells slots z [] ((h0, .inr (ci, fs)) :: wr.set q (a, .inl (cA, n, .inl (upd f j 1))))) : zK p l e R s m args below meth c Q D A nL [(1, .int (nI j)), (0, .ref h0)] cells slots pc [] ((h0, .inr (ci, fs)) :: wr) := by
  intro H locs ls hP hD hS hl0
  obtain ⟨hx, hb, hml, hown, hts, hK, hA⟩ := K0
  obtain ⟨d0, hde⟩ := zde_hd hde
  obtain ⟨d1, hde⟩ := zde_hd hde
  obtain ⟨d2, hde⟩ := zde_hd hde
  obtain ⟨d3, hde⟩ := zde_hd hde
  obtain ⟨d4, hde⟩ := zde_hd hde
  have hz := zde_nil hde
  refine lv_aload_n hx hb d0 rfl (lv_at hl0 1 rfl) ?_
  refine va_get (D := D) (ci := ci) (v := .ref a) (C := C) (T := T) (N := N) hx hb hts hin hown hK hP 0 rfl hc k hk (hts _ hlink) (fun _ h9 => h9) hv d1 ?_
  refine lv_iload_n hx hb d2 rfl (lv_at hl0 0 rfl) ?_
  refine lv_iconst (v := 1) hx hb d3 (by decide) ?_
  refine va_iast (i := nI j) (x := 1) hx hb hK hP hD hS (q + 1) 0 (show ((h0, _) :: wr)[q + 1]? = _ by rw [List.getElem?_cons_succ]; exact hq) rfl (vp_in_nI hj (by omega)) d4 (fun H1 locs1 hP hD hS => ?_)
  rw [List.set_cons_succ, nI_clamp (by omega)] at hP hD
  have := kk H1 locs1 ls hP hD hS hl0
  rw [← hz] at this
  exact this
/-- only an array's first n places count -/
theorem zk_fun {q a n cells slots pc : Nat} {lv : List (Nat × Value)} {st : List Value} {f g : Nat → Int32} {ws : va_W} (hq : ws[q]? = some (a, .inl (cA, n, .inl f))) (hfg : ∀ j, j < n → f j = g j) (kk : zK p l e R s m args below meth c Q D A nL lv cells slots pc st (ws.set q (a, .inl (cA, n, .inl g)))) : zK p l e R s m args below meth c Q D A nL lv cells slots pc st ws := by
  intro H locs ls hP hD hS hl0
  refine kk H locs ls (fun k x hk => ?_) (hD.set hq) hS hl0
  by_cases hkq : k = q
  · subst hkq
    rw [List.getElem?_set_self (List.getElem?_eq_some_iff.mp hq).1] at hk
    cases hk
    have h3 : H[a]? = some (vp_cell cA (n, .inl f)) := hP k _ hq
    show H[a]? = some (vp_cell cA (n, .inl g))
    rw [h3, vp_cell_i, vp_cell_i]
    unfold arrV
    congr 3
    funext j
    exact congrArg Value.int (hfg j.val j.isLt)
  · rw [List.getElem?_set_ne (Ne.symm hkq)] at hk
    exact hP k x hk
theorem zAd_A {ad : Nat → Nat} {Λ : List zE} {σ : zT} {sz q : Nat} : zAd ad Λ sz q ↔ va_A (zW cA ad σ 0 Λ) sz q := by
  constructor
  · rintro (⟨k, hk, rfl⟩ | h)
    · obtain ⟨e, he⟩ : ∃ e, zo Λ k = some e := by rw [zo_get]; exact ⟨_, List.getElem?_eq_getElem hk⟩
      exact Or.inl ⟨k, zEc cA ad σ e, by rw [zW_get, he]; simp⟩
    · exact Or.inr h
  · rintro (⟨k, e, h⟩ | h)
    · rw [zW_get] at h
      cases hz : zo Λ k with
      | none => rw [hz] at h; cases h
      | some u =>
        rw [hz] at h
        have : (q, e) = (ad (0 + k), zEc cA ad σ u) := (Option.some.inj h).symm
        exact Or.inl ⟨k, zo_lt hz, by rw [(Prod.mk.inj this).1]; simp⟩
    · exact Or.inr h
theorem zK.swap {lv : List (Nat × Value)} {cells slots pc : Nat} {st : List Value} {w1 w2 : va_W} (k : zK p l e R s m args below meth c Q D A nL lv cells slots pc st (w2 ++ w1)) : zK p l e R s m args below meth c Q D A nL lv cells slots pc st (w1 ++ w2) := by
  intro H locs ls hP hD hS hl
  obtain ⟨h1, h2⟩ := va_P_app hP
  obtain ⟨h3, h4, h5⟩ := va_D_app hD
  exact k H locs ls (h2.app h1) (h4.app h3 (fun i j x y a b q => h5 j i y x b a q.symm)) hS hl
/-- a call of the layer's contract, its cells the last ones -/
theorem zk_callz (K0 : zKc p s m args c D cA A cc own Ts nL) {pc idx n cells slots : Nat} {wr : va_W} {lv : List (Nat × Value)} {rest : List Value} {Λ : List zE} {shp : List (Nat × Nat)} {ad : Nat → Nat} {σ σ2 : zT} {v : zV} {av : List zV} {y : MethodName} {yw : List Cond} {rm : Room} {r : Option zV}
    (hM : zD l y yw rm Λ shp (v :: av) σ r σ2) (hcw : zCw true Ts own R idx y yw rm n) (hrc : zrcv Λ y.cls v) (hσ : zok shp σ) (hav : zokT (v :: av)) (hn : av.length = n) (hct8 : (rest.map fun v => v.category).sum ≤ 8) (hd : decode cc pc = .ok (.invokevirtual idx, 3)) (h1 : cells ≤ R.cells) (h2 : slots ≤ R.slots)
    (kk : zok shp σ2 → zK p l e R s m args below meth c Q D A nL lv cells slots (pc + 3) ((r.map (zc ad)).toList ++ rest) (wr ++ zW cA ad σ2 0 Λ)) :
    zK p l e R s m args below meth c Q D A nL lv cells slots pc ((av.map (zc ad)).reverse ++ zc ad v :: rest) (wr ++ zW cA ad σ 0 Λ) := by
  intro H locs ls hP hD hS hl
  obtain ⟨hx, hb, hml, hown, hts, hK, hA⟩ := K0
  obtain ⟨bytes, maxL, ret, ws2, w1, w2, w3, w4, w5, w6⟩ := hcw
  obtain ⟨hv1, o, T, N, hv2, hv3⟩ := hrc
  obtain ⟨tv, xv⟩ := v
  have hv1 : tv = 2 := hv1
  subst hv1
  have hPc := (va_P_app hP).2
  have hDc := (va_D_app hD).2.1
  have hFc := va_freeE hD hS hA
  have hF : ∀ q, zAd ad Λ H.size q → A q := fun q h => hFc q (zAd_A.mp h)
  have he : (zW cA ad σ 0 Λ)[xv.toNat]? = some (ad xv.toNat, .inr (o.1, o.2.map (zF ad σ))) := by
    rw [zW_get, hv2]
    simp [zEc]
  have hrun := va_runV (As := av.map (zc ad)) (rest := rest) (C := y.cls) (b := ad xv.toNat) (own := own) (H := H) (locs := locs) (cells := cells) (slots := slots) (p := p) (l := l) (e := e) (R := R) (below := below) (meth := meth) (index := idx) (g := F0 m pc ls ((av.map (zc ad)).reverse ++ .ref (ad xv.toNat) :: rest))
    (show CallFix p m c cc nL s args Ts own from ⟨hx, hb, hml, hown, hts⟩) (hM D cA ad H.size) (cwV n hts w6 w1 w2 w3 ⟨rfl, w4⟩ w5)
    ⟨fun a U g mk q => by
        obtain ⟨a1, a2, a3, a4, a5, a6, a7⟩ := q
        exact ⟨a1, a2, a3, a4, a5, va_K.moved (u := U) (U := U.calling g mk a) (Vm.Alike.refl U.vm) a6, a7⟩, va_recv hK hPc hv3 he, fun U hU hW => ⟨by simp [zc], hσ, hav, by rw [hU], by rw [hU]; exact hPc, va_K.moved hW.alike hK, hDc.weaken (fun _ _ _ _ => trivial)⟩⟩
    rfl (by rw [List.length_map]; exact hn) hl.1 rfl (lv_room hct8) hd ⟨h1, h2⟩
  intro TT hT X
  obtain ⟨v', st₀, t, T', L', h0, X', hL, e1, e2, ⟨hv, ok2, okr, hP2, hK2, hD2, hz, hk⟩, st⟩ := hrun TT hT X
  cases hv
  rw [h0] at hz hk
  have hS3 : va_S A s.heap T'.heap (locs ++ L') := by
    refine ⟨Nat.le_trans hS.1 (by rw [e1]; exact hz), fun q h1 h2 => ?_, fun q hq => ?_⟩
    · rw [e1, hk q (Nat.lt_of_lt_of_le h1 hS.1) (fun z => h2 (hF q z))]
      exact hS.2.1 q h1 h2
    · rcases List.mem_append.mp hq with h | h
      · exact hS.2.2 q h
      · exact hF _ (hL q h)
  obtain ⟨hP3, hD3⟩ := va_joinE (w1 := zW cA ad σ2 0 Λ) (H1 := T'.heap) hP hD (fun q h1 h2 => by rw [e1]; exact hk q h1 (fun z => h2 (zAd_A.mp z))) hFc (by rw [e1]; exact hP2) (hD2.weaken (fun _ q _ h => zAd_A.mp h))
  obtain ⟨t2, a1, b1⟩ := kk ok2 T'.heap (locs ++ L') ls hP3 hD3 hS3 hl T' rfl X'
  exact ⟨t2, st t2 a1, b1⟩
end ZK
theorem zCt_of {l : Launch} {y : MethodName} {ws ws2 : List Cond} {rm : Room} {ci : Nat} {fs ex : List Value} {wd : ClassId → Nat → List Nat → va_W} {mc ms : Nat} {cc : ByteArray} {nL idx : Nat}
    (hy : plainName y.cls = true) (hw : ws = Cond.code y cc nL none :: ws2) (hyn : y.name = "<init>") (hlen : ∀ h0, (lg_sl (Value.ref h0 :: ex)).length ≤ nL) (hoi : Cond.methodLink y.cls idx objectInit ∈ ws) (hoi2 : Cond.instanceMethod objectInit ∈ ws) (hoi3 : Cond.code objectInit ⟨#[0xb1]⟩ 1 none ∈ ws)
    (hr1 : 1 ≤ rm.frames) (hr2 : 12 ≤ rm.locals) (hde : zde cc 0 [(.aload_n 0, 1), (.invokespecial idx, 3)] 4 = true)
    (main : ∀ {p : Program} {e : Env} {s : State} {m : MethodId} {below : List Frame} {meth : Method} {c : Code} {args : Array Value} {Q : State → Prop} {D : va_G} {cA : ClassId} {A : Nat → Prop} {h0 : Nat}, zKc p s m args c D cA A cc y.cls ws nL → meth.name = "<init>" →
      (∀ (as : List Nat) {pc cells slots : Nat} {lv : List (Nat × Value)}, decode cc pc = .ok (.return_, 1) → Nat.ble cells mc = true → Nat.ble slots ms = true → zK p l e rm s m args below meth c Q D A nL lv cells slots pc [] (wd cA h0 as)) →
      zK p l e rm s m args below meth c Q D A nL (lv_args 0 (.ref h0 :: ex)) 0 0 4 [] [(h0, .inr (ci, fs))]) : zCt l y ws rm ci fs ex wd mc ms := by
  intro D cA h0 sz
  refine Met.ofW (cc := cc) (maxL := nL) (ret := none) hy hw ?_
  intro p e s m args below meth c s₁ B hml hv
  obtain ⟨rfl, hsz, hP, hK, hD0⟩ := hv
  have hx := B.exec
  have hb := B.bytes
  have hr := B.returns
  have hts := atoms_spec (ws := ws) B.pre
  have hown : s.vm.findClass y.cls = some m.cls := findClass_of_methodNamed B.named
  have hlocks := B.notSynchronized
  have hin : meth.name = "<init>" := (name_of_methodNamed B.named B.method).1.trans hyn
  subst hsz
  have hD := hD0.self (sz := s.heap.size)
  generalize hAe : va_A [(h0, .inr (ci, fs))] s.heap.size = A at hD ⊢
  have hA : ∀ q : Nat, s.heap.size ≤ q → A q := fun q h => by rw [← hAe]; exact Or.inr h
  have hl := lv_entry (.ref h0 :: ex) (n := nL) (hlen h0)
  rw [lg_entry_eq]
  generalize (lg_sl (Value.ref h0 :: ex) ++ List.replicate (nL - (lg_sl (Value.ref h0 :: ex)).length) Slot.unset).toArray = ls at hl ⊢
  obtain ⟨d0, hde⟩ := zde_hd hde
  obtain ⟨d1, hde⟩ := zde_hd hde
  have hl0 : ls[0]? = some (.val (.ref h0)) := lv_at hl 0 rfl
  refine lv_aload_n hx hb d0 rfl hl0 ?_
  refine W.objInit hx hb hown (hts _ hoi) (hts _ hoi2) (hts _ hoi3) rfl (by rw [hml]; exact hl.1) rfl d1 hr1 (by show _ ≤ rm.locals; simpa using hr2) ?_
  refine W.eq (g2 := F0 m 4 ls []) rfl ?_
  refine main (D := D) (cA := cA) (A := A) (h0 := h0) ⟨hx, hb, hml, hown, hts, hK, hA⟩ hin (fun as {pc cells slots lv} hdr g1 g2 => ?_) _ _ _ hP hD va_S.rf hl
  intro H locs ls hP hD hS hl
  refine W.widen (k := mc) (n := ms) (Nat.le_of_ble_eq_true g1) (Nat.le_of_ble_eq_true g2) ?_
  exact W.vret hx hb hr (fun t ht hW => ⟨⟨(), rfl, trivial, as, by rw [ht]; exact hP, va_K.moved hW.alike hK, hD⟩, hS.F ht⟩) hS.2.2 hdr hlocks
