theorem zenl_ok : ∀ (av : List zV), zokT av → zokL (zenl av)
  | [], _ => fun i v h => by cases h
  | v :: r, hk => fun i w h => by
    cases i with
    | zero =>
      have : v = w := by simpa [zenl, zg] using h
      rw [← this]
      exact zokT_hd hk
    | succ i =>
      simp only [zenl, zg] at h
      cases hc : zc1 v.1 with
      | true =>
        rw [hc] at h
        exact zenl_ok r (zokT_tl hk) i w h
      | false =>
        rw [hc] at h
        cases i with
        | zero => simp [zg] at h
        | succ i => exact zenl_ok r (zokT_tl hk) i w h
theorem zen_ok (av : List zV) (n : Nat) (h : zokT av) : zokL (zen n av) := fun i v hz => zenl_ok av h i v (zpad_get n _ i v hz)
theorem zsl_len (ad : Nat → Nat) (av : List zV) : (lg_sl (av.map (zc ad))).length = zct av := by
  induction av with
  | nil => rfl
  | cons v r ih =>
    have e : lg_sl ((v :: r).map (zc ad)) = (if (zc ad v).category = 2 then [.val (zc ad v), .second] else [.val (zc ad v)]) ++ lg_sl (r.map (zc ad)) := rfl
    rw [e, List.length_append, ih, zcat]
    cases hc : zc1 v.1 <;> simp [zct, hc]
set_option maxHeartbeats 4000000 in
theorem zD_of {l : Launch} {y : MethodName} {ws ws2 : List Cond} {rm : Room} {Λ : List zE} {shp : List (Nat × Nat)} {cc : ByteArray} {nL : Nat} {ret : Option FieldType} {B : zB} {E : zEnv} {av : List zV} {σ σ0 : zT} {r0 : Option zV}
    (hy : plainName y.cls = true) (hw : ws = Cond.code y cc nL ret :: ws2) (hΛ : zLok Λ shp) (hE : zEok ws y.cls E) (hB : zBok cc nL B = true) (hm : E.2.2.2 = [] ∨ (1 ≤ rm.frames ∧ 21 ≤ rm.locals)) (hav : Nat.ble (zct av) nL = true)
    (main : ∀ S, zR l B Λ shp E ws y.cls rm ret r0 σ0 S → S 0 (zen nL av) [] σ) : zD l y ws rm Λ shp av σ r0 σ0 := by
  intro D cA ad sz
  refine Met.ofW (cc := cc) (maxL := nL) (ret := ret) hy hw ?_
  intro p e s m args below meth c s₁ Bd hml hv
  obtain ⟨rfl, ok, okav, hsz, hP, hK, hD0⟩ := hv
  have hx := Bd.exec
  have hb := Bd.bytes
  have hr := Bd.returns
  have hts := atoms_spec (ws := ws) Bd.pre
  have hown : s.vm.findClass y.cls = some m.cls := findClass_of_methodNamed Bd.named
  have hlocks := Bd.notSynchronized
  subst hsz
  have hD : va_D (zAd ad Λ s.heap.size) (zW cA ad σ 0 Λ) := hD0.weaken (fun k q hk _ => by
    rw [zW_get] at hk
    cases hz : zo Λ k with
    | none => rw [hz] at hk; cases hk
    | some u =>
      rw [hz] at hk
      have : q = (ad (0 + k), zEc cA ad σ u) := (Option.some.inj hk).symm
      rw [this]
      exact Or.inl ⟨k, zo_lt hz, by simp⟩)
  have hA : ∀ q : Nat, s.heap.size ≤ q → zAd ad Λ s.heap.size q := fun q h => Or.inr h
  have C0 : zC p (headSpec ws rm).room s m (av.map (zc ad)).toArray c D cA (zAd ad Λ s.heap.size) Λ shp cc y.cls nL ws E := ⟨hx, hb, hml, hown, hts, hK, hA, hΛ, hE, hm⟩
  have hl := lv_entry (av.map (zc ad)) (n := nL) (by rw [zsl_len]; exact Nat.le_of_ble_eq_true hav)
  rw [lg_entry_eq]
  refine main (zS p l e (headSpec ws rm).room s m (av.map (zc ad)).toArray below meth c (MQ below (zQ D cA ad (zAd ad Λ s.heap.size) Λ shp r0 σ0) (av.map (zc ad)).toArray s 0 0 (zAd ad Λ s.heap.size)) D cA ad (zAd ad Λ s.heap.size) Λ shp nL) ?_ ok (zen_ok av nL okav) (fun v hv => by simp at hv) s.heap [] _ hP hD va_S.rf ⟨hl.1, hl.2.1, fun q hq => hl.2.2 q (zen_sub ad av nL 0 q hq)⟩
  have fin : ∀ (r : Option zV) (H : Heap) (locs : List Loc), zok shp σ0 → (∀ v, r = some v → zokV v) → va_P D vwCl (zW cA ad σ0 0 Λ) H → va_D (zAd ad Λ s.heap.size) (zW cA ad σ0 0 Λ) → va_S (zAd ad Λ s.heap.size) s.heap H locs → ∀ t : State, t.heap = H → s.WarmedH t.vm → zQ D cA ad (zAd ad Λ s.heap.size) Λ shp r σ0 (av.map (zc ad)).toArray s (.returned (r.map (zc ad))) t := by
    intro r H locs g1 g2 hP hD hS t ht hW
    exact ⟨rfl, g1, g2, by rw [ht]; exact hP, va_K.moved hW.alike hK, hD, hS.F ht⟩
  refine ⟨?_, ?_, ?_, ?_, ?_, ?_, ?_, ?_, ?_, ?_, ?_⟩
  · intro wr j pc blk pcT i n L st σ ps L2 st2 σ2 hj hz hp k
    exact zxs_ok C0 blk (zBok_at hB hj).1 hz hp k
  · intro wr j pc blk pcT o t L st σ ps L2 st2 σ2 hj hz ht hp k
    refine zxs_ok C0 blk (zBok_at hB hj).1 hz hp ?_
    intro q1 q2 q3 H locs ls hP hD hS hl
    exact lv_goto hx hb ((zBok_at hB hj).2 rfl) (zto_eq ht) (k q1 q2 q3 H locs ls hP hD hS hl)
  · intro wr j pc blk pcT i t1 t2 q L st σ ps L2 st2 σ2 hj hz hp k1 k2
    obtain ⟨ps1, st1, sw, gs, t, h1, h2, h3, rfl, rfl, rfl⟩ := zbif_inv hz
    obtain ⟨g1, g2⟩ := zcj_append hp
    exact zxs_ok C0 blk (zBok_at hB hj).1 h1 g1 (zs_br C0 ((zBok_at hB hj).2 rfl) h2 h3 g2 k1 k2)
  · intro wr j n pc blk pcT idx L st σ ps v av L2 rest σ2 y2 ws2 rm2 r σ3 hj hz hp hct hM hcw hrc k
    obtain ⟨ps1, qs, st1, h1, h2, rfl⟩ := zbc_inv hz
    obtain ⟨g1, g2⟩ := zcj_append hp
    exact zxs_ok C0 blk (zBok_at hB hj).1 h1 g1 (zs_callV C0 ((zBok_at hB hj).2 rfl) h2 g2 hct hM hcw hrc k)
  · intro wr j n pc blk pcT idx L st σ ps av L2 rest σ2 y2 ws2 rm2 r σ3 hj hz hp hct hM hcw k
    obtain ⟨ps1, qs, st1, h1, h2, rfl⟩ := zbc_inv hz
    obtain ⟨g1, g2⟩ := zcj_append hp
    exact zxs_ok C0 blk (zBok_at hB hj).1 h1 g1 (zs_callS C0 ((zBok_at hB hj).2 rfl) h2 g2 hct hM hcw k)
  · intro wr j pc blk pcT L st σ ps L2 hret hr0 hj hz hp
    refine zxs_ok C0 blk (zBok_at hB hj).1 hz hp ?_
    intro q1 q2 q3 H locs ls hP hD hS hl
    subst hr0
    exact W.vret hx hb (hr.trans hret) (fin none H locs q1 (fun v h => by cases h) hP hD hS) hS.2.2 ((zBok_at hB hj).2 rfl) hlocks
  · intro wr j pc blk pcT L st σ ps L2 v w qs hret hj hz hv hnm hr0 hp
    obtain ⟨g1, g2⟩ := zcj_append hp
    refine zxs_ok C0 blk (zBok_at hB hj).1 hz g1 ?_
    intro q1 q2 q3 H locs ls hP hD hS hl
    subst hr0
    have hw1 : qs = (znrm wr v).1 := by rw [hnm]
    have hw2 : w = (znrm wr v).2 := by rw [hnm]
    subst hw1
    subst hw2
    have h1 := znrm_ok (zokT_hd q3) g2
    have e1 : zc ad (znrm wr v).2 = .int (Int32.ofInt v.2) := by rw [znrm_c]; exact zc_i hv ad v.2
    have h2 := fin (some (znrm wr v).2) H locs q1 (fun w h => by cases h; exact h1) hP hD hS
    simp only [Option.map_some, e1] at h2
    have e2 : [v].map (zc ad) = [.int (Int32.ofInt v.2)] := by rw [← e1, znrm_c]; rfl
    rw [e2]
    exact W.iret hx hb (hr.trans hret) h2 hS.2.2 ((zBok_at hB hj).2 rfl) hlocks
  · intro wr j pc blk pcT L st σ ps L2 x hret hj hz hr0 hp hbit
    refine zxs_ok C0 blk (zBok_at hB hj).1 hz hp ?_
    intro q1 q2 q3 H locs ls hP hD hS hl
    subst hr0
    have h2 := fin (some (0, x)) H locs q1 (fun w h => by cases h; exact zokT_hd q3) hP hD hS
    refine W.zret (v := Int32.ofInt x) hx hb (hr.trans hret) ?_ h2 hS.2.2 ((zBok_at hB hj).2 rfl) hlocks
    rcases hbit with rfl | rfl <;> rfl
  · intro wr j pc blk pcT L st σ ps L2 v w qs hret hj hz hv hnm hr0 hp
    obtain ⟨g1, g2⟩ := zcj_append hp
    refine zxs_ok C0 blk (zBok_at hB hj).1 hz g1 ?_
    intro q1 q2 q3 H locs ls hP hD hS hl
    subst hr0
    have hw1 : qs = (znrm wr v).1 := by rw [hnm]
    have hw2 : w = (znrm wr v).2 := by rw [hnm]
    subst hw1
    subst hw2
    have h1 := znrm_ok (zokT_hd q3) g2
    have e1 : zc ad (znrm wr v).2 = .long (Int64.ofInt v.2) := by rw [znrm_c]; exact zc_l hv ad v.2
    have h2 := fin (some (znrm wr v).2) H locs q1 (fun w h => by cases h; exact h1) hP hD hS
    simp only [Option.map_some, e1] at h2
    have e2 : [v].map (zc ad) = [.long (Int64.ofInt v.2)] := by rw [← e1, znrm_c]; rfl
    rw [e2]
    exact W.lret hx hb (hr.trans hret) h2 hS.2.2 ((zBok_at hB hj).2 rfl) hlocks
  · intro wr j pc blk pcT n dd lo hi offs L st σ ps L2 v rest σ2 hj hn hz hv hp hsz kin kout
    obtain ⟨g1, g2⟩ := zcj_append hp
    refine zxs_ok C0 blk (zBok_at hB hj).1 hz g1 ?_
    intro q1 q2 q3 H locs ls hP hD hS hl
    obtain ⟨tv, x⟩ := v
    have o1 := zr_ok hv (zokT_hd q3) g2
    have q4 := zokT_tl q3
    have hdg := (zBok_at hB hj).2 hn
    simp only [List.map_cons, zc_i hv]
    have e1 := zti o1
    by_cases ho : x < lo ∨ hi < x
    · obtain ⟨t, ht, k⟩ := kout ho
      exact lv_tableOut hx hb hdg (by rw [e1]; exact ho) (zto_eq ht) (k q1 q2 q4 H locs ls hP hD hS hl)
    · have hlt : (x - lo).toNat < offs.size := by omega
      obtain ⟨t, ht, k⟩ := kin (x - lo).toNat _ (Array.getElem?_eq_getElem hlt) (by show x = _; omega)
      exact lv_tableIn hx hb hdg (by rw [e1]; omega) (by rw [e1]; omega) (by rw [e1]; exact Array.getElem?_eq_getElem hlt) (zto_eq ht) (k q1 q2 q4 H locs ls hP hD hS hl)
  · intro b pc L st σ L2 hm k
    subst hm
    intro q1 q2 q3 H locs ls hP hD hS hl
    refine k q1 (fun i v h => q2 i v (zmask_get b L i v h)) q3 H locs ls hP hD hS ⟨hl.1, hl.2.1, fun q hq => hl.2.2 q ?_⟩
    obtain ⟨i, v, rfl, hi⟩ := (zA_mem ad _ 0 q).mp hq
    exact (zA_mem ad L 0 _).mpr ⟨i, v, rfl, zmask_get b L i v hi⟩
def zN : Nat := 1000000
theorem zgd {P : Prop} {i : Decidable P} {α : Type} {t : Option α} {o : α} (h : @ite (Option α) P i t none = some o) : P ∧ t = some o := by
  by_cases hp : P
  · exact ⟨hp, by rw [if_pos hp] at h; exact h⟩
  · rw [if_neg hp] at h
    cases h
theorem zif1 {P : Prop} {i : Decidable P} {α : Type} {t u : Option α} {o : α} (hp : P) (h : @ite (Option α) P i t u = some o) : t = some o := by
  rw [if_pos hp] at h
  exact h
theorem zif2 {P : Prop} {i : Decidable P} {α : Type} {t u : Option α} {o : α} (hp : ¬ P) (h : @ite (Option α) P i t u = some o) : u = some o := by
  rw [if_neg hp] at h
  exact h
theorem zbd {α β : Type} {t : Option α} {k : α → Option β} {o : β} (h : t.bind k = some o) : ∃ x, t = some x ∧ k x = some o := by
  cases t with
  | none => cases h
  | some x => exact ⟨x, rfl, h⟩
theorem zlk_all {α : Type} {P : Nat → α → Prop} {l : List (Nat × α)} (h : ∀ p ∈ l, P p.1 p.2) {q : Nat} {v : α} (hq : zlk l q = some v) : P q v := by
  induction l with
  | nil => cases hq
  | cons a r ih =>
    simp only [zlk] at hq
    cases hb : Nat.beq a.1 q with
    | true =>
      rw [hb] at hq
      have := Option.some.inj hq
      rw [← this, ← Nat.eq_of_beq_eq_true hb]
      exact h a List.mem_cons_self
    | false =>
      rw [hb] at hq
      exact ih (fun p hp => h p (List.mem_cons_of_mem _ hp)) hq
theorem zFl_mono {c0 : Cond} {own : String} {q : Nat} {f : Nat × Nat × Nat} (h : zFl uU own q f) : zFl (c0 :: uU) own q f := by
  obtain ⟨C, T, N, ty, h1, h2, h3, h4, h5⟩ := h
  exact ⟨C, T, N, ty, h1, h2, fun w hw => List.mem_cons_of_mem _ (h3 w hw), List.mem_cons_of_mem _ h4, h5⟩
/-- the tables of a class, its words all in uU -/
theorem zEok_of {own : String} {E : zEnv} (h1 : ∀ p ∈ E.1, zFl uU own p.1 p.2) (h2 : ∀ p ∈ E.2.1, zI p.2 ∧ Cond.constant own p.1 (Int32.ofInt p.2) ∈ uU) (h3 : ∀ p ∈ E.2.2.1, zJ p.2 ∧ Cond.constantLong own p.1 (Int64.ofInt p.2) ∈ uU)
    (h4 : ∀ p ∈ E.2.2.2, Cond.initialized "java/lang/Math" ∈ uU ∧ (p.2 = true → Cond.methodLink own p.1 Lib.Math.max.name ∈ uU ∧ Cond.static Lib.Math.max.name ∈ uU ∧ Cond.code Lib.Math.max.name Lib.Math.max.code 2 (some .int) ∈ uU) ∧ (p.2 = false → Cond.methodLink own p.1 Lib.Math.min.name ∈ uU ∧ Cond.static Lib.Math.min.name ∈ uU ∧ Cond.code Lib.Math.min.name Lib.Math.min.code 2 (some .int) ∈ uU)) (c0 : Cond) : zEok (c0 :: uU) own E :=
  ⟨fun q f h => zFl_mono (zlk_all (P := fun q f => zFl uU own q f) h1 h), fun q v h => by
    have := zlk_all (P := fun q v => zI v ∧ Cond.constant own q (Int32.ofInt v) ∈ uU) h2 h
    exact ⟨this.1, List.mem_cons_of_mem _ this.2⟩, fun q v h => by
    have := zlk_all (P := fun q v => zJ v ∧ Cond.constantLong own q (Int64.ofInt v) ∈ uU) h3 h
    exact ⟨this.1, List.mem_cons_of_mem _ this.2⟩, fun q b h => by
    have := zlk_all (P := fun q b => Cond.initialized "java/lang/Math" ∈ uU ∧ (b = true → Cond.methodLink own q Lib.Math.max.name ∈ uU ∧ Cond.static Lib.Math.max.name ∈ uU ∧ Cond.code Lib.Math.max.name Lib.Math.max.code 2 (some .int) ∈ uU) ∧ (b = false → Cond.methodLink own q Lib.Math.min.name ∈ uU ∧ Cond.static Lib.Math.min.name ∈ uU ∧ Cond.code Lib.Math.min.name Lib.Math.min.code 2 (some .int) ∈ uU)) h4 h
    exact ⟨List.mem_cons_of_mem _ this.1, fun hb => ⟨List.mem_cons_of_mem _ (this.2.1 hb).1, List.mem_cons_of_mem _ (this.2.1 hb).2.1, List.mem_cons_of_mem _ (this.2.1 hb).2.2⟩, fun hb => ⟨List.mem_cons_of_mem _ (this.2.2 hb).1, List.mem_cons_of_mem _ (this.2.2 hb).2.1, List.mem_cons_of_mem _ (this.2.2 hb).2.2⟩⟩⟩
def zLb1 (Λ : List zE) (shp : List (Nat × Nat)) (k : Nat) : Bool := match zo Λ k with
  | some (.inl a) => Nat.blt a.1 shp.length && (Nat.blt a.2.1 (zg (0, 0) shp a.1).2 && Nat.blt a.2.2 2147483648)
  | some (.inr o) => (List.range o.2.length).all (fun j => match zo o.2 j with
    | some (.inr mj) => Nat.blt mj.1 shp.length && Nat.blt mj.2 (zg (0, 0) shp mj.1).1
    | some (.inl k) => Nat.blt k Λ.length
    | none => true)
  | none => true
def zLb2 (Λ : List zE) (k k2 : Nat) : Bool := match zo Λ k, zo Λ k2 with
  | some (.inl a), some (.inl b) => Nat.beq k k2 || !(Nat.beq a.1 b.1 && Nat.beq a.2.1 b.2.1)
  | some (.inr o), some (.inr u) => (List.range o.2.length).all (fun j => (List.range u.2.length).all (fun j2 => match zo o.2 j, zo u.2 j2 with
    | some (.inr x), some (.inr y) => (Nat.beq k k2 && Nat.beq j j2) || !(Nat.beq x.1 y.1 && Nat.beq x.2 y.2)
    | _, _ => true))
  | _, _ => true
def zLokb (Λ : List zE) (shp : List (Nat × Nat)) : Bool := (List.range Λ.length).all (zLb1 Λ shp) && (List.range Λ.length).all (fun k => (List.range Λ.length).all (zLb2 Λ k))
theorem zLok_of {Λ : List zE} {shp : List (Nat × Nat)} (h : zLokb Λ shp = true) : zLok Λ shp := by
  simp only [zLokb, Bool.and_eq_true] at h
  obtain ⟨h1, h2⟩ := h
  refine ⟨fun k hk => ?_, fun k hk k2 hk2 => ?_⟩
  · have h3 := List.all_eq_true.mp h1 k (List.mem_range.mpr hk)
    unfold zLb1 at h3
    cases hz : zo Λ k with
    | none => trivial
    | some e =>
      rw [hz] at h3
      cases e with
      | inl a =>
        simp only [Bool.and_eq_true, Nat.blt_eq] at h3
        exact ⟨h3.1, h3.2.1, h3.2.2⟩
      | inr o =>
        simp only at h3 ⊢
        intro j hj
        have h4 := List.all_eq_true.mp h3 j (List.mem_range.mpr hj)
        cases hy : zo o.2 j with
        | none => trivial
        | some f =>
          rw [hy] at h4
          cases f with
          | inl k => simpa [Nat.blt_eq] using h4
          | inr mj =>
            simp only [Bool.and_eq_true, Nat.blt_eq] at h4
            exact h4
  · have h3 := List.all_eq_true.mp (List.all_eq_true.mp h2 k (List.mem_range.mpr hk)) k2 (List.mem_range.mpr hk2)
    unfold zLb2 at h3
    cases hz : zo Λ k with
    | none => trivial
    | some e =>
      cases hz2 : zo Λ k2 with
      | none => cases e <;> trivial
      | some e2 =>
        rw [hz, hz2] at h3
        cases e with
        | inl a =>
          cases e2 with
          | inr u => trivial
          | inl b =>
            simp only [Bool.or_eq_true, Bool.not_eq_true', Bool.and_eq_false_iff] at h3
            simp only
            rcases h3 with h3 | h3 | h3
            · exact Or.inl (Nat.eq_of_beq_eq_true h3)
            · exact Or.inr (fun q => by rw [q.1, Nat.beq_refl] at h3; cases h3)
            · exact Or.inr (fun q => by rw [q.2, Nat.beq_refl] at h3; cases h3)
        | inr o =>
          cases e2 with
          | inl b => trivial
          | inr u =>
            simp only at h3 ⊢
            intro j hj j2 hj2
            have h4 := List.all_eq_true.mp (List.all_eq_true.mp h3 j (List.mem_range.mpr hj)) j2 (List.mem_range.mpr hj2)
            cases hy : zo o.2 j with
            | none => trivial
            | some f =>
              cases hy2 : zo u.2 j2 with
              | none => cases f <;> trivial
              | some f2 =>
                rw [hy, hy2] at h4
                cases f with
                | inl k => cases f2 <;> trivial
                | inr x =>
                  cases f2 with
                  | inl k => trivial
                  | inr y =>
                    simp only [Bool.or_eq_true, Bool.and_eq_true, Bool.not_eq_true', Bool.and_eq_false_iff] at h4
                    simp only
                    rcases h4 with h4 | h4 | h4
                    · exact Or.inl ⟨Nat.eq_of_beq_eq_true h4.1, Nat.eq_of_beq_eq_true h4.2⟩
                    · exact Or.inr (fun q => by rw [q.1, Nat.beq_refl] at h4; cases h4)
                    · exact Or.inr (fun q => by rw [q.2, Nat.beq_refl] at h4; cases h4)
