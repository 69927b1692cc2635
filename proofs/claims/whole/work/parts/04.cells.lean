section ZX2
variable {p : Program} {l : Launch} {e : Env} {R : Room} {s : State} {m : MethodId} {args : Array Value} {below : List Frame} {meth : Method} {c : Code} {Q : State → Prop} {D : va_G} {cA : ClassId} {ad : Nat → Nat} {A : Nat → Prop} {Λ : List zE} {shp : List (Nat × Nat)} {nL : Nat} {cc : ByteArray} {own : String} {Ts : List Cond} {E : zEnv}
variable {pc n : Nat} {L L2 : zL} {st st2 : List zV} {σ σ2 : zT} {ps : List Prop} {wr : Bool}
theorem zbeq {a b : Nat} (h : Nat.beq a b = true) : a = b := Nat.eq_of_beq_eq_true h
theorem zgi_of {σ : zT} {m i : Nat} {is : List Int} {fs : List (Nat → Int)} {x : Int} (h1 : zo σ m = some (is, fs)) (h2 : zo is i = some x) : zgi σ m i = x := by
  unfold zgi
  rw [zo_get] at h1 h2
  rw [zg_get, zg_get, h1]
  show (is[i]?).getD 0 = x
  rw [h2]
  rfl
theorem zga_of {σ : zT} {m i : Nat} {is : List Int} {fs : List (Nat → Int)} {f : Nat → Int} (h1 : zo σ m = some (is, fs)) (h2 : zo fs i = some f) : zga σ m i = f := by
  unfold zga
  rw [zo_get] at h1 h2
  rw [zg_get, zg_get, h1]
  show (fs[i]?).getD _ = f
  rw [h2]
  rfl
theorem zx_getf (C0 : zC p R s m args c D cA A Λ shp cc own nL Ts E) {q : Nat} (hd : decode cc pc = .ok (.getfield q, 3)) (hx : zgf Λ E L σ q st = some (ps, L2, st2, σ2)) (k : zS p l e R s m args below meth c Q D cA ad A Λ shp nL (pc + 3) L2 st2 σ2) : zS p l e R s m args below meth c Q D cA ad A Λ shp nL pc L st σ := by
  obtain ⟨hex, hb, hml, hown, hts, hK, hA, hΛ, ⟨hF, -⟩, -⟩ := C0
  match st, hx with
  | [], hx => cases hx
  | (t, a) :: r, hx =>
    replace hx := zcond hx
    obtain ⟨h1, hx⟩ := hx
    have ht : t = 2 := zbeq h1
    subst ht
    cases hf : zlk E.1 q with
    | none => rw [hf] at hx; cases hx
    | some f =>
      obtain ⟨ci, j, kd⟩ := f
      rw [hf] at hx
      simp only at hx
      cases ho : zo Λ a.toNat with
      | none => rw [ho] at hx; cases hx
      | some z =>
        rw [ho] at hx
        cases z with
        | inl y => cases hx
        | inr o =>
          obtain ⟨di, fs⟩ := o
          replace hx := zcond hx
          obtain ⟨h2, hx⟩ := hx
          have h2 : di = ci := zbeq h2
          subst h2
          obtain ⟨C, T, N, ty, c1, c2, c3, c4, -, -, -, -⟩ := hF q _ hf
          have hgo : ∀ w : zV, zokV w → zo (fs.map (zF ad σ)) j = some (zc ad w) → zS p l e R s m args below meth c Q D cA ad A Λ shp nL (pc + 3) L (w :: r) σ → zS p l e R s m args below meth c Q D cA ad A Λ shp nL pc L ((2, a) :: r) σ := by
            intro w hw hz k q1 q2 q3 H locs ls hP hD hS hl
            have he : (zW cA ad σ 0 Λ)[a.toNat]? = some (ad a.toNat, .inr (di, fs.map (zF ad σ))) := by
              rw [zW_get, ho]
              simp [zEc]
            refine va_get hex hb hts c3 hown hK hP a.toNat he c1 j c2 (hts _ c4) (fun _ h9 => h9) (v := zc ad w) (by rw [← zo_get]; exact hz) hd ?_
            exact k q1 q2 (zokT_cons hw (zokT_tl q3)) H locs ls hP hD hS hl
          cases hj : zo fs j with
          | none => rw [hj] at hx; cases hx
          | some y =>
            rw [hj] at hx
            have hz : zo (fs.map (zF ad σ)) j = some (zF ad σ y) := by
              rw [zo_get] at hj ⊢
              rw [List.getElem?_map, hj]
              rfl
            cases y with
            | inl i =>
              simp only [Option.some.injEq, Prod.mk.injEq] at hx
              obtain ⟨-, rfl, rfl, rfl⟩ := hx
              exact hgo (2, Int.ofNat i) trivial hz k
            | inr mj =>
              obtain ⟨mm, ii⟩ := mj
              simp only at hx
              cases hm : zo σ mm with
              | none => rw [hm] at hx; cases hx
              | some M =>
                obtain ⟨is, fs2⟩ := M
                rw [hm] at hx
                simp only at hx
                cases hi : zo is ii with
                | none => rw [hi] at hx; cases hx
                | some x =>
                  rw [hi] at hx
                  simp only [Option.some.injEq, Prod.mk.injEq] at hx
                  obtain ⟨-, rfl, rfl, rfl⟩ := hx
                  have e1 := zgi_of hm hi
                  intro q1 q2 q3
                  exact hgo (0, x) (by rw [← e1]; exact q1.2.1 mm ii) (by rw [hz, ← e1]; rfl) k q1 q2 q3
theorem zx_putf (C0 : zC p R s m args c D cA A Λ shp cc own nL Ts E) {q : Nat} (hd : decode cc pc = .ok (.putfield q, 3)) (hx : zpf Λ E wr L σ q st = some (ps, L2, st2, σ2)) (hp : zcj ps) (k : zS p l e R s m args below meth c Q D cA ad A Λ shp nL (pc + 3) L2 st2 σ2) : zS p l e R s m args below meth c Q D cA ad A Λ shp nL pc L st σ := by
  obtain ⟨hex, hb, hml, hown, hts, hK, hA, hΛ, ⟨hF, -⟩, -⟩ := C0
  match st, hx with
  | [], hx => cases hx
  | [_], hx => cases hx
  | (u, xw) :: (t, a) :: r, hx =>
    replace hx := zcond hx
    obtain ⟨h0, hx⟩ := hx
    replace hx := zcond hx
    obtain ⟨h1, hx⟩ := hx
    have ht : t = 2 := zbeq h1
    subst ht
    cases hf : zlk E.1 q with
    | none => rw [hf] at hx; cases hx
    | some f =>
      obtain ⟨ci, j, kd⟩ := f
      rw [hf] at hx
      simp only at hx
      cases ho : zo Λ a.toNat with
      | none => rw [ho] at hx; cases hx
      | some z =>
        rw [ho] at hx
        cases z with
        | inl y => cases hx
        | inr o =>
          obtain ⟨di, fs⟩ := o
          replace hx := zcond hx
          obtain ⟨h2, hx⟩ := hx
          have h2 : di = ci := zbeq h2
          subst h2
          obtain ⟨C, T, N, ty, c1, c2, c3, c4, c5, c6, c7, c8⟩ := hF q _ hf
          cases hj : zo fs j with
          | none => rw [hj] at hx; cases hx
          | some y =>
            rw [hj] at hx
            cases y with
            | inl i => cases hx
            | inr mj =>
              obtain ⟨mm, ii⟩ := mj
              simp only at hx
              have hgo : ∀ (x : Int) (fty : FieldType), zI x → zc ad (u, xw) = .int (Int32.ofInt x) → (T j).2.2.2 = false → parseFieldDescriptor (T j).2.2.1 = some fty → narrow fty (.int (Int32.ofInt x)) = .int (Int32.ofInt x) → fits fty (.int (Int32.ofInt x)) = true → zS p l e R s m args below meth c Q D cA ad A Λ shp nL (pc + 3) L r (zpi σ mm ii x) → zok shp σ → zokL L → zokT ((u, xw) :: (2, a) :: r) → ∀ (H : Heap) (locs : List Loc) (ls : Array Slot), va_P D vwCl (zW cA ad σ 0 Λ) H → va_D A (zW cA ad σ 0 Λ) → va_S A s.heap H locs → lv_has ls nL (zA ad 0 L) → W p l e R s m args below meth c H locs 0 0 Q (F0 m pc ls (((u, xw) :: (2, a) :: r).map (zc ad))) := by
                intro x fty hx hw hfin hde hn hfit k q1 q2 q3 H locs ls hP hD hS hl
                have he : (zW cA ad σ 0 Λ)[a.toNat]? = some (ad a.toNat, .inr (di, fs.map (zF ad σ))) := by
                  rw [zW_get, ho]
                  simp [zEc]
                simp only [List.map_cons]
                rw [hw]
                refine va_put hex hb hts c3 ty c5 c6 hown hK hP hD hS a.toNat he c1 j c2 (hts _ c4) (fun _ h9 => h9) hfin hde hn hfit (by rw [List.length_map]; exact zo_lt hj) hd (fun H1 locs1 hP hD hS => ?_)
                have e9 := zW_putI hΛ q1 cA ad ho hj x
                rw [e9] at hP hD
                exact k (zok_zpi q1 _ _ hx) q2 (zokT_tl (zokT_tl q3)) H1 locs1 ls hP hD hS hl
              match kd, hx, c7, c8 with
              | 0, hx, _, _ => cases hx
              | 1, hx, c7, _ =>
                have hx : some ((znrm wr (u, xw)).1, L, r, zpi σ mm ii (znrm wr (u, xw)).2.2) = some (ps, L2, st2, σ2) := hx
                simp only [Option.some.injEq, Prod.mk.injEq] at hx
                obtain ⟨rfl, rfl, rfl, rfl⟩ := hx
                intro q1 q2 q3
                have hv := znrm_ok (zokT_hd q3) hp
                have hi := znrm_i (wr := wr) (v := (u, xw)) h0
                have e1 : (znrm wr (u, xw)).2 = (0, (znrm wr (u, xw)).2.2) := by rw [← hi]
                rw [e1] at hv
                refine hgo _ .int hv ?_ (c7 rfl).1 (c7 rfl).2 rfl rfl k q1 q2 q3
                rw [← znrm_c wr ad (u, xw), e1]
                rfl
              | 2, hx, _, c8 =>
                simp only [Option.some.injEq, Prod.mk.injEq] at hx
                obtain ⟨rfl, rfl, rfl, rfl⟩ := hx
                intro q1 q2 q3
                have hb2 : xw = 0 ∨ xw = 1 := hp
                refine hgo xw .boolean ?_ (zc_i h0 ad xw) (c8 rfl).1 (c8 rfl).2 ?_ ?_ k q1 q2 q3
                · rcases hb2 with rfl | rfl <;> exact ⟨by decide, by decide⟩
                · rcases hb2 with rfl | rfl <;> rfl
                · rcases hb2 with rfl | rfl <;> rfl
              | n + 3, hx, _, _ => cases hx
theorem zx_aload (C0 : zC p R s m args c D cA A Λ shp cc own nL Ts E) (hd : decode cc pc = .ok (.iaload, 1)) (hx : zal Λ L σ st = some (ps, L2, st2, σ2)) (hp : zcj ps) (k : zS p l e R s m args below meth c Q D cA ad A Λ shp nL (pc + 1) L2 st2 σ2) : zS p l e R s m args below meth c Q D cA ad A Λ shp nL pc L st σ := by
  obtain ⟨hex, hb, hml, hown, hts, hK, hA, hΛ, -, -⟩ := C0
  match st, hx with
  | [], hx => cases hx
  | [_], hx => cases hx
  | (tw, xw) :: (t, a) :: r, hx =>
    replace hx := zcond hx
    obtain ⟨h0, hx⟩ := hx
    replace hx := zcond hx
    obtain ⟨h1, hx⟩ := hx
    have ht : t = 2 := zbeq h1
    subst ht
    cases ho : zo Λ a.toNat with
    | none => rw [ho] at hx; cases hx
    | some z =>
      rw [ho] at hx
      cases z with
      | inr o => cases hx
      | inl y =>
        obtain ⟨mm, ii, nn⟩ := y
        simp only at hx
        cases hm : zo σ mm with
        | none => rw [hm] at hx; cases hx
        | some M =>
          obtain ⟨is, fs⟩ := M
          rw [hm] at hx
          simp only at hx
          cases hi : zo fs ii with
          | none => rw [hi] at hx; cases hx
          | some f =>
            rw [hi] at hx
            simp only [Option.some.injEq, Prod.mk.injEq] at hx
            obtain ⟨rfl, rfl, rfl, rfl⟩ := hx
            have e0 := zga_of hm hi
            intro q1 q2 q3 H locs ls hP hD hS hl
            have hin : zin xw nn := hp
            have hb1 := hΛ.1 _ (zo_lt ho)
            rw [ho] at hb1
            obtain ⟨g1, g2⟩ := zvin hin hb1.2.2
            have he : (zW cA ad σ 0 Λ)[a.toNat]? = some (ad a.toNat, .inl (cA, nn, .inl (fun q => Int32.ofInt (f q)))) := by
              rw [zW_get, ho, ← e0]
              simp [zEc]
            simp only [List.map_cons, zc_i h0]
            refine va_iald hex hb hK hP a.toNat 0 he rfl g1 hd ?_
            rw [g2]
            exact k q1 q2 (zokT_cons (v := (0, f xw.toNat)) (by rw [← e0]; exact q1.2.2 _ _ _) (zokT_tl (zokT_tl q3))) H locs ls hP hD hS hl
theorem zx_astore (C0 : zC p R s m args c D cA A Λ shp cc own nL Ts E) (hd : decode cc pc = .ok (.iastore, 1)) (hx : zas Λ wr L σ st = some (ps, L2, st2, σ2)) (hp : zcj ps) (k : zS p l e R s m args below meth c Q D cA ad A Λ shp nL (pc + 1) L2 st2 σ2) : zS p l e R s m args below meth c Q D cA ad A Λ shp nL pc L st σ := by
  obtain ⟨hex, hb, hml, hown, hts, hK, hA, hΛ, -, -⟩ := C0
  match st, hx with
  | [], hx => cases hx
  | [_], hx => cases hx
  | [_, _], hx => cases hx
  | (tu, xu) :: (tw, xw) :: (t, a) :: r, hx =>
    replace hx := zcond hx
    obtain ⟨hu, hx⟩ := hx
    replace hx := zcond hx
    obtain ⟨h0, hx⟩ := hx
    replace hx := zcond hx
    obtain ⟨h1, hx⟩ := hx
    have ht : t = 2 := zbeq h1
    subst ht
    cases ho : zo Λ a.toNat with
    | none => rw [ho] at hx; cases hx
    | some z =>
      rw [ho] at hx
      cases z with
      | inr o => cases hx
      | inl y =>
        obtain ⟨mm, ii, nn⟩ := y
        simp only at hx
        cases hm : zo σ mm with
        | none => rw [hm] at hx; cases hx
        | some M =>
          obtain ⟨is, fs⟩ := M
          rw [hm] at hx
          simp only at hx
          cases hi : zo fs ii with
          | none => rw [hi] at hx; cases hx
          | some f =>
            rw [hi] at hx
            have hx : some (zin xw nn :: (znrm wr (tu, xu)).1, L, r, zpa σ mm ii (zu f xw.toNat (znrm wr (tu, xu)).2.2)) = some (ps, L2, st2, σ2) := hx
            simp only [Option.some.injEq, Prod.mk.injEq] at hx
            obtain ⟨rfl, rfl, rfl, rfl⟩ := hx
            have e0 := zga_of hm hi
            intro q1 q2 q3 H locs ls hP hD hS hl
            obtain ⟨hin, hp2⟩ := zcj_cons hp
            have hb1 := hΛ.1 _ (zo_lt ho)
            rw [ho] at hb1
            obtain ⟨g1, g2⟩ := zvin hin hb1.2.2
            have he : (zW cA ad σ 0 Λ)[a.toNat]? = some (ad a.toNat, .inl (cA, nn, .inl (fun q => Int32.ofInt (f q)))) := by
              rw [zW_get, ho, ← e0]
              simp [zEc]
            have hv := znrm_ok (zokT_hd q3) hp2
            have hi2 := znrm_i (wr := wr) (v := (tu, xu)) hu
            have e1 : (znrm wr (tu, xu)).2 = (0, (znrm wr (tu, xu)).2.2) := by rw [← hi2]
            have e2 : zc ad (tu, xu) = .int (Int32.ofInt (znrm wr (tu, xu)).2.2) := by rw [← znrm_c wr ad (tu, xu), e1]; rfl
            rw [e1] at hv
            simp only [List.map_cons, zc_i h0]
            rw [e2]
            refine va_iast hex hb hK hP hD hS a.toNat 0 he rfl g1 hd (fun H1 locs1 hP hD hS => ?_)
            have e9 := zW_putA hΛ q1 cA ad ho (zu f xw.toNat (znrm wr (tu, xu)).2.2)
            rw [g2, ← zupd_c, e9] at hP hD
            refine k (zok_zpa q1 _ _ (fun q => ?_)) q2 (zokT_tl (zokT_tl (zokT_tl q3))) H1 locs1 ls hP hD hS hl
            unfold zu
            split
            · exact hv
            · rw [← e0]; exact q1.2.2 _ _ _
theorem zx_alen (C0 : zC p R s m args c D cA A Λ shp cc own nL Ts E) (hd : decode cc pc = .ok (.arraylength, 1)) (hx : zalen Λ L σ st = some (ps, L2, st2, σ2)) (k : zS p l e R s m args below meth c Q D cA ad A Λ shp nL (pc + 1) L2 st2 σ2) : zS p l e R s m args below meth c Q D cA ad A Λ shp nL pc L st σ := by
  obtain ⟨hex, hb, hml, hown, hts, hK, hA, hΛ, -, -⟩ := C0
  match st, hx with
  | [], hx => cases hx
  | (t, a) :: r, hx =>
    replace hx := zcond hx
    obtain ⟨h1, hx⟩ := hx
    have ht : t = 2 := zbeq h1
    subst ht
    cases ho : zo Λ a.toNat with
    | none => rw [ho] at hx; cases hx
    | some z =>
      rw [ho] at hx
      cases z with
      | inr o => cases hx
      | inl y =>
        obtain ⟨mm, ii, nn⟩ := y
        simp only [Option.some.injEq, Prod.mk.injEq] at hx
        obtain ⟨-, rfl, rfl, rfl⟩ := hx
        intro q1 q2 q3 H locs ls hP hD hS hl
        have hb1 := hΛ.1 _ (zo_lt ho)
        rw [ho] at hb1
        have he : (zW cA ad σ 0 Λ)[a.toNat]? = some (ad a.toNat, .inl (cA, nn, .inl (fun q => Int32.ofInt (zga σ mm ii q)))) := by
          rw [zW_get, ho]
          simp [zEc]
        refine va_alen hex hb hK hP a.toNat 0 he rfl (v := Int32.ofInt (Int.ofNat nn)) (by show Int32.ofNat nn = _; exact (Int32.ofInt_eq_ofNat).symm) hd ?_
        have hb2 : nn < 2147483648 := hb1.2.2
        exact k q1 q2 (zokT_cons (show zI (Int.ofNat nn) from ⟨by have : (0:Int) ≤ Int.ofNat nn := Int.natCast_nonneg _; omega, by show ((nn : Nat) : Int) ≤ _; omega⟩) (zokT_tl q3)) H locs ls hP hD hS hl
theorem zx_mm (C0 : zC p R s m args c D cA A Λ shp cc own nL Ts E) {q : Nat} (hd : decode cc pc = .ok (.invokestatic q, 3)) (hx : zmm E L σ q st = some (ps, L2, st2, σ2)) (hp : zcj ps) (k : zS p l e R s m args below meth c Q D cA ad A Λ shp nL (pc + 3) L2 st2 σ2) : zS p l e R s m args below meth c Q D cA ad A Λ shp nL pc L st σ := by
  obtain ⟨hex, hb, hml, hown, hts, hK, hA, hΛ, ⟨-, -, -, hM⟩, hR⟩ := C0
  match st, hx with
  | [], hx => cases hx
  | [_], hx => cases hx
  | (t1, y) :: (t2, x) :: r, hx =>
    replace hx := zcond hx
    obtain ⟨h1, hx⟩ := hx
    replace hx := zcond hx
    obtain ⟨h2, hx⟩ := hx
    replace hx := zcond hx
    obtain ⟨h3, hx⟩ := hx
    cases hz : zlk E.2.2.2 q with
    | none => rw [hz] at hx; cases hx
    | some b =>
      rw [hz] at hx
      have hR : 1 ≤ R.frames ∧ 21 ≤ R.locals := by
        rcases hR with hR | hR
        · rw [hR] at hz; cases hz
        · exact hR
      obtain ⟨hini, hmax, hmin⟩ := hM q b hz
      have hct := Nat.le_of_ble_eq_true h3
      cases b with
      | true =>
        simp only [Option.some.injEq, Prod.mk.injEq] at hx
        obtain ⟨rfl, rfl, rfl, rfl⟩ := hx
        intro q1 q2 q3 H locs ls hP hD hS hl
        obtain ⟨g1, g2⟩ := zcj_append hp
        have o1 := zr_ok h2 (zokT_hd (zokT_tl q3)) g1
        have o2 := zr_ok h1 (zokT_hd q3) g2
        simp only [List.map_cons, zc_i h1, zc_i h2]
        have e1 := zti o1
        have e2 := zti o2
        obtain ⟨m1, m2, m3⟩ := hmax rfl
        refine va_mmax hex hb (by rw [hml, hl.1]) hown (hts _ m1) (hts _ m2) (hts _ hini) (hts _ m3) hR.1 (by rw [zcts]; omega) (Nat.zero_le _) (Nat.zero_le _) hd ?_
        have e3 : (if Int32.ofInt x < Int32.ofInt y then Int32.ofInt y else Int32.ofInt x) = Int32.ofInt (max x y) := by
          have e4 : Int32.ofInt x < Int32.ofInt y ↔ x < y := by rw [Int32.lt_iff_toInt_lt, e1, e2]
          by_cases h : x < y
          · rw [if_pos (e4.mpr h), show max x y = y by omega]
          · rw [if_neg (fun g => h (e4.mp g)), show max x y = x by omega]
        rw [e3]
        exact k q1 q2 (zokT_cons (show zI (max x y) from ⟨by have := o1.1; have := o2.1; omega, by have := o1.2; have := o2.2; omega⟩) (zokT_tl (zokT_tl q3))) H locs ls hP hD hS hl
      | false =>
        simp only [Option.some.injEq, Prod.mk.injEq] at hx
        obtain ⟨rfl, rfl, rfl, rfl⟩ := hx
        intro q1 q2 q3 H locs ls hP hD hS hl
        obtain ⟨g1, g2⟩ := zcj_append hp
        have o1 := zr_ok h2 (zokT_hd (zokT_tl q3)) g1
        have o2 := zr_ok h1 (zokT_hd q3) g2
        simp only [List.map_cons, zc_i h1, zc_i h2]
        have e1 := zti o1
        have e2 := zti o2
        obtain ⟨m1, m2, m3⟩ := hmin rfl
        refine va_mmin hex hb (by rw [hml, hl.1]) hown (hts _ m1) (hts _ m2) (hts _ hini) (hts _ m3) hR.1 (by rw [zcts]; omega) (Nat.zero_le _) (Nat.zero_le _) hd ?_
        have e3 : (if Int32.ofInt y < Int32.ofInt x then Int32.ofInt y else Int32.ofInt x) = Int32.ofInt (min x y) := by
          have e4 : Int32.ofInt y < Int32.ofInt x ↔ y < x := by rw [Int32.lt_iff_toInt_lt, e1, e2]
          by_cases h : y < x
          · rw [if_pos (e4.mpr h), show min x y = y by omega]
          · rw [if_neg (fun g => h (e4.mp g)), show min x y = x by omega]
        rw [e3]
        exact k q1 q2 (zokT_cons (show zI (min x y) from ⟨by have := o1.1; have := o2.1; omega, by have := o1.2; have := o2.2; omega⟩) (zokT_tl (zokT_tl q3))) H locs ls hP hD hS hl
end ZX2
