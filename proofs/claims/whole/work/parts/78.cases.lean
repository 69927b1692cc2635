/-! ===== the law: its cases, its loop, its start ===== -/
section LAWC
variable {p : Program} {l : Launch} {e : Env} {s : State} {m : MethodId} {below : List Frame} {meth : Method} {c : Code} {D : va_G} {cA : ClassId} {b L : Nat} {xs : Nat → Int32} {adx adm : Nat → Nat}
theorem lc_letter (C0 : lC p s m meth c D cA b L xs) {i : Nat} {σ τ : zT} (hi : i + 5 ≤ L) (hR : qRel σ τ) (kk : ∀ σ2 τ2, qRel σ2 τ2 → lS p l e s m below meth c D cA b adx adm 1134 i [] σ2 τ2) : lS p l e s m below meth c D cA b adx adm 176 i [] σ τ := by
  obtain ⟨r, σ2, τ2, m1, m2, h2⟩ := s_letter l hR (xs (i + 1)).toInt (xs (i + 2)).toInt
  exact l_case (z := 207) (off := 930) (idx1 := 13) (idx2 := 17) (ks := [1, 2]) (n := 2) C0 hi (by decide) rfl (by decide +kernel) (by decide) m1 m2 ⟨_, _, _, _, rfl, rfl, rfl, by decide +kernel, ⟨Nat.le_of_ble_eq_true rfl, Nat.le_of_ble_eq_true rfl⟩, lGin u_8_12 u_8_13 u_8_14 u_1_2 u_8_15⟩ ⟨rfl, _, _, _, rfl, rfl⟩ ⟨_, _, _, _, rfl, rfl, rfl, by decide +kernel, ⟨Nat.le_of_ble_eq_true rfl, Nat.le_of_ble_eq_true rfl⟩, lGin u_9_8 u_9_9 u_9_10 u_1_5 u_9_11⟩ ⟨rfl, _, _, _, rfl, rfl⟩ (kk σ2 τ2 h2)
theorem lc_form (C0 : lC p s m meth c D cA b L xs) {i : Nat} {σ τ : zT} (hi : i + 5 ≤ L) (hR : qRel σ τ) (kk : ∀ σ2 τ2, qRel σ2 τ2 → lS p l e s m below meth c D cA b adx adm 1134 i [] σ2 τ2) : lS p l e s m below meth c D cA b adx adm 209 i [] σ τ := by
  obtain ⟨r, σ2, τ2, m1, m2, h2⟩ := s_form l hR (xs (i + 1)).toInt (xs (i + 2)).toInt (xs (i + 3)).toInt
  exact l_case (z := 250) (off := 887) (idx1 := 18) (idx2 := 22) (ks := [1, 2, 3]) (n := 3) C0 hi (by decide) rfl (by decide +kernel) (by decide) m1 m2 ⟨_, _, _, _, rfl, rfl, rfl, by decide +kernel, ⟨Nat.le_of_ble_eq_true rfl, Nat.le_of_ble_eq_true rfl⟩, lGin u_9_17 u_9_18 u_9_19 u_1_2 u_9_20⟩ ⟨rfl, _, _, _, rfl, rfl⟩ ⟨_, _, _, _, rfl, rfl, rfl, by decide +kernel, ⟨Nat.le_of_ble_eq_true rfl, Nat.le_of_ble_eq_true rfl⟩, lGin u_10_5 u_10_6 u_10_7 u_1_5 u_10_8⟩ ⟨rfl, _, _, _, rfl, rfl⟩ (kk σ2 τ2 h2)
theorem lc_cost (C0 : lC p s m meth c D cA b L xs) {i : Nat} {σ τ : zT} (hi : i + 5 ≤ L) (hR : qRel σ τ) (kk : ∀ σ2 τ2, qRel σ2 τ2 → lS p l e s m below meth c D cA b adx adm 1134 i [] σ2 τ2) : lS p l e s m below meth c D cA b adx adm 252 i [] σ τ := by
  obtain ⟨r, σ2, τ2, m1, m2, h2⟩ := s_cost l hR (xs (i + 1)).toInt (xs (i + 2)).toInt
  exact l_case (z := 283) (off := 854) (idx1 := 23) (idx2 := 26) (ks := [1, 2]) (n := 2) C0 hi (by decide) rfl (by decide +kernel) (by decide) m1 m2 ⟨_, _, _, _, rfl, rfl, rfl, by decide +kernel, ⟨Nat.le_of_ble_eq_true rfl, Nat.le_of_ble_eq_true rfl⟩, lGin u_10_16 u_10_17 u_10_18 u_1_2 u_10_19⟩ ⟨rfl, _, _, _, rfl, rfl⟩ ⟨_, _, _, _, rfl, rfl, rfl, by decide +kernel, ⟨Nat.le_of_ble_eq_true rfl, Nat.le_of_ble_eq_true rfl⟩, lGin u_11_0 u_11_1 u_11_2 u_1_5 u_11_3⟩ ⟨rfl, _, _, _, rfl, rfl⟩ (kk σ2 τ2 h2)
theorem lc_price (C0 : lC p s m meth c D cA b L xs) {i : Nat} {σ τ : zT} (hi : i + 5 ≤ L) (hR : qRel σ τ) (kk : ∀ σ2 τ2, qRel σ2 τ2 → lS p l e s m below meth c D cA b adx adm 1134 i [] σ2 τ2) : lS p l e s m below meth c D cA b adx adm 285 i [] σ τ := by
  obtain ⟨r, σ2, τ2, m1, m2, h2⟩ := s_price l hR (xs (i + 1)).toInt (xs (i + 2)).toInt
  exact l_case (z := 316) (off := 821) (idx1 := 27) (idx2 := 30) (ks := [1, 2]) (n := 2) C0 hi (by decide) rfl (by decide +kernel) (by decide) m1 m2 ⟨_, _, _, _, rfl, rfl, rfl, by decide +kernel, ⟨Nat.le_of_ble_eq_true rfl, Nat.le_of_ble_eq_true rfl⟩, lGin u_11_5 u_11_6 u_11_7 u_1_2 u_11_8⟩ ⟨rfl, _, _, _, rfl, rfl⟩ ⟨_, _, _, _, rfl, rfl, rfl, by decide +kernel, ⟨Nat.le_of_ble_eq_true rfl, Nat.le_of_ble_eq_true rfl⟩, lGin u_12_22 u_12_23 u_13_0 u_1_5 u_13_1⟩ ⟨rfl, _, _, _, rfl, rfl⟩ (kk σ2 τ2 h2)
theorem lc_least (C0 : lC p s m meth c D cA b L xs) {i : Nat} {σ τ : zT} (hi : i + 5 ≤ L) (hR : qRel σ τ) (kk : ∀ σ2 τ2, qRel σ2 τ2 → lS p l e s m below meth c D cA b adx adm 1134 i [] σ2 τ2) : lS p l e s m below meth c D cA b adx adm 318 i [] σ τ := by
  obtain ⟨r, σ2, τ2, m1, m2, h2⟩ := s_least l hR
  exact l_case (z := 329) (off := 808) (idx1 := 31) (idx2 := 35) (ks := []) (n := 0) C0 hi (by decide) rfl (by decide +kernel) (by decide) m1 m2 ⟨_, _, _, _, rfl, rfl, rfl, by decide +kernel, ⟨Nat.le_of_ble_eq_true rfl, Nat.le_of_ble_eq_true rfl⟩, lGin u_14_4 u_14_5 u_14_6 u_1_2 u_14_7⟩ ⟨rfl, _, _, _, rfl, rfl⟩ ⟨_, _, _, _, rfl, rfl, rfl, by decide +kernel, ⟨Nat.le_of_ble_eq_true rfl, Nat.le_of_ble_eq_true rfl⟩, lGin u_16_3 u_16_4 u_16_5 u_1_5 u_16_6⟩ ⟨rfl, _, _, _, rfl, rfl⟩ (kk σ2 τ2 h2)
theorem lc_way (C0 : lC p s m meth c D cA b L xs) {i : Nat} {σ τ : zT} (hi : i + 5 ≤ L) (hR : qRel σ τ) (kk : ∀ σ2 τ2, qRel σ2 τ2 → lS p l e s m below meth c D cA b adx adm 1134 i [] σ2 τ2) : lS p l e s m below meth c D cA b adx adm 331 i [] σ τ := by
  obtain ⟨r, σ2, τ2, m1, m2, h2⟩ := s_way l hR (xs (i + 1)).toInt
  exact l_case (z := 352) (off := 785) (idx1 := 36) (idx2 := 40) (ks := [1]) (n := 1) C0 hi (by decide) rfl (by decide +kernel) (by decide) m1 m2 ⟨_, _, _, _, rfl, rfl, rfl, by decide +kernel, ⟨Nat.le_of_ble_eq_true rfl, Nat.le_of_ble_eq_true rfl⟩, lGin u_17_0 u_17_1 u_17_2 u_1_2 u_17_3⟩ ⟨rfl, _, _, _, rfl, rfl⟩ ⟨_, _, _, _, rfl, rfl, rfl, by decide +kernel, ⟨Nat.le_of_ble_eq_true rfl, Nat.le_of_ble_eq_true rfl⟩, lGin u_19_3 u_19_4 u_19_5 u_1_5 u_19_6⟩ ⟨rfl, _, _, _, rfl, rfl⟩ (kk σ2 τ2 h2)
theorem lc_may (C0 : lC p s m meth c D cA b L xs) {i : Nat} {σ τ : zT} (hi : i + 5 ≤ L) (hR : qRel σ τ) (kk : ∀ σ2 τ2, qRel σ2 τ2 → lS p l e s m below meth c D cA b adx adm 1134 i [] σ2 τ2) : lS p l e s m below meth c D cA b adx adm 354 i [] σ τ := by
  obtain ⟨r, σ2, τ2, m1, m2, h2⟩ := s_may l hR (xs (i + 1)).toInt (xs (i + 2)).toInt
  exact l_case (z := 385) (off := 752) (idx1 := 41) (idx2 := 44) (ks := [1, 2]) (n := 2) C0 hi (by decide) rfl (by decide +kernel) (by decide) m1 m2 ⟨_, _, _, _, rfl, rfl, rfl, by decide +kernel, ⟨Nat.le_of_ble_eq_true rfl, Nat.le_of_ble_eq_true rfl⟩, lGin u_19_11 u_19_12 u_19_13 u_1_2 u_19_14⟩ ⟨rfl, _, _, _, rfl, rfl⟩ ⟨_, _, _, _, rfl, rfl, rfl, by decide +kernel, ⟨Nat.le_of_ble_eq_true rfl, Nat.le_of_ble_eq_true rfl⟩, lGin u_19_19 u_19_20 u_19_21 u_1_5 u_19_22⟩ ⟨rfl, _, _, _, rfl, rfl⟩ (kk σ2 τ2 h2)
theorem lc_sure (C0 : lC p s m meth c D cA b L xs) {i : Nat} {σ τ : zT} (hi : i + 5 ≤ L) (hR : qRel σ τ) (kk : ∀ σ2 τ2, qRel σ2 τ2 → lS p l e s m below meth c D cA b adx adm 1134 i [] σ2 τ2) : lS p l e s m below meth c D cA b adx adm 387 i [] σ τ := by
  obtain ⟨r, σ2, τ2, m1, m2, h2⟩ := s_sure l hR (xs (i + 1)).toInt
  exact l_case (z := 408) (off := 729) (idx1 := 45) (idx2 := 48) (ks := [1]) (n := 1) C0 hi (by decide) rfl (by decide +kernel) (by decide) m1 m2 ⟨_, _, _, _, rfl, rfl, rfl, by decide +kernel, ⟨Nat.le_of_ble_eq_true rfl, Nat.le_of_ble_eq_true rfl⟩, lGin u_19_23 u_20_0 u_20_1 u_1_2 u_20_2⟩ ⟨rfl, _, _, _, rfl, rfl⟩ ⟨_, _, _, _, rfl, rfl, rfl, by decide +kernel, ⟨Nat.le_of_ble_eq_true rfl, Nat.le_of_ble_eq_true rfl⟩, lGin u_20_7 u_20_8 u_20_9 u_1_5 u_20_10⟩ ⟨rfl, _, _, _, rfl, rfl⟩ (kk σ2 τ2 h2)
theorem lc_date (C0 : lC p s m meth c D cA b L xs) {i : Nat} {σ τ : zT} (hi : i + 5 ≤ L) (hR : qRel σ τ) (kk : ∀ σ2 τ2, qRel σ2 τ2 → lS p l e s m below meth c D cA b adx adm 1134 i [] σ2 τ2) : lS p l e s m below meth c D cA b adx adm 410 i [] σ τ := by
  obtain ⟨r, σ2, τ2, m1, m2, h2⟩ := s_date l hR (xs (i + 1)).toInt (xs (i + 2)).toInt
  exact l_case (z := 441) (off := 696) (idx1 := 49) (idx2 := 52) (ks := [1, 2]) (n := 2) C0 hi (by decide) rfl (by decide +kernel) (by decide) m1 m2 ⟨_, _, _, _, rfl, rfl, rfl, by decide +kernel, ⟨Nat.le_of_ble_eq_true rfl, Nat.le_of_ble_eq_true rfl⟩, lGin u_20_11 u_20_12 u_20_13 u_1_2 u_20_14⟩ ⟨rfl, _, _, _, rfl, rfl⟩ ⟨_, _, _, _, rfl, rfl, rfl, by decide +kernel, ⟨Nat.le_of_ble_eq_true rfl, Nat.le_of_ble_eq_true rfl⟩, lGin u_20_19 u_20_20 u_20_21 u_1_5 u_20_22⟩ ⟨rfl, _, _, _, rfl, rfl⟩ (kk σ2 τ2 h2)
theorem lc_name (C0 : lC p s m meth c D cA b L xs) {i : Nat} {σ τ : zT} (hi : i + 5 ≤ L) (hR : qRel σ τ) (kk : ∀ σ2 τ2, qRel σ2 τ2 → lS p l e s m below meth c D cA b adx adm 1134 i [] σ2 τ2) : lS p l e s m below meth c D cA b adx adm 443 i [] σ τ := by
  obtain ⟨r, σ2, τ2, m1, m2, h2⟩ := s_name l hR (xs (i + 1)).toInt (xs (i + 2)).toInt (zI_of32 _)
  exact l_case (z := 474) (off := 663) (idx1 := 53) (idx2 := 56) (ks := [1, 2]) (n := 2) C0 hi (by decide) rfl (by decide +kernel) (by decide) m1 m2 ⟨_, _, _, _, rfl, rfl, rfl, by decide +kernel, ⟨Nat.le_of_ble_eq_true rfl, Nat.le_of_ble_eq_true rfl⟩, lGin u_20_23 u_21_0 u_21_1 u_1_2 u_21_2⟩ ⟨rfl, _, _, _, rfl, rfl⟩ ⟨_, _, _, _, rfl, rfl, rfl, by decide +kernel, ⟨Nat.le_of_ble_eq_true rfl, Nat.le_of_ble_eq_true rfl⟩, lGin u_21_17 u_21_18 u_21_19 u_1_5 u_21_20⟩ ⟨rfl, _, _, _, rfl, rfl⟩ (kk σ2 τ2 h2)
theorem lc_slips (C0 : lC p s m meth c D cA b L xs) {i : Nat} {σ τ : zT} (hi : i + 5 ≤ L) (hR : qRel σ τ) (kk : ∀ σ2 τ2, qRel σ2 τ2 → lS p l e s m below meth c D cA b adx adm 1134 i [] σ2 τ2) : lS p l e s m below meth c D cA b adx adm 476 i [] σ τ := by
  obtain ⟨r, σ2, τ2, m1, m2, h2⟩ := s_slips l hR (xs (i + 1)).toInt (xs (i + 2)).toInt
  exact l_case (z := 507) (off := 630) (idx1 := 57) (idx2 := 60) (ks := [1, 2]) (n := 2) C0 hi (by decide) rfl (by decide +kernel) (by decide) m1 m2 ⟨_, _, _, _, rfl, rfl, rfl, by decide +kernel, ⟨Nat.le_of_ble_eq_true rfl, Nat.le_of_ble_eq_true rfl⟩, lGin u_21_23 u_22_0 u_22_1 u_1_2 u_22_2⟩ ⟨rfl, _, _, _, rfl, rfl⟩ ⟨_, _, _, _, rfl, rfl, rfl, by decide +kernel, ⟨Nat.le_of_ble_eq_true rfl, Nat.le_of_ble_eq_true rfl⟩, lGin u_22_11 u_22_12 u_22_13 u_1_5 u_22_14⟩ ⟨rfl, _, _, _, rfl, rfl⟩ (kk σ2 τ2 h2)
theorem lc_worn (C0 : lC p s m meth c D cA b L xs) {i : Nat} {σ τ : zT} (hi : i + 5 ≤ L) (hR : qRel σ τ) (kk : ∀ σ2 τ2, qRel σ2 τ2 → lS p l e s m below meth c D cA b adx adm 1134 i [] σ2 τ2) : lS p l e s m below meth c D cA b adx adm 509 i [] σ τ := by
  obtain ⟨r, σ2, τ2, m1, m2, h2⟩ := s_worn l hR (xs (i + 1)).toInt (xs (i + 2)).toInt (xs (i + 3)).toInt
  exact l_case (z := 550) (off := 587) (idx1 := 61) (idx2 := 64) (ks := [1, 2, 3]) (n := 3) C0 hi (by decide) rfl (by decide +kernel) (by decide) m1 m2 ⟨_, _, _, _, rfl, rfl, rfl, by decide +kernel, ⟨Nat.le_of_ble_eq_true rfl, Nat.le_of_ble_eq_true rfl⟩, lGin u_23_2 u_23_3 u_23_4 u_1_2 u_23_5⟩ ⟨rfl, _, _, _, rfl, rfl⟩ ⟨_, _, _, _, rfl, rfl, rfl, by decide +kernel, ⟨Nat.le_of_ble_eq_true rfl, Nat.le_of_ble_eq_true rfl⟩, lGin u_24_2 u_24_3 u_24_4 u_1_5 u_24_5⟩ ⟨rfl, _, _, _, rfl, rfl⟩ (kk σ2 τ2 h2)
theorem lc_habit (C0 : lC p s m meth c D cA b L xs) {i : Nat} {σ τ : zT} (hi : i + 5 ≤ L) (hR : qRel σ τ) (kk : ∀ σ2 τ2, qRel σ2 τ2 → lS p l e s m below meth c D cA b adx adm 1134 i [] σ2 τ2) : lS p l e s m below meth c D cA b adx adm 552 i [] σ τ := by
  obtain ⟨r, σ2, τ2, m1, m2, h2⟩ := s_habit l hR (xs (i + 1)).toInt (xs (i + 2)).toInt
  exact l_case (z := 583) (off := 554) (idx1 := 65) (idx2 := 68) (ks := [1, 2]) (n := 2) C0 hi (by decide) rfl (by decide +kernel) (by decide) m1 m2 ⟨_, _, _, _, rfl, rfl, rfl, by decide +kernel, ⟨Nat.le_of_ble_eq_true rfl, Nat.le_of_ble_eq_true rfl⟩, lGin u_24_10 u_24_11 u_24_12 u_1_2 u_24_13⟩ ⟨rfl, _, _, _, rfl, rfl⟩ ⟨_, _, _, _, rfl, rfl, rfl, by decide +kernel, ⟨Nat.le_of_ble_eq_true rfl, Nat.le_of_ble_eq_true rfl⟩, lGin u_24_18 u_24_19 u_24_20 u_1_5 u_24_21⟩ ⟨rfl, _, _, _, rfl, rfl⟩ (kk σ2 τ2 h2)
theorem lc_lives (C0 : lC p s m meth c D cA b L xs) {i : Nat} {σ τ : zT} (hi : i + 5 ≤ L) (hR : qRel σ τ) (kk : ∀ σ2 τ2, qRel σ2 τ2 → lS p l e s m below meth c D cA b adx adm 1134 i [] σ2 τ2) : lS p l e s m below meth c D cA b adx adm 585 i [] σ τ := by
  obtain ⟨r, σ2, τ2, m1, m2, h2⟩ := s_lives l hR
  exact l_case (z := 596) (off := 541) (idx1 := 69) (idx2 := 72) (ks := []) (n := 0) C0 hi (by decide) rfl (by decide +kernel) (by decide) m1 m2 ⟨_, _, _, _, rfl, rfl, rfl, by decide +kernel, ⟨Nat.le_of_ble_eq_true rfl, Nat.le_of_ble_eq_true rfl⟩, lGin u_24_23 u_25_0 u_25_1 u_1_2 u_25_2⟩ ⟨rfl, _, _, _, rfl, rfl⟩ ⟨_, _, _, _, rfl, rfl, rfl, by decide +kernel, ⟨Nat.le_of_ble_eq_true rfl, Nat.le_of_ble_eq_true rfl⟩, lGin u_25_11 u_25_12 u_25_13 u_1_5 u_25_14⟩ ⟨rfl, _, _, _, rfl, rfl⟩ (kk σ2 τ2 h2)
theorem lc_mean (C0 : lC p s m meth c D cA b L xs) {i : Nat} {σ τ : zT} (hi : i + 5 ≤ L) (hR : qRel σ τ) (kk : ∀ σ2 τ2, qRel σ2 τ2 → lS p l e s m below meth c D cA b adx adm 1134 i [] σ2 τ2) : lS p l e s m below meth c D cA b adx adm 598 i [] σ τ := by
  obtain ⟨r, σ2, τ2, m1, m2, h2⟩ := s_mean l hR
  exact l_case (z := 609) (off := 528) (idx1 := 73) (idx2 := 76) (ks := []) (n := 0) C0 hi (by decide) rfl (by decide +kernel) (by decide) m1 m2 ⟨_, _, _, _, rfl, rfl, rfl, by decide +kernel, ⟨Nat.le_of_ble_eq_true rfl, Nat.le_of_ble_eq_true rfl⟩, lGin u_25_23 u_26_0 u_26_1 u_1_2 u_26_2⟩ ⟨rfl, _, _, _, rfl, rfl⟩ ⟨_, _, _, _, rfl, rfl, rfl, by decide +kernel, ⟨Nat.le_of_ble_eq_true rfl, Nat.le_of_ble_eq_true rfl⟩, lGin u_26_10 u_26_11 u_26_12 u_1_5 u_26_13⟩ ⟨rfl, _, _, _, rfl, rfl⟩ (kk σ2 τ2 h2)
theorem lc_gone (C0 : lC p s m meth c D cA b L xs) {i : Nat} {σ τ : zT} (hi : i + 5 ≤ L) (hR : qRel σ τ) (kk : ∀ σ2 τ2, qRel σ2 τ2 → lS p l e s m below meth c D cA b adx adm 1134 i [] σ2 τ2) : lS p l e s m below meth c D cA b adx adm 611 i [] σ τ := by
  obtain ⟨r, σ2, τ2, m1, m2, h2⟩ := s_gone l hR (xs (i + 1)).toInt
  exact l_case (z := 632) (off := 505) (idx1 := 77) (idx2 := 80) (ks := [1]) (n := 1) C0 hi (by decide) rfl (by decide +kernel) (by decide) m1 m2 ⟨_, _, _, _, rfl, rfl, rfl, by decide +kernel, ⟨Nat.le_of_ble_eq_true rfl, Nat.le_of_ble_eq_true rfl⟩, lGin u_27_23 u_28_0 u_28_1 u_1_2 u_28_2⟩ ⟨rfl, _, _, _, rfl, rfl⟩ ⟨_, _, _, _, rfl, rfl, rfl, by decide +kernel, ⟨Nat.le_of_ble_eq_true rfl, Nat.le_of_ble_eq_true rfl⟩, lGin u_29_21 u_29_22 u_29_23 u_1_5 u_30_0⟩ ⟨rfl, _, _, _, rfl, rfl⟩ (kk σ2 τ2 h2)
theorem lc_asking (C0 : lC p s m meth c D cA b L xs) {i : Nat} {σ τ : zT} (hi : i + 5 ≤ L) (hR : qRel σ τ) (kk : ∀ σ2 τ2, qRel σ2 τ2 → lS p l e s m below meth c D cA b adx adm 1134 i [] σ2 τ2) : lS p l e s m below meth c D cA b adx adm 634 i [] σ τ := by
  obtain ⟨r, σ2, τ2, m1, m2, h2⟩ := s_asking l hR (xs (i + 1)).toInt (xs (i + 2)).toInt (xs (i + 3)).toInt
  exact l_case (z := 675) (off := 462) (idx1 := 81) (idx2 := 84) (ks := [1, 2, 3]) (n := 3) C0 hi (by decide) rfl (by decide +kernel) (by decide) m1 m2 ⟨_, _, _, _, rfl, rfl, rfl, by decide +kernel, ⟨Nat.le_of_ble_eq_true rfl, Nat.le_of_ble_eq_true rfl⟩, lGin u_30_14 u_30_15 u_30_16 u_1_2 u_30_17⟩ ⟨rfl, _, _, _, rfl, rfl⟩ ⟨_, _, _, _, rfl, rfl, rfl, by decide +kernel, ⟨Nat.le_of_ble_eq_true rfl, Nat.le_of_ble_eq_true rfl⟩, lGin u_30_22 u_30_23 u_31_0 u_1_5 u_31_1⟩ ⟨rfl, _, _, _, rfl, rfl⟩ (kk σ2 τ2 h2)
theorem lc_best (C0 : lC p s m meth c D cA b L xs) {i : Nat} {σ τ : zT} (hi : i + 5 ≤ L) (hR : qRel σ τ) (kk : ∀ σ2 τ2, qRel σ2 τ2 → lS p l e s m below meth c D cA b adx adm 1134 i [] σ2 τ2) : lS p l e s m below meth c D cA b adx adm 677 i [] σ τ := by
  obtain ⟨r, σ2, τ2, m1, m2, h2⟩ := s_best l hR (xs (i + 1)).toInt
  exact l_case (z := 698) (off := 439) (idx1 := 85) (idx2 := 88) (ks := [1]) (n := 1) C0 hi (by decide) rfl (by decide +kernel) (by decide) m1 m2 ⟨_, _, _, _, rfl, rfl, rfl, by decide +kernel, ⟨Nat.le_of_ble_eq_true rfl, Nat.le_of_ble_eq_true rfl⟩, lGin u_31_2 u_31_3 u_31_4 u_1_2 u_31_5⟩ ⟨rfl, _, _, _, rfl, rfl⟩ ⟨_, _, _, _, rfl, rfl, rfl, by decide +kernel, ⟨Nat.le_of_ble_eq_true rfl, Nat.le_of_ble_eq_true rfl⟩, lGin u_31_18 u_31_19 u_31_20 u_1_5 u_31_21⟩ ⟨rfl, _, _, _, rfl, rfl⟩ (kk σ2 τ2 h2)
theorem lc_round (C0 : lC p s m meth c D cA b L xs) {i : Nat} {σ τ : zT} (hi : i + 5 ≤ L) (hR : qRel σ τ) (kk : ∀ σ2 τ2, qRel σ2 τ2 → lS p l e s m below meth c D cA b adx adm 1134 i [] σ2 τ2) : lS p l e s m below meth c D cA b adx adm 700 i [] σ τ := by
  obtain ⟨r, σ2, τ2, m1, m2, h2⟩ := s_round l hR (xs (i + 1)).toInt (xs (i + 2)).toInt
  exact l_caseJ (z := 732) (off := 405) (idx1 := 89) (idx2 := 93) (ks := [1, 2]) (n := 2) C0 hi (by decide) rfl (by decide +kernel) (by decide) m1 m2 ⟨_, _, _, _, rfl, rfl, rfl, by decide +kernel, ⟨Nat.le_of_ble_eq_true rfl, Nat.le_of_ble_eq_true rfl⟩, lGin u_31_22 u_31_23 u_32_0 u_1_2 u_32_1⟩ ⟨rfl, _, _, _, rfl, rfl⟩ ⟨_, _, _, _, rfl, rfl, rfl, by decide +kernel, ⟨Nat.le_of_ble_eq_true rfl, Nat.le_of_ble_eq_true rfl⟩, lGin u_32_3 u_32_4 u_32_5 u_1_5 u_32_6⟩ ⟨rfl, _, _, _, rfl, rfl⟩ (kk σ2 τ2 h2)
theorem lc_outrun (C0 : lC p s m meth c D cA b L xs) {i : Nat} {σ τ : zT} (hi : i + 5 ≤ L) (hR : qRel σ τ) (kk : ∀ σ2 τ2, qRel σ2 τ2 → lS p l e s m below meth c D cA b adx adm 1134 i [] σ2 τ2) : lS p l e s m below meth c D cA b adx adm 734 i [] σ τ := by
  obtain ⟨r, σ2, τ2, m1, m2, h2⟩ := s_outrun l hR (xs (i + 1)).toInt (lV xs i).toInt
  exact l_caseO (z := 795) (off := 342) (idx1 := 96) (idx2 := 100) C0 hi (by decide +kernel) (by decide) m1 m2 ⟨_, _, _, _, rfl, rfl, rfl, by decide +kernel, ⟨Nat.le_of_ble_eq_true rfl, Nat.le_of_ble_eq_true rfl⟩, lGin u_32_11 u_32_12 u_32_13 u_1_2 u_32_14⟩ ⟨rfl, _, _, _, rfl, rfl⟩ ⟨_, _, _, _, rfl, rfl, rfl, by decide +kernel, ⟨Nat.le_of_ble_eq_true rfl, Nat.le_of_ble_eq_true rfl⟩, lGin u_32_16 u_32_17 u_32_18 u_1_5 u_32_19⟩ ⟨rfl, _, _, _, rfl, rfl⟩ (kk σ2 τ2 h2)
theorem lc_sends (C0 : lC p s m meth c D cA b L xs) {i : Nat} {σ τ : zT} (hi : i + 5 ≤ L) (hR : qRel σ τ) (kk : ∀ σ2 τ2, qRel σ2 τ2 → lS p l e s m below meth c D cA b adx adm 1134 i [] σ2 τ2) : lS p l e s m below meth c D cA b adx adm 797 i [] σ τ := by
  obtain ⟨r, σ2, τ2, m1, m2, h2⟩ := s_sends l hR (xs (i + 1)).toInt (xs (i + 2)).toInt
  exact l_case (z := 828) (off := 309) (idx1 := 101) (idx2 := 104) (ks := [1, 2]) (n := 2) C0 hi (by decide) rfl (by decide +kernel) (by decide) m1 m2 ⟨_, _, _, _, rfl, rfl, rfl, by decide +kernel, ⟨Nat.le_of_ble_eq_true rfl, Nat.le_of_ble_eq_true rfl⟩, lGin u_32_21 u_32_22 u_32_23 u_1_2 u_33_0⟩ ⟨rfl, _, _, _, rfl, rfl⟩ ⟨_, _, _, _, rfl, rfl, rfl, by decide +kernel, ⟨Nat.le_of_ble_eq_true rfl, Nat.le_of_ble_eq_true rfl⟩, lGin u_33_8 u_33_9 u_33_10 u_1_5 u_33_11⟩ ⟨rfl, _, _, _, rfl, rfl⟩ (kk σ2 τ2 h2)
theorem lc_copies (C0 : lC p s m meth c D cA b L xs) {i : Nat} {σ τ : zT} (hi : i + 5 ≤ L) (hR : qRel σ τ) (kk : ∀ σ2 τ2, qRel σ2 τ2 → lS p l e s m below meth c D cA b adx adm 1134 i [] σ2 τ2) : lS p l e s m below meth c D cA b adx adm 830 i [] σ τ := by
  obtain ⟨r, σ2, τ2, m1, m2, h2⟩ := s_copies l hR (xs (i + 1)).toInt (xs (i + 2)).toInt (xs (i + 3)).toInt (xs (i + 4)).toInt
  exact l_case (z := 881) (off := 256) (idx1 := 105) (idx2 := 109) (ks := [1, 2, 3, 4]) (n := 4) C0 hi (by decide) rfl (by decide +kernel) (by decide) m1 m2 ⟨_, _, _, _, rfl, rfl, rfl, by decide +kernel, ⟨Nat.le_of_ble_eq_true rfl, Nat.le_of_ble_eq_true rfl⟩, lGin u_33_16 u_33_17 u_33_18 u_1_2 u_33_19⟩ ⟨rfl, _, _, _, rfl, rfl⟩ ⟨_, _, _, _, rfl, rfl, rfl, by decide +kernel, ⟨Nat.le_of_ble_eq_true rfl, Nat.le_of_ble_eq_true rfl⟩, lGin u_34_0 u_34_1 u_34_2 u_1_5 u_34_3⟩ ⟨rfl, _, _, _, rfl, rfl⟩ (kk σ2 τ2 h2)
theorem lc_run (C0 : lC p s m meth c D cA b L xs) {i : Nat} {σ τ : zT} (hi : i + 5 ≤ L) (hR : qRel σ τ) (kk : ∀ σ2 τ2, qRel σ2 τ2 → lS p l e s m below meth c D cA b adx adm 1134 i [] σ2 τ2) : lS p l e s m below meth c D cA b adx adm 883 i [] σ τ := by
  obtain ⟨r, σ2, τ2, m1, m2, h2⟩ := s_run l hR (xs (i + 1)).toInt (xs (i + 2)).toInt (xs (i + 3)).toInt
  exact l_case (z := 924) (off := 213) (idx1 := 110) (idx2 := 113) (ks := [1, 2, 3]) (n := 3) C0 hi (by decide) rfl (by decide +kernel) (by decide) m1 m2 ⟨_, _, _, _, rfl, rfl, rfl, by decide +kernel, ⟨Nat.le_of_ble_eq_true rfl, Nat.le_of_ble_eq_true rfl⟩, lGin u_34_4 u_34_5 u_34_6 u_1_2 u_34_7⟩ ⟨rfl, _, _, _, rfl, rfl⟩ ⟨_, _, _, _, rfl, rfl, rfl, by decide +kernel, ⟨Nat.le_of_ble_eq_true rfl, Nat.le_of_ble_eq_true rfl⟩, lGin u_35_1 u_35_2 u_35_3 u_1_5 u_35_4⟩ ⟨rfl, _, _, _, rfl, rfl⟩ (kk σ2 τ2 h2)
theorem lc_reach (C0 : lC p s m meth c D cA b L xs) {i : Nat} {σ τ : zT} (hi : i + 5 ≤ L) (hR : qRel σ τ) (kk : ∀ σ2 τ2, qRel σ2 τ2 → lS p l e s m below meth c D cA b adx adm 1134 i [] σ2 τ2) : lS p l e s m below meth c D cA b adx adm 926 i [] σ τ := by
  obtain ⟨r, σ2, τ2, m1, m2, h2⟩ := s_reach l hR (xs (i + 1)).toInt (xs (i + 2)).toInt
  exact l_case (z := 957) (off := 180) (idx1 := 114) (idx2 := 117) (ks := [1, 2]) (n := 2) C0 hi (by decide) rfl (by decide +kernel) (by decide) m1 m2 ⟨_, _, _, _, rfl, rfl, rfl, by decide +kernel, ⟨Nat.le_of_ble_eq_true rfl, Nat.le_of_ble_eq_true rfl⟩, lGin u_35_10 u_35_11 u_35_12 u_1_2 u_35_13⟩ ⟨rfl, _, _, _, rfl, rfl⟩ ⟨_, _, _, _, rfl, rfl, rfl, by decide +kernel, ⟨Nat.le_of_ble_eq_true rfl, Nat.le_of_ble_eq_true rfl⟩, lGin u_35_22 u_35_23 u_36_0 u_1_5 u_36_1⟩ ⟨rfl, _, _, _, rfl, rfl⟩ (kk σ2 τ2 h2)
theorem lc_stop (C0 : lC p s m meth c D cA b L xs) {i : Nat} {σ τ : zT} (hi : i + 5 ≤ L) (hR : qRel σ τ) (kk : ∀ σ2 τ2, qRel σ2 τ2 → lS p l e s m below meth c D cA b adx adm 1134 i [] σ2 τ2) : lS p l e s m below meth c D cA b adx adm 959 i [] σ τ := by
  obtain ⟨r, σ2, τ2, m1, m2, h2⟩ := s_stop l hR (xs (i + 1)).toInt (xs (i + 2)).toInt
  exact l_case (z := 990) (off := 147) (idx1 := 118) (idx2 := 121) (ks := [1, 2]) (n := 2) C0 hi (by decide) rfl (by decide +kernel) (by decide) m1 m2 ⟨_, _, _, _, rfl, rfl, rfl, by decide +kernel, ⟨Nat.le_of_ble_eq_true rfl, Nat.le_of_ble_eq_true rfl⟩, lGin u_36_6 u_36_7 u_36_8 u_1_2 u_36_9⟩ ⟨rfl, _, _, _, rfl, rfl⟩ ⟨_, _, _, _, rfl, rfl, rfl, by decide +kernel, ⟨Nat.le_of_ble_eq_true rfl, Nat.le_of_ble_eq_true rfl⟩, lGin u_36_22 u_36_23 u_37_0 u_1_5 u_37_1⟩ ⟨rfl, _, _, _, rfl, rfl⟩ (kk σ2 τ2 h2)
theorem lc_keep (C0 : lC p s m meth c D cA b L xs) {i : Nat} {σ τ : zT} (hi : i + 5 ≤ L) (hR : qRel σ τ) (kk : ∀ σ2 τ2, qRel σ2 τ2 → lS p l e s m below meth c D cA b adx adm 1134 i [] σ2 τ2) : lS p l e s m below meth c D cA b adx adm 992 i [] σ τ := by
  obtain ⟨r, σ2, τ2, m1, m2, h2⟩ := s_keep l hR (xs (i + 1)).toInt
  exact l_case (z := 1013) (off := 124) (idx1 := 122) (idx2 := 125) (ks := [1]) (n := 1) C0 hi (by decide) rfl (by decide +kernel) (by decide) m1 m2 ⟨_, _, _, _, rfl, rfl, rfl, by decide +kernel, ⟨Nat.le_of_ble_eq_true rfl, Nat.le_of_ble_eq_true rfl⟩, lGin u_37_6 u_37_7 u_37_8 u_1_2 u_37_9⟩ ⟨rfl, _, _, _, rfl, rfl⟩ ⟨_, _, _, _, rfl, rfl, rfl, by decide +kernel, ⟨Nat.le_of_ble_eq_true rfl, Nat.le_of_ble_eq_true rfl⟩, lGin u_37_16 u_37_17 u_37_18 u_1_5 u_37_19⟩ ⟨rfl, _, _, _, rfl, rfl⟩ (kk σ2 τ2 h2)
theorem lc_burn (C0 : lC p s m meth c D cA b L xs) {i : Nat} {σ τ : zT} (hi : i + 5 ≤ L) (hR : qRel σ τ) (kk : ∀ σ2 τ2, qRel σ2 τ2 → lS p l e s m below meth c D cA b adx adm 1134 i [] σ2 τ2) : lS p l e s m below meth c D cA b adx adm 1015 i [] σ τ := by
  obtain ⟨r, σ2, τ2, m1, m2, h2⟩ := s_burn l hR
  exact l_case (z := 1026) (off := 111) (idx1 := 126) (idx2 := 129) (ks := []) (n := 0) C0 hi (by decide) rfl (by decide +kernel) (by decide) m1 m2 ⟨_, _, _, _, rfl, rfl, rfl, by decide +kernel, ⟨Nat.le_of_ble_eq_true rfl, Nat.le_of_ble_eq_true rfl⟩, lGin u_37_21 u_37_22 u_37_23 u_1_2 u_38_0⟩ ⟨rfl, _, _, _, rfl, rfl⟩ ⟨_, _, _, _, rfl, rfl, rfl, by decide +kernel, ⟨Nat.le_of_ble_eq_true rfl, Nat.le_of_ble_eq_true rfl⟩, lGin u_38_5 u_38_6 u_38_7 u_1_5 u_38_8⟩ ⟨rfl, _, _, _, rfl, rfl⟩ (kk σ2 τ2 h2)
theorem lc_hidden (C0 : lC p s m meth c D cA b L xs) {i : Nat} {σ τ : zT} (hi : i + 5 ≤ L) (hR : qRel σ τ) (kk : ∀ σ2 τ2, qRel σ2 τ2 → lS p l e s m below meth c D cA b adx adm 1134 i [] σ2 τ2) : lS p l e s m below meth c D cA b adx adm 1028 i [] σ τ := by
  obtain ⟨r, σ2, τ2, m1, m2, h2⟩ := s_hidden l hR
  exact l_case (z := 1039) (off := 98) (idx1 := 130) (idx2 := 133) (ks := []) (n := 0) C0 hi (by decide) rfl (by decide +kernel) (by decide) m1 m2 ⟨_, _, _, _, rfl, rfl, rfl, by decide +kernel, ⟨Nat.le_of_ble_eq_true rfl, Nat.le_of_ble_eq_true rfl⟩, lGin u_38_9 u_38_10 u_38_11 u_1_2 u_38_12⟩ ⟨rfl, _, _, _, rfl, rfl⟩ ⟨_, _, _, _, rfl, rfl, rfl, by decide +kernel, ⟨Nat.le_of_ble_eq_true rfl, Nat.le_of_ble_eq_true rfl⟩, lGin u_39_0 u_39_1 u_39_2 u_1_5 u_39_3⟩ ⟨rfl, _, _, _, rfl, rfl⟩ (kk σ2 τ2 h2)
theorem lc_sign (C0 : lC p s m meth c D cA b L xs) {i : Nat} {σ τ : zT} (hi : i + 5 ≤ L) (hR : qRel σ τ) (kk : ∀ σ2 τ2, qRel σ2 τ2 → lS p l e s m below meth c D cA b adx adm 1134 i [] σ2 τ2) : lS p l e s m below meth c D cA b adx adm 1041 i [] σ τ := by
  obtain ⟨r, σ2, τ2, m1, m2, h2⟩ := s_sign l hR (xs (i + 1)).toInt
  exact l_case (z := 1062) (off := 75) (idx1 := 134) (idx2 := 137) (ks := [1]) (n := 1) C0 hi (by decide) rfl (by decide +kernel) (by decide) m1 m2 ⟨_, _, _, _, rfl, rfl, rfl, by decide +kernel, ⟨Nat.le_of_ble_eq_true rfl, Nat.le_of_ble_eq_true rfl⟩, lGin u_39_5 u_39_6 u_39_7 u_1_2 u_39_8⟩ ⟨rfl, _, _, _, rfl, rfl⟩ ⟨_, _, _, _, rfl, rfl, rfl, by decide +kernel, ⟨Nat.le_of_ble_eq_true rfl, Nat.le_of_ble_eq_true rfl⟩, lGin u_39_12 u_39_13 u_39_14 u_1_5 u_39_15⟩ ⟨rfl, _, _, _, rfl, rfl⟩ (kk σ2 τ2 h2)
theorem lc_limb (C0 : lC p s m meth c D cA b L xs) {i : Nat} {σ τ : zT} (hi : i + 5 ≤ L) (hR : qRel σ τ) (kk : ∀ σ2 τ2, qRel σ2 τ2 → lS p l e s m below meth c D cA b adx adm 1134 i [] σ2 τ2) : lS p l e s m below meth c D cA b adx adm 1064 i [] σ τ := by
  obtain ⟨r, σ2, τ2, m1, m2, h2⟩ := s_limb l hR (xs (i + 1)).toInt (xs (i + 2)).toInt
  exact l_case (z := 1095) (off := 42) (idx1 := 138) (idx2 := 141) (ks := [1, 2]) (n := 2) C0 hi (by decide) rfl (by decide +kernel) (by decide) m1 m2 ⟨_, _, _, _, rfl, rfl, rfl, by decide +kernel, ⟨Nat.le_of_ble_eq_true rfl, Nat.le_of_ble_eq_true rfl⟩, lGin u_39_16 u_39_17 u_39_18 u_1_2 u_39_19⟩ ⟨rfl, _, _, _, rfl, rfl⟩ ⟨_, _, _, _, rfl, rfl, rfl, by decide +kernel, ⟨Nat.le_of_ble_eq_true rfl, Nat.le_of_ble_eq_true rfl⟩, lGin u_40_0 u_40_1 u_40_2 u_1_5 u_40_3⟩ ⟨rfl, _, _, _, rfl, rfl⟩ (kk σ2 τ2 h2)
theorem lc_count (C0 : lC p s m meth c D cA b L xs) {i : Nat} {σ τ : zT} (hi : i + 5 ≤ L) (hR : qRel σ τ) (kk : ∀ σ2 τ2, qRel σ2 τ2 → lS p l e s m below meth c D cA b adx adm 1134 i [] σ2 τ2) : lS p l e s m below meth c D cA b adx adm 1097 i [] σ τ := by
  obtain ⟨r, σ2, τ2, m1, m2, h2⟩ := s_count l hR (xs (i + 1)).toInt
  exact l_case (z := 1118) (off := 19) (idx1 := 142) (idx2 := 145) (ks := [1]) (n := 1) C0 hi (by decide) rfl (by decide +kernel) (by decide) m1 m2 ⟨_, _, _, _, rfl, rfl, rfl, by decide +kernel, ⟨Nat.le_of_ble_eq_true rfl, Nat.le_of_ble_eq_true rfl⟩, lGin u_40_4 u_40_5 u_40_6 u_1_2 u_40_7⟩ ⟨rfl, _, _, _, rfl, rfl⟩ ⟨_, _, _, _, rfl, rfl, rfl, by decide +kernel, ⟨Nat.le_of_ble_eq_true rfl, Nat.le_of_ble_eq_true rfl⟩, lGin u_40_12 u_40_13 u_40_14 u_1_5 u_40_15⟩ ⟨rfl, _, _, _, rfl, rfl⟩ (kk σ2 τ2 h2)
theorem lc_digest (C0 : lC p s m meth c D cA b L xs) {i : Nat} {σ τ : zT} (hi : i + 5 ≤ L) (hR : qRel σ τ) (kk : ∀ σ2 τ2, qRel σ2 τ2 → lS p l e s m below meth c D cA b adx adm 1134 i [] σ2 τ2) : lS p l e s m below meth c D cA b adx adm 1120 i [] σ τ := by
  obtain ⟨r, σ2, τ2, m1, m2, h2⟩ := s_digest l hR
  exact l_caseJ (z := 1132) (off := 5) (idx1 := 146) (idx2 := 150) (ks := []) (n := 0) C0 hi (by decide) rfl (by decide +kernel) (by decide) m1 m2 ⟨_, _, _, _, rfl, rfl, rfl, by decide +kernel, ⟨Nat.le_of_ble_eq_true rfl, Nat.le_of_ble_eq_true rfl⟩, lGin u_40_20 u_40_21 u_40_22 u_1_2 u_40_23⟩ ⟨rfl, _, _, _, rfl, rfl⟩ ⟨_, _, _, _, rfl, rfl, rfl, by decide +kernel, ⟨Nat.le_of_ble_eq_true rfl, Nat.le_of_ble_eq_true rfl⟩, lGin u_42_16 u_42_17 u_42_18 u_1_5 u_42_19⟩ ⟨rfl, _, _, _, rfl, rfl⟩ (kk σ2 τ2 h2)
theorem l_offs : ∀ K : Nat, K < 32 → ∃ t : Nat, ([176, 209, 252, 285, 318, 331, 354, 387, 410, 443, 476, 509, 552, 585, 598, 611, 634, 677, 700, 734, 797, 830, 883, 926, 959, 992, 1015, 1028, 1041, 1064, 1097, 1120] : List Nat)[K]? = some t ∧ (#[144, 177, 220, 253, 286, 299, 322, 355, 378, 411, 444, 477, 520, 553, 566, 579, 602, 645, 668, 702, 765, 798, 851, 894, 927, 960, 983, 996, 1009, 1032, 1065, 1088] : Array Int)[K]? = some ((t : Int) - 32) := by
  intro K hK
  rcases (show K = 0 ∨ K = 1 ∨ K = 2 ∨ K = 3 ∨ K = 4 ∨ K = 5 ∨ K = 6 ∨ K = 7 ∨ K = 8 ∨ K = 9 ∨ K = 10 ∨ K = 11 ∨ K = 12 ∨ K = 13 ∨ K = 14 ∨ K = 15 ∨ K = 16 ∨ K = 17 ∨ K = 18 ∨ K = 19 ∨ K = 20 ∨ K = 21 ∨ K = 22 ∨ K = 23 ∨ K = 24 ∨ K = 25 ∨ K = 26 ∨ K = 27 ∨ K = 28 ∨ K = 29 ∨ K = 30 ∨ K = 31 by omega) with rfl | rfl | rfl | rfl | rfl | rfl | rfl | rfl | rfl | rfl | rfl | rfl | rfl | rfl | rfl | rfl | rfl | rfl | rfl | rfl | rfl | rfl | rfl | rfl | rfl | rfl | rfl | rfl | rfl | rfl | rfl | rfl
  · exact ⟨176, rfl, rfl⟩
  · exact ⟨209, rfl, rfl⟩
  · exact ⟨252, rfl, rfl⟩
  · exact ⟨285, rfl, rfl⟩
  · exact ⟨318, rfl, rfl⟩
  · exact ⟨331, rfl, rfl⟩
  · exact ⟨354, rfl, rfl⟩
  · exact ⟨387, rfl, rfl⟩
  · exact ⟨410, rfl, rfl⟩
  · exact ⟨443, rfl, rfl⟩
  · exact ⟨476, rfl, rfl⟩
  · exact ⟨509, rfl, rfl⟩
  · exact ⟨552, rfl, rfl⟩
  · exact ⟨585, rfl, rfl⟩
  · exact ⟨598, rfl, rfl⟩
  · exact ⟨611, rfl, rfl⟩
  · exact ⟨634, rfl, rfl⟩
  · exact ⟨677, rfl, rfl⟩
  · exact ⟨700, rfl, rfl⟩
  · exact ⟨734, rfl, rfl⟩
  · exact ⟨797, rfl, rfl⟩
  · exact ⟨830, rfl, rfl⟩
  · exact ⟨883, rfl, rfl⟩
  · exact ⟨926, rfl, rfl⟩
  · exact ⟨959, rfl, rfl⟩
  · exact ⟨992, rfl, rfl⟩
  · exact ⟨1015, rfl, rfl⟩
  · exact ⟨1028, rfl, rfl⟩
  · exact ⟨1041, rfl, rfl⟩
  · exact ⟨1064, rfl, rfl⟩
  · exact ⟨1097, rfl, rfl⟩
  · exact ⟨1120, rfl, rfl⟩
theorem l_decS : decode code 32 = .ok (.tableswitch 1102 0 31 #[144, 177, 220, 253, 286, 299, 322, 355, 378, 411, 444, 477, 520, 553, 566, 579, 602, 645, 668, 702, 765, 798, 851, 894, 927, 960, 983, 996, 1009, 1032, 1065, 1088], 144) := by decide +kernel
theorem l_loop (C0 : lC p s m meth c D cA b L xs) : ∀ (n i : Nat) (σ τ : zT), i ≤ L + 5 → L + 6 ≤ i + n → qRel σ τ → lS p l e s m below meth c D cA b adx adm 18 i [] σ τ := by
  intro n
  induction n with
  | zero => intro i σ τ h1 h2; omega
  | succ n ih =>
    intro i σ τ h1 h2 hR
    refine l_head C0 h1 (by decide +kernel) (by decide +kernel) (fun hi => ?_)
    have nx : ∀ σ2 τ2, qRel σ2 τ2 → lS p l e s m below meth c D cA b adx adm 1134 i [] σ2 τ2 := fun σ2 τ2 hR2 => l_next C0 (by decide +kernel) (ih (i + 5) σ2 τ2 (by omega) (by omega) hR2)
    refine l_sw (tg := [176, 209, 252, 285, 318, 331, 354, 387, 410, 443, 476, 509, 552, 585, 598, 611, 634, 677, 700, 734, 797, 830, 883, 926, 959, 992, 1015, 1028, 1041, 1064, 1097, 1120]) C0 hi (by decide +kernel) l_decS l_offs (fun K t hK => ?_)
    match K, hK with
    | 0, hK => cases hK; exact lc_letter C0 hi hR nx
    | 1, hK => cases hK; exact lc_form C0 hi hR nx
    | 2, hK => cases hK; exact lc_cost C0 hi hR nx
    | 3, hK => cases hK; exact lc_price C0 hi hR nx
    | 4, hK => cases hK; exact lc_least C0 hi hR nx
    | 5, hK => cases hK; exact lc_way C0 hi hR nx
    | 6, hK => cases hK; exact lc_may C0 hi hR nx
    | 7, hK => cases hK; exact lc_sure C0 hi hR nx
    | 8, hK => cases hK; exact lc_date C0 hi hR nx
    | 9, hK => cases hK; exact lc_name C0 hi hR nx
    | 10, hK => cases hK; exact lc_slips C0 hi hR nx
    | 11, hK => cases hK; exact lc_worn C0 hi hR nx
    | 12, hK => cases hK; exact lc_habit C0 hi hR nx
    | 13, hK => cases hK; exact lc_lives C0 hi hR nx
    | 14, hK => cases hK; exact lc_mean C0 hi hR nx
    | 15, hK => cases hK; exact lc_gone C0 hi hR nx
    | 16, hK => cases hK; exact lc_asking C0 hi hR nx
    | 17, hK => cases hK; exact lc_best C0 hi hR nx
    | 18, hK => cases hK; exact lc_round C0 hi hR nx
    | 19, hK => cases hK; exact lc_outrun C0 hi hR nx
    | 20, hK => cases hK; exact lc_sends C0 hi hR nx
    | 21, hK => cases hK; exact lc_copies C0 hi hR nx
    | 22, hK => cases hK; exact lc_run C0 hi hR nx
    | 23, hK => cases hK; exact lc_reach C0 hi hR nx
    | 24, hK => cases hK; exact lc_stop C0 hi hR nx
    | 25, hK => cases hK; exact lc_keep C0 hi hR nx
    | 26, hK => cases hK; exact lc_burn C0 hi hR nx
    | 27, hK => cases hK; exact lc_hidden C0 hi hR nx
    | 28, hK => cases hK; exact lc_sign C0 hi hR nx
    | 29, hK => cases hK; exact lc_limb C0 hi hR nx
    | 30, hK => cases hK; exact lc_count C0 hi hR nx
    | 31, hK => cases hK; exact lc_digest C0 hi hR nx
    | K + 32, hK => simp at hK
end LAWC
