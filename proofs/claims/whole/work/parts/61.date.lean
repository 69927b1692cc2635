/-! ===== trees: dates; way and date ===== -/
def qag (c : Nat) (E L E2 L2 : Nat → Int) : Prop := ∀ j, j < c → E j = E2 j ∧ L j = L2 j
section ZDATE
variable {c : Nat} {F C fr to : Nat → Int}
theorem l_dt2 (hc : c ≤ 8) (p1 p2 : Int) : ∀ (n k : Nat) (E L E2 L2 : Nat → Int), 8 - k < n → k ≤ c → (∀ j, j < k → E j = E2 j ∧ L j = L2 j) → ∃ e l e2 l2, l_X8_datesOfTheHeld_2 n k c fr to E L = some (e, l) ∧ l_X10_date_27 n p1 p2 k c fr to E2 L2 = some (e2, l2) ∧ qag c e l e2 l2 := by
  intro n
  induction n with
  | zero => intro k E L E2 L2 h; omega
  | succ n ih =>
    intro k E L E2 L2 hn hk ha
    rw [l_X8_datesOfTheHeld_2, l_X10_date_27]
    by_cases he : k = c
    · subst he
      rw [if_neg (by omega), if_neg (by omega)]
      exact ⟨_, _, _, _, rfl, rfl, ha⟩
    · have g : zin (k : Int) 8 := by omega
      have gz : zI ((k : Int) + 1) := by omega
      have e1 : f_X4_firstYear (k : Int) fr = some (fr k) := by
        unfold f_X4_firstYear
        rw [if_pos g, Int.toNat_natCast]
      have e2 : f_X4_lastYear (k : Int) to = some (to k) := by
        unfold f_X4_lastYear
        rw [if_pos g, Int.toNat_natCast]
      have hlt : (k : Int) < (c : Int) := by omega
      rw [if_pos hlt, if_pos hlt, e1, q_bs, if_pos g, e2, q_bs, if_pos ⟨g, gz⟩, if_pos ⟨g, g, g, g⟩, if_pos gz, Int.toNat_natCast]
      refine ih (k + 1) _ _ _ _ (by omega) (by omega) (fun j hj => ?_)
      rw [q_zu, q_zu, q_zu, q_zu]
      by_cases hjk : j = k
      · rw [if_pos hjk, if_pos hjk, if_pos hjk, if_pos hjk]
        exact ⟨rfl, rfl⟩
      · rw [if_neg hjk, if_neg hjk, if_neg hjk, if_neg hjk]
        exact ha j (by omega)
theorem l_push (hc : c ≤ 8) (p1 p2 p3 : Int) {s k : Nat} (hs : s < 256) (hk : k < c) {h : Nat → Int} (hh : h k = (s : Int)) : ∀ (n o : Nat) (E L E2 L2 : Nat → Int), 8 - o < n → o ≤ c → qag c E L E2 L2 → ∃ e l e2 l2, l_X8_pushYears_2 n k o c h E L = some (e, l) ∧ l_X10_date_103 n p1 p2 p3 k s o c E2 L2 = some (e2, l2) ∧ qag c e l e2 l2 := by
  intro n
  induction n with
  | zero => intro o E L E2 L2 h; omega
  | succ n ih =>
    intro o E L E2 L2 hn ho ha
    rw [l_X8_pushYears_2, l_X10_date_103]
    by_cases he : o = c
    · subst he
      rw [if_neg (by omega), if_neg (by omega)]
      exact ⟨_, _, _, _, rfl, rfl, ha⟩
    · have gk : zin (k : Int) 8 := by omega
      have go : zin (o : Int) 8 := by omega
      have gz : zI ((o : Int) + 1) := by omega
      have hlt : (o : Int) < (c : Int) := by omega
      rw [if_pos hlt, if_pos hlt, if_pos gk, Int.toNat_natCast, Int.toNat_natCast, hh]
      cases hb : s.testBit o
      · rw [q_bit0 (by omega) (by omega) hb, if_pos rfl, if_neg q_01, if_pos gz, if_pos gz]
        exact ih (o + 1) E L E2 L2 (by omega) (by omega) ha
      · have a1 := ha k hk
        have a2 := ha o (by omega)
        rw [q_bit1 (by omega) (by omega) hb, if_neg q_10, if_pos rfl, if_pos ⟨gk, go, gk⟩, if_pos ⟨go, gk, go⟩, if_pos gz, if_pos ⟨go, gk⟩]
        have fin : ∀ e2 l2 : Nat → Int, e2 k = max (E k) (E o) → l2 o = min (L o) (L k) → (∀ j, j ≠ k → e2 j = E2 j) → (∀ j, j ≠ o → l2 j = L2 j) → qag c (zu E k (max (E k) (E o))) (zu L o (min (L o) (L k))) e2 l2 := by
          intro e2 l2 x1 x2 x3 x4 j hj
          have a3 := ha j hj
          rw [q_zu, q_zu]
          refine ⟨?_, ?_⟩
          · by_cases hjk : j = k
            · rw [if_pos hjk, hjk, x1]
            · rw [if_neg hjk, x3 j hjk]; exact a3.1
          · by_cases hjo : j = o
            · rw [if_pos hjo, hjo, x2]
            · rw [if_neg hjo, x4 j hjo]; exact a3.2
        by_cases c1 : E2 k < E2 o
        · rw [if_pos c1, if_pos go, if_pos ⟨gk, gk, go⟩]
          by_cases c2 : L2 k < L2 o
          · rw [if_pos c2, if_pos gk, if_pos go, if_pos gz]
            refine ih (o + 1) _ _ _ _ (by omega) (by omega) (fin _ _ ?_ ?_ (fun j hj => by rw [q_zu, if_neg hj]) (fun j hj => by rw [q_zu, if_neg hj]))
            · rw [q_zu, if_pos rfl]; omega
            · rw [q_zu, if_pos rfl]; omega
          · rw [if_neg c2, if_pos go, if_pos go, if_pos gz]
            refine ih (o + 1) _ _ _ _ (by omega) (by omega) (fin _ _ ?_ ?_ (fun j hj => by rw [q_zu, if_neg hj]) (fun j hj => by rw [q_zu, if_neg hj]))
            · rw [q_zu, if_pos rfl]; omega
            · rw [q_zu, if_pos rfl]; omega
        · rw [if_neg c1, if_pos gk, if_pos ⟨gk, gk, go⟩]
          by_cases c2 : L2 k < L2 o
          · rw [if_pos c2, if_pos gk, if_pos go, if_pos gz]
            refine ih (o + 1) _ _ _ _ (by omega) (by omega) (fin _ _ ?_ ?_ (fun j hj => by rw [q_zu, if_neg hj]) (fun j hj => by rw [q_zu, if_neg hj]))
            · rw [q_zu, if_pos rfl]; omega
            · rw [q_zu, if_pos rfl]; omega
          · rw [if_neg c2, if_pos go, if_pos go, if_pos gz]
            refine ih (o + 1) _ _ _ _ (by omega) (by omega) (fin _ _ ?_ ?_ (fun j hj => by rw [q_zu, if_neg hj]) (fun j hj => by rw [q_zu, if_neg hj]))
            · rw [q_zu, if_pos rfl]; omega
            · rw [q_zu, if_pos rfl]; omega
/-- what is held speaks of the ways -/
def qhw (c : Nat) (W h : Nat → Int) : Prop := ∀ k, k < c → ∃ w : Nat, qvw c k w ∧ W k = (w : Int) ∧ h k = (qsr w : Int)
theorem l_dt62 (hc : c ≤ 8) (p1 p2 p3 p4 : Int) {W h : Nat → Int} (hW : qhw c W h) : ∀ (n k : Nat) (E L E2 L2 : Nat → Int), 8 - k < n → k ≤ c → qag c E L E2 L2 → ∃ e l e2 l2, l_X8_datesOfTheHeld_62 n p4 k c h E L = some (e, l) ∧ l_X10_date_78 n p1 p2 p3 k c W E2 L2 = some (e2, l2) ∧ qag c e l e2 l2 := by
  intro n
  induction n with
  | zero => intro k E L E2 L2 h; omega
  | succ n ih =>
    intro k E L E2 L2 hn hk ha
    rw [l_X8_datesOfTheHeld_62, l_X10_date_78]
    by_cases he : k = c
    · subst he
      rw [if_neg (by omega), if_neg (by omega)]
      exact ⟨_, _, _, _, rfl, rfl, ha⟩
    · have hkc : k < c := by omega
      have hlt : (k : Int) < (c : Int) := by omega
      have gz : zI ((k : Int) + 1) := by omega
      obtain ⟨w, w1, w2, w3⟩ := hW k hkc
      have hs := qsr_b hc w1
      have h8 := q_p8 hc
      obtain ⟨e, l, e2, l2, a1, a2, a3⟩ := l_push hc p1 p2 p3 (s := qsr w) (by omega) hkc w3 zN 0 E L E2 L2 (by have := zN_big; omega) (by omega) ha
      have a1 : l_X8_pushYears_2 zN k 0 c h E L = some (e, l) := a1
      have a2 : l_X10_date_103 zN p1 p2 p3 k (qsr w) 0 c E2 L2 = some (e2, l2) := a2
      unfold f_X8_pushYears
      rw [if_pos hlt, if_pos hlt, a1, q_bs, q_bs, if_pos gz, if_pos (show zin (k : Int) 8 by omega), Int.toNat_natCast, w2, q_sourcesR hc w1, q_bs, a2, q_bs, if_pos gz]
      exact ih (k + 1) _ _ _ _ (by omega) (by omega) a3
theorem l_dt49 (hc : c ≤ 8) (p1 p2 : Int) {W h : Nat → Int} (hW : qhw c W h) : ∀ (n k : Nat) (E L E2 L2 : Nat → Int), 8 - k < n → k ≤ c → qag c E L E2 L2 → ∃ e l e2 l2, l_X8_datesOfTheHeld_49 n k c h E L = some (e, l) ∧ l_X10_date_67 n p1 p2 k c W E2 L2 = some (e2, l2) ∧ qag c e l e2 l2 := by
  intro n
  induction n with
  | zero => intro k E L E2 L2 h; omega
  | succ n ih =>
    intro k E L E2 L2 hn hk ha
    rw [l_X8_datesOfTheHeld_49, l_X10_date_67]
    by_cases he : k = c
    · subst he
      rw [if_neg (by omega), if_neg (by omega)]
      exact ⟨_, _, _, _, rfl, rfl, ha⟩
    · have hlt : (k : Int) < (c : Int) := by omega
      have gz : zI ((k : Int) + 1) := by omega
      obtain ⟨e, l, e2, l2, a1, a2, a3⟩ := l_dt62 hc p1 p2 k k hW zN 0 E L E2 L2 (by have := zN_big; omega) (by omega) ha
      have a1 : l_X8_datesOfTheHeld_62 zN k 0 c h E L = some (e, l) := a1
      have a2 : l_X10_date_78 zN p1 p2 k 0 c W E2 L2 = some (e2, l2) := a2
      rw [if_pos hlt, if_pos hlt, a1, a2, q_bs, q_bs, if_pos gz, if_pos gz]
      exact ih (k + 1) _ _ _ _ (by omega) (by omega) a3
theorem l_dt97 (hc : c ≤ 8) (p1 p2 : Int) {E L E2 L2 : Nat → Int} (ha : qag c E L E2 L2) : ∀ (n k : Nat) (q : Int), 8 - k < n → k ≤ c → q = 0 ∨ q = 1 → ∃ r : Int, l_X8_datesOfTheHeld_97 n k q c E L = some r ∧ l_X10_date_228 n p1 p2 (1 - q) k c E2 L2 = some (1 - r) ∧ (r = 0 ∨ r = 1) := by
  intro n
  induction n with
  | zero => intro k q h; omega
  | succ n ih =>
    intro k q hn hk hq
    rw [l_X8_datesOfTheHeld_97, l_X10_date_228]
    by_cases he : k = c
    · subst he
      rw [if_neg (by omega), if_neg (by omega)]
      exact ⟨q, rfl, rfl, hq⟩
    · have hlt : (k : Int) < (c : Int) := by omega
      have gz : zI ((k : Int) + 1) := by omega
      have gk : zin (k : Int) 8 := by omega
      rw [if_pos hlt, if_pos hlt]
      rcases hq with hq | hq
      · subst hq
        have h1 := ha k (by omega)
        have gg : zin (k : Int) 8 ∧ zin (k : Int) 8 := ⟨gk, gk⟩
        rw [if_pos rfl, if_neg (show ¬ (1 : Int) - 0 = 0 by omega), if_pos gg, if_pos gg, Int.toNat_natCast, ← h1.1, ← h1.2]
        by_cases h2 : L k < E k
        · rw [if_pos h2, if_pos h2, if_pos gz, if_pos gz]
          exact ih (k + 1) 1 (by omega) (by omega) (Or.inr rfl)
        · rw [if_neg h2, if_neg h2, if_pos gz, if_pos gz]
          exact ih (k + 1) 0 (by omega) (by omega) (Or.inl rfl)
      · subst hq
        rw [if_neg q_10, if_pos (show (1 : Int) - 1 = 0 by omega), if_pos gz, if_pos gz]
        exact ih (k + 1) 1 (by omega) (by omega) (Or.inr rfl)
/-- the dates that the class holds ready are those that the reference finds -/
def qdr (c : Nat) (fr to W : Nat → Int) (q : Int) (E L : Nat → Int) : Prop := (q = 0 ∨ q = 1) ∧ ∀ (p1 p2 : Int) (X E0 L0 : Nat → Int), (∀ i, i < c → X i = W i) → ∃ e1 l1 e2 l2, l_X10_date_27 zN p1 p2 0 c fr to E0 L0 = some (e1, l1) ∧ l_X10_date_67 zN p1 p2 0 c X e1 l1 = some (e2, l2) ∧ l_X10_date_228 zN p1 p2 1 0 c e2 l2 = some (1 - q) ∧ qag c E L e2 l2
theorem q_dates (hc : c ≤ 8) {W h : Nat → Int} (hW : qhw c W h) (q : Int) (E L : Nat → Int) : ∃ q2 E2 L2, f_X8_datesOfTheHeld q c fr to h E L = some (q2, E2, L2) ∧ qdr c fr to W q2 E2 L2 := by
  have key : ∀ (p1 p2 : Int) (X E0 L0 : Nat → Int), (∀ i, i < c → X i = W i) → ∃ e1 l1 e2 l2 e3 l3 e4 l4 q2, l_X8_datesOfTheHeld_2 zN 0 c fr to E L = some (e3, l3) ∧ l_X8_datesOfTheHeld_49 zN 0 c h e3 l3 = some (e4, l4) ∧ l_X8_datesOfTheHeld_97 zN 0 0 c e4 l4 = some q2 ∧ l_X10_date_27 zN p1 p2 0 c fr to E0 L0 = some (e1, l1) ∧ l_X10_date_67 zN p1 p2 0 c X e1 l1 = some (e2, l2) ∧ l_X10_date_228 zN p1 p2 1 0 c e2 l2 = some (1 - q2) ∧ qag c e4 l4 e2 l2 ∧ (q2 = 0 ∨ q2 = 1) := by
    intro p1 p2 X E0 L0 hX
    have hX2 : qhw c X h := fun k hk => by
      obtain ⟨w, w1, w2, w3⟩ := hW k hk
      exact ⟨w, w1, by rw [hX k hk]; exact w2, w3⟩
    obtain ⟨e3, l3, e1, l1, a1, a2, a3⟩ := l_dt2 (fr := fr) (to := to) hc p1 p2 zN 0 E L E0 L0 (by have := zN_big; omega) (by omega) (fun j hj => by omega)
    obtain ⟨e4, l4, e2, l2, b1, b2, b3⟩ := l_dt49 hc p1 p2 hX2 zN 0 e3 l3 e1 l1 (by have := zN_big; omega) (by omega) a3
    obtain ⟨q2, d1, d2, d3⟩ := l_dt97 hc p1 p2 b3 zN 0 0 (by have := zN_big; omega) (by omega) (Or.inl rfl)
    exact ⟨e1, l1, e2, l2, e3, l3, e4, l4, q2, a1, b1, d1, a2, b2, d2, b3, d3⟩
  obtain ⟨_, _, _, _, e3, l3, e4, l4, q2, a1, a2, a3, _, _, _, _, a4⟩ := key 0 0 W E L (fun i _ => rfl)
  unfold f_X8_datesOfTheHeld
  rw [a1, q_bs]
  dsimp only
  rw [a2, q_bs]
  dsimp only
  rw [a3, q_bs]
  refine ⟨q2, e4, l4, rfl, a4, fun p1 p2 X E0 L0 hX => ?_⟩
  obtain ⟨e1, l1, e2, l2, e3b, l3b, e4b, l4b, q2b, b1, b2, b3, b4, b5, b6, b7, _⟩ := key p1 p2 X E0 L0 hX
  rw [a1] at b1
  cases b1
  rw [a2] at b2
  cases b2
  rw [a3] at b3
  cases b3
  exact ⟨e1, l1, e2, l2, b4, b5, b6, b7⟩
/-- what the class holds ready of ways and dates -/
def qti (c : Nat) (F C fr to : Nat → Int) (ts : Int) (W : Nat → Int) (q : Int) (E L : Nat → Int) : Prop := ts ≠ 0 → (∃ m, qmn c F C qno1 m ∧ qgr c F C m W c) ∧ qdr c fr to W q E L
theorem q_settle (hC : ∀ j, 0 ≤ C j ∧ C j ≤ 9) (hc : c ≤ 8) {cS tp cost ts q : Int} {K T W E L : Nat → Int} (hI : qpi c F C cS K tp cost T) (hJ : qti c F C fr to ts W q E L) (P B R D h hp : Nat → Int) :
    ∃ (cost2 tp2 ts2 q2 cS2 : Int) (K2 T2 P2 B2 R2 D2 h2 hp2 W2 E2 L2 : Nat → Int), f_X8_settle cost tp ts q c cS fr to F C K T P B R D h hp W E L = some (cost2, tp2, ts2, q2, cS2, K2, T2, P2, B2, R2, D2, h2, hp2, W2, E2, L2) ∧ ts2 ≠ 0 ∧ qpi c F C cS2 K2 tp2 cost2 T2 ∧ qti c F C fr to ts2 W2 q2 E2 L2 := by
  unfold f_X8_settle
  by_cases ht : ts = 0
  · obtain ⟨m, tp2, cS2, K2, T2, P2, B2, h2, e1, e2, e3, e4, e5, e6⟩ := q_leastCost hC hc hI P B h hp
    obtain ⟨h3, f1, f2⟩ := q_free (F := F) (C := C) hc h2 hp
    have hb := qmn_b hC hc e2.1
    obtain ⟨B3, R3, D3, h4, hp4, W4, s1, s2, s3⟩ := l_settle19 hC hc e5 e6 (m := m) (by omega) zN 0 B2 R D h3 hp W (by have := zN_big; omega) (by omega) (fun l hl => by omega) (by rw [qpre_zero]; exact f2) (by rw [qpre_zero]; exact e2)
    have s1 : l_X8_settle_19 zN 0 m c F C K2 T2 B2 R D h3 hp W = some (B3, R3, D3, h4, hp4, W4) := s1
    have hW : qhw c W4 h4 := fun k hk => by
      obtain ⟨w, a1, a2, a3, a4⟩ := s2 k hk
      rcases s3 k hk with ⟨h1, h2⟩ | ⟨u, u1, u2, u3, u4⟩
      · rw [qpre_in W4 hk] at h1
        omega
      · rw [qpre_in W4 hk] at u2
        exact ⟨u, u1, u2, u3⟩
    obtain ⟨q2, E2, L2, d1, d2⟩ := q_dates (fr := fr) (to := to) hc hW q E L
    rw [if_pos ht, e1, q_bs]
    dsimp only
    rw [f1, q_bs, s1, q_bs]
    dsimp only
    rw [d1, q_bs]
    exact ⟨_, _, _, _, _, _, _, _, _, _, _, _, _, _, _, _, rfl, by omega, ⟨fun _ => e5, fun _ => ⟨e4, e6, e2⟩⟩, fun _ => ⟨⟨m, e2, s2⟩, d2⟩⟩
  · rw [if_neg ht]
    exact ⟨_, _, _, _, _, _, _, _, _, _, _, _, _, _, _, _, rfl, ht, hI, hJ⟩
/-- way: class and reference -/
theorem q_pway (p1 : Int) (hC : ∀ j, 0 ≤ C j ∧ C j ≤ 9) (hc : c ≤ 8) {cS tp cost ts q : Int} {K T W E L : Nat → Int} (hI : qpi c F C cS K tp cost T) (hJ : qti c F C fr to ts W q E L) (P B R D h hp H X Y : Nat → Int) :
    ∃ (r cS2 cost2 tp2 ts2 q2 : Int) (K2 T2 P2 B2 R2 D2 h2 hp2 W2 E2 L2 H2 X2 Y2 : Nat → Int), f_X9_way p1 c cS fr to F C K cost tp ts q T P B R D h hp W E L = some (r, cS2, K2, cost2, tp2, ts2, q2, T2, P2, B2, R2, D2, h2, hp2, W2, E2, L2) ∧ f_X10_way p1 c F C H X Y = some (r, H2, X2, Y2) ∧ qpi c F C cS2 K2 tp2 cost2 T2 ∧ qti c F C fr to ts2 W2 q2 E2 L2 := by
  unfold f_X9_way f_X10_way
  rw [q_isLetter p1 c (by omega) (by omega), q_has, q_bs, q_bs]
  by_cases h1 : 0 ≤ p1 ∧ p1 < (c : Int)
  · rw [if_pos h1, if_neg q_10, if_neg q_10]
    obtain ⟨l, rfl⟩ : ∃ l : Nat, p1 = l := ⟨p1.toNat, by omega⟩
    have hl : l < c := by omega
    obtain ⟨cost2, tp2, ts2, q2, cS2, K2, T2, P2, B2, R2, D2, h2, hp2, W2, E2, L2, e1, e2, e3, e4⟩ := q_settle hC hc hI hJ P B R D h hp
    obtain ⟨⟨m, m1, m2⟩, m3⟩ := e4 e2
    obtain ⟨H2, X2, Y2, g1, g2⟩ := q_plants hC hc m1 H X Y
    have g : zin (l : Int) 8 := by omega
    unfold f_X8_wayOf
    rw [e1, g1, q_bs, q_bs]
    dsimp only
    rw [if_pos g, if_pos g, q_bs, Int.toNat_natCast, qgr_uniq g2 m2 l hl]
    exact ⟨_, _, _, _, _, _, _, _, _, _, _, _, _, _, _, _, _, _, _, _, rfl, rfl, e3, e4⟩
  · rw [if_neg h1, if_pos rfl, if_pos rfl]
    exact ⟨_, _, _, _, _, _, _, _, _, _, _, _, _, _, _, _, _, _, _, _, rfl, rfl, hI, hJ⟩
/-- date: class and reference -/
theorem q_pdate (p1 p2 : Int) (hC : ∀ j, 0 ≤ C j ∧ C j ≤ 9) (hc : c ≤ 8) {cS tp cost ts q : Int} {K T W E L : Nat → Int} (hI : qpi c F C cS K tp cost T) (hJ : qti c F C fr to ts W q E L) (P B R D h hp H X Y E0 L0 : Nat → Int) :
    ∃ (r cS2 cost2 tp2 ts2 q2 : Int) (K2 T2 P2 B2 R2 D2 h2 hp2 W2 E2 L2 H2 X2 Y2 E3 L3 : Nat → Int), f_X9_date p1 p2 c cS fr to F C K cost tp ts q T P B R D h hp W E L = some (r, cS2, K2, cost2, tp2, ts2, q2, T2, P2, B2, R2, D2, h2, hp2, W2, E2, L2) ∧ f_X10_date p1 p2 c fr to F C H X Y E0 L0 = some (r, H2, X2, Y2, E3, L3) ∧ qpi c F C cS2 K2 tp2 cost2 T2 ∧ qti c F C fr to ts2 W2 q2 E2 L2 := by
  unfold f_X9_date f_X10_date
  rw [q_isLetter p1 c (by omega) (by omega), q_has, q_bs, q_bs]
  by_cases h1 : 0 ≤ p1 ∧ p1 < (c : Int)
  · rw [if_pos h1, if_neg q_10, if_neg q_10, q_within, q_bs, q_in, q_bs]
    by_cases h2 : 0 ≤ p2 ∧ p2 ≤ 1
    · rw [if_pos h2, if_neg q_10, if_neg q_10]
      obtain ⟨l, rfl⟩ : ∃ l : Nat, p1 = l := ⟨p1.toNat, by omega⟩
      have hl : l < c := by omega
      obtain ⟨cost2, tp2, ts2, q2, cS2, K2, T2, P2, B2, R2, D2, h2, hp2, W2, E2, L2, e1, e2, e3, e4⟩ := q_settle hC hc hI hJ P B R D h hp
      obtain ⟨⟨m, m1, m2⟩, m3⟩ := e4 e2
      obtain ⟨H2, X2, Y2, g1, g2⟩ := q_plants hC hc m1 H X Y
      obtain ⟨e5, l5, e6, l6, d1, d2, d3, d4⟩ := m3.2 l p2 X2 E0 L0 (fun i hi => qgr_uniq g2 m2 i hi)
      have g : zin (l : Int) 8 := by omega
      have d5 := d4 l hl
      unfold f_X8_yearOf
      rw [g1, q_bs]
      dsimp only
      rw [d1, q_bs]
      dsimp only
      rw [d2, q_bs]
      dsimp only
      rw [d3, q_bs, e1, q_bs, q_bs]
      dsimp only
      by_cases hq : q2 = 0
      · have hq1 : ¬ 1 - q2 = 0 := by omega
        rw [if_neg hq1]
        by_cases hp0 : p2 = 0
        · have hp1 : ¬ p2 = 1 := by omega
          rw [if_neg hp1, if_pos hq, if_pos rfl, if_pos g, q_bs, if_pos hp0, if_pos g, Int.toNat_natCast, d5.1]
          exact ⟨_, _, _, _, _, _, _, _, _, _, _, _, _, _, _, _, _, _, _, _, _, _, rfl, rfl, e3, e4⟩
        · have hp1 : p2 = 1 := by omega
          rw [if_pos hp1, if_pos hq, if_neg q_10, if_pos g, q_bs, if_neg hp0, if_pos g, Int.toNat_natCast, d5.2]
          exact ⟨_, _, _, _, _, _, _, _, _, _, _, _, _, _, _, _, _, _, _, _, _, _, rfl, rfl, e3, e4⟩
      · have hq1 : 1 - q2 = 0 := by have := m3.1; omega
        by_cases hp1 : p2 = 1
        · rw [if_pos hq1, if_pos hp1, if_neg hq, q_bs]
          exact ⟨_, _, _, _, _, _, _, _, _, _, _, _, _, _, _, _, _, _, _, _, _, _, rfl, rfl, e3, e4⟩
        · rw [if_pos hq1, if_neg hp1, if_neg hq, q_bs]
          exact ⟨_, _, _, _, _, _, _, _, _, _, _, _, _, _, _, _, _, _, _, _, _, _, rfl, rfl, e3, e4⟩
    · rw [if_neg h2, if_pos rfl, if_pos rfl]
      exact ⟨_, _, _, _, _, _, _, _, _, _, _, _, _, _, _, _, _, _, _, _, _, _, rfl, rfl, hI, hJ⟩
  · rw [if_neg h1, if_pos rfl, if_pos rfl]
    exact ⟨_, _, _, _, _, _, _, _, _, _, _, _, _, _, _, _, _, _, _, _, _, _, rfl, rfl, hI, hJ⟩
end ZDATE
