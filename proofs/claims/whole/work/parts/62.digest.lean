/-! ===== count, digest ===== -/
theorem zwl_eq (x : Int) : zwl x = Int.bmod x Int64.size := by
  unfold zwl
  exact Int64.toInt_ofInt
theorem zwl_31 (a b : Int) : zwl (31 * zwl a + b) = zwl (31 * a + b) := by
  rw [zwl_eq, zwl_eq, zwl_eq, Int.add_bmod, Int.mul_bmod_bmod, ← Int.add_bmod]
theorem zw_id {x : Int} (h : zI x) : zw x = x := by
  unfold zw
  rw [Int32.toInt_ofInt]
  exact Int.bmod_eq_of_le (show -((2 : Int) ^ 32 / 2) ≤ x by omega) (show x < ((2 : Int) ^ 32 + 1) / 2 by omega)
section ZDIG
variable {c : Nat} {F C fr to : Nat → Int}
theorem l_sent (hc : c ≤ 8) (p1 : Int) : ∀ (n k : Nat) (a : Int), 64 - k < n → k ≤ 8 * c → 0 ≤ a → a ≤ k → ∃ r, l_X4_sentencesOfAll_4 n a k c F = some r ∧ l_X10_countOf_4 n p1 a k c F = some r := by
  intro n
  induction n with
  | zero => intro k a h; omega
  | succ n ih =>
    intro k a hn hk ha hak
    rw [l_X4_sentencesOfAll_4, l_X10_countOf_4, if_pos (show zI ((c : Int) * 8) by omega), if_pos (show zI (8 * (c : Int)) by omega)]
    by_cases he : k = 8 * c
    · rw [if_neg (show ¬ (k : Int) < (c : Int) * 8 by omega), if_neg (show ¬ (k : Int) < 8 * (c : Int) by omega)]
      exact ⟨a, rfl, rfl⟩
    · have g : zin (k : Int) 64 := by omega
      have gz : zI ((k : Int) + 1) := by omega
      rw [if_pos (show (k : Int) < (c : Int) * 8 by omega), if_pos (show (k : Int) < 8 * (c : Int) by omega), if_pos g, if_pos g, Int.toNat_natCast]
      by_cases hf : F k = -1
      · rw [if_pos hf, if_pos hf, if_pos gz, if_pos ⟨show zI (a + 0) by omega, gz⟩, Int.add_zero]
        exact ih (k + 1) a (by omega) (by omega) ha (by omega)
      · rw [if_neg hf, if_neg hf, if_pos (show zI (a + 1) by omega), if_pos gz, if_pos ⟨show zI (a + 1) by omega, gz⟩]
        exact ih (k + 1) (a + 1) (by omega) (by omega) (by omega) (by omega)
theorem q_countOf (hc : c ≤ 8) (nN nB : Int) {p1 : Int} (h0 : 0 ≤ p1) (h3 : p1 ≤ 3) : ∃ r, f_X9_count p1 c F nN nB = some r ∧ f_X10_countOf p1 c nN nB F = some r := by
  obtain ⟨r, r1, r2⟩ := l_sent (F := F) hc p1 zN 0 0 (by have := zN_big; omega) (by omega) (by omega) (by omega)
  have r1 : l_X4_sentencesOfAll_4 zN 0 0 c F = some r := r1
  have r2 : l_X10_countOf_4 zN p1 0 0 c F = some r := r2
  unfold f_X9_count f_X10_countOf f_X4_sentencesOfAll
  rw [r1, r2, q_bs, q_bs, q_bs]
  by_cases a0 : p1 = 0
  · rw [if_pos a0, if_pos a0]; exact ⟨_, rfl, rfl⟩
  · rw [if_neg a0, if_neg a0]
    by_cases a1 : p1 = 1
    · rw [if_pos a1, if_pos a1]; exact ⟨_, rfl, rfl⟩
    · rw [if_neg a1, if_neg a1]
      by_cases a2 : p1 = 2
      · rw [if_pos a2, if_pos a2]; exact ⟨_, rfl, rfl⟩
      · rw [if_neg a2, if_neg a2, if_pos (show p1 = 3 by omega)]; exact ⟨_, rfl, rfl⟩
/-- count: class and reference -/
theorem q_pcount (hc : c ≤ 8) (p1 nN nB : Int) : ∃ r, f_X9_count p1 c F nN nB = some r ∧ f_X10_count p1 c nN nB F = some r := by
  unfold f_X10_count
  rw [q_in, q_bs]
  by_cases h : 0 ≤ p1 ∧ p1 ≤ 3
  · obtain ⟨r, r1, r2⟩ := q_countOf (F := F) hc nN nB h.1 h.2
    rw [if_pos h, if_neg q_10, r2, q_bs]
    exact ⟨r, r1, rfl⟩
  · rw [if_neg h, if_pos rfl]
    unfold f_X9_count
    rw [if_neg (by omega), if_neg (by omega), if_neg (by omega), if_neg (by omega)]
    exact ⟨_, rfl, rfl⟩
theorem l_dg6 (hc : c ≤ 8) (nN nB : Int) : ∀ (n k : Nat) (h : Int), 4 - k < n → k ≤ 4 → ∃ r, l_X9_digest_6 n h k c F nN nB = some r ∧ l_X10_digest_6 n h k c nN nB F = some r := by
  intro n
  induction n with
  | zero => intro k h h1; omega
  | succ n ih =>
    intro k h hn hk
    rw [l_X9_digest_6, l_X10_digest_6]
    by_cases he : k = 4
    · subst he
      rw [if_pos (by omega), if_neg (by omega)]
      exact ⟨h, rfl, rfl⟩
    · have gz : zI ((k : Int) + 1) := by omega
      obtain ⟨r, r1, r2⟩ := q_countOf (F := F) hc nN nB (p1 := (k : Int)) (by omega) (by omega)
      rw [if_neg (by omega), if_pos (by omega), r1, r2, q_bs, q_bs, if_pos gz, if_pos gz]
      exact ih (k + 1) _ (by omega) (by omega)
theorem l_dg47 {l : Nat} (hl : l < 8) : ∀ (n k : Nat) (h : Int), 8 - k < n → k ≤ 8 → ∃ r, l_X4_foldInto_47 n l h k F = some r ∧ l_X10_mixed_64_6 n (8 * (l : Int)) 8 h k F = some r := by
  intro n
  induction n with
  | zero => intro k h h1; omega
  | succ n ih =>
    intro k h hn hk
    rw [l_X4_foldInto_47, l_X10_mixed_64_6]
    by_cases he : k = 8
    · subst he
      rw [if_neg (by omega), if_neg (by omega)]
      exact ⟨h, rfl, rfl⟩
    · have gz : zI ((k : Int) + 1) := by omega
      rw [if_pos (show (k : Int) < 8 by omega), if_pos (show (k : Int) < 8 by omega), if_pos (show zin ((l : Int) * 8 + (k : Int)) 64 by omega), if_pos (show zin (8 * (l : Int) + (k : Int)) 64 by omega), if_pos gz, if_pos gz, Int.mul_comm (l : Int) 8]
      exact ih (k + 1) _ (by omega) (by omega)
theorem l_dg5 (hc : c ≤ 8) : ∀ (n k : Nat) (h : Int), 8 - k < n → k ≤ c → ∃ r, l_X4_foldInto_5 n h k c fr to F = some r ∧ l_X10_digest_32 n h k c fr to F = some r := by
  intro n
  induction n with
  | zero => intro k h h1; omega
  | succ n ih =>
    intro k h hn hk
    rw [l_X4_foldInto_5, l_X10_digest_32]
    by_cases he : k = c
    · subst he
      rw [if_neg (by omega), if_neg (by omega)]
      exact ⟨h, rfl, rfl⟩
    · have gz : zI ((k : Int) + 1) := by omega
      have g : zin (k : Int) 8 := by omega
      have hlt : (k : Int) < (c : Int) := by omega
      have e : zw (8 * (k : Int)) = 8 * (k : Int) := zw_id (by omega)
      obtain ⟨r, r1, r2⟩ := l_dg47 (F := F) (l := k) (by omega) zN 0 (zwl (31 * (31 * h + fr k) + to k)) (by have := zN_big; omega) (by omega)
      have r1 : l_X4_foldInto_47 zN k (zwl (31 * (31 * h + fr k) + to k)) 0 F = some r := r1
      have r2 : l_X10_mixed_64_6 zN (8 * (k : Int)) 8 (zwl (31 * (31 * h + fr k) + to k)) 0 F = some r := r2
      unfold f_X10_mixed_64
      rw [if_pos hlt, if_pos hlt, if_pos g, if_pos g, if_pos ⟨g, g⟩, Int.toNat_natCast, e, zwl_31, r1, r2, q_bs, q_bs, q_bs, if_pos gz, if_pos gz]
      exact ih (k + 1) _ (by omega) (by omega)
theorem l_dg90 : ∀ (n k : Nat) (h : Int), 5 - k < n → k ≤ 5 → ∃ r, l_X4_foldInto_90 n h k C = some r ∧ l_X10_mixed_5_6 n 0 5 h k C = some r := by
  intro n
  induction n with
  | zero => intro k h h1; omega
  | succ n ih =>
    intro k h hn hk
    have e5 : Int.ofNat 5 = (5 : Int) := rfl
    rw [l_X4_foldInto_90, l_X10_mixed_5_6, e5, Int.zero_add]
    by_cases he : k = 5
    · subst he
      rw [if_neg (by omega), if_neg (by omega)]
      exact ⟨h, rfl, rfl⟩
    · have gz : zI ((k : Int) + 1) := by omega
      have g : zin (k : Int) 5 := by omega
      have hlt : (k : Int) < 5 := by omega
      rw [if_pos hlt, if_pos hlt, if_pos g, if_pos g, if_pos gz, if_pos gz]
      exact ih (k + 1) _ (by omega) (by omega)
theorem l_dgN {nn : Int} (h0 : 0 ≤ nn) (h10 : nn ≤ 10) (len told : Nat → Int) : ∀ (n k : Nat) (h : Int), 10 - k < n → k ≤ nn → ∃ r, l_X5_foldInto_5 n h k nn len told = some r ∧ l_X10_digest_98 n h k nn len told = some r := by
  intro n
  induction n with
  | zero => intro k h h1; omega
  | succ n ih =>
    intro k h hn hk
    rw [l_X5_foldInto_5, l_X10_digest_98]
    by_cases he : (k : Int) = nn
    · rw [if_neg (by omega), if_neg (by omega)]
      exact ⟨h, rfl, rfl⟩
    · have gz : zI ((k : Int) + 1) := by omega
      have g : zin (k : Int) 10 := by omega
      have hlt : (k : Int) < nn := by omega
      rw [if_pos hlt, if_pos hlt, if_pos g, if_pos g, if_pos gz, if_pos ⟨g, g⟩, if_pos gz, zwl_31]
      exact ih (k + 1) _ (by omega) (by omega)
theorem l_dgH (w : Nat → Int) : ∀ (n k : Nat) (h : Int), 10 - k < n → k ≤ 10 → ∃ r, l_X3_foldInto_5 n h k w = some r ∧ l_X10_mixed_10_6 n 0 10 h k w = some r := by
  intro n
  induction n with
  | zero => intro k h h1; omega
  | succ n ih =>
    intro k h hn hk
    rw [l_X3_foldInto_5, l_X10_mixed_10_6, Int.zero_add]
    by_cases he : k = 10
    · subst he
      rw [if_pos (by omega), if_neg (by omega)]
      exact ⟨h, rfl, rfl⟩
    · have gz : zI ((k : Int) + 1) := by omega
      have g : zin (k : Int) 10 := by omega
      rw [if_neg (show ¬ (9 : Int) < (k : Int) by omega), if_pos (show (k : Int) < 10 by omega), if_pos g, if_pos g, if_pos gz, if_pos gz]
      exact ih (k + 1) _ (by omega) (by omega)
theorem l_dgA (d a : Nat → Int) : ∀ (n k : Nat) (h : Int), 10 - k < n → k ≤ 10 → ∃ r, l_X0_foldInto_5 n h k d a = some r ∧ l_X10_digest_152 n h k d a = some r := by
  intro n
  induction n with
  | zero => intro k h h1; omega
  | succ n ih =>
    intro k h hn hk
    rw [l_X0_foldInto_5, l_X10_digest_152]
    by_cases he : k = 10
    · subst he
      rw [if_pos (by omega), if_neg (by omega)]
      exact ⟨h, rfl, rfl⟩
    · have gz : zI ((k : Int) + 1) := by omega
      have g : zin (k : Int) 10 := by omega
      rw [if_neg (show ¬ (9 : Int) < (k : Int) by omega), if_pos (show (k : Int) < 10 by omega), if_pos g, if_pos g, if_pos gz, if_pos ⟨g, g⟩, if_pos gz, zwl_31]
      exact ih (k + 1) _ (by omega) (by omega)
theorem l_dgE (o cp od oft : Nat → Int) : ∀ (n k : Nat) (h : Int), 10 - k < n → k ≤ 10 → ∃ r, l_X7_foldInto_5 n h k o cp od oft = some r ∧ l_X10_digest_192 n h k o cp od oft = some r := by
  intro n
  induction n with
  | zero => intro k h h1; omega
  | succ n ih =>
    intro k h hn hk
    rw [l_X7_foldInto_5, l_X10_digest_192]
    by_cases he : k = 10
    · subst he
      rw [if_neg (by omega), if_neg (by omega)]
      exact ⟨h, rfl, rfl⟩
    · have gz : zI ((k : Int) + 1) := by omega
      have g : zin (k : Int) 10 := by omega
      have hlt : (k : Int) < 10 := by omega
      rw [if_pos hlt, if_pos hlt, if_pos g, if_pos g, if_pos g, if_pos g, if_pos gz, if_pos ⟨g, g, g, g⟩, if_pos gz]
      simp only [zwl_31]
      exact ih (k + 1) _ (by omega) (by omega)
theorem l_dgB {nb : Int} (h0 : 0 ≤ nb) (h40 : nb ≤ 40) (b : Nat → Int) : ∀ (n k : Nat) (h : Int), 40 - k < n → k ≤ nb → ∃ r, l_X1_foldInto_5 n h k nb b = some r ∧ l_X10_mixed_40_6 n 0 nb h k b = some r := by
  intro n
  induction n with
  | zero => intro k h h1; omega
  | succ n ih =>
    intro k h hn hk
    rw [l_X1_foldInto_5, l_X10_mixed_40_6, Int.zero_add]
    by_cases he : (k : Int) = nb
    · rw [if_neg (by omega), if_neg (by omega)]
      exact ⟨h, rfl, rfl⟩
    · have gz : zI ((k : Int) + 1) := by omega
      have g : zin (k : Int) 40 := by omega
      have hlt : (k : Int) < nb := by omega
      rw [if_pos hlt, if_pos hlt, if_pos g, if_pos g, if_pos gz, if_pos gz]
      exact ih (k + 1) _ (by omega) (by omega)
theorem l_dgS {s t : Int} {f g L W : Nat → Int} (hF : qFr s f t g L W) : ∀ (n k : Nat) (h : Int), 3 - k < n → k ≤ 3 → ∃ r, l_X9_digest_98 n h k s t = some r ∧ l_X10_digest_280 n h k W = some r := by
  intro n
  induction n with
  | zero => intro k h h1; omega
  | succ n ih =>
    intro k h hn hk
    rw [l_X9_digest_98, l_X10_digest_280]
    by_cases he : k = 3
    · subst he
      rw [if_pos (by omega), if_neg (by omega)]
      exact ⟨h, rfl, rfl⟩
    · have gz : zI ((k : Int) + 1) := by omega
      obtain ⟨r, r1, r2⟩ := q_psign (k : Int) hF
      rw [if_neg (by omega), if_pos (by omega), r1, r2, q_bs, q_bs, if_pos gz, if_pos gz]
      exact ih (k + 1) _ (by omega) (by omega)
theorem l_dgD {s : Int} {f L : Nat → Int} {r0 : Nat} (hr : r0 < 2) (h0 : 0 ≤ s) (h40 : s ≤ 40) (hf : ∀ j : Nat, j < 40 → f j = qr L r0 j) : ∀ (n k : Nat) (h : Int), 40 - k < n → k ≤ s → ∃ r, l_X6_foldInto_5 n h k s f = some r ∧ l_X10_mixed_630_6 n (70 * (r0 : Int)) s h k L = some r := by
  intro n
  induction n with
  | zero => intro k h h1; omega
  | succ n ih =>
    intro k h hn hk
    rw [l_X6_foldInto_5, l_X10_mixed_630_6]
    by_cases he : (k : Int) = s
    · rw [if_neg (by omega), if_neg (by omega)]
      exact ⟨h, rfl, rfl⟩
    · have gz : zI ((k : Int) + 1) := by omega
      have hlt : (k : Int) < s := by omega
      have e1 : f k = L (70 * r0 + k) := hf k (by omega)
      rw [if_pos hlt, if_pos hlt, if_pos (show (k : Int) < 40 by omega), if_pos (show zin (k : Int) 40 by omega), if_pos gz, if_pos (show zin (70 * (r0 : Int) + (k : Int)) 630 by omega), if_pos gz, Int.toNat_natCast, q_tn (show 70 * (r0 : Int) + (k : Int) = ((70 * r0 + k : Nat) : Int) by omega), e1]
      exact ih (k + 1) _ (by omega) (by omega)
/-- digest: class and reference -/
theorem q_pdigest (hC : ∀ j, 0 ≤ C j ∧ C j ≤ 9) (hc : c ≤ 8) {cS tp cost : Int} {K T : Nat → Int} (hI : qpi c F C cS K tp cost T) {nN nB s t : Int} {f g L W : Nat → Int} (hN : 0 ≤ nN ∧ nN ≤ 10) (hB : 0 ≤ nB ∧ nB ≤ 40) (hF : qFr s f t g L W) (P B h hp H X Y len told w dd aa o cp od oft bx : Nat → Int) :
    ∃ (r m tp2 cS2 : Int) (K2 T2 P2 B2 h2 H2 X2 Y2 : Nat → Int), f_X9_digest c cS fr to F C K cost tp T P B h hp nN len told w dd aa o cp od oft nB bx s f t g = some (r, cS2, K2, m, tp2, T2, P2, B2, h2) ∧ f_X10_digest c nN nB L W fr to F C H X Y len told w dd aa o cp od oft bx = some (r, H2, X2, Y2) ∧ qpi c F C cS2 K2 tp2 m T2 := by
  obtain ⟨r1, a1, b1⟩ := l_dg6 (F := F) hc nN nB zN 0 457 (by have := zN_big; omega) (by omega)
  have a1 : l_X9_digest_6 zN 457 0 c F nN nB = some r1 := a1
  have b1 : l_X10_digest_6 zN 457 0 c nN nB F = some r1 := b1
  obtain ⟨r2, a2, b2⟩ := l_dg5 (F := F) (fr := fr) (to := to) hc zN 0 r1 (by have := zN_big; omega) (by omega)
  have a2 : l_X4_foldInto_5 zN r1 0 c fr to F = some r2 := a2
  have b2 : l_X10_digest_32 zN r1 0 c fr to F = some r2 := b2
  obtain ⟨r3, a3, b3⟩ := l_dg90 (C := C) zN 0 r2 (by have := zN_big; omega) (by omega)
  have a3 : l_X4_foldInto_90 zN r2 0 C = some r3 := a3
  have b3 : l_X10_mixed_5_6 zN 0 5 r2 0 C = some r3 := b3
  obtain ⟨r4, a4, b4⟩ := l_dgN hN.1 hN.2 len told zN 0 r3 (by have := zN_big; omega) hN.1
  have a4 : l_X5_foldInto_5 zN r3 0 nN len told = some r4 := a4
  have b4 : l_X10_digest_98 zN r3 0 nN len told = some r4 := b4
  obtain ⟨r5, a5, b5⟩ := l_dgH w zN 0 r4 (by have := zN_big; omega) (by omega)
  have a5 : l_X3_foldInto_5 zN r4 0 w = some r5 := a5
  have b5 : l_X10_mixed_10_6 zN 0 10 r4 0 w = some r5 := b5
  obtain ⟨r6, a6, b6⟩ := l_dgA dd aa zN 1 r5 (by have := zN_big; omega) (by omega)
  have a6 : l_X0_foldInto_5 zN r5 1 dd aa = some r6 := a6
  have b6 : l_X10_digest_152 zN r5 1 dd aa = some r6 := b6
  obtain ⟨r7, a7, b7⟩ := l_dgE o cp od oft zN 0 r6 (by have := zN_big; omega) (by omega)
  have a7 : l_X7_foldInto_5 zN r6 0 o cp od oft = some r7 := a7
  have b7 : l_X10_digest_192 zN r6 0 o cp od oft = some r7 := b7
  obtain ⟨r8, a8, b8⟩ := l_dgB hB.1 hB.2 bx zN 0 r7 (by have := zN_big; omega) hB.1
  have a8 : l_X1_foldInto_5 zN r7 0 nB bx = some r8 := a8
  have b8 : l_X10_mixed_40_6 zN 0 nB r7 0 bx = some r8 := b8
  obtain ⟨m, tp2, cS2, K2, T2, P2, B2, h2, H2, X2, Y2, a9, b9, c9⟩ := q_pleast hC hc hI P B h hp H X Y
  have b9 : f_X10_leastAll c F C H X Y = some (m, H2, X2, Y2) := by
    obtain ⟨m2, tp3, cS3, K3, T3, P3, B3, h3, e1, e2, _⟩ := q_leastCost hC hc hI P B h hp
    obtain ⟨H4, X4, Y4, g1, g2, g3⟩ := q_leastAll hC hc e2 H X Y
    unfold f_X10_least at b9
    rw [g1, q_bs] at b9
    rw [g1]
    exact b9
  obtain ⟨r10, a10, b10⟩ := l_dgS hF zN 0 (zwl (31 * r8 + m)) (by have := zN_big; omega) (by omega)
  have a10 : l_X9_digest_98 zN (zwl (31 * r8 + m)) 0 s t = some r10 := a10
  have b10 : l_X10_digest_280 zN (zwl (31 * r8 + m)) 0 W = some r10 := b10
  obtain ⟨V, hV, h1, h3⟩ := hF
  obtain ⟨e1, e1d⟩ := qN_eq h1 (hV 0 (by omega) (by omega))
  obtain ⟨e2, e2d⟩ := qN_eq h3 (hV 1 (by omega) (by omega))
  obtain ⟨r11, a11, b11⟩ := l_dgD (r0 := 0) (by omega) h1.2.2.1 h1.2.2.2.1 e1d zN 0 r10 (by have := zN_big; omega) h1.2.2.1
  have a11 : l_X6_foldInto_5 zN r10 0 s f = some r11 := a11
  have b11 : l_X10_mixed_630_6 zN 0 s r10 0 L = some r11 := b11
  obtain ⟨r12, a12, b12⟩ := l_dgD (r0 := 1) (by omega) h3.2.2.1 h3.2.2.2.1 e2d zN 0 r11 (by have := zN_big; omega) h3.2.2.1
  have a12 : l_X6_foldInto_5 zN r11 0 t g = some r12 := a12
  have b12 : l_X10_mixed_630_6 zN 70 t r11 0 L = some r12 := b12
  have last : l_X10_digest_306 zN r10 0 L W = some r12 := by
    have k0 : zw (70 * 0) = 0 := zw_id (show zI (70 * 0) by omega)
    have k1 : zw (70 * (0 + 1)) = 70 := zw_id (show zI (70 * (0 + 1)) by omega)
    have w0 : W (Int.toNat 0) = s := e1.symm
    have w1 : W (Int.toNat (0 + 1)) = t := e2.symm
    have hz : ∃ z, zN = z + 3 := ⟨zN - 3, by have := zN_big; omega⟩
    obtain ⟨z, hz⟩ := hz
    have step : ∀ q, l_X10_digest_306 (z + 3) q 0 L W = l_X10_digest_306 (z + 3) q 0 L W := fun _ => rfl
    rw [show l_X10_digest_306 zN r10 0 L W = l_X10_digest_306 (z + 3) r10 0 L W by rw [hz]]
    rw [l_X10_digest_306, if_pos (show (0 : Int) < 2 by omega), if_pos (show zin (0 : Int) 9 by omega), k0, w0]
    unfold f_X10_mixed_630
    rw [b11, q_bs, q_bs, if_pos (show zI ((0 : Int) + 1) by omega), l_X10_digest_306, if_pos (show (0 : Int) + 1 < 2 by omega), if_pos (show zin ((0 : Int) + 1) 9 by omega), k1, w1]
    unfold f_X10_mixed_630
    rw [b12, q_bs, q_bs, if_pos (show zI ((0 : Int) + 1 + 1) by omega), l_X10_digest_306, if_neg (show ¬ (0 : Int) + 1 + 1 < 2 by omega)]
  unfold f_X9_digest f_X10_digest f_X4_foldInto f_X5_foldInto f_X3_foldInto f_X0_foldInto f_X7_foldInto f_X1_foldInto f_X6_foldInto f_X10_mixed_5 f_X10_mixed_10 f_X10_mixed_40
  rw [a1, b1]
  repeat rw [q_bs]
  rw [a2, b2]
  repeat rw [q_bs]
  rw [a3, b3]
  repeat rw [q_bs]
  rw [a4, b4]
  repeat rw [q_bs]
  rw [a5, b5]
  repeat rw [q_bs]
  rw [a6, b6]
  repeat rw [q_bs]
  rw [a7, b7]
  repeat rw [q_bs]
  rw [a8, b8]
  repeat rw [q_bs]
  rw [a9, b9, q_bs, q_bs]
  dsimp only
  rw [a10, b10, q_bs, q_bs, a11, last]
  repeat rw [q_bs]
  rw [a12]
  repeat rw [q_bs]
  exact ⟨r12, m, tp2, cS2, K2, T2, P2, B2, h2, H2, X2, Y2, rfl, rfl, c9⟩
end ZDIG
