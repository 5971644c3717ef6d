/-! ===== lowest terms: share; lots: drawn, odds ===== -/
theorem hg_J_sub (x y : Int) : hg_J (x - y) = hg_J x - hg_J y := Int64.ofInt_sub x y
theorem hx_ldv {x y : Int} (h1 : 0 ≤ x) (h2 : x < 9223372036854775808) (h3 : 0 < y) (h4 : y < 9223372036854775808) : hg_ldv x y = x / y := by
  unfold hg_ldv
  rw [Int64.toInt_div]
  show ((wl x).tdiv (wl y)).bmod (2 ^ 64) = x / y
  rw [wl_id (by omega) h2, wl_id (by omega) h4, Int.tdiv_eq_ediv_of_nonneg h1]
  have e := wl_bmod (x / y)
  rw [show ((2 : Nat) ^ 64) = 18446744073709551616 from rfl, ← e]
  have a1 : 0 ≤ x / y := Int.ediv_nonneg h1 (by omega)
  have a2 : x / y ≤ x := Int.ediv_le_self y h1
  exact wl_id (by omega) (by omega)
theorem hx_lrm {x y : Int} (h1 : 0 ≤ x) (h2 : x < 9223372036854775808) (h3 : 0 < y) (h4 : y < 9223372036854775808) : hg_lrm x y = x % y := by
  have e : hg_lrm x y = wl (x - hg_ldv x y * y) := by
    unfold hg_lrm wl
    rw [hg_J_sub, hg_J_mul]
    unfold hg_ldv
    rw [hg_J_toInt]
  rw [e, hx_ldv h1 h2 h3 h4]
  have a : x - x / y * y = x % y := by
    have := Int.mul_ediv_add_emod x y
    rw [Int.mul_comm] at this
    omega
  rw [a]
  have b1 := Int.emod_nonneg x (show y ≠ 0 by omega)
  have b2 := Int.emod_lt_of_pos x h3
  exact wl_id (by omega) (by omega)
theorem hq_gcd (a b : Nat) : Nat.gcd a b = Nat.gcd b (a % b) := by
  rw [Nat.gcd_comm a b, Nat.gcd_rec, Nat.gcd_comm]
theorem hq_gC {w : hg_W} {x0 x1 x2 : Int} : ∀ (t n a b st : Nat), b < 2 ^ t → a < 2147483648 → b < 2147483648 → 2 * t + 1 + st ≤ 100 → 2 * t + 1 < n → fX4_inLowestTerms_8 n w x0 x1 x2 (a : Int) (b : Int) (st : Int) = fX4_inLowestTerms_39 w x0 x1 x2 ((Nat.gcd a b : Nat) : Int) := by
  intro t
  induction t with
  | zero =>
    intro n a b st hb ha hb2 hst hn
    obtain ⟨n, rfl⟩ : ∃ z, n = z + 1 := ⟨n - 1, by omega⟩
    obtain rfl : b = 0 := by omega
    simp only [fX4_inLowestTerms_8]
    rw [wr_id (x := 100) (by omega) (by omega), wr_id (x := (st : Int)) (by omega) (by omega), if_neg (by omega), wr_id (x := ((0 : Nat) : Int)) (by omega) (by omega), if_pos (by omega), Nat.gcd_zero_right]
  | succ t ih =>
    intro n a b st hb ha hb2 hst hn
    obtain ⟨n, rfl⟩ : ∃ z, n = z + 1 := ⟨n - 1, by omega⟩
    have w100 : wr 100 = 100 := wr_id (by omega) (by omega)
    simp only [fX4_inLowestTerms_8]
    rw [w100, wr_id (x := (st : Int)) (by omega) (by omega), if_neg (by omega), wr_id (x := (b : Int)) (by omega) (by omega)]
    by_cases q : b = 0
    · subst q
      rw [if_pos (by omega), Nat.gcd_zero_right]
    · rw [if_neg (by omega), if_neg (by omega), hx_rm (by omega) (by omega) (by omega) (by omega), show (a : Int) % (b : Int) = ((a % b : Nat) : Int) from rfl, hq_gcd a b]
      have m1 := Nat.mod_lt a (show b > 0 by omega)
      obtain ⟨n, rfl⟩ : ∃ z, n = z + 1 := ⟨n - 1, by omega⟩
      simp only [fX4_inLowestTerms_8]
      rw [w100, wr_id (x := (st : Int) + 1) (by omega) (by omega), if_neg (by omega), wr_id (x := ((a % b : Nat) : Int)) (by omega) (by omega)]
      by_cases q2 : a % b = 0
      · rw [q2, if_pos (by omega), Nat.gcd_zero_right]
      · rw [if_neg (by omega), if_neg (by omega), hx_rm (by omega) (by omega) (by omega) (by omega), show (b : Int) % ((a % b : Nat) : Int) = ((b % (a % b) : Nat) : Int) from rfl, hq_gcd b (a % b)]
        have m2 := Nat.mod_lt b (show a % b > 0 by omega)
        have m3 := Nat.div_add_mod b (a % b)
        have m4 : 1 ≤ b / (a % b) := (Nat.one_le_div_iff (by omega)).mpr (by omega)
        have m5 : (a % b) * 1 ≤ (a % b) * (b / (a % b)) := Nat.mul_le_mul_left _ m4
        have e : 2 ^ (t + 1) = 2 ^ t * 2 := rfl
        rw [show (st : Int) + 1 + 1 = ((st + 2 : Nat) : Int) by omega]
        exact ih n (a % b) (b % (a % b)) (st + 2) (by omega) (by omega) (by omega) (by omega) (by omega)
theorem hq_lc {b : Nat} (hb : b < 2147483648) : wr (hg_lcmp (b : Int) 0) = if b = 0 then 0 else 1 := by
  unfold hg_lcmp
  rw [wl_id (x := 0) (by omega) (by omega), wl_id (x := (b : Int)) (by omega) (by omega)]
  by_cases q : b = 0
  · rw [if_neg (by omega), if_pos (by omega), if_pos q, hx_wr01.1]
  · rw [if_pos (by omega), if_neg q, hx_wr01.2.1]
theorem hq_gM {w : hg_W} {x0 x2 x4 : Int} : ∀ (n a b : Nat), b < n → a < 2147483648 → b < 2147483648 → fX5_lowest_16 n w x0 x2 x4 (a : Int) (b : Int) = if wr x4 = 0 then fX5_lowest_51 w ((Nat.gcd a b : Nat) : Int) x0 else fX5_lowest_51 w ((Nat.gcd a b : Nat) : Int) x2 := by
  intro n
  induction n with
  | zero => intro a b h; omega
  | succ n ih =>
    intro a b h ha hb
    simp only [fX5_lowest_16]
    rw [hq_lc hb]
    by_cases q : b = 0
    · subst q
      rw [if_pos rfl, if_pos rfl, Nat.gcd_zero_right]
    · rw [if_neg q, if_neg (by omega), wl_id (x := (b : Int)) (by omega) (by omega), if_neg (by omega), hx_lrm (by omega) (by omega) (by omega) (by omega), show (a : Int) % (b : Int) = ((a % b : Nat) : Int) from rfl, hq_gcd a b]
      have m1 := Nat.mod_lt a (show b > 0 by omega)
      exact ih b (a % b) (by omega) hb (by omega)
theorem hx_low0 {w : hg_W} {p : Nat} {a : Int} (hp : p < 100000) : fX4_inLowestTerms w (p : Int) 0 a = some (w, wl (-4611686018427387904)) := by
  unfold fX4_inLowestTerms
  have g := hq_gC (w := w) (x0 := (p : Int)) (x1 := 0) (x2 := a) 17 hg_F 0 p 0 (by omega) (by omega) (by omega) (by omega) (by unfold hg_F; omega)
  have g' : fX4_inLowestTerms_8 hg_F w (p : Int) 0 a 0 (p : Int) 0 = _ := g
  rw [g', Nat.gcd_zero_left]
  unfold fX4_inLowestTerms_39
  rw [hx_wr01.1, if_pos rfl, ite_self]
theorem hx_low {w v : hg_W} {p t : Nat} {a : Int} (ht : 0 < t ∧ t < 100000) (hp : p < 100000) (ha : a = 0 ∨ a = 1) : ∃ r, fX4_inLowestTerms w (p : Int) (t : Int) a = some (w, r) ∧ fX5_lowest v (p : Int) (t : Int) a = some (v, r) ∧ wl r = r := by
  have g := hq_gC (w := w) (x0 := (p : Int)) (x1 := (t : Int)) (x2 := a) 17 hg_F t p 0 (by omega) (by omega) (by omega) (by omega) (by unfold hg_F; omega)
  have g' : fX4_inLowestTerms_8 hg_F w (p : Int) (t : Int) a (t : Int) (p : Int) 0 = _ := g
  have g0 : 0 < Nat.gcd t p := Nat.gcd_pos_of_pos_left p ht.1
  have g1 : Nat.gcd t p ≤ t := Nat.gcd_le_left p ht.1
  have wg : wr ((Nat.gcd t p : Nat) : Int) = ((Nat.gcd t p : Nat) : Int) := wr_id (by omega) (by omega)
  obtain ⟨G, hG⟩ : ∃ G, G = Nat.gcd t p := ⟨_, rfl⟩
  obtain ⟨D, hD⟩ : ∃ D, D = p / G := ⟨_, rfl⟩
  obtain ⟨E, hE⟩ : ∃ E, E = t / G := ⟨_, rfl⟩
  have d1 : D ≤ p := by rw [hD]; exact Nat.div_le_self _ _
  have d2 : E ≤ t := by rw [hE]; exact Nat.div_le_self _ _
  rw [← hG] at g' g0 g1 wg
  have n1 : ¬ (G : Int) = 0 := by omega
  have n2 : ¬ (t : Int) = 0 := by omega
  have w1 : wr (t : Int) = (t : Int) := wr_id (by omega) (by omega)
  have w3 : wr (D : Int) = (D : Int) := wr_id (by omega) (by omega)
  have w4 : wr (E : Int) = (E : Int) := wr_id (by omega) (by omega)
  have w5 : wl (D : Int) = (D : Int) := wl_id (by omega) (by omega)
  have w6 : wl (E : Int) = (E : Int) := wl_id (by omega) (by omega)
  have w7 : wl (G : Int) = (G : Int) := wl_id (by omega) (by omega)
  have q1 : (p : Int) / (G : Int) = (D : Int) := by rw [hD]; rfl
  have q2 : (t : Int) / (G : Int) = (E : Int) := by rw [hE]; rfl
  have e1 : hg_dv (p : Int) (G : Int) = (D : Int) := (hx_dv (by omega) (by omega) (by omega) (by omega)).trans q1
  have e2 : hg_dv (t : Int) (G : Int) = (E : Int) := (hx_dv (by omega) (by omega) (by omega) (by omega)).trans q2
  have e3 : hg_ldv (p : Int) (G : Int) = (D : Int) := (hx_ldv (by omega) (by omega) (by omega) (by omega)).trans q1
  have e4 : hg_ldv (t : Int) (G : Int) = (E : Int) := (hx_ldv (by omega) (by omega) (by omega) (by omega)).trans q2
  refine ⟨if a = 0 then (D : Int) else (E : Int), ?_, ?_, ?_⟩
  · unfold fX4_inLowestTerms
    rw [g']
    unfold fX4_inLowestTerms_39
    simp only [wg, if_neg n1, w1, if_neg n2, e1, e2, w3, w4, w5, w6]
    rcases ha with rfl | rfl
    · rw [hx_wr01.1, if_pos rfl, if_pos rfl]
    · rw [hx_wr01.2.1, if_neg (by omega), if_neg (by omega)]
  · unfold fX5_lowest
    rw [hq_lc (by omega)]
    by_cases q : p = 0
    · subst q
      rw [if_pos rfl, if_pos rfl, wr_id (x := a) (by omega) (by omega), wl_id (x := a) (by omega) (by omega)]
      congr 2
      rcases ha with rfl | rfl
      · rw [if_pos rfl]; omega
      · rw [Nat.gcd_zero_right] at hG
        rw [hG, Nat.div_self ht.1] at hE
        rw [if_neg (by omega), hE]; rfl
    · rw [if_neg q, if_neg (by omega), hq_gM hg_F p t (by unfold hg_F; omega) (by omega) (by omega), Nat.gcd_comm p t, ← hG]
      unfold fX5_lowest_51
      simp only [w7, if_neg n1, e3, e4, w5, w6]
      rcases ha with rfl | rfl
      · rw [hx_wr01.1, if_pos rfl, if_pos rfl]
      · rw [hx_wr01.2.1, if_neg (by omega), if_neg (by omega)]
  · split
    · exact w5
    · exact w6
theorem hx_shareL {w v : hg_W} (hR : hx_R 19 w v) {x1 x2 : Int} : ∀ (m n1 n2 k c : Nat), m < n1 → m < n2 → (k : Int) + m = w 19 9 → c ≤ 11880 + 9999 * k → ∃ t : Nat, t < 100000 ∧ fX4_share_32 n1 w x1 x2 (c : Int) (k : Int) = (((hg_ag 0 w 25 x1).bind fun v1 => hg_bd (fX4_inLowestTerms w v1 (t : Int) x2) fun w3 v4 => some (w3, wl v4)) : Option (hg_W × Int)) ∧ fX5_share_8 n2 v x1 x2 (c : Int) (k : Int) = (hg_bd (fX5_isOne v x1) fun w1 v2 => if wr v2 = 0 then some (w1, wl (-4611686018427387904)) else hg_bd (fX5_in w1 x2 0 1) fun w4 v5 => if wr v5 = 0 then some (w4, wl (-4611686018427387904)) else if (t : Int) ≤ 0 then some (w4, wl (-4611686018427387904)) else (hg_ag 1 w4 3 ((3 * x1) + 1)).bind fun v7 => hg_bd (fX5_lowest w4 (wr v7) (t : Int) x2) fun w9 v10 => some (w9, wl v10)) := by
  have r3 := hR.2.2.1
  intro m
  induction m with
  | zero =>
    intro n1 n2 k c h1 h2 hk hc
    obtain ⟨n1, rfl⟩ : ∃ z, n1 = z + 1 := ⟨n1 - 1, by omega⟩
    obtain ⟨n2, rfl⟩ : ∃ z, n2 = z + 1 := ⟨n2 - 1, by omega⟩
    refine ⟨c, by omega, ?_, ?_⟩
    · simp only [fX4_share_32]
      rw [wr_id (x := w 19 9) (by omega) (by omega), wr_id (x := (k : Int)) (by omega) (by omega), if_pos (by omega)]
    · simp only [fX5_share_8]
      rw [r3.2.2, wr_id (x := w 19 9) (by omega) (by omega), wr_id (x := (k : Int)) (by omega) (by omega), if_pos (by omega), wr_id (x := (c : Int)) (by omega) (by omega)]
  | succ m ih =>
    intro n1 n2 k c h1 h2 hk hc
    obtain ⟨n1, rfl⟩ : ∃ z, n1 = z + 1 := ⟨n1 - 1, by omega⟩
    obtain ⟨n2, rfl⟩ : ∃ z, n2 = z + 1 := ⟨n2 - 1, by omega⟩
    obtain ⟨-, -, -, kq, -⟩ := hR.1 k (by omega)
    obtain ⟨d, hd⟩ : ∃ d : Nat, (d : Int) = w (19 + 6) k := ⟨(w (19 + 6) k).toNat, by omega⟩
    obtain ⟨t, g0, g1, g2⟩ := ih n1 n2 (k + 1) (c + d) (by omega) (by omega) (by omega) (by omega)
    refine ⟨t, g0, ?_, ?_⟩
    · rw [← g1]
      simp only [fX4_share_32]
      rw [wr_id (x := w 19 9) (by omega) (by omega), wr_id (x := (k : Int)) (by omega) (by omega), if_neg (by omega), show (25 : Nat) = 19 + 6 from rfl, ag_r6 hx_r19 (k := (k : Int)) (by omega) (by omega), hp_b, show (k : Int).toNat = k by omega, ← hd]
      rfl
    · rw [← g2]
      simp only [fX5_share_8]
      rw [r3.2.2, wr_id (x := w 19 9) (by omega) (by omega), wr_id (x := (k : Int)) (by omega) (by omega), if_neg (by omega), ag_m3 (k := 3 * (k : Int) + 1) (by omega) (by omega), hp_b, show (3 * (k : Int) + 1).toNat = 3 * k + 1 by omega, kq.2.2, ← hd]
      rfl
theorem hc_share {w v : hg_W} (h : hx_A w v) {a x : Int} (ha : hx_c a) (hx : hx_c x) : hx_ret (fX4_share w a x) (fX5_share v a x) := by
  obtain ⟨hT, hR, hTp, hIm, hSh⟩ := id h
  have r3 := hR.2.2.1
  obtain ⟨r, g1, g2, g3, g4⟩ := hc_w6C hx_r19 hR
  obtain ⟨c, rfl⟩ : ∃ c : Nat, r = (c : Int) := ⟨r.toNat, by omega⟩
  have wc : wr (c : Int) = (c : Int) := wr_id (by omega) (by omega)
  obtain ⟨t, t0, t1, t2⟩ := hx_shareL hR (x1 := a) (x2 := x) (w 19 9).toNat hg_F hg_F 0 c (by unfold hg_F; omega) (by unfold hg_F; omega) (by omega) (by omega)
  have t1' : fX4_share_32 hg_F w a x (c : Int) 0 = _ := t1
  have t2' : fX5_share_8 hg_F v a x (c : Int) 0 = _ := t2
  unfold fX4_share fX5_share
  rw [hx_isThere ha ⟨r3.1, r3.2.1⟩, hp_bd, hx_bif, g1, g2, hp_bd, hp_bd, wc, t1', t2', hx_isOne hR ha, hp_bd, hx_bif, hx_in hx (by unfold hx_c; omega) (by unfold hx_c; omega), hp_bd, hx_bif, wr_id (x := x) hx.1 hx.2, hx_wr01.2.1]
  by_cases q1 : 0 ≤ a ∧ a < w 19 9
  · rw [if_pos q1, if_pos q1]
    by_cases q2 : 0 ≤ x ∧ x ≤ 1
    · rw [if_neg (show ¬ x < 0 by omega), if_pos (show x ≤ 1 by omega), if_pos q2]
      obtain ⟨p, rfl⟩ : ∃ p : Nat, a = (p : Int) := ⟨a.toNat, by omega⟩
      obtain ⟨-, -, -, kq, -⟩ := hR.1 p (by omega)
      obtain ⟨d, hd⟩ : ∃ d : Nat, (d : Int) = w (19 + 6) p := ⟨(w (19 + 6) p).toNat, by omega⟩
      rw [show (25 : Nat) = 19 + 6 from rfl, ag_r6 hx_r19 (by omega) (by omega), hp_b, ag_m3 (by omega) (by omega), hp_b, show (p : Int).toNat = p by omega, show (3 * (p : Int) + 1).toNat = 3 * p + 1 by omega, kq.2.2, ← hd, wr_id (x := (d : Int)) (by omega) (by omega)]
      by_cases q3 : t = 0
      · subst q3
        have e := hx_low0 (w := w) (p := d) (a := x) (by omega)
        have e' : fX4_inLowestTerms w (d : Int) ((0 : Nat) : Int) x = _ := e
        rw [if_pos (by omega), e', hp_bd, wl_id (x := -4611686018427387904) (by omega) (by omega), wl_id (x := -4611686018427387904) (by omega) (by omega)]
        exact hx_ret.c h
      · obtain ⟨r, l1, l2, l3⟩ := hx_low (w := w) (v := v) (p := d) (t := t) (a := x) (by omega) (by omega) (by omega)
        rw [if_neg (by omega), l1, l2, hp_bd, hp_bd]
        exact hx_ret.c h
    · rw [if_neg q2]
      by_cases q3 : x < 0
      · rw [if_pos q3]; exact hx_ret.c h
      · rw [if_neg q3, if_neg (by omega)]; exact hx_ret.c h
  · rw [if_neg q1, if_neg q1]; exact hx_ret.c h
