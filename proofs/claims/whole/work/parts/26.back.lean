/-! ===== feed, image, back ===== -/
def hx_adC (w : hg_W) (x : Int) : hg_W := hg_up (hg_up w 18 (w 17 1).toNat x) 17 1 (w 17 1 + 1)
def hx_adM (v : hg_W) (x : Int) : hg_W := hg_up (hg_up v 5 (v 0 8).toNat x) 0 8 (v 0 8 + 1)
theorem hx_addA {w v : hg_W} (h : hx_A w v) {x : Int} (hx : 0 ≤ x ∧ x ≤ 255) (hn : w 17 1 < 160) : hx_A (hx_adC w x) (hx_adM v x) := by
  obtain ⟨hT, hR, hTp, hIm, hSh⟩ := h
  obtain ⟨t1, t2, t3⟩ := hTp
  have ew : ∀ c, c ≠ 17 → c ≠ 18 → hx_adC w x c = w c := fun c h1 h2 => by unfold hx_adC; rw [hg_up_ne c h1, hg_up_ne c h2]
  have ev : ∀ c, c ≠ 0 → c ≠ 5 → hx_adM v x c = v c := fun c h1 h2 => by unfold hx_adM; rw [hg_up_ne c h1, hg_up_ne c h2]
  have ev0 : ∀ k, k ≠ 8 → hx_adM v x 0 k = v 0 k := fun k h1 => by unfold hx_adM; rw [hp_up_k h1, hp_up_c (by omega)]
  refine ⟨hT.of (fun c _ _ => ew c (by omega) (by omega)) (ev0 11 (by omega)) (ev 6 (by omega) (by omega)) (ev 7 (by omega) (by omega)), ?_, ⟨?_, fun k hk => ?_, fun j hj => by rw [ev 14 (by omega) (by omega)]; exact t3 j hj⟩, ?_, hSh.of (fun c _ _ => ew c (by omega) (by omega)) (fun c _ _ => ev c (by omega) (by omega))⟩
  · obtain ⟨r1, r2, r3, r4, r5, r6, r7⟩ := hR
    refine ⟨fun k hk => ?_, fun k hk => ?_, ?_, ?_, ?_, ?_, ?_⟩
    · rw [ew _ (by omega) (by omega), ew _ (by omega) (by omega), ew _ (by omega) (by omega), ew _ (by omega) (by omega), ew _ (by omega) (by omega), ev _ (by omega) (by omega), ev _ (by omega) (by omega)]
      exact r1 k hk
    · rw [ew 19 (by omega) (by omega)] at hk
      rw [ew _ (by omega) (by omega), ew _ (by omega) (by omega), ev _ (by omega) (by omega), ev _ (by omega) (by omega)]
      exact r2 k hk
    · rw [ew 19 (by omega) (by omega), ev0 0 (by omega)]; exact r3
    · rw [ew 19 (by omega) (by omega), ew _ (by omega) (by omega)]; exact r4
    · rw [ew 19 (by omega) (by omega), ev0 5 (by omega)]; exact r5
    · rw [ew 19 (by omega) (by omega), ev0 6 (by omega)]; exact r6
    · rw [ew 19 (by omega) (by omega), ev0 12 (by omega), ew 1 (by omega) (by omega)]; exact r7
  · unfold hx_adC hx_adM
    rw [hp_up_eq, hp_up_eq]
    omega
  · unfold hx_adC at hk
    rw [hp_up_eq] at hk
    unfold hx_adC hx_adM
    rw [hp_up_c (show 18 ≠ 17 by omega), hp_up_c (show 5 ≠ 0 by omega), t1.2.2]
    by_cases q : k = (w 17 1).toNat
    · rw [q, hp_up_eq, hp_up_eq]; exact ⟨hx.1, hx.2, rfl⟩
    · rw [hp_up_k q, hp_up_k q]
      exact t2 k (by omega)
  · unfold hx_Im at hIm ⊢
    rw [ew 0 (by omega) (by omega), ev0 13 (by omega), ew 37 (by omega) (by omega), ew 19 (by omega) (by omega)]
    refine ⟨hIm.1, hIm.2.1, fun h1 => ⟨?_, (hIm.2.2 h1).2⟩⟩
    refine (hIm.2.2 h1).1.of (ew _ (by omega) (by omega)) (ew _ (by omega) (by omega)) (ew _ (by omega) (by omega)) (ew _ (by omega) (by omega)) (ew _ (by omega) (by omega)) (ew _ (by omega) (by omega)) (ew _ (by omega) (by omega)) (ew _ (by omega) (by omega)) (by rw [ew 1 (by omega) (by omega)]) ?_ ?_ ?_ ?_ ?_
    · funext k; unfold hx_iv; rw [ev 9 (by omega) (by omega)]; rfl
    · funext k; unfold hx_iv; simp only [Nat.reduceEqDiff, if_false]; rw [ev 1 (by omega) (by omega)]
    · funext k; unfold hx_iv; simp only [Nat.reduceEqDiff, if_false]; rw [ev 2 (by omega) (by omega)]
    · funext k; unfold hx_iv; rw [ev 8 (by omega) (by omega)]; rfl
    · funext k; unfold hx_iv; rw [ev 8 (by omega) (by omega)]; rfl
theorem hx_addC {w : hg_W} {x : Int} (h1 : 0 ≤ w 17 1 ∧ w 17 1 < 160) (hx : 0 ≤ x ∧ x ≤ 255) : fX2_add w x = some (hx_adC w x, 0) := by
  unfold fX2_add
  rw [wr_id (x := 160) (by omega) (by omega), wr_id (x := w 17 1) (by omega) (by omega), if_neg (by omega), as_h18 (by omega) (by omega), hp_b, hp_pt, hp_b, wr_id (x := x) (by omega) (by omega), hp_up_c (by omega), wr_id (x := w 17 1 + 1) (by omega) (by omega)]
  rfl
theorem hx_add125 {K : hg_W → Int → Int → Int → Int → Int → Int → Int → Option (hg_W × Int)} {v : hg_W} {x1 x2 x3 x4 x5 x6 x7 x : Int} (h1 : 0 ≤ v 0 8 ∧ v 0 8 < 160) (hx : 0 ≤ x ∧ x ≤ 255) : fX5_feed_125 K v x1 x2 x3 x4 x5 x6 x7 (v 0 8) x = K (hx_adM v x) x1 x2 x3 x4 x5 x6 (x7 + 1) := by
  unfold fX5_feed_125
  rw [as_m5 (by omega) (by omega), hp_b, hp_pt, hp_b, wr_id (x := x) (by omega) (by omega), hp_up_c (by omega), wr_id (x := v 0 8 + 1) (by omega) (by omega)]
  rfl
theorem hx_byte {v : hg_W} {x : Int} (hx : hx_c x) : fX5_isByte v x = some (v, if 0 ≤ x ∧ x ≤ 255 then 1 else 0) := by
  unfold fX5_isByte
  rw [hx_in hx (by unfold hx_c; omega) (by unfold hx_c; omega), hp_bd, if_pos hx_b01.1, hx_b01.2]
theorem hx_byteC {w : hg_W} {x : Int} (hx : hx_c x) : fX4_isByte w x = some (w, if 0 ≤ x ∧ x ≤ 255 then 1 else 0) := by
  unfold hx_c at hx
  unfold fX4_isByte
  rw [wr_id hx.1 hx.2, wr_id (x := 255) (by omega) (by omega), hx_wr01.1, hx_wr01.2.1]
  simp only [true_or, or_true, if_true, Int.reduceEq]
  by_cases q1 : x < 0
  · rw [if_pos q1, if_neg (by omega)]
  · rw [if_neg q1]
    by_cases q2 : 255 < x
    · rw [if_pos q2, if_neg (by omega)]
    · rw [if_neg q2, if_pos (by omega)]
/-- as many of the five as asked, one after the other -/
def hx_adsC (w : hg_W) : List Int → hg_W
  | [] => w
  | x :: l => hx_adsC (hx_adC w x) l
def hx_adsM (v : hg_W) : List Int → hg_W
  | [] => v
  | x :: l => hx_adsM (hx_adM v x) l
theorem hx_feedA {w v : hg_W} (h : hx_A w v) {n : Nat} {a b c d e : Int} (hn : 1 ≤ n ∧ n ≤ 5) (ha : 0 ≤ a ∧ a ≤ 255) (hb : 0 ≤ b ∧ b ≤ 255) (hc : 0 ≤ c ∧ c ≤ 255) (hd : 0 ≤ d ∧ d ≤ 255) (he : 0 ≤ e ∧ e ≤ 255) (hs : w 17 1 + n ≤ 160) :
    ∃ w' v' r, (hg_bd (fX2_add w a) fun w16 _ => if (n : Int) ≤ 1 then fX4_feed_90 w16 (n : Int) c d e else hg_bd (fX2_add w16 b) fun w19 _ => fX4_feed_90 w19 (n : Int) c d e) = some (w', r) ∧ fX5_feed_68 hg_F v (n : Int) a b c d e 0 = some (v', r) ∧ hx_A w' v' := by
  obtain ⟨f, hf⟩ : ∃ f, hg_F = f + 1 + 1 + 1 + 1 + 1 + 1 := ⟨99994, rfl⟩
  have h0 := h.2.2.1.1
  have A1 := hx_addA h ha (by omega)
  have s1 : hx_adC w a 17 1 = w 17 1 + 1 := hp_up_eq
  have h1 := A1.2.2.1.1
  have wn : wr (n : Int) = (n : Int) := wr_id (by omega) (by omega)
  have w2 : wr 2 = 2 := wr_id (by omega) (by omega)
  have w3 : wr 3 = 3 := wr_id (by omega) (by omega)
  have w4 : wr 4 = 4 := wr_id (by omega) (by omega)
  have w5 : wr 5 = 5 := wr_id (by omega) (by omega)
  rw [hf, hx_addC (by omega) ha, hp_bd]
  have e0 : fX5_feed_68 (f + 1 + 1 + 1 + 1 + 1 + 1) v (n : Int) a b c d e 0 = fX5_feed_68 (f + 1 + 1 + 1 + 1 + 1) (hx_adM v a) (n : Int) a b c d e (0 + 1) := by
    rw [fX5_feed_68, wn, hx_wr01.1, if_neg (by omega), if_pos rfl, hx_add125 (by omega) ha]
  rw [e0, show (0 : Int) + 1 = 1 from rfl]
  by_cases q1 : n = 1
  · subst q1
    refine ⟨hx_adC w a, hx_adM v a, wr (hx_adC w a 17 1), ?_, ?_, A1⟩
    · unfold fX4_feed_90 fX4_feed_104 fX4_feed_118 fX4_feed_132
      rw [wn, w2, w3, w4, if_pos (by omega), if_pos (by omega), if_pos (by omega), if_pos (by omega)]
    · rw [fX5_feed_68, wn, hx_wr01.2.1, if_pos (by omega), h1.2.2]
  · rw [if_neg (by omega)]
    have A2 := hx_addA A1 hb (by omega)
    have s2 : hx_adC (hx_adC w a) b 17 1 = w 17 1 + 1 + 1 := hp_up_eq.trans (by rw [s1])
    have h2 := A2.2.2.1.1
    rw [hx_addC (by omega) hb, hp_bd]
    have e1 : fX5_feed_68 (f + 1 + 1 + 1 + 1 + 1) (hx_adM v a) (n : Int) a b c d e 1 = fX5_feed_68 (f + 1 + 1 + 1 + 1) (hx_adM (hx_adM v a) b) (n : Int) a b c d e (1 + 1) := by
      rw [fX5_feed_68, wn, hx_wr01.2.1, if_neg (by omega), if_neg (by omega), if_pos rfl, hx_add125 (by omega) hb]
    rw [e1, show (1 : Int) + 1 = 2 from rfl]
    by_cases q2 : n = 2
    · subst q2
      refine ⟨_, _, wr (hx_adC (hx_adC w a) b 17 1), ?_, ?_, A2⟩
      · unfold fX4_feed_90 fX4_feed_104 fX4_feed_118 fX4_feed_132
        rw [wn, w2, w3, w4, if_pos (by omega), if_pos (by omega), if_pos (by omega)]
      · rw [fX5_feed_68, wn, w2, if_pos (by omega), h2.2.2]
    · have A3 := hx_addA A2 hc (by omega)
      have s3 : hx_adC (hx_adC (hx_adC w a) b) c 17 1 = w 17 1 + 1 + 1 + 1 := hp_up_eq.trans (by rw [s2])
      have h3 := A3.2.2.1.1
      have e2 : fX5_feed_68 (f + 1 + 1 + 1 + 1) (hx_adM (hx_adM v a) b) (n : Int) a b c d e 2 = fX5_feed_68 (f + 1 + 1 + 1) (hx_adM (hx_adM (hx_adM v a) b) c) (n : Int) a b c d e (2 + 1) := by
        rw [fX5_feed_68, wn, hx_wr01.2.1, w2, if_neg (by omega), if_neg (by omega), if_neg (by omega), if_pos rfl, hx_add125 (by omega) hc]
      rw [e2, show (2 : Int) + 1 = 3 from rfl]
      unfold fX4_feed_90
      rw [wn, w2, if_neg (by omega), hx_addC (by omega) hc, hp_bd]
      by_cases q3 : n = 3
      · subst q3
        refine ⟨_, _, wr (hx_adC (hx_adC (hx_adC w a) b) c 17 1), ?_, ?_, A3⟩
        · unfold fX4_feed_104 fX4_feed_118 fX4_feed_132
          rw [wn, w3, w4, if_pos (by omega), if_pos (by omega)]
        · rw [fX5_feed_68, wn, w3, if_pos (by omega), h3.2.2]
      · have A4 := hx_addA A3 hd (by omega)
        have s4 : hx_adC (hx_adC (hx_adC (hx_adC w a) b) c) d 17 1 = w 17 1 + 1 + 1 + 1 + 1 := hp_up_eq.trans (by rw [s3])
        have h4 := A4.2.2.1.1
        have e3 : fX5_feed_68 (f + 1 + 1 + 1) (hx_adM (hx_adM (hx_adM v a) b) c) (n : Int) a b c d e 3 = fX5_feed_68 (f + 1 + 1) (hx_adM (hx_adM (hx_adM (hx_adM v a) b) c) d) (n : Int) a b c d e (3 + 1) := by
          rw [fX5_feed_68, wn, hx_wr01.2.1, w2, w3, if_neg (by omega), if_neg (by omega), if_neg (by omega), if_neg (by omega), if_pos rfl, hx_add125 (by omega) hd]
        rw [e3, show (3 : Int) + 1 = 4 from rfl]
        unfold fX4_feed_104
        rw [wn, w3, if_neg (by omega), hx_addC (by omega) hd, hp_bd]
        by_cases q4 : n = 4
        · subst q4
          refine ⟨_, _, wr (hx_adC (hx_adC (hx_adC (hx_adC w a) b) c) d 17 1), ?_, ?_, A4⟩
          · unfold fX4_feed_118 fX4_feed_132
            rw [wn, w4, if_pos (by omega)]
          · rw [fX5_feed_68, wn, w4, if_pos (by omega), h4.2.2]
        · obtain rfl : n = 5 := by omega
          have A5 := hx_addA A4 he (by omega)
          have h5 := A5.2.2.1.1
          have e4 : fX5_feed_68 (f + 1 + 1) (hx_adM (hx_adM (hx_adM (hx_adM v a) b) c) d) ((5 : Nat) : Int) a b c d e 4 = fX5_feed_68 (f + 1) (hx_adM (hx_adM (hx_adM (hx_adM (hx_adM v a) b) c) d) e) ((5 : Nat) : Int) a b c d e (4 + 1) := by
            rw [fX5_feed_68, wn, hx_wr01.2.1, w2, w3, w4, if_neg (by omega), if_neg (by omega), if_neg (by omega), if_neg (by omega), if_neg (by omega), hx_add125 (by omega) he]
          rw [e4, show (4 : Int) + 1 = 5 from rfl]
          refine ⟨_, _, wr (hx_adC (hx_adC (hx_adC (hx_adC (hx_adC w a) b) c) d) e 17 1), ?_, ?_, A5⟩
          · unfold fX4_feed_118 fX4_feed_132
            rw [wn, w4, if_neg (by omega), hx_addC (by omega) he, hp_bd]
          · rw [fX5_feed_68, wn, w5, if_pos (by omega), h5.2.2]
theorem hc_feed {w v : hg_W} (h : hx_A w v) {n a b c d e : Int} (hn : hx_c n) (ha : hx_c a) (hb : hx_c b) (hc : hx_c c) (hd : hx_c d) (he : hx_c e) : hx_ret (fX4_feed w n a b c d e) (fX5_feed v n a b c d e) := by
  have h0 := h.2.2.1.1
  unfold fX4_feed fX5_feed
  rw [hx_in hn (by unfold hx_c; omega) (by unfold hx_c; omega), hp_bd, hx_bif, wr_id (x := n) hn.1 hn.2, hx_wr01.2.1, wr_id (x := 5) (by omega) (by omega), wr_id (x := 160) (by omega) (by omega)]
  rw [hx_byteC ha, hx_byte ha, hp_bd, hp_bd, hx_bif, hx_bif, hx_byteC hb, hx_byte hb, hp_bd, hp_bd, hx_bif, hx_bif, hx_byteC hc, hx_byte hc, hp_bd, hp_bd, hx_bif, hx_bif, hx_byteC hd, hx_byte hd, hp_bd, hp_bd, hx_bif, hx_bif, hx_byteC he, hx_byte he, hp_bd, hp_bd, hx_bif, hx_bif]
  by_cases q0 : 1 ≤ n ∧ n ≤ 5
  · rw [if_neg (show ¬ n < 1 by omega), if_neg (show ¬ 5 < n by omega), if_pos q0]
    by_cases qa : 0 ≤ a ∧ a ≤ 255
    · rw [if_pos qa, if_pos qa]
      by_cases qb : 0 ≤ b ∧ b ≤ 255
      · rw [if_pos qb, if_pos qb]
        by_cases qc : 0 ≤ c ∧ c ≤ 255
        · rw [if_pos qc, if_pos qc]
          by_cases qd : 0 ≤ d ∧ d ≤ 255
          · rw [if_pos qd, if_pos qd]
            by_cases qe : 0 ≤ e ∧ e ≤ 255
            · rw [if_pos qe, if_pos qe, h0.2.2, wr_id (x := w 17 1 + n) (by omega) (by omega)]
              by_cases qs : w 17 1 + n ≤ 160
              · rw [if_pos qs, if_pos qs]
                obtain ⟨k, rfl⟩ : ∃ k : Nat, n = (k : Int) := ⟨n.toNat, by omega⟩
                obtain ⟨w', v', r, g1, g2, g3⟩ := hx_feedA h (n := k) (a := a) (b := b) (c := c) (d := d) (e := e) (by omega) qa qb qc qd qe qs
                exact ⟨w', v', r, g1, g2, g3⟩
              · rw [if_neg qs, if_neg qs]; exact hx_ret.c h
            · rw [if_neg qe, if_neg qe]; exact hx_ret.c h
          · rw [if_neg qd, if_neg qd]; exact hx_ret.c h
        · rw [if_neg qc, if_neg qc]; exact hx_ret.c h
      · rw [if_neg qb, if_neg qb]; exact hx_ret.c h
    · rw [if_neg qa, if_neg qa]; exact hx_ret.c h
  · rw [if_neg q0]
    by_cases q1 : n < 1
    · rw [if_pos q1]; exact hx_ret.c h
    · rw [if_neg q1, if_pos (by omega)]; exact hx_ret.c h
theorem hx_R.vals {b : Nat} {w v v' : hg_W} (hR : hx_R b w v) (h3 : ∀ j, j < 18 → v' 3 j = v 3 j) (h4 : ∀ j, j < 12 → v' 4 j = v 4 j) (h1 : ∀ j, j < 6 → v' 1 j = v 1 j) (h2 : ∀ j, j < 6 → v' 2 j = v 2 j) (e0 : v' 0 0 = v 0 0) (e5 : v' 0 5 = v 0 5) (e6 : v' 0 6 = v 0 6) (e12 : v' 0 12 = v 0 12) : hx_R b w v' := by
  obtain ⟨r1, r2, r3, r4, r5, r6, r7⟩ := hR
  refine ⟨fun k hk => ?_, fun k hk => ?_, by rw [e0]; exact r3, r4, by rw [e5]; exact r5, by rw [e6]; exact r6, by rw [e12]; exact r7⟩
  · rw [h3 (3 * k) (by omega), h3 (3 * k + 1) (by omega), h3 (3 * k + 2) (by omega), h4 (2 * k) (by omega), h4 (2 * k + 1) (by omega)]
    exact r1 k hk
  · rw [h1 k (by omega), h2 k (by omega)]
    exact r2 k hk
theorem hx_im2 : ∀ (m n : Nat) (v : hg_W) (k : Nat), m < n → k + m = 12 → ∃ u : hg_W, fX5_image_33 n v (k : Int) = (((hg_as 1 u 9 0 (u 0 0)).bind fun w1 => (hg_as 1 w1 9 1 (w1 0 5)).bind fun w3 => (hg_as 1 w3 9 2 (w3 0 6)).bind fun w5 => (hg_as 1 w5 9 3 (w5 0 12)).bind fun w7 => some (w7, wr (w7 0 0))) : Option (hg_W × Int)) ∧ (∀ c, c ≠ 8 → u c = v c) ∧ ∀ j, u 8 j = if 18 + k ≤ j ∧ j < 30 then wr (v 4 (j - 18)) else v 8 j := by
  intro m
  induction m with
  | zero =>
    intro n v k h hk
    obtain ⟨n, rfl⟩ : ∃ z, n = z + 1 := ⟨n - 1, by omega⟩
    refine ⟨v, ?_, fun _ _ => rfl, fun j => by rw [if_neg (by omega)]⟩
    simp only [fX5_image_33]
    rw [if_pos (by rw [wr_id (by omega) (by omega), wr_id (by omega) (by omega)]; omega)]
  | succ m ih =>
    intro n v k h hk
    obtain ⟨n, rfl⟩ : ∃ z, n = z + 1 := ⟨n - 1, by omega⟩
    obtain ⟨u, g1, g2, g3⟩ := ih n (hg_up v 8 (18 + k) (wr (v 4 k))) (k + 1) (by omega) (by omega)
    refine ⟨u, ?_, fun c hc => (g2 c hc).trans (hg_up_ne c hc), fun j => ?_⟩
    · rw [← g1]
      simp only [fX5_image_33]
      rw [if_neg (by rw [wr_id (by omega) (by omega), wr_id (by omega) (by omega)]; omega), ag_m4 (by omega) (by omega), hp_b, as_m8 (by omega) (by omega), hp_b, show (18 + (k : Int)).toNat = 18 + k by omega, show (k : Int).toNat = k by omega]
      rfl
    · rw [g3 j]
      by_cases q : j = 18 + k
      · subst q
        rw [if_neg (by omega), if_pos (by omega), hp_up_eq, show 18 + k - 18 = k by omega]
      · rw [hp_up_k q]
        by_cases q2 : 18 + k ≤ j ∧ j < 30
        · rw [if_pos q2, if_pos (by omega), hp_up_c (by omega)]
        · rw [if_neg q2, if_neg (by omega)]
theorem hx_im1 : ∀ (m n : Nat) (v : hg_W) (k : Nat), m < n → k + m = 18 → ∃ u : hg_W, fX5_image_7 n v (k : Int) = fX5_image_33 hg_F u 0 ∧ (∀ c, c ≠ 8 → u c = v c) ∧ ∀ j, u 8 j = if k ≤ j ∧ j < 18 then wr (v 3 j) else v 8 j := by
  intro m
  induction m with
  | zero =>
    intro n v k h hk
    obtain ⟨n, rfl⟩ : ∃ z, n = z + 1 := ⟨n - 1, by omega⟩
    refine ⟨v, ?_, fun _ _ => rfl, fun j => by rw [if_neg (by omega)]⟩
    simp only [fX5_image_7]
    rw [if_pos (by rw [wr_id (by omega) (by omega), wr_id (by omega) (by omega)]; omega)]
  | succ m ih =>
    intro n v k h hk
    obtain ⟨n, rfl⟩ : ∃ z, n = z + 1 := ⟨n - 1, by omega⟩
    obtain ⟨u, g1, g2, g3⟩ := ih n (hg_up v 8 k (wr (v 3 k))) (k + 1) (by omega) (by omega)
    refine ⟨u, ?_, fun c hc => (g2 c hc).trans (hg_up_ne c hc), fun j => ?_⟩
    · rw [← g1]
      simp only [fX5_image_7]
      rw [if_neg (by rw [wr_id (by omega) (by omega), wr_id (by omega) (by omega)]; omega), ag_m3 (by omega) (by omega), hp_b, as_m8 (by omega) (by omega), hp_b, show (k : Int).toNat = k by omega]
      rfl
    · rw [g3 j]
      by_cases q : j = k
      · subst q
        rw [if_neg (by omega), if_pos (by omega), hp_up_eq]
      · simp only [hp_up_k q]
        by_cases q2 : k ≤ j ∧ j < 18
        · rw [if_pos q2, if_pos (by omega)]
        · rw [if_neg q2, if_neg (by omega)]
theorem hx_imM (v : hg_W) : ∃ u : hg_W, fX5_image v = some (u, wr (v 0 0)) ∧ (∀ c, c ≠ 0 → c ≠ 8 → c ≠ 9 → u c = v c) ∧ (∀ k, k ≠ 13 → u 0 k = v 0 k) ∧ u 0 13 = 1 ∧ (∀ j, j < 18 → u 8 j = wr (v 3 j)) ∧ (∀ j, j < 12 → u 8 (18 + j) = wr (v 4 j)) ∧ u 9 0 = wr (v 0 0) ∧ u 9 1 = wr (v 0 5) ∧ u 9 2 = wr (v 0 6) ∧ u 9 3 = wr (v 0 12) := by
  obtain ⟨u1, g1, g2, g3⟩ := hx_im1 18 hg_F (hg_up v 0 13 1) 0 (by unfold hg_F; omega) rfl
  obtain ⟨u2, g4, g5, g6⟩ := hx_im2 12 hg_F u1 0 (by unfold hg_F; omega) rfl
  have b0 : ∀ k, k ≠ 13 → u2 0 k = v 0 k := fun k hk => by rw [g5 0 (by omega), g2 0 (by omega), hp_up_k hk]
  refine ⟨hg_up (hg_up (hg_up (hg_up u2 9 0 (wr (v 0 0))) 9 1 (wr (v 0 5))) 9 2 (wr (v 0 6))) 9 3 (wr (v 0 12)), ?_, fun c h0 h8 h9 => by rw [hg_up_ne c h9, hg_up_ne c h9, hg_up_ne c h9, hg_up_ne c h9, g5 c h8, g2 c h8, hg_up_ne c h0], fun k hk => by rw [hp_up_c (by omega), hp_up_c (by omega), hp_up_c (by omega), hp_up_c (by omega), b0 k hk], ?_, fun j hj => ?_, fun j hj => ?_, ?_, ?_, ?_, ?_⟩
  · unfold fX5_image
    rw [hp_pt, hp_b, hx_wr01.2.1]
    have e : fX5_image_7 hg_F (hg_up v 0 13 1) 0 = fX5_image_33 hg_F u1 0 := g1
    rw [e]
    have e2 : fX5_image_33 hg_F u1 0 = _ := g4
    rw [e2, as_m9 (by omega) (by omega), hp_b, as_m9 (by omega) (by omega), hp_b, as_m9 (by omega) (by omega), hp_b, as_m9 (by omega) (by omega), hp_b]
    simp (disch := omega) only [hp_up_c, b0]
    rfl
  · rw [hp_up_c (by omega), hp_up_c (by omega), hp_up_c (by omega), hp_up_c (by omega), g5 0 (by omega), g2 0 (by omega), hp_up_eq]
  · rw [hp_up_c (by omega), hp_up_c (by omega), hp_up_c (by omega), hp_up_c (by omega), g6 j, if_neg (by omega), g3 j, if_pos (by omega), hp_up_c (by omega)]
  · rw [hp_up_c (by omega), hp_up_c (by omega), hp_up_c (by omega), hp_up_c (by omega), g6 (18 + j), if_pos (by omega), show 18 + j - 18 = j by omega, g2 4 (by omega), hp_up_c (by omega)]
  · rw [hp_up_k (by omega), hp_up_k (by omega), hp_up_k (by omega), hp_up_eq]
  · rw [hp_up_k (by omega), hp_up_k (by omega), hp_up_eq]
  · rw [hp_up_k (by omega), hp_up_eq]
  · rw [hp_up_eq]
theorem hc_image {w v : hg_W} (h : hx_A w v) : hx_ret (fX4_image w) (fX5_image v) := by
  obtain ⟨hT, hR, hTp, hIm, hSh⟩ := id h
  obtain ⟨u, g1, g2, g3, g4, g5, g6, g7, g8, g9, g10⟩ := hx_imM v
  obtain ⟨c1, c2, c3, c4⟩ := hx_canon hR
  have r3 := hR.2.2.1
  have r7 := hR.2.2.2.2.2.2
  have hF : hx_FC 37 w (hk_beW w 37 19) := hk_beFC
  have hb : hx_R 37 (hk_beW w 37 19) v := hk_beR hx_r37 hT.1.2.1 hR
  have e37 : hk_beW w 37 19 37 9 = w 19 9 := by
    unfold hk_beW
    rw [if_pos rfl, if_pos (by omega), wr_id (by omega) (by omega)]
  unfold fX4_image
  rw [hk_become hx_r37 hx_r19 (by omega), hp_bd, hp_pt, hp_b, hx_wr01.2.1, hp_up_c (by omega), e37, g1, r3.2.2]
  refine ⟨_, _, _, rfl, rfl, ?_⟩
  have ew : ∀ c, c ≠ 0 → c ≠ 16 → (c < 37 ∨ 45 < c) → hg_up (hk_beW w 37 19) 0 5 1 c = w c := fun c h0 h1 h2 => by rw [hg_up_ne c h0, hF c h1 (by omega)]
  refine ⟨hT.of (fun c _ _ => ew c (by omega) (by omega) (by omega)) (g3 11 (by omega)) (g2 6 (by omega) (by omega) (by omega)) (g2 7 (by omega) (by omega) (by omega)), ?_, ?_, ?_, hSh.of (fun c _ _ => ew c (by omega) (by omega) (by omega)) (fun c _ _ => g2 c (by omega) (by omega) (by omega))⟩
  · refine (hR.of (ew _ (by omega) (by omega) (by omega)) (ew _ (by omega) (by omega) (by omega)) (ew _ (by omega) (by omega) (by omega)) (ew _ (by omega) (by omega) (by omega)) (ew _ (by omega) (by omega) (by omega)) (ew _ (by omega) (by omega) (by omega)) (ew _ (by omega) (by omega) (by omega)) (ew _ (by omega) (by omega) (by omega)) (by rw [ew 1 (by omega) (by omega) (by omega)]) rfl rfl rfl rfl rfl).vals (fun j _ => by rw [g2 3 (by omega) (by omega) (by omega)]) (fun j _ => by rw [g2 4 (by omega) (by omega) (by omega)]) (fun j _ => by rw [g2 1 (by omega) (by omega) (by omega)]) (fun j _ => by rw [g2 2 (by omega) (by omega) (by omega)]) (g3 0 (by omega)) (g3 5 (by omega)) (g3 6 (by omega)) (g3 12 (by omega))
  · unfold hx_Tp at hTp ⊢
    rw [ew 17 (by omega) (by omega) (by omega), ew 18 (by omega) (by omega) (by omega), g2 5 (by omega) (by omega) (by omega), g2 14 (by omega) (by omega) (by omega), g3 8 (by omega)]
    exact hTp
  · unfold hx_Im
    have e05 : hg_up (hk_beW w 37 19) 0 5 1 0 5 = 1 := hp_up_eq
    rw [e05, g4, ew 19 (by omega) (by omega) (by omega), hp_up_c (by omega), e37]
    refine ⟨Or.inr rfl, rfl, fun _ => ⟨?_, Int.le_refl _⟩⟩
    refine (hb.of (hg_up_ne _ (by omega)) (hg_up_ne _ (by omega)) (hg_up_ne _ (by omega)) (hg_up_ne _ (by omega)) (hg_up_ne _ (by omega)) (hg_up_ne _ (by omega)) (hg_up_ne _ (by omega)) (hg_up_ne _ (by omega)) (by rw [hg_up_ne 1 (by omega)]) rfl rfl rfl rfl rfl).vals (fun j hj => ?_) (fun j hj => ?_) (fun j hj => ?_) (fun j hj => ?_) ?_ ?_ ?_ ?_
    · show u 8 j = v 3 j
      rw [g5 j hj, c1 j hj]
    · show u 8 (18 + j) = v 4 j
      rw [g6 j hj, c2 j hj]
    · show u 1 j = v 1 j
      rw [g2 1 (by omega) (by omega) (by omega)]
    · show u 2 j = v 2 j
      rw [g2 2 (by omega) (by omega) (by omega)]
    · show u 9 0 = v 0 0
      rw [g7, wr_id (by omega) (by omega)]
    · show u 9 1 = v 0 5
      rw [g8, c3]
    · show u 9 2 = v 0 6
      rw [g9, c4]
    · show u 9 3 = v 0 12
      have := hT.1
      rw [g10, wr_id (by omega) (by omega)]
theorem hx_bk2 : ∀ (m n : Nat) (v : hg_W) (k : Nat), m < n → k + m = 12 → ∃ u : hg_W, fX5_back_38 n v (k : Int) = (((hg_ag 1 u 9 0).bind fun v1 => (hg_pt u 0 0 v1).bind fun w3 => (hg_ag 1 w3 9 1).bind fun v5 => (hg_pt w3 0 5 v5).bind fun w7 => (hg_ag 1 w7 9 2).bind fun v9 => (hg_pt w7 0 6 v9).bind fun w11 => (hg_ag 1 w11 9 3).bind fun v13 => (hg_pt w11 0 12 v13).bind fun w15 => some (w15, wr (w15 0 0))) : Option (hg_W × Int)) ∧ (∀ c, c ≠ 4 → u c = v c) ∧ ∀ j, u 4 j = if k ≤ j ∧ j < 12 then wr (v 8 (18 + j)) else v 4 j := by
  intro m
  induction m with
  | zero =>
    intro n v k h hk
    obtain ⟨n, rfl⟩ : ∃ z, n = z + 1 := ⟨n - 1, by omega⟩
    refine ⟨v, ?_, fun _ _ => rfl, fun j => by rw [if_neg (by omega)]⟩
    simp only [fX5_back_38]
    rw [if_pos (by rw [wr_id (by omega) (by omega), wr_id (by omega) (by omega)]; omega)]
  | succ m ih =>
    intro n v k h hk
    obtain ⟨n, rfl⟩ : ∃ z, n = z + 1 := ⟨n - 1, by omega⟩
    obtain ⟨u, g1, g2, g3⟩ := ih n (hg_up v 4 k (wr (v 8 (18 + k)))) (k + 1) (by omega) (by omega)
    refine ⟨u, ?_, fun c hc => (g2 c hc).trans (hg_up_ne c hc), fun j => ?_⟩
    · rw [← g1]
      simp only [fX5_back_38]
      rw [if_neg (by rw [wr_id (by omega) (by omega), wr_id (by omega) (by omega)]; omega), ag_m8 (by omega) (by omega), hp_b, as_m4 (by omega) (by omega), hp_b, show (18 + (k : Int)).toNat = 18 + k by omega, show (k : Int).toNat = k by omega]
      rfl
    · rw [g3 j]
      by_cases q : j = k
      · subst q
        rw [if_neg (by omega), if_pos (by omega), hp_up_eq]
      · simp only [hp_up_k q]
        by_cases q2 : k ≤ j ∧ j < 12
        · rw [if_pos q2, if_pos (by omega), hp_up_c (by omega)]
        · rw [if_neg q2, if_neg (by omega)]
theorem hx_bk1 : ∀ (m n : Nat) (v : hg_W) (k : Nat), m < n → k + m = 18 → ∃ u : hg_W, fX5_back_12 n v (k : Int) = fX5_back_38 hg_F u 0 ∧ (∀ c, c ≠ 3 → u c = v c) ∧ ∀ j, u 3 j = if k ≤ j ∧ j < 18 then wr (v 8 j) else v 3 j := by
  intro m
  induction m with
  | zero =>
    intro n v k h hk
    obtain ⟨n, rfl⟩ : ∃ z, n = z + 1 := ⟨n - 1, by omega⟩
    refine ⟨v, ?_, fun _ _ => rfl, fun j => by rw [if_neg (by omega)]⟩
    simp only [fX5_back_12]
    rw [if_pos (by rw [wr_id (by omega) (by omega), wr_id (by omega) (by omega)]; omega)]
  | succ m ih =>
    intro n v k h hk
    obtain ⟨n, rfl⟩ : ∃ z, n = z + 1 := ⟨n - 1, by omega⟩
    obtain ⟨u, g1, g2, g3⟩ := ih n (hg_up v 3 k (wr (v 8 k))) (k + 1) (by omega) (by omega)
    refine ⟨u, ?_, fun c hc => (g2 c hc).trans (hg_up_ne c hc), fun j => ?_⟩
    · rw [← g1]
      simp only [fX5_back_12]
      rw [if_neg (by rw [wr_id (by omega) (by omega), wr_id (by omega) (by omega)]; omega), ag_m8 (by omega) (by omega), hp_b, as_m3 (by omega) (by omega), hp_b, show (k : Int).toNat = k by omega]
      rfl
    · rw [g3 j]
      by_cases q : j = k
      · subst q
        rw [if_neg (by omega), if_pos (by omega), hp_up_eq]
      · simp only [hp_up_k q]
        by_cases q2 : k ≤ j ∧ j < 18
        · rw [if_pos q2, if_pos (by omega)]
        · rw [if_neg q2, if_neg (by omega)]
theorem hx_bkM (v : hg_W) : ∃ u : hg_W, fX5_back_12 hg_F v 0 = some (u, wr (wr (v 9 0))) ∧ (∀ c, c ≠ 0 → c ≠ 3 → c ≠ 4 → u c = v c) ∧ (∀ k, k ≠ 0 → k ≠ 5 → k ≠ 6 → k ≠ 12 → u 0 k = v 0 k) ∧ (∀ j, j < 18 → u 3 j = wr (v 8 j)) ∧ (∀ j, j < 12 → u 4 j = wr (v 8 (18 + j))) ∧ u 0 0 = wr (v 9 0) ∧ u 0 5 = wr (v 9 1) ∧ u 0 6 = wr (v 9 2) ∧ u 0 12 = wr (v 9 3) := by
  obtain ⟨u1, g1, g2, g3⟩ := hx_bk1 18 hg_F v 0 (by unfold hg_F; omega) rfl
  obtain ⟨u2, g4, g5, g6⟩ := hx_bk2 12 hg_F u1 0 (by unfold hg_F; omega) rfl
  have b0 : ∀ c, c ≠ 3 → c ≠ 4 → u2 c = v c := fun c h3 h4 => by rw [g5 c h4, g2 c h3]
  refine ⟨hg_up (hg_up (hg_up (hg_up u2 0 0 (wr (v 9 0))) 0 5 (wr (v 9 1))) 0 6 (wr (v 9 2))) 0 12 (wr (v 9 3)), ?_, fun c h0 h3 h4 => by rw [hg_up_ne c h0, hg_up_ne c h0, hg_up_ne c h0, hg_up_ne c h0, b0 c h3 h4], fun k h0 h5 h6 h12 => by rw [hp_up_k h12, hp_up_k h6, hp_up_k h5, hp_up_k h0, b0 0 (by omega) (by omega)], fun j hj => ?_, fun j hj => ?_, ?_, ?_, ?_, ?_⟩
  · have e : fX5_back_12 hg_F v 0 = fX5_back_38 hg_F u1 0 := g1
    rw [e]
    have e2 : fX5_back_38 hg_F u1 0 = _ := g4
    rw [e2]
    simp (disch := omega) only [ag_m9, hp_b, hp_pt, hp_up_c, b0]
    rw [hp_up_k (by omega), hp_up_k (by omega), hp_up_k (by omega), hp_up_eq]
    rfl
  · rw [hp_up_c (by omega), hp_up_c (by omega), hp_up_c (by omega), hp_up_c (by omega), g5 3 (by omega), g3 j, if_pos (by omega)]
  · rw [hp_up_c (by omega), hp_up_c (by omega), hp_up_c (by omega), hp_up_c (by omega), g6 j, if_pos (by omega), g2 8 (by omega)]
  · rw [hp_up_k (by omega), hp_up_k (by omega), hp_up_k (by omega), hp_up_eq]
  · rw [hp_up_k (by omega), hp_up_k (by omega), hp_up_eq]
  · rw [hp_up_k (by omega), hp_up_eq]
  · rw [hp_up_eq]
theorem hc_back {w v : hg_W} (h : hx_A w v) : hx_ret (fX4_back w) (fX5_back v) := by
  obtain ⟨hT, hR, hTp, hIm, hSh⟩ := id h
  obtain ⟨i1, i2, i3⟩ := hIm
  unfold fX4_back fX5_back
  rw [i2, wr_id (x := w 0 5) (by omega) (by omega)]
  rcases i1 with q | q
  · rw [if_pos q, if_pos q]; exact hx_ret.c h
  · rw [if_neg (by omega), if_neg (by omega)]
    obtain ⟨hR37, h9⟩ := i3 q
    obtain ⟨u, g1, g2, g3, g5, g6, g7, g8, g9, g10⟩ := hx_bkM v
    obtain ⟨c1, c2, c3, c4⟩ := hx_canon hR37
    have r3 := hR37.2.2.1
    have r7 := hR37.2.2.2.2.2.2
    have t1 := hT.1
    have v90 : v 9 0 = w 37 9 := r3.2.2
    have v93 : v 9 3 = w 37 13 := r7.2.2
    have hF : hx_FC 19 w (hk_beW w 19 37) := hk_beFC
    have hb : hx_R 19 (hk_beW w 19 37) (hx_iv v) := hk_beR hx_r19 t1.2.1 hR37
    have e19 : hk_beW w 19 37 19 9 = w 37 9 := by
      unfold hk_beW
      rw [if_pos rfl, if_pos (by omega), wr_id (by omega) (by omega)]
    rw [hk_become hx_r19 hx_r37 (by omega), hp_bd, e19, g1, v90, wr_wr]
    refine ⟨_, _, _, rfl, rfl, ?_⟩
    have ew : ∀ c, c ≠ 16 → (c < 19 ∨ 27 < c) → hk_beW w 19 37 c = w c := fun c h1 h2 => hF c h1 (by omega)
    have hR19 : hx_R 19 (hk_beW w 19 37) u := by
      refine hb.vals (fun j hj => ?_) (fun j hj => ?_) (fun j hj => ?_) (fun j hj => ?_) ?_ ?_ ?_ ?_
      · rw [g5 j hj]; exact c1 j hj
      · rw [g6 j hj]; exact c2 j hj
      · rw [g2 1 (by omega) (by omega) (by omega)]; rfl
      · rw [g2 2 (by omega) (by omega) (by omega)]; rfl
      · rw [g7, wr_id (by omega) (by omega)]; rfl
      · rw [g8]; exact c3
      · rw [g9]; exact c4
      · rw [g10, wr_id (by omega) (by omega)]; rfl
    refine ⟨hT.of (fun c _ _ => ew c (by omega) (by omega)) (g3 11 (by omega) (by omega) (by omega) (by omega)) (g2 6 (by omega) (by omega) (by omega)) (g2 7 (by omega) (by omega) (by omega)), hR19, ?_, ?_, hSh.of (fun c _ _ => ew c (by omega) (by omega)) (fun c _ _ => g2 c (by omega) (by omega) (by omega))⟩
    · unfold hx_Tp at hTp ⊢
      rw [ew 17 (by omega) (by omega), ew 18 (by omega) (by omega), g2 5 (by omega) (by omega) (by omega), g2 14 (by omega) (by omega) (by omega), g3 8 (by omega) (by omega) (by omega) (by omega)]
      exact hTp
    · unfold hx_Im
      rw [ew 0 (by omega) (by omega), ew 37 (by omega) (by omega), g3 13 (by omega) (by omega) (by omega) (by omega), e19]
      refine ⟨Or.inr q, i2, fun _ => ⟨?_, Int.le_refl _⟩⟩
      refine hR37.of (ew _ (by omega) (by omega)) (ew _ (by omega) (by omega)) (ew _ (by omega) (by omega)) (ew _ (by omega) (by omega)) (ew _ (by omega) (by omega)) (ew _ (by omega) (by omega)) (ew _ (by omega) (by omega)) (ew _ (by omega) (by omega)) (by rw [ew 1 (by omega) (by omega)]) ?_ ?_ ?_ ?_ ?_
      · funext k; unfold hx_iv; rw [g2 9 (by omega) (by omega) (by omega)]; rfl
      · funext k; unfold hx_iv; simp only [Nat.reduceEqDiff, if_false]; rw [g2 1 (by omega) (by omega) (by omega)]
      · funext k; unfold hx_iv; simp only [Nat.reduceEqDiff, if_false]; rw [g2 2 (by omega) (by omega) (by omega)]
      · funext k; unfold hx_iv; rw [g2 8 (by omega) (by omega) (by omega)]; rfl
      · funext k; unfold hx_iv; rw [g2 8 (by omega) (by omega) (by omega)]; rfl
