/-! ===== lots: drawn, odds ===== -/
theorem hx_rnd {x : Int} (hx : 0 ≤ x ∧ x < 2147483647) : (0 ≤ hg_lrm (x * 48271) 2147483647 ∧ hg_lrm (x * 48271) 2147483647 < 2147483647) ∧ (0 ≤ hg_lrm (hg_lrm (x * 48271) 2147483647) 6 ∧ hg_lrm (hg_lrm (x * 48271) 2147483647) 6 < 6) := by
  have e1 := hx_lrm (x := x * 48271) (y := 2147483647) (by omega) (by omega) (by omega) (by omega)
  have b1 : 0 ≤ hg_lrm (x * 48271) 2147483647 ∧ hg_lrm (x * 48271) 2147483647 < 2147483647 := by rw [e1]; omega
  have e2 := hx_lrm (x := hg_lrm (x * 48271) 2147483647) (y := 6) b1.1 (by omega) (by omega) (by omega)
  exact ⟨b1, by rw [e2]; omega⟩
theorem hx_lotL : ∀ (m n1 n2 k : Nat) (w v : hg_W) (x : Int), m < n1 → k + m ≤ 40 → 0 ≤ x ∧ x < 2147483647 → hx_T w v → hx_R 28 w v → ∃ (w' v' : hg_W) (x' : Int), fX4_putLots_19 n1 w ((k + m : Nat) : Int) x (k : Int) = some (w', 0) ∧ fX5_lotHat_12 (n2 + m) v ((k + m : Nat) : Int) x (k : Int) = fX5_lotHat_12 n2 v' ((k + m : Nat) : Int) x' ((k + m : Nat) : Int) ∧ hx_FC 28 w w' ∧ hx_FM v v' ∧ hx_T w' v' ∧ hx_R 28 w' v' := by
  intro m
  induction m with
  | zero =>
    intro n1 n2 k w v x h1 hk hx hT hR
    obtain ⟨n1, rfl⟩ : ∃ z, n1 = z + 1 := ⟨n1 - 1, by omega⟩
    refine ⟨w, v, x, ?_, rfl, hx_FC.rf, hx_FM.rf, hT, hR⟩
    simp only [fX4_putLots_19]
    rw [wr_id (x := ((k + 0 : Nat) : Int)) (by omega) (by omega), wr_id (x := (k : Int)) (by omega) (by omega), if_pos (by omega)]
  | succ m ih =>
    intro n1 n2 k w v x h1 hk hx hT hR
    obtain ⟨n1, rfl⟩ : ∃ z, n1 = z + 1 := ⟨n1 - 1, by omega⟩
    obtain ⟨b1, b2⟩ := hx_rnd hx
    obtain ⟨c, hc⟩ : ∃ c : Nat, (c : Int) = hg_lrm (hg_lrm (x * 48271) 2147483647) 6 := ⟨(hg_lrm (hg_lrm (x * 48271) 2147483647) 6).toNat, by omega⟩
    have hc6 : c < 6 := by omega
    obtain ⟨-, ki, -⟩ := hR.1 c hc6
    have tc : (c : Int).toNat = c := by omega
    have t1 : (2 * (c : Int) + 1).toNat = 2 * c + 1 := by omega
    obtain ⟨z, hz⟩ : ∃ z : Int, z = if w (28 + 2) c + 1 < 20 then w (28 + 2) c + 1 else 20 := ⟨_, rfl⟩
    have hz2 : 0 ≤ z ∧ z ≤ 20 := by rw [hz]; split <;> omega
    have hR2 := hc_R2 hx_r28 hR hc6 hz2
    have tF : hx_FC 28 w (hg_up (hg_up w 28 10 (w 28 10 + (z - w (28 + 2) c))) (28 + 2) c z) := (hx_FC.up (by omega)).tr (hx_FC.up (by omega))
    have tM : hx_FM v (hg_up v 4 (2 * c + 1) z) := hx_FM.up (by omega)
    have tT := hT.fr hx_r28 tF tM
    obtain ⟨w', v', x', g1, g2, g3, g4, g5, g6⟩ := ih n1 n2 (k + 1) _ _ _ (by omega) (by omega) b1 tT hR2
    rw [show k + 1 + m = k + (m + 1) by omega] at g1 g2
    have wN : wr ((k + (m + 1) : Nat) : Int) = ((k + (m + 1) : Nat) : Int) := wr_id (by omega) (by omega)
    have wk : wr (k : Int) = (k : Int) := wr_id (by omega) (by omega)
    refine ⟨w', v', x', ?_, ?_, tF.tr g3, tM.tr g4, g5, g6⟩
    · rw [← g1]
      simp only [fX4_putLots_19]
      rw [wN, wk, if_neg (by omega), ← hc, show (30 : Nat) = 28 + 2 from rfl, ag_r2 hx_r28 (by omega) (by omega), hp_b, tc, hx_mn (by omega) (by omega), ← hz, hc_setIn hx_r28 hR hc6 hz2, hp_bd]
      rfl
    · rw [← g2, show n2 + (m + 1) = (n2 + m) + 1 from rfl]
      simp only [fX5_lotHat_12]
      rw [wN, wk, if_neg (by omega), ← hc, ag_m4 (by omega) (by omega), hp_b, t1, ki.2.2, hx_within (by omega) (by omega) (by omega), hp_bd, wr_id (x := w (28 + 2) c + 1) (by omega) (by omega), as_m4 (by omega) (by omega), hp_b, t1]
      have ez : wr (if 0 ≤ w (28 + 2) c + 1 then (if w (28 + 2) c + 1 ≤ 20 then w (28 + 2) c + 1 else 20) else 0) = z := by
        rw [hz, if_pos (by omega)]
        by_cases q : w (28 + 2) c + 1 < 20
        · rw [if_pos q, if_pos (by omega), wr_id (by omega) (by omega)]
        · rw [if_neg q]
          by_cases q2 : w (28 + 2) c + 1 ≤ 20
          · rw [if_pos q2, wr_id (by omega) (by omega)]; omega
          · rw [if_neg q2, wr_id (by omega) (by omega)]
      rw [ez]
      rfl
theorem hx_A.u36 {w v : hg_W} (h : hx_A w v) {t : Int} : hx_A w (hg_up v 0 36 t) :=
  h.pres (h.2.1.vals (fun j _ => by rw [hg_up_ne 3 (by omega)]) (fun j _ => by rw [hg_up_ne 4 (by omega)]) (fun j _ => by rw [hg_up_ne 1 (by omega)]) (fun j _ => by rw [hg_up_ne 2 (by omega)]) (hp_up_k (by omega)) (hp_up_k (by omega)) (hp_up_k (by omega)) (hp_up_k (by omega))) (fun _ _ => rfl) rfl (fun c _ => hg_up_ne c (by omega)) (hp_up_k (by omega)) (hp_up_k (by omega)) (hp_up_k (by omega))
theorem hx_lot {w v : hg_W} (h : hx_A w v) {x : Int} {y : Nat} (hx : 0 ≤ x ∧ x < 200000) (hy : y ≤ 40) : ∃ (w1 w' v' : hg_W) (r mo : Int), fX4_putLots w x (y : Int) = some (w1, 0) ∧ fX0_goWhileCoins 28 w1 120 = some (w', r) ∧ (hg_bd (fX4_firstMost w' 34 (w' 28 9)) fun w7 v8 => if 0 ≤ wr v8 then (hg_ag 0 w7 34 v8).bind fun v10 => some (w7, wr v10) else some (w7, wr 0)) = some (w', mo) ∧ fX5_lotHat v x (y : Int) = some (v', mo) ∧ v' 0 36 = r ∧ wr r = r ∧ wr mo = mo ∧ hx_FC 28 w w' ∧ hx_V (hg_up v 0 36 r) v' := by
  obtain ⟨u, k1, k2, k3⟩ := hx_keep h
  have hA1 := h.th (w' := w) hx_FC.rf k2
  obtain ⟨t1, t2, t3⟩ := hx_thR hA1
  have hF : y < hg_F := by unfold hg_F; omega
  obtain ⟨w1, v1, x1, l1, l2, l3, l4, l5, l6⟩ := hx_lotL y hg_F (hg_F - y) 0 (hk_beW w 28 19) u (x + 1) hF (by omega) (by omega) t2 t1
  rw [Nat.zero_add, Nat.sub_add_cancel (by omega)] at l2
  rw [Nat.zero_add] at l1
  obtain ⟨w', v2, r, g1, g2, g3, g4, g5, g6, g7⟩ := hx_run120 hx_r28 l5 l6 (n := 120) (by omega)
  have wrr : wr r = r := by
    have := l6.2.2.1
    exact wr_id (by omega) (by omega)
  have hR36 : hx_R 28 w' (hg_up v2 0 36 r) := g3.vals (fun j _ => by rw [hg_up_ne 3 (by omega)]) (fun j _ => by rw [hg_up_ne 4 (by omega)]) (fun j _ => by rw [hg_up_ne 1 (by omega)]) (fun j _ => by rw [hg_up_ne 2 (by omega)]) (hp_up_k (by omega)) (hp_up_k (by omega)) (hp_up_k (by omega)) (hp_up_k (by omega))
  obtain ⟨⟨mst, p1, p2, p3⟩, -⟩ := hx_mostP hR36
  have r3 := hR36.2.2.1
  have hFM : hx_FM u v2 := l4.tr g5
  obtain ⟨v3, b1, b2, b3, b4, b5, b6, b7⟩ := k3 (hg_up v2 0 36 r) (by rw [hg_up_ne 18 (by omega), hFM.1 18 (by omega) (by omega) (by omega) (by omega) (by omega)])
  have hV3 : hx_V (hg_up v 0 36 r) v3 := by
    refine ⟨fun c h3 h4 h16 h17 h18 => ?_, fun j hj => ?_, fun j hj => ?_⟩
    · by_cases q : c = 0
      · subst q
        funext j
        by_cases j5 : j = 5
        · rw [j5, b4, hp_up_k (by omega)]
        · by_cases j6 : j = 6
          · rw [j6, b5, hp_up_k (by omega)]
          · rw [b3 j j5 j6]
            by_cases j36 : j = 36
            · rw [j36, hp_up_eq, hp_up_eq]
            · rw [hp_up_k j36, hp_up_k j36, hFM.2 j j5 j6, k2.1 0 (by omega) (by omega) (by omega) (by omega) (by omega)]
      · rw [b2 c q h3 h4, hg_up_ne c q, hg_up_ne c q, hFM.1 c q h3 h4 h16 h17, k2.1 c h3 h4 h16 h17 h18]
    · rw [b6 j hj, hp_up_c (by omega)]
    · rw [b7 j hj, hp_up_c (by omega)]
  have e36 : v3 0 36 = r := by rw [b3 36 (by omega) (by omega), hp_up_eq]
  have hC : fX4_putLots w x (y : Int) = some (w1, 0) := by
    unfold fX4_putLots
    rw [hx_become28, hp_bd, wr_id (x := x + 1) (by omega) (by omega)]
    exact l1
  have hM : ∀ mo, (hg_bd (fX5_mostBy (hg_up v2 0 36 r) 1) fun w6 v7 => if wr v7 = wr (-1) then fX5_lotHat_111 w6 0 else (hg_ag 1 w6 3 ((3 * v7) + 1)).bind fun v9 => fX5_lotHat_111 w6 v9) = some (v3, mo) → fX5_lotHat v x (y : Int) = some (v3, mo) := by
    intro mo hmo
    unfold fX5_lotHat
    rw [k1, hp_bd, wr_id (x := x) (by omega) (by omega)]
    have l2' : fX5_lotHat_12 hg_F u (y : Int) (x + 1) 0 = _ := l2
    rw [l2']
    obtain ⟨f, hf⟩ : ∃ f, hg_F - y = f + 1 := ⟨hg_F - y - 1, by omega⟩
    rw [hf]
    simp only [fX5_lotHat_12]
    rw [if_pos (Int.le_refl _), g2, hp_bd, hp_pt, hp_b, wrr]
    exact hmo
  rcases p3 with ⟨m1, m2⟩ | ⟨m1, m2⟩
  · refine ⟨w1, w', v3, r, 0, hC, g1, ?_, hM 0 ?_, e36, wrr, hx_wr01.1, t3.tr (l3.tr g4), hV3⟩
    · rw [p1, hp_bd, m1, hx_wr01.2.2, if_neg (by omega), hx_wr01.1]
    · rw [p2, hp_bd, m1, if_pos rfl]
      unfold fX5_lotHat_111
      rw [b1, hp_bd, hx_wr01.1]
  · obtain ⟨j, rfl⟩ : ∃ j : Nat, mst = (j : Int) := ⟨mst.toNat, by omega⟩
    obtain ⟨-, -, -, kq, -⟩ := hR36.1 j (by omega)
    refine ⟨w1, w', v3, r, w' (28 + 6) j, hC, g1, ?_, hM _ ?_, e36, wrr, wr_id (by omega) (by omega), t3.tr (l3.tr g4), hV3⟩
    · rw [p1, hp_bd, wr_id (x := (j : Int)) (by omega) (by omega), if_pos (by omega), show (34 : Nat) = 28 + 6 from rfl, ag_r6 hx_r28 (by omega) (by omega), hp_b, show (j : Int).toNat = j by omega, wr_id (x := w' (28 + 6) j) (by omega) (by omega)]
    · rw [p2, hp_bd, wr_id (x := (j : Int)) (by omega) (by omega), hx_wr01.2.2, if_neg (by omega), ag_m3 (by omega) (by omega), hp_b, show (3 * (j : Int) + 1).toNat = 3 * j + 1 by omega, kq.2.2]
      unfold fX5_lotHat_111
      rw [b1, hp_bd, wr_id (x := w' (28 + 6) j) (by omega) (by omega)]
theorem hc_drawn {w v : hg_W} (h : hx_A w v) {a y x : Int} (ha : hx_c a) (hy : hx_c y) (hx : hx_c x) : hx_ret (fX4_drawn w a y x) (fX5_drawn v a y x) := by
  unfold fX4_drawn fX5_drawn
  rw [hx_in ha (by unfold hx_c; omega) (by unfold hx_c; omega), hp_bd, hx_bif, hx_in hy (by unfold hx_c; omega) (by unfold hx_c; omega), hp_bd, hx_bif, hx_in hx (by unfold hx_c; omega) (by unfold hx_c; omega), hp_bd, hx_bif, wr_id (x := a) ha.1 ha.2, wr_id (x := y) hy.1 hy.2, wr_id (x := x) hx.1 hx.2, hx_wr01.2.1, wr_id (x := 99999) (by omega) (by omega), wr_id (x := 30) (by omega) (by omega)]
  by_cases q1 : 0 ≤ a ∧ a ≤ 99999
  · rw [if_neg (show ¬ a < 0 by omega), if_neg (show ¬ 99999 < a by omega), if_pos q1]
    by_cases q2 : 0 ≤ y ∧ y ≤ 30
    · rw [if_neg (show ¬ y < 0 by omega), if_neg (show ¬ 30 < y by omega), if_pos q2]
      by_cases q3 : 0 ≤ x ∧ x ≤ 1
      · rw [if_neg (show ¬ x < 0 by omega), if_pos (show x ≤ 1 by omega), if_pos q3]
        obtain ⟨z, rfl⟩ : ∃ z : Nat, y = (z : Int) := ⟨y.toNat, by omega⟩
        obtain ⟨w1, w', v', r, mo, g1, g2, g3, g4, g5, g6, g7, g8, g9⟩ := hx_lot h (x := a) (y := z) (by omega) (by omega)
        have hA := (h.u36 (t := r)).th g8 g9
        rw [g1, hp_bd, g2, hp_bd, g3, g4, hp_bd, g5, g6, g7]
        by_cases q4 : x = 1
        · rw [if_pos q4, if_neg (show ¬ x = 0 by omega)]; exact hx_ret.c hA
        · rw [if_neg q4, if_pos (show x = 0 by omega)]; exact hx_ret.c hA
      · rw [if_neg q3]
        by_cases q4 : x < 0
        · rw [if_pos q4]; exact hx_ret.c h
        · rw [if_neg q4, if_neg (by omega)]; exact hx_ret.c h
    · rw [if_neg q2]
      by_cases q4 : y < 0
      · rw [if_pos q4]; exact hx_ret.c h
      · rw [if_neg q4, if_pos (by omega)]; exact hx_ret.c h
  · rw [if_neg q1]
    by_cases q4 : a < 0
    · rw [if_pos q4]; exact hx_ret.c h
    · rw [if_neg q4, if_pos (by omega)]; exact hx_ret.c h
theorem hx_oddsL {w0 v0 : hg_W} (h0 : hx_A w0 v0) {a p x : Int} (ha : 0 ≤ a ∧ a ≤ 99999) (hp : 0 ≤ p ∧ p < 6) (hx : x = 0 ∨ x = 1) : ∀ (m n1 n2 k c : Nat) (w v : hg_W) (t : Int), m < n1 → m < n2 → k + m ≤ 40 → 0 < k + m → c ≤ k → hx_FC 28 w0 w → hx_V (hg_up v0 0 36 t) v → hx_ret (fX4_odds_50 n1 w a ((k + m : Nat) : Int) p x (c : Int) (k : Int)) (fX5_odds_48 n2 v a ((k + m : Nat) : Int) p x (c : Int) (k : Int)) := by
  intro m
  induction m with
  | zero =>
    intro n1 n2 k c w v t h1 h2 hk hk0 hc hw hv
    obtain ⟨n1, rfl⟩ : ∃ z, n1 = z + 1 := ⟨n1 - 1, by omega⟩
    obtain ⟨n2, rfl⟩ : ∃ z, n2 = z + 1 := ⟨n2 - 1, by omega⟩
    have hA := (h0.u36 (t := t)).th hw hv
    obtain ⟨r, l1, l2, l3⟩ := hx_low (w := w) (v := v) (p := c) (t := k + 0) (a := x) (by omega) (by omega) hx
    simp only [fX4_odds_50, fX5_odds_48]
    rw [wr_id (x := ((k + 0 : Nat) : Int)) (by omega) (by omega), wr_id (x := (k : Int)) (by omega) (by omega), if_pos (by omega), if_pos (by omega), l1, l2, hp_bd, hp_bd]
    exact hx_ret.c hA
  | succ m ih =>
    intro n1 n2 k c w v t h1 h2 hk hk0 hc hw hv
    obtain ⟨n1, rfl⟩ : ∃ z, n1 = z + 1 := ⟨n1 - 1, by omega⟩
    obtain ⟨n2, rfl⟩ : ∃ z, n2 = z + 1 := ⟨n2 - 1, by omega⟩
    have hA := (h0.u36 (t := t)).th hw hv
    obtain ⟨w1, w', v', r, mo, g1, g2, g3, g4, g5, g6, g7, g8, g9⟩ := hx_lot hA (x := a + (k : Int)) (y := 10) (by omega) (by omega)
    have g1' : fX4_putLots w (a + (k : Int)) 10 = some (w1, 0) := g1
    have g4' : fX5_lotHat v (a + (k : Int)) 10 = some (v', mo) := g4
    have hv2 := (hv.up (b := r)).tr g9
    simp only [fX4_odds_50, fX5_odds_48]
    rw [wr_id (x := ((k + (m + 1) : Nat) : Int)) (by omega) (by omega), wr_id (x := (k : Int)) (by omega) (by omega), if_neg (by omega), if_neg (by omega), g1', hp_bd, g2, hp_bd, g4', hp_bd, g5, g6, wr_id (x := p) (by omega) (by omega)]
    unfold fX4_odds_82 fX5_odds_80
    rw [show (k : Int) + 1 = ((k + 1 : Nat) : Int) by omega, show k + (m + 1) = (k + 1) + m by omega]
    by_cases q : r = p
    · rw [if_pos q, if_pos q, show (c : Int) + 1 = ((c + 1 : Nat) : Int) by omega]
      exact ih n1 n2 (k + 1) (c + 1) w' v' r (by omega) (by omega) (by omega) (by omega) (by omega) (hw.tr g8) hv2
    · rw [if_neg q, if_neg q, Int.add_zero]
      exact ih n1 n2 (k + 1) c w' v' r (by omega) (by omega) (by omega) (by omega) (by omega) (hw.tr g8) hv2
theorem hc_odds {w v : hg_W} (h : hx_A w v) {a n p x : Int} (ha : hx_c a) (hn : hx_c n) (hp : hx_c p) (hx : hx_c x) : hx_ret (fX4_odds w a n p x) (fX5_odds v a n p x) := by
  obtain ⟨hT, hR, hTp, hIm, hSh⟩ := id h
  have r3 := hR.2.2.1
  unfold fX4_odds fX5_odds
  rw [hx_in ha (by unfold hx_c; omega) (by unfold hx_c; omega), hp_bd, hx_bif, hx_in hn (by unfold hx_c; omega) (by unfold hx_c; omega), hp_bd, hx_bif, hx_isOne hR hp, hp_bd, hx_bif, hx_in hx (by unfold hx_c; omega) (by unfold hx_c; omega), hp_bd, hx_bif, hx_isThere hp ⟨r3.1, r3.2.1⟩, hp_bd, hx_bif, wr_id (x := a) ha.1 ha.2, wr_id (x := n) hn.1 hn.2, wr_id (x := x) hx.1 hx.2, hx_wr01.2.1, wr_id (x := 99999) (by omega) (by omega), wr_id (x := 40) (by omega) (by omega)]
  by_cases q1 : 0 ≤ a ∧ a ≤ 99999
  · rw [if_neg (show ¬ a < 0 by omega), if_neg (show ¬ 99999 < a by omega), if_pos q1]
    by_cases q2 : 1 ≤ n ∧ n ≤ 40
    · rw [if_neg (show ¬ n < 1 by omega), if_neg (show ¬ 40 < n by omega), if_pos q2]
      by_cases q3 : 0 ≤ p ∧ p < w 19 9
      · rw [if_pos q3, if_pos q3]
        by_cases q4 : 0 ≤ x ∧ x ≤ 1
        · rw [if_neg (show ¬ x < 0 by omega), if_pos (show x ≤ 1 by omega), if_pos q4]
          have g := hx_oddsL h q1 (p := p) (x := x) (by omega) (by omega) n.toNat hg_F hg_F 0 0 w v (v 0 36) (by unfold hg_F; omega) (by unfold hg_F; omega) (by omega) (by omega) (by omega) hx_FC.rf (by rw [hx_up_self]; exact hx_V.rf)
          rw [show ((0 + n.toNat : Nat) : Int) = n by omega] at g
          exact g
        · rw [if_neg q4]
          by_cases q5 : x < 0
          · rw [if_pos q5]; exact hx_ret.c h
          · rw [if_neg q5, if_neg (by omega)]; exact hx_ret.c h
      · rw [if_neg q3, if_neg q3]; exact hx_ret.c h
    · rw [if_neg q2]
      by_cases q5 : n < 1
      · rw [if_pos q5]; exact hx_ret.c h
      · rw [if_neg q5, if_pos (by omega)]; exact hx_ret.c h
  · rw [if_neg q1]
    by_cases q4 : a < 0
    · rw [if_pos q4]; exact hx_ret.c h
    · rw [if_neg q4, if_pos (by omega)]; exact hx_ret.c h
