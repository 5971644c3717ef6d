/-! ===== what is thought: run, end ===== -/
/-- what lays back what u keeps of v -/
def hx_Kp (v u : hg_W) : Prop := ∀ v2 : hg_W, v2 18 = u 18 → ∃ v3 : hg_W, fX5_lays v2 = some (v3, 0) ∧ (∀ c, c ≠ 0 → c ≠ 3 → c ≠ 4 → v3 c = v2 c) ∧ (∀ k, k ≠ 5 → k ≠ 6 → v3 0 k = v2 0 k) ∧ v3 0 5 = v 0 5 ∧ v3 0 6 = v 0 6 ∧ (∀ j, j < 18 → v3 3 j = v 3 j) ∧ (∀ j, j < 12 → v3 4 j = v 4 j)
theorem hx_Kp.back {v u vi v2 : hg_W} (hK : hx_Kp v u) (hV : hx_V v vi) (h18 : vi 18 = u 18) (hF : hx_FM vi v2) : ∃ v3 : hg_W, fX5_lays v2 = some (v3, 0) ∧ hx_V v v3 ∧ v3 18 = u 18 := by
  have e18 : v2 18 = u 18 := (hF.1 18 (by omega) (by omega) (by omega) (by omega) (by omega)).trans h18
  obtain ⟨v3, q1, q2, q3, q4, q5, q6, q7⟩ := hK v2 e18
  refine ⟨v3, q1, ⟨fun c h3 h4 h16 h17 h18 => ?_, q6, q7⟩, (q2 18 (by omega) (by omega) (by omega)).trans e18⟩
  by_cases q : c = 0
  · subst q
    funext k
    by_cases k5 : k = 5
    · rw [k5]; exact q4
    · by_cases k6 : k = 6
      · rw [k6]; exact q5
      · rw [q3 k k5 k6, hF.2 k k5 k6, hV.1 0 (by omega) (by omega) (by omega) (by omega) (by omega)]
  · rw [q2 c q h3 h4, hF.1 c q h3 h4 h16 h17, hV.1 c h3 h4 h16 h17 h18]
theorem hx_keep {w v : hg_W} (h : hx_A w v) : ∃ u : hg_W, fX5_keeps v = some (u, 0) ∧ hx_V v u ∧ hx_Kp v u := by
  obtain ⟨u, g1, g2, g3⟩ := hk_both h.2.1
  exact ⟨u, g1, ⟨fun c _ _ _ _ h18 => g2 c h18, fun j _ => by rw [g2 3 (by omega)], fun j _ => by rw [g2 4 (by omega)]⟩, g3⟩
theorem hx_thR {w v : hg_W} (h : hx_A w v) : hx_R 28 (hk_beW w 28 19) v ∧ hx_T (hk_beW w 28 19) v ∧ hx_FC 28 w (hk_beW w 28 19) :=
  ⟨hk_beR hx_r28 h.1.1.2.1 h.2.1, h.1.fr hx_r28 hk_beFC hx_FM.rf, hk_beFC⟩
theorem hx_become28 {w : hg_W} : fX0_become 28 w 19 = some (hk_beW w 28 19, 0) := hk_become hx_r28 hx_r19 (by omega)
theorem hx_run120 {b : Nat} (hb : hg_rd b) {w v : hg_W} (hT : hx_T w v) (hR : hx_R b w v) {n : Int} (hn : 0 ≤ n ∧ n ≤ 120) : ∃ (w' v' : hg_W) (r : Int), fX0_goWhileCoins b w n = some (w', r) ∧ fX5_goes v n = some (v', r) ∧ hx_R b w' v' ∧ hx_FC b w w' ∧ hx_FM v v' ∧ hx_KC b w w' ∧ (r = -1 ∨ 0 ≤ r ∧ r < w b 9) := by
  obtain ⟨w', v', r, g1, g2, g3, g4, g5, g6, g7, -⟩ := hx_goes hb n.toNat hg_F hg_F w v n n (-1) 0 hT hR (by unfold hg_F; omega) (by unfold hg_F; omega) (by omega) (by omega) (by omega) (by omega) (by omega) (by omega) (Or.inl ⟨rfl, by omega⟩) (Or.inl rfl)
  exact ⟨w', v', r, g1, g2, g3, g4, g5, g6, g7⟩
theorem hx_asked {w : hg_W} {x : Int} (hx : hx_c x) (hp : 0 ≤ w 19 9 ∧ w 19 9 ≤ 6) : fX4_isAskedOfRun w x = some (w, if (0 ≤ x ∧ x ≤ 2) ∨ (10 ≤ x ∧ x ≤ 39 ∧ x % 10 < w 19 9) then 1 else 0) := by
  unfold hx_c at hx
  unfold fX4_isAskedOfRun fX4_isAskedOfRun_9 fX4_isAskedOfRun_32
  rw [wr_id hx.1 hx.2, wr_id (x := 2) (by omega) (by omega), wr_id (x := 10) (by omega) (by omega), wr_id (x := 40) (by omega) (by omega), hx_wr01.1, hx_wr01.2.1]
  simp only [true_or, or_true, if_true, Int.reduceEq]
  by_cases q0 : 0 ≤ x ∧ x ≤ 2
  · rw [if_neg (show ¬ x < 0 by omega), if_pos (show x ≤ 2 by omega), if_pos (Or.inl q0)]
  · have key : (if x < 10 then some (w, (0 : Int)) else if 40 ≤ x then some (w, 0) else hg_bd (fX4_isThere w (hg_rm x 10)) fun w1 v2 => if wr v2 = 0 then some (w1, 0) else some (w1, 1)) = some (w, if (0 ≤ x ∧ x ≤ 2) ∨ (10 ≤ x ∧ x ≤ 39 ∧ x % 10 < w 19 9) then 1 else 0) := by
      by_cases q1 : x < 10
      · rw [if_pos q1, if_neg (by omega)]
      · rw [if_neg q1]
        by_cases q2 : 40 ≤ x
        · rw [if_pos q2, if_neg (by omega)]
        · rw [if_neg q2, hx_rm (by omega) (by omega) (by omega) (by omega), hx_isThere (by unfold hx_c; omega) hp, hp_bd, hx_bif]
          by_cases q3 : x % 10 < w 19 9
          · rw [if_pos (by omega), if_pos (by omega)]
          · rw [if_neg (by omega), if_neg (by omega)]
    by_cases q1 : x < 0
    · rw [if_pos q1]; exact key
    · rw [if_neg q1, if_neg (show ¬ x ≤ 2 by omega)]; exact key
theorem hc_run {w v : hg_W} (h : hx_A w v) {a x : Int} (ha : hx_c a) (hx : hx_c x) : hx_ret (fX4_run w a x) (fX5_run v a x) := by
  obtain ⟨hT, hR, hTp, hIm, hSh⟩ := id h
  have r3 := hR.2.2.1
  have hxx := hx
  unfold hx_c at hx
  unfold fX4_run fX5_run
  rw [hx_in ha (by unfold hx_c; omega) (by unfold hx_c; omega), hp_bd, hx_bif, hx_in hxx (by unfold hx_c; omega) (by unfold hx_c; omega), hp_bd, hx_bif, hx_in hxx (by unfold hx_c; omega) (by unfold hx_c; omega), hp_bd, hx_bif, hx_asked hxx ⟨r3.1, r3.2.1⟩, hp_bd, hx_bif, wr_id ha.1 ha.2, wr_id (x := 120) (by omega) (by omega)]
  by_cases q1 : 0 ≤ a ∧ a ≤ 120
  · rw [if_neg (show ¬ a < 0 by omega), if_neg (show ¬ 120 < a by omega), if_pos q1]
    by_cases q2 : (0 ≤ x ∧ x ≤ 2) ∨ (10 ≤ x ∧ x ≤ 39 ∧ x % 10 < w 19 9)
    · rw [if_pos q2]
      have hM : (if 0 ≤ x ∧ x ≤ 2 then fX5_run_46 v a x (hg_rm x 10) else if 10 ≤ x ∧ x ≤ 39 then hg_bd (fX5_isOne v (hg_rm x 10)) fun w10 v11 => if wr v11 = 0 then some (w10, wr (-2)) else fX5_run_46 w10 a x (hg_rm x 10) else some (v, wr (-2))) = fX5_run_46 v a x (hg_rm x 10) := by
        by_cases q3 : 0 ≤ x ∧ x ≤ 2
        · rw [if_pos q3]
        · rw [if_neg q3, if_pos (by omega)]
          have e := hx_rm (x := x) (y := 10) (by omega) (by omega) (by omega) (by omega)
          rw [e, hx_isOne hR (by unfold hx_c; omega), hp_bd, hx_bif, if_pos (by omega)]
      rw [hM]
      obtain ⟨u, k1, k2, k3⟩ := hx_keep h
      have hA1 := h.th (w' := w) hx_FC.rf k2
      obtain ⟨t1, t2, t3⟩ := hx_thR hA1
      obtain ⟨w', v', r, g1, g2, g3, g4, g5, g6, g7⟩ := hx_run120 hx_r28 t2 t1 q1
      obtain ⟨v3, l1, l2, -⟩ := k3.back k2 rfl g5
      have hA3 := h.th (t3.tr g4) l2
      unfold fX5_run_46 fX5_run_143 fX5_run_147
      rw [hx_become28, hp_bd, g1, hp_bd, k1, hp_bd, g2, hp_bd, wr_id (x := x) (by omega) (by omega), hx_coins, hp_bd, (hx_cs_eq g3).1, wr_wr]
      obtain ⟨r0, w1, w2, -, -⟩ := hc_w6C hx_r28 g3
      rw [w1, hp_bd, w2, hp_bd, l1, g3.2.2.2.2.1.2.2.2]
      simp only [hp_bd]
      by_cases x0 : x = 0
      · rw [if_pos x0, if_pos x0]
        exact ⟨_, _, _, rfl, rfl, hA3⟩
      · rw [if_neg x0, if_neg x0]
        by_cases x1 : x = 1
        · rw [if_pos x1, if_pos x1]
          exact ⟨_, _, _, rfl, rfl, hA3⟩
        · rw [if_neg x1, if_neg x1]
          by_cases x2 : x = 2
          · rw [if_pos x2, if_pos x2]
            exact ⟨_, _, _, rfl, rfl, hA3⟩
          · rw [if_neg x2, if_neg x2]
            have e1 := hx_dv (x := x) (y := 10) (by omega) (by omega) (by omega) (by omega)
            have e2 := hx_rm (x := x) (y := 10) (by omega) (by omega) (by omega) (by omega)
            rw [e1, e2, wr_id (x := x / 10) (by omega) (by omega), wr_id (x := 20) (by omega) (by omega), wr_id (x := 30) (by omega) (by omega)]
            obtain ⟨k, hk⟩ : ∃ k : Nat, (k : Int) = x % 10 := ⟨(x % 10).toNat, by omega⟩
            rw [← hk]
            have tk : (k : Int).toNat = k := by omega
            obtain ⟨-, -, kp, kq, kl⟩ := g3.1 k (by omega)
            by_cases x10 : x < 20
            · rw [if_pos (by omega), if_neg (by omega), show (34 : Nat) = 28 + 6 from rfl, ag_r6 hx_r28 (by omega) (by omega), hp_b, ag_m3 (by omega) (by omega), hp_b, tk, show (3 * (k : Int) + 1).toNat = 3 * k + 1 by omega, kq.2.2]
              exact ⟨_, _, _, rfl, rfl, hA3⟩
            · rw [if_neg (by omega)]
              by_cases x20 : x < 30
              · rw [if_pos (by omega), if_pos (by omega), if_neg (by omega), show (33 : Nat) = 28 + 5 from rfl, ag_r5 hx_r28 (by omega) (by omega), hp_b, ag_m3 (by omega) (by omega), hp_b, tk, show (3 * (k : Int) + 0).toNat = 3 * k by omega, kp.2.2]
                exact ⟨_, _, _, rfl, rfl, hA3⟩
              · rw [if_neg (by omega), if_pos (by omega), if_pos (by omega), show (35 : Nat) = 28 + 7 from rfl, ag_r7 hx_r28 (by omega) (by omega), hp_b, ag_m3 (by omega) (by omega), hp_b, tk, show (3 * (k : Int) + 2).toNat = 3 * k + 2 by omega, kl.2.2]
                exact ⟨_, _, _, rfl, rfl, hA3⟩
    · rw [if_neg q2, if_neg (show ¬ (0 ≤ x ∧ x ≤ 2) by omega)]
      by_cases q3 : 10 ≤ x ∧ x ≤ 39
      · rw [if_pos q3, hx_rm (by omega) (by omega) (by omega) (by omega), hx_isOne hR (by unfold hx_c; omega), hp_bd, hx_bif, if_neg (by omega)]
        exact hx_ret.c h
      · rw [if_neg q3]; exact hx_ret.c h
  · rw [if_neg q1]
    by_cases q2 : a < 0
    · rw [if_pos q2]; exact hx_ret.c h
    · rw [if_neg q2, if_pos (by omega)]; exact hx_ret.c h
/-- who has most: the two searches in step -/
theorem hx_most {w v : hg_W} {c part : Nat} {n : Int} (hc : hg_ln 0 c = 6) (hp : part < 3) (hn : 0 ≤ n ∧ n ≤ 6) (h0 : v 0 0 = n) (hv : ∀ k, k < 6 → 0 ≤ w c k ∧ w c k ≤ 99999 ∧ v 3 (3 * k + part) = w c k) :
    ∀ (m n1 n2 k : Nat) (best most : Int), m < n1 → m < n2 → (k : Int) + m = n → (best = -1 ∧ k = 0 ∨ (0 ≤ best ∧ best < k ∧ w c best.toNat = most)) → ∃ r : Int, fX4_firstMost_4 n1 w c n best (k : Int) = some (w, r) ∧ fX5_mostBy_7 n2 v (part : Int) best most (k : Int) = some (v, r) ∧ (r = -1 ∧ n = 0 ∨ 0 ≤ r ∧ r < n) := by
  intro m
  induction m with
  | zero =>
    intro n1 n2 k best most h1 h2 hk hb
    obtain ⟨n1, rfl⟩ : ∃ z, n1 = z + 1 := ⟨n1 - 1, by omega⟩
    obtain ⟨n2, rfl⟩ : ∃ z, n2 = z + 1 := ⟨n2 - 1, by omega⟩
    refine ⟨best, ?_, ?_, ?_⟩
    · simp only [fX4_firstMost_4]
      rw [wr_id (x := n) (by omega) (by omega), wr_id (x := (k : Int)) (by omega) (by omega), if_pos (by omega), wr_id (by omega) (by omega)]
    · simp only [fX5_mostBy_7]
      rw [h0, wr_id (x := n) (by omega) (by omega), wr_id (x := (k : Int)) (by omega) (by omega), if_pos (by omega), wr_id (by omega) (by omega)]
    · omega
  | succ m ih =>
    intro n1 n2 k best most h1 h2 hk hb
    obtain ⟨n1, rfl⟩ : ∃ z, n1 = z + 1 := ⟨n1 - 1, by omega⟩
    obtain ⟨n2, rfl⟩ : ∃ z, n2 = z + 1 := ⟨n2 - 1, by omega⟩
    have hk6 : k < 6 := by omega
    obtain ⟨hv1, hv2, hv3⟩ := hv k hk6
    have tk : (k : Int).toNat = k := by omega
    have tp : (3 * (k : Int) + (part : Int)).toNat = 3 * k + part := by omega
    have al : hg_al 0 c = some 6 := by unfold hg_al; rw [hc]; rfl
    have wn : wr n = n := wr_id (by omega) (by omega)
    have wk : wr (k : Int) = (k : Int) := wr_id (by omega) (by omega)
    have w6 : wr 6 = 6 := wr_id (by omega) (by omega)
    have wb : wr best = best := wr_id (by omega) (by omega)
    have set : fX4_firstMost_4 (n1 + 1) w c n best (k : Int) = fX4_firstMost_4 n1 w c n (k : Int) ((k : Int) + 1) → fX5_mostBy_7 (n2 + 1) v (part : Int) best most (k : Int) = fX5_mostBy_7 n2 v (part : Int) (k : Int) (w c k) ((k : Int) + 1) → ∃ r : Int, fX4_firstMost_4 (n1 + 1) w c n best (k : Int) = some (w, r) ∧ fX5_mostBy_7 (n2 + 1) v (part : Int) best most (k : Int) = some (v, r) ∧ (r = -1 ∧ n = 0 ∨ 0 ≤ r ∧ r < n) := by
      intro e1 e2
      rw [e1, e2, show (k : Int) + 1 = ((k + 1 : Nat) : Int) by omega]
      exact ih n1 n2 (k + 1) (k : Int) (w c k) (by omega) (by omega) (by omega) (Or.inr ⟨by omega, by omega, by rw [tk]⟩)
    rcases hb with ⟨rfl, hk0⟩ | ⟨b1, b2, b3⟩
    · refine set ?_ ?_
      · simp only [fX4_firstMost_4]
        rw [wn, wk, if_neg (by omega), al, hp_b, w6, if_neg (by omega), wb, if_pos (by omega)]
        rfl
      · simp only [fX5_mostBy_7]
        rw [h0, wn, wk, if_neg (by omega), if_true]
        unfold fX5_mostBy_36 fX5_mostBy_41 fX5_mostBy_54 fX5_mostBy_75
        rw [hx_wr01.2.1, if_neg (by omega), if_neg (by omega), ag_m3 (by omega) (by omega), hp_b, tp, hv3]
    · obtain ⟨hm1, hm2, hm3⟩ := hv best.toNat (by omega)
      by_cases q : w c k ≤ most
      · have e1 : fX4_firstMost_4 (n1 + 1) w c n best (k : Int) = fX4_firstMost_4 n1 w c n best ((k : Int) + 1) := by
          simp only [fX4_firstMost_4]
          rw [wn, wk, if_neg (by omega), al, hp_b, w6, if_neg (by omega), wb, if_neg (by omega), hp_ag hc (by decide) (by omega) (by omega), hp_b, hp_ag hc (by decide) (by omega) (by omega), hp_b, tk, b3, wr_id (x := w c k) (by omega) (by omega), wr_id (x := most) (by omega) (by omega), if_pos q]
          rfl
        have e2 : fX5_mostBy_7 (n2 + 1) v (part : Int) best most (k : Int) = fX5_mostBy_7 n2 v (part : Int) best most ((k : Int) + 1) := by
          simp only [fX5_mostBy_7]
          rw [h0, wn, wk, if_neg (by omega), wb, hx_wr01.2.2, if_neg (by omega), ag_m3 (by omega) (by omega), hp_b, tp, hv3, wr_id (x := w c k) (by omega) (by omega), wr_id (x := most) (by omega) (by omega), if_pos q]
          unfold fX5_mostBy_41 fX5_mostBy_54 fX5_mostBy_75
          rw [hx_wr01.1, if_pos rfl, if_pos rfl]
        rw [e1, e2, show (k : Int) + 1 = ((k + 1 : Nat) : Int) by omega]
        exact ih n1 n2 (k + 1) best most (by omega) (by omega) (by omega) (Or.inr ⟨b1, by omega, b3⟩)
      · refine set ?_ ?_
        · simp only [fX4_firstMost_4]
          rw [wn, wk, if_neg (by omega), al, hp_b, w6, if_neg (by omega), wb, if_neg (by omega), hp_ag hc (by decide) (by omega) (by omega), hp_b, hp_ag hc (by decide) (by omega) (by omega), hp_b, tk, b3, wr_id (x := w c k) (by omega) (by omega), wr_id (x := most) (by omega) (by omega), if_neg q]
          rfl
        · simp only [fX5_mostBy_7]
          rw [h0, wn, wk, if_neg (by omega), wb, hx_wr01.2.2, if_neg (by omega), ag_m3 (by omega) (by omega), hp_b, tp, hv3, wr_id (x := w c k) (by omega) (by omega), wr_id (x := most) (by omega) (by omega), if_neg q]
          unfold fX5_mostBy_36 fX5_mostBy_41 fX5_mostBy_54 fX5_mostBy_75
          rw [hx_wr01.2.1, if_neg (by omega), if_neg (by omega), ag_m3 (by omega) (by omega), hp_b, tp, hv3]
theorem hx_mostP {w v : hg_W} (hR : hx_R 28 w v) : (∃ r : Int, fX4_firstMost w 34 (w 28 9) = some (w, r) ∧ fX5_mostBy v 1 = some (v, r) ∧ (r = -1 ∧ w 28 9 = 0 ∨ 0 ≤ r ∧ r < w 28 9)) ∧ (∃ r : Int, fX4_firstMost w 35 (w 28 9) = some (w, r) ∧ fX5_mostBy v 2 = some (v, r) ∧ (r = -1 ∧ w 28 9 = 0 ∨ 0 ≤ r ∧ r < w 28 9)) := by
  have r3 := hR.2.2.1
  constructor
  · exact hx_most (part := 1) (c := 34) rfl (by omega) ⟨r3.1, r3.2.1⟩ r3.2.2 (fun k hk => by have := (hR.1 k hk).2.2.2.1; exact ⟨this.1, Int.le_trans this.2.1 (by omega), this.2.2⟩) (w 28 9).toNat hg_F hg_F 0 (-1) 0 (by unfold hg_F; omega) (by unfold hg_F; omega) (by omega) (Or.inl ⟨rfl, rfl⟩)
  · exact hx_most (part := 2) (c := 35) rfl (by omega) ⟨r3.1, r3.2.1⟩ r3.2.2 (fun k hk => by have := (hR.1 k hk).2.2.2.2; exact ⟨this.1, Int.le_trans this.2.1 (by omega), this.2.2⟩) (w 28 9).toNat hg_F hg_F 0 (-1) 0 (by unfold hg_F; omega) (by unfold hg_F; omega) (by omega) (Or.inl ⟨rfl, rfl⟩)
theorem hc_end {w v : hg_W} (h : hx_A w v) {a : Int} (ha : hx_c a) : hx_ret (fX4_end w a) (fX5_end v a) := by
  have hac := ha
  unfold hx_c at ha
  unfold fX4_end fX5_end fX5_end_36
  rw [hx_in hac (by unfold hx_c; omega) (by unfold hx_c; omega), hp_bd, hx_bif, wr_id (x := a) ha.1 ha.2, wr_id (x := 2) (by omega) (by omega)]
  by_cases q1 : 0 ≤ a ∧ a ≤ 2
  · rw [if_neg (show ¬ a < 0 by omega), if_pos (show a ≤ 2 by omega), if_pos q1]
    obtain ⟨u, k1, k2, k3⟩ := hx_keep h
    have hA1 := h.th (w' := w) hx_FC.rf k2
    obtain ⟨t1, t2, t3⟩ := hx_thR hA1
    obtain ⟨w', v', r, g1, g2, g3, g4, g5, g6, g7⟩ := hx_run120 hx_r28 t2 t1 (n := 120) (by omega)
    obtain ⟨v3, l1, l2, -⟩ := k3.back k2 rfl g5
    have hA3 := h.th (t3.tr g4) l2
    obtain ⟨⟨m1, p1, p2, -⟩, ⟨m2, p3, p4, -⟩⟩ := hx_mostP g3
    rw [hx_become28, hp_bd, g1, hp_bd, k1, hp_bd, g2, hp_bd, p1, hp_bd, p3, hp_bd]
    rcases (by omega : a = 0 ∨ a = 1 ∨ a = 2) with rfl | rfl | rfl
    · rw [if_pos rfl, if_pos rfl, l1, hp_bd]
      exact ⟨_, _, _, rfl, rfl, hA3⟩
    · rw [if_neg (by omega), if_pos rfl, if_neg (by omega), p2, hp_bd, l1, hp_bd]
      exact ⟨_, _, _, rfl, rfl, hA3⟩
    · rw [if_neg (by omega), if_neg (by omega), if_neg (by omega), p4, hp_bd, l1, hp_bd]
      exact ⟨_, _, _, rfl, rfl, hA3⟩
  · rw [if_neg q1]
    by_cases q2 : a < 0
    · rw [if_pos q2]; exact hx_ret.c h
    · rw [if_neg q2, if_neg (by omega)]; exact hx_ret.c h
