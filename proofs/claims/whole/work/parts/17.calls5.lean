/-! ===== first, vicar ===== -/
theorem hx_R.turnOnly {w v : hg_W} (hR : hx_R 28 w v) {t : Int} (ht : 0 ≤ t ∧ t < 6 ∧ t < w 28 9) : hx_R 28 (hg_up w 28 11 t) (hg_up v 0 5 t) := hR.turn hx_r28 ht
theorem hx_th19 {w : hg_W} : ∀ c, c ≠ 16 → (c < 28 ∨ 36 < c) → hk_beW w 28 19 c = w c := fun c h1 h2 => hk_beFC c h1 (by omega)
theorem hx_be9 {w v : hg_W} (hR : hx_R 19 w v) : hk_beW w 28 19 28 9 = w 19 9 := by
  have r3 := hR.2.2.1
  unfold hk_beW
  rw [if_pos rfl, if_pos (by omega), wr_id (by omega) (by omega)]
theorem hx_firstL {w0 v0 u : hg_W} (h0 : hx_A w0 v0) (hK : hx_Kp v0 u) {p : Nat} {a : Int} (hp : (p : Int) < w0 19 9) (ha : a = 0 ∨ a = 1) :
    ∀ (m n1 n2 k : Nat) (w v : hg_W) (x3 x4 y4 : Int), m < n1 → m < n2 → (k : Int) + m = w0 19 9 → hx_FC 28 w0 w → hx_V v0 v → v 18 = u 18 → (x3 = -1 ∧ x4 = -1 ∧ k = 0 ∨ 0 ≤ x3 ∧ x3 < 6 ∧ x4 = y4 ∧ 0 ≤ x4 ∧ x4 ≤ 9999) → hx_ret (fX4_first_31 n1 w (p : Int) a x3 x4 (k : Int)) (fX5_first_35 n2 v (p : Int) a x3 y4 (k : Int)) := by
  intro m
  induction m with
  | zero =>
    intro n1 n2 k w v x3 x4 y4 h1 h2 hk hw hv h18 hx
    obtain ⟨n1, rfl⟩ : ∃ z, n1 = z + 1 := ⟨n1 - 1, by omega⟩
    obtain ⟨n2, rfl⟩ : ∃ z, n2 = z + 1 := ⟨n2 - 1, by omega⟩
    have hA := h0.th hw hv
    have r3 := hA.2.1.2.2.1
    have e9 : w 19 9 = w0 19 9 := by rw [hw 19 (by omega) (by omega)]
    simp only [fX4_first_31, fX5_first_35]
    rw [r3.2.2, e9, wr_id (x := w0 19 9) (by omega) (by omega), wr_id (x := (k : Int)) (by omega) (by omega), if_pos (show w0 19 9 ≤ (k : Int) by omega), if_pos (show w0 19 9 ≤ (k : Int) by omega)]
    by_cases q : wr a = 0
    · rw [if_pos q, if_pos q]; exact hx_ret.c hA
    · rw [if_neg q, if_neg q]
      rw [show x4 = y4 by omega]
      exact hx_ret.c hA
  | succ m ih =>
    intro n1 n2 k w v x3 x4 y4 h1 h2 hk hw hv h18 hx
    obtain ⟨n1, rfl⟩ : ∃ z, n1 = z + 1 := ⟨n1 - 1, by omega⟩
    obtain ⟨n2, rfl⟩ : ∃ z, n2 = z + 1 := ⟨n2 - 1, by omega⟩
    have hA := h0.th hw hv
    have r3 := hA.2.1.2.2.1
    have e9 : w 19 9 = w0 19 9 := by rw [hw 19 (by omega) (by omega)]
    obtain ⟨t1, t2, t3⟩ := hx_thR hA
    have hk5 : 0 ≤ (k : Int) ∧ (k : Int) < 6 ∧ (k : Int) < hk_beW w 28 19 28 9 := by rw [hx_be9 hA.2.1]; omega
    have tR := t1.turn hx_r28 hk5
    have tT : hx_T (hg_up (hk_beW w 28 19) 28 11 (k : Int)) (hg_up v 0 5 (k : Int)) := t2.fr hx_r28 (hx_FC.up (by omega)) (hx_FM.up (by omega))
    obtain ⟨w', v', r, g1, g2, g3, g4, g5, g6, g7⟩ := hx_run120 hx_r28 tT tR (n := 120) (by omega)
    have hFM : hx_FM v v' := (hx_FM.up (by omega)).tr g5
    have hFC : hx_FC 28 w w' := (t3.tr (hx_FC.up (by omega))).tr g4
    obtain ⟨v3, l1, l2, l3⟩ := hK.back hv h18 hFM
    have hp6 : p < 6 := by omega
    obtain ⟨-, -, -, kq, -⟩ := g3.1 p hp6
    have tp : (p : Int).toNat = p := by omega
    have wk : wr (k : Int) = (k : Int) := wr_id (by omega) (by omega)
    have next : ∀ (x3' x4' y4' : Int), (0 ≤ x3' ∧ x3' < 6 ∧ x4' = y4' ∧ 0 ≤ x4' ∧ x4' ≤ 9999) → hx_ret (fX4_first_31 n1 w' (p : Int) a x3' x4' ((k : Int) + 1)) (fX5_first_35 n2 v3 (p : Int) a x3' y4' ((k : Int) + 1)) := by
      intro x3' x4' y4' hx'
      rw [show (k : Int) + 1 = ((k + 1 : Nat) : Int) by omega]
      exact ih n1 n2 (k + 1) w' v3 x3' x4' y4' (by omega) (by omega) (by omega) (hw.tr hFC) l2 l3 (Or.inr hx')
    simp only [fX4_first_31, fX5_first_35]
    rw [r3.2.2, e9, wr_id (x := w0 19 9) (by omega) (by omega), wk, if_neg (by omega), if_neg (by omega), hx_become28, hp_bd, hp_pt, hp_b, wk, g1, hp_bd, hp_pt, hp_b, wk, g2, hp_bd, show (34 : Nat) = 28 + 6 from rfl, ag_r6 hx_r28 (by omega) (by omega), hp_b, ag_m3 (by omega) (by omega), hp_b, tp, show (3 * (p : Int) + 1).toNat = 3 * p + 1 by omega, kq.2.2, l1]
    simp only [hp_b, hp_bd]
    unfold fX4_first_101 fX5_first_85 fX5_first_90 fX5_first_103 fX5_first_116
    rw [wr_id (x := w' (28 + 6) p) (by omega) (by omega), hx_wr01.1, hx_wr01.2.1, hx_wr01.2.2]
    simp only [Int.reduceEq, if_true, if_false]
    rcases hx with ⟨rfl, rfl, hk0⟩ | ⟨x1, x2, x4e, x5, x6⟩
    · rw [hx_wr01.2.2, if_neg (by omega), if_pos rfl]
      exact next _ _ _ ⟨by omega, by omega, rfl, kq.1, kq.2.1⟩
    · rw [wr_id (x := x3) (by omega) (by omega), if_neg (show ¬ x3 = -1 by omega), ← x4e, wr_id (x := x4) (by omega) (by omega)]
      by_cases q : w' (28 + 6) p ≤ x4
      · rw [if_pos q, if_pos q]
        exact next _ _ _ ⟨x1, x2, rfl, x5, x6⟩
      · rw [if_neg q, if_neg q]
        exact next _ _ _ ⟨by omega, by omega, rfl, kq.1, kq.2.1⟩
theorem hc_first {w v : hg_W} (h : hx_A w v) {a x : Int} (ha : hx_c a) (hx : hx_c x) : hx_ret (fX4_first w a x) (fX5_first v a x) := by
  obtain ⟨hT, hR, hTp, hIm, hSh⟩ := id h
  have r3 := hR.2.2.1
  unfold fX4_first fX5_first
  rw [hx_isOne hR ha, hp_bd, hx_bif, hx_isThere ha ⟨r3.1, r3.2.1⟩, hp_bd, hx_bif, hx_in hx (by unfold hx_c; omega) (by unfold hx_c; omega), hp_bd, hx_bif, wr_id hx.1 hx.2, wr_id (x := 1) (by omega) (by omega)]
  by_cases q1 : 0 ≤ a ∧ a < w 19 9
  · rw [if_pos q1, if_pos q1]
    by_cases q2 : 0 ≤ x ∧ x ≤ 1
    · rw [if_neg (show ¬ x < 0 by omega), if_pos (show x ≤ 1 by omega), if_pos q2]
      obtain ⟨u, k1, k2, k3⟩ := hx_keep h
      rw [k1, hp_bd]
      have g := hx_firstL h k3 (p := a.toNat) (a := x) (by omega) (by omega) (w 19 9).toNat hg_F hg_F 0 w u (-1) (-1) 0 (by unfold hg_F; omega) (by unfold hg_F; omega) (by omega) hx_FC.rf k2 rfl (Or.inl ⟨rfl, rfl, rfl⟩)
      rw [show ((a.toNat : Nat) : Int) = a by omega] at g
      exact g
    · rw [if_neg q2]
      by_cases q3 : x < 0
      · rw [if_pos q3]; exact hx_ret.c h
      · rw [if_neg q3, if_neg (by omega)]; exact hx_ret.c h
  · rw [if_neg q1, if_neg q1]; exact hx_ret.c h
theorem hx_vicarL {w0 v0 u : hg_W} (h0 : hx_A w0 v0) (hK : hx_Kp v0 u) {p a : Int} (hp : 0 ≤ p ∧ p < 6) :
    ∀ (m n1 n2 k : Nat) (w v : hg_W), m < n1 → m + 1 < n2 → k + m = 6 → hx_FC 28 w0 w → hx_V v0 v → v 18 = u 18 → hx_ret (fX4_vicar_25 n1 w p a (k : Int)) (fX5_vicar_35 n2 v p a (-1) (-1) (k : Int)) := by
  intro m
  induction m with
  | zero =>
    intro n1 n2 k w v h1 h2 hk hw hv h18
    obtain ⟨n1, rfl⟩ : ∃ z, n1 = z + 1 := ⟨n1 - 1, by omega⟩
    obtain ⟨n2, rfl⟩ : ∃ z, n2 = z + 1 := ⟨n2 - 1, by omega⟩
    have hA := h0.th hw hv
    simp only [fX4_vicar_25, fX5_vicar_35]
    unfold fX5_vicar_125
    rw [wr_id (x := 6) (by omega) (by omega), wr_id (x := (k : Int)) (by omega) (by omega), if_pos (by omega), if_pos (by omega)]
    split <;> exact hx_ret.c hA
  | succ m ih =>
    intro n1 n2 k w v h1 h2 hk hw hv h18
    obtain ⟨n1, rfl⟩ : ∃ z, n1 = z + 1 := ⟨n1 - 1, by omega⟩
    obtain ⟨n2, rfl⟩ : ∃ z, n2 = z + 1 := ⟨n2 - 1, by omega⟩
    have hA := h0.th hw hv
    have hk6 : k < 6 := by omega
    obtain ⟨-, ki, -⟩ := hA.2.1.1 k hk6
    have tk : (k : Int).toNat = k := by omega
    have t1 : (2 * (k : Int) + 1).toNat = 2 * k + 1 := by omega
    have wk : wr (k : Int) = (k : Int) := wr_id (by omega) (by omega)
    have w6 : wr 6 = 6 := wr_id (by omega) (by omega)
    have w20 : wr 20 = 20 := wr_id (by omega) (by omega)
    simp only [fX4_vicar_25, fX5_vicar_35]
    rw [w6, wk, if_neg (by omega), if_neg (by omega), show (21 : Nat) = 19 + 2 from rfl, ag_r2 hx_r19 (by omega) (by omega), hp_b, if_true, ag_m4 (by omega) (by omega), hp_b, tk, t1, ki.2.2, w20, wr_id (x := w (19 + 2) k) (by omega) (by omega)]
    unfold fX4_vicar_104 fX5_vicar_119
    by_cases q : 20 ≤ w (19 + 2) k
    · rw [if_pos q, if_pos q, show (k : Int) + 1 = ((k + 1 : Nat) : Int) by omega]
      exact ih n1 n2 (k + 1) w v (by omega) (by omega) (by omega) hw hv h18
    · rw [if_neg q, if_neg q, hx_become28, hp_bd, ag_r2 hx_r19 (by omega) (by omega), hp_b, hp_b, tk, hx_th19 (19 + 2) (by omega) (by omega)]
      obtain ⟨s1, s2, s3⟩ := hx_thR hA
      have e2 : hk_beW w 28 19 (28 + 2) k = w (19 + 2) k := by
        unfold hk_beW
        rw [if_neg (by omega), if_pos (by omega)]
      rw [hc_setIn hx_r28 s1 hk6 ⟨by omega, by omega⟩, hp_bd, as_m4 (by omega) (by omega), hp_b, t1, wr_id (x := w (19 + 2) k + 1) (by omega) (by omega)]
      have tR := hc_R2 hx_r28 s1 hk6 (x := w (19 + 2) k + 1) ⟨by omega, by omega⟩
      have tF : hx_FC 28 (hk_beW w 28 19) (hg_up (hg_up (hk_beW w 28 19) 28 10 (hk_beW w 28 19 28 10 + (w (19 + 2) k + 1 - hk_beW w 28 19 (28 + 2) k))) (28 + 2) k (w (19 + 2) k + 1)) := (hx_FC.up (by omega)).tr (hx_FC.up (by omega))
      have tT := s2.fr hx_r28 tF (hx_FM.up (v := v) (c := 4) (k := 2 * k + 1) (x := w (19 + 2) k + 1) (by omega))
      generalize hg_up (hg_up (hk_beW w 28 19) 28 10 (hk_beW w 28 19 28 10 + (w (19 + 2) k + 1 - hk_beW w 28 19 (28 + 2) k))) (28 + 2) k (w (19 + 2) k + 1) = W at tR tF tT ⊢
      have hcs := hx_cs_eq tR
      obtain ⟨w', v', r, g1, g2, g3, g4, g5, g6, g7, -⟩ := hx_goes hx_r28 120 hg_F hg_F W (hg_up v 4 (2 * k + 1) (w (19 + 2) k + 1)) 120 121 (-1) 0 tT tR (by unfold hg_F; omega) (by unfold hg_F; omega) (by omega) (by omega) (by omega) (by omega) (by omega) (by omega) (Or.inr ⟨by omega, by omega, by omega⟩) (Or.inl rfl)
      have g1b : fX0_goWhileCoins 28 W 120 = some (w', r) := g1
      have g2b : fX5_goes (hg_up v 4 (2 * k + 1) (w (19 + 2) k + 1)) 121 = some (v', r) := g2
      have hFM : hx_FM v v' := (hx_FM.up (by omega)).tr g5
      have hFC : hx_FC 28 w w' := (s3.tr tF).tr g4
      obtain ⟨v3, l1, l2, l3⟩ := hK.back hv h18 hFM
      have hA3 := h0.th (hw.tr hFC) l2
      have r3 := tR.2.2.1
      have r5 := g3.2.2.2.2.1
      rw [g1b, hp_bd, g2b, hp_bd]
      unfold fX5_vicar_98 fX5_vicar_113
      have wr0 : wr r = r := wr_id (by omega) (by omega)
      have wp : wr p = p := wr_id (by omega) (by omega)
      rw [wr0, wp, l1]
      simp only [hp_bd]
      by_cases q2 : r = p
      · rw [if_pos q2, if_pos q2, if_pos q2, r5.2.2.2]
        obtain ⟨n2, rfl⟩ : ∃ z, n2 = z + 1 := ⟨n2 - 1, by omega⟩
        unfold fX5_vicar_119
        simp only [fX5_vicar_35]
        unfold fX5_vicar_125
        rw [wk, hx_wr01.2.2, if_neg (show ¬ (k : Int) = -1 by omega), ite_self]
        by_cases qa : wr a = 0
        · rw [if_pos qa, if_pos qa]
          exact ⟨_, _, _, rfl, rfl, hA3⟩
        · rw [if_neg qa, if_neg qa]
          exact ⟨_, _, _, rfl, rfl, hA3⟩
      · rw [if_neg q2, if_neg q2, if_neg q2]
        unfold fX5_vicar_119
        rw [show (k : Int) + 1 = ((k + 1 : Nat) : Int) by omega]
        exact ih n1 n2 (k + 1) w' v3 (by omega) (by omega) (by omega) (hw.tr hFC) l2 l3
theorem hc_vicar {w v : hg_W} (h : hx_A w v) {a x : Int} (ha : hx_c a) (hx : hx_c x) : hx_ret (fX4_vicar w a x) (fX5_vicar v a x) := by
  obtain ⟨hT, hR, hTp, hIm, hSh⟩ := id h
  have r3 := hR.2.2.1
  unfold fX4_vicar fX5_vicar
  rw [hx_isOne hR ha, hp_bd, hx_bif, hx_isThere ha ⟨r3.1, r3.2.1⟩, hp_bd, hx_bif, hx_in hx (by unfold hx_c; omega) (by unfold hx_c; omega), hp_bd, hx_bif, wr_id hx.1 hx.2, wr_id (x := 1) (by omega) (by omega)]
  by_cases q1 : 0 ≤ a ∧ a < w 19 9
  · rw [if_pos q1, if_pos q1]
    by_cases q2 : 0 ≤ x ∧ x ≤ 1
    · rw [if_neg (show ¬ x < 0 by omega), if_pos (show x ≤ 1 by omega), if_pos q2]
      obtain ⟨u, k1, k2, k3⟩ := hx_keep h
      rw [k1, hp_bd]
      exact hx_vicarL h k3 (p := a) (a := x) (by omega) 6 hg_F hg_F 0 w u (by unfold hg_F; omega) (by unfold hg_F; omega) (by omega) hx_FC.rf k2 rfl
    · rw [if_neg q2]
      by_cases q3 : x < 0
      · rw [if_pos q3]; exact hx_ret.c h
      · rw [if_neg q3, if_neg (by omega)]; exact hx_ret.c h
  · rw [if_neg q1, if_neg q1]; exact hx_ret.c h
