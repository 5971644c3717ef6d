/-! ===== sheets: hats ===== -/
def hx_hatC (w : hg_W) (p : Nat) (t : Int) : hg_W := hg_up (hg_up (hk_beW w 28 19) 28 10 (hk_beW w 28 19 28 10 + (t - hk_beW w 28 19 (28 + 2) p))) (28 + 2) p t
theorem hx_hats1 {w0 v0 w v : hg_W} (h0 : hx_A w0 v0) {s : Nat} (hs : s < 4) (hw : hx_FC 28 w0 w) {p : Nat} {t t' : Int} (hp : p < 6) (ht : 0 ≤ t ∧ t ≤ 20) (hv : hx_V (hg_up v0 4 (2 * p + 1) t') v) :
    ∃ (w' v' : hg_W) (r : Int), fX4_otherwise (hx_hatC w p t) (s : Int) = some (w', r) ∧ fX5_unlike (hg_up v 4 (2 * p + 1) t) (s : Int) = some (v', r) ∧ hx_FC 28 w0 w' ∧ hx_V (hg_up v0 4 (2 * p + 1) t) v' ∧ (r = -1 ∨ 0 ≤ r ∧ r < 40) := by
  have hA := h0.th (v' := v0) hw hx_V.rf
  obtain ⟨t1, t2, t3⟩ := hx_thR hA
  have tR : hx_R 28 (hx_hatC w p t) (hg_up v0 4 (2 * p + 1) t) := hc_R2 hx_r28 t1 hp ht
  have tH : hx_FC 28 (hk_beW w 28 19) (hx_hatC w p t) := (hx_FC.up (by omega)).tr (hx_FC.up (by omega))
  have tT : hx_T (hx_hatC w p t) (hg_up v0 4 (2 * p + 1) t) := t2.fr hx_r28 tH (hx_FM.up (by omega))
  have tF : hx_FC 28 w0 (hx_hatC w p t) := hw.tr (t3.tr tH)
  have tV := hv.up (b := t)
  have tS : hx_Sh (hx_hatC w p t) (hg_up v0 4 (2 * p + 1) t) := h0.2.2.2.2.of (fun c _ _ => tF c (by omega) (by omega)) (fun c _ _ => hg_up_ne c (by omega))
  obtain ⟨w', v', r, g1, g2, g3, g4, g5⟩ := hx_unl (tV.T tT) (tV.R tR) (tV.Sh tS) hs
  exact ⟨w', v', r, g1, g2, tF.tr g3, tV.tr g4, g5⟩
theorem hx_hatsC {w0 v0 : hg_W} (h0 : hx_A w0 v0) {s p : Nat} {a : Int} (hp : p < 6) (ha : a = 0 ∨ a = 1) {f : Nat → Int} (hf : ∀ d, d < 21 → (f d = -1 ∨ 0 ≤ f d ∧ f d < 40) ∧ (∀ w, hx_FC 28 w0 w → ∃ w', fX4_otherwise (hx_hatC w p (d : Int)) (s : Int) = some (w', f d) ∧ hx_FC 28 w0 w')) :
    ∀ (m n k N : Nat) (w : hg_W), m < n → m + k = N → N = 21 → hx_FC 28 w0 w → ∃ w', fX4_hats_30 n w (s : Int) (p : Int) a (hq_c f m k) (hq_m f m k) ((m : Int) - 1) = some (w', if a = 0 then hq_c f 0 N else hq_m f 0 N) ∧ hx_FC 28 w0 w' := by
  intro m
  induction m with
  | zero =>
    intro n k N w hn hm hN hw
    obtain ⟨n, rfl⟩ : ∃ z, n = z + 1 := ⟨n - 1, by omega⟩
    obtain rfl : k = N := by omega
    have b1 := hq_cb f k 0
    have b2 := hq_mb f k 0
    refine ⟨w, ?_, hw⟩
    simp only [fX4_hats_30]
    rw [wr_id (x := ((0 : Nat) : Int) - 1) (by omega) (by omega), if_pos (by omega), wr_id (x := a) (by omega) (by omega), wr_id (x := hq_c f 0 k) (by omega) (by omega), wr_id (x := hq_m f 0 k) (by omega) (by omega)]
    rcases ha with rfl | rfl
    · rw [if_pos rfl, if_pos rfl]
    · rw [if_neg (by omega), if_neg (by omega)]
  | succ m ih =>
    intro n k N w hn hm hN hw
    obtain ⟨n, rfl⟩ : ∃ z, n = z + 1 := ⟨n - 1, by omega⟩
    obtain ⟨f1, f2⟩ := hf m (by omega)
    obtain ⟨w', g1, g2⟩ := f2 w hw
    have e1 : ((m + 1 : Nat) : Int) - 1 = (m : Int) := by omega
    have hi := ih n (k + 1) N w' (by omega) (by omega) hN g2
    simp only [hq_c, hq_m] at hi
    simp only [fX4_hats_30]
    rw [e1, wr_id (x := (m : Int)) (by omega) (by omega), if_neg (by omega), hx_become28, hp_bd, hc_setIn hx_r28 (hx_thR (h0.th (v' := v0) hw hx_V.rf)).1 hp (by omega), hp_bd, show hg_up (hg_up (hk_beW w 28 19) 28 10 (hk_beW w 28 19 28 10 + ((m : Int) - hk_beW w 28 19 (28 + 2) p))) (28 + 2) p (m : Int) = hx_hatC w p (m : Int) from rfl, g1, hp_bd, wr_id (x := f m) (by omega) (by omega)]
    unfold fX4_hats_71
    rw [show (m : Int) + (-1) = (m : Int) - 1 by omega]
    by_cases q : f m = -1
    · rw [if_neg (by omega)]
      rw [if_pos q, if_pos q, Int.add_comm] at hi
      exact hi
    · rw [if_pos (by omega)]
      rw [if_neg q, if_neg q, Int.zero_add] at hi
      exact hi
theorem hx_hatsM {v0 : hg_W} {s p : Nat} {a : Int} (hp : p < 6) (ha : a = 0 ∨ a = 1) (h3 : 0 ≤ v0 4 (2 * p + 1) ∧ v0 4 (2 * p + 1) ≤ 20) {f : Nat → Int} (hf : ∀ d, d < 21 → (f d = -1 ∨ 0 ≤ f d ∧ f d < 40) ∧ (∀ v, (∃ t', hx_V (hg_up v0 4 (2 * p + 1) t') v) → ∃ v', fX5_unlike (hg_up v 4 (2 * p + 1) (d : Int)) (s : Int) = some (v', f d) ∧ ∃ t', hx_V (hg_up v0 4 (2 * p + 1) t') v')) :
    ∀ (m n d : Nat) (v : hg_W) (x6 x7 : Int), m < n → d + m = 21 → (∃ t', hx_V (hg_up v0 4 (2 * p + 1) t') v) → 0 ≤ x6 → x6 ≤ d → -1 ≤ x7 → x7 ≤ 20 → ∃ v', fX5_hats_58 n v (s : Int) (p : Int) a (v0 4 (2 * p + 1)) x6 x7 (d : Int) = some (v', if a = 0 then x6 + hq_c f d m else (if x7 = -1 then hq_m f d m else x7)) ∧ hx_V v0 v' := by
  intro m
  induction m with
  | zero =>
    intro n d v x6 x7 hn hd hv b1 b2 b3 b4
    obtain ⟨n, rfl⟩ : ∃ z, n = z + 1 := ⟨n - 1, by omega⟩
    obtain ⟨t', hv⟩ := hv
    have tV := hv.up (b := v0 4 (2 * p + 1))
    rw [hx_up_self] at tV
    refine ⟨_, ?_, tV⟩
    simp only [fX5_hats_58]
    rw [wr_id (x := 20) (by omega) (by omega), wr_id (x := (d : Int)) (by omega) (by omega), if_pos (by omega), as_m4 (by omega) (by omega), hp_b, show (2 * (p : Int) + 1).toNat = 2 * p + 1 by omega, wr_id (x := v0 4 (2 * p + 1)) (by omega) (by omega), wr_id (x := a) (by omega) (by omega), wr_id (x := x6) (by omega) (by omega), wr_id (x := x7) (by omega) (by omega)]
    rcases ha with rfl | rfl
    · rw [if_pos rfl, if_pos rfl]; unfold hq_c; rw [Int.add_zero]
    · rw [if_neg (by omega), if_neg (by omega)]
      unfold hq_m
      by_cases q : x7 = -1
      · rw [if_pos q, q]
      · rw [if_neg q]
  | succ m ih =>
    intro n d v x6 x7 hn hd hv b1 b2 b3 b4
    obtain ⟨n, rfl⟩ : ∃ z, n = z + 1 := ⟨n - 1, by omega⟩
    obtain ⟨f1, f2⟩ := hf d (by omega)
    obtain ⟨v', g1, g2⟩ := f2 v hv
    simp only [fX5_hats_58]
    rw [wr_id (x := 20) (by omega) (by omega), wr_id (x := (d : Int)) (by omega) (by omega), if_neg (by omega), as_m4 (by omega) (by omega), hp_b, show (2 * (p : Int) + 1).toNat = 2 * p + 1 by omega, wr_id (x := (d : Int)) (by omega) (by omega), g1, hp_bd, wr_id (x := f d) (by omega) (by omega), hx_wr01.2.2]
    unfold fX5_hats_91 fX5_hats_105 fX5_hats_124 fX5_hats_126
    rw [hx_wr01.1, hx_wr01.2.1, hx_wr01.2.2, wr_id (x := x7) (by omega) (by omega), if_neg (show ¬ (1 : Int) = 0 by omega), if_neg (show ¬ (1 : Int) = 0 by omega), if_pos (show (0 : Int) = 0 from rfl), if_pos (show (0 : Int) = 0 from rfl), show (d : Int) + 1 = ((d + 1 : Nat) : Int) by omega]
    simp only [hq_c, hq_m]
    by_cases q : f d = -1
    · rw [if_pos q, if_pos q, if_pos q]
      by_cases q2 : x7 = -1
      · rw [if_pos q2, if_pos q2]
        obtain ⟨v2, l1, l2⟩ := ih n (d + 1) v' (x6 + 1) (d : Int) (by omega) (by omega) g2 (by omega) (by omega) (by omega) (by omega)
        refine ⟨v2, ?_, l2⟩
        rw [l1, if_neg (show ¬ (d : Int) = -1 by omega), Int.add_assoc]
      · rw [if_neg q2, if_neg q2]
        obtain ⟨v2, l1, l2⟩ := ih n (d + 1) v' (x6 + 1) x7 (by omega) (by omega) g2 (by omega) (by omega) (by omega) (by omega)
        refine ⟨v2, ?_, l2⟩
        rw [l1, if_neg q2, Int.add_assoc]
    · rw [if_neg q, if_neg q, if_neg q]
      obtain ⟨v2, l1, l2⟩ := ih n (d + 1) v' (x6 + 0) x7 (by omega) (by omega) g2 (by omega) (by omega) (by omega) (by omega)
      refine ⟨v2, ?_, l2⟩
      rw [l1, Int.add_zero, Int.zero_add]
theorem hc_hats {w v : hg_W} (h : hx_A w v) {a y x : Int} (ha : hx_c a) (hy : hx_c y) (hx : hx_c x) : hx_ret (fX4_hats w a y x) (fX5_hats v a y x) := by
  obtain ⟨z, g1, g2, g3, g4⟩ := hx_wrong h ha
  obtain ⟨hT, hR, hTp, hIm, hSh⟩ := id h
  have r3 := hR.2.2.1
  have w5 : wr (-5) = -5 := wr_id (by omega) (by omega)
  have w7 : wr (-7) = -7 := wr_id (by omega) (by omega)
  unfold fX4_hats fX5_hats
  rw [hx_isSort hy, hp_bd, hx_one g1 g3 hx rfl, hp_bd, g2, hp_bd, g3, hx_isCoin hy, hp_bd, hx_bif, hx_in hx (by unfold hx_c; omega) (by unfold hx_c; omega), hp_bd, hx_bif, w5, w7]
  by_cases q : z = 0
  · rw [if_pos q, if_pos q]
    by_cases q1 : 0 ≤ y ∧ y < 6
    · rw [if_pos q1, if_pos q1]
      by_cases q2 : 0 ≤ x ∧ x ≤ 1
      · rw [if_pos q2, if_pos q2, hx_wr01.1, if_pos rfl]
        obtain ⟨a0, a4, -⟩ := g4 q
        obtain ⟨s, rfl⟩ : ∃ s : Nat, a = (s : Int) := ⟨a.toNat, by omega⟩
        obtain ⟨p, rfl⟩ : ∃ p : Nat, y = (p : Int) := ⟨y.toNat, by omega⟩
        obtain ⟨-, kp, -⟩ := hR.1 p (by omega)
        rw [ag_m4 (by omega) (by omega), hp_b, show (2 * (p : Int) + 1).toNat = 2 * p + 1 by omega]
        obtain ⟨f, hf⟩ := hx_same (s := s) (C := hx_FC 28 w) (D := fun v' => ∃ t', hx_V (hg_up v 4 (2 * p + 1) t') v') (SC := fun w d => hx_hatC w p (d : Int)) (SM := fun v d => hg_up v 4 (2 * p + 1) (d : Int)) (N := 21) (w0 := w) (v0 := v) hx_FC.rf ⟨v 4 (2 * p + 1), by rw [hx_up_self]; exact hx_V.rf⟩ (fun d hd w1 v1 hw1 ⟨t', hv1⟩ => by
          obtain ⟨w', v', r, l1, l2, l3, l4, l5⟩ := hx_hats1 h (s := s) (by omega) hw1 (p := p) (t := (d : Int)) (by omega) (by omega) hv1
          exact ⟨w', v', r, l1, l2, l3, ⟨_, l4⟩, l5⟩)
        obtain ⟨w2, l1, l2⟩ := hx_hatsC h (s := s) (p := p) (a := x) (by omega) (by omega) (f := f) (fun d hd => ⟨(hf d hd).1, (hf d hd).2.1⟩) 21 hg_F 0 21 w (by unfold hg_F; omega) (by omega) rfl hx_FC.rf
        obtain ⟨v2, l3, l4⟩ := hx_hatsM (v0 := v) (s := s) (p := p) (a := x) (by omega) (by omega) (by omega) (f := f) (fun d hd => ⟨(hf d hd).1, (hf d hd).2.2⟩) 21 hg_F 0 v 0 (-1) (by unfold hg_F; omega) (by omega) ⟨v 4 (2 * p + 1), by rw [hx_up_self]; exact hx_V.rf⟩ (by omega) (by omega) (by omega) (by omega)
        rw [if_pos rfl, Int.zero_add] at l3
        exact ⟨_, _, _, l1, l3, h.th l2 l4⟩
      · rw [if_neg q2, if_neg q2, w7, if_neg (by omega)]; exact hx_ret.c h
    · rw [if_neg q1, if_neg q1, w5, if_neg (by omega)]; exact hx_ret.c h
  · rw [if_neg q, if_neg q, g3, if_neg q]; exact hx_ret.c h
