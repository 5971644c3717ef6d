/-! ===== fill, hat, person, put ===== -/
theorem hc_w6a {b : Nat} (hb : hg_rd b) {w : hg_W} : ∀ n : Nat, 6 < n → fX0_worthOfAll_4 b n w 0 0 = some (w, wr (0 + w (b + 1) 0 * w (b + 2) 0 + w (b + 1) 1 * w (b + 2) 1 + w (b + 1) 2 * w (b + 2) 2 + w (b + 1) 3 * w (b + 2) 3 + w (b + 1) 4 * w (b + 2) 4 + w (b + 1) 5 * w (b + 2) 5)) := by
  intro n hn
  obtain ⟨n, rfl⟩ : ∃ z, n = z + 7 := ⟨n - 7, by omega⟩
  simp (disch := omega) only [fX0_worthOfAll_4, wr_id (x := 6), wr_id (x := 0), wr_id (x := 0 + 1), wr_id (x := 0 + 1 + 1), wr_id (x := 0 + 1 + 1 + 1), wr_id (x := 0 + 1 + 1 + 1 + 1), wr_id (x := 0 + 1 + 1 + 1 + 1 + 1), wr_id (x := 0 + 1 + 1 + 1 + 1 + 1 + 1), if_pos, if_neg, if_true, if_false, ag_r1 hb, ag_r2 hb, hp_b, show (0 : Int).toNat = 0 from rfl, show (0 + 1 : Int).toNat = 1 from rfl, show (0 + 1 + 1 : Int).toNat = 2 from rfl, show (0 + 1 + 1 + 1 : Int).toNat = 3 from rfl, show (0 + 1 + 1 + 1 + 1 : Int).toNat = 4 from rfl, show (0 + 1 + 1 + 1 + 1 + 1 : Int).toNat = 5 from rfl]
theorem hc_w6b {v : hg_W} : ∀ n : Nat, 6 < n → fX5_worthAll_4 n v 0 0 = some (v, wr (0 + v 4 0 * v 4 1 + v 4 2 * v 4 3 + v 4 4 * v 4 5 + v 4 6 * v 4 7 + v 4 8 * v 4 9 + v 4 10 * v 4 11)) := by
  intro n hn
  obtain ⟨n, rfl⟩ : ∃ z, n = z + 7 := ⟨n - 7, by omega⟩
  simp (disch := omega) only [fX5_worthAll_4, wr_id (x := 6), wr_id (x := 0), wr_id (x := 0 + 1), wr_id (x := 0 + 1 + 1), wr_id (x := 0 + 1 + 1 + 1), wr_id (x := 0 + 1 + 1 + 1 + 1), wr_id (x := 0 + 1 + 1 + 1 + 1 + 1), wr_id (x := 0 + 1 + 1 + 1 + 1 + 1 + 1), if_pos, if_neg, if_true, if_false, ag_m4, hp_b, show (2 * (0 : Int)).toNat = 0 from rfl, show (2 * (0 + 1 : Int)).toNat = 2 from rfl, show (2 * (0 + 1 + 1 : Int)).toNat = 4 from rfl, show (2 * (0 + 1 + 1 + 1 : Int)).toNat = 6 from rfl, show (2 * (0 + 1 + 1 + 1 + 1 : Int)).toNat = 8 from rfl, show (2 * (0 + 1 + 1 + 1 + 1 + 1 : Int)).toNat = 10 from rfl, show (2 * (0 : Int) + 1).toNat = 1 from rfl, show (2 * (0 + 1 : Int) + 1).toNat = 3 from rfl, show (2 * (0 + 1 + 1 : Int) + 1).toNat = 5 from rfl, show (2 * (0 + 1 + 1 + 1 : Int) + 1).toNat = 7 from rfl, show (2 * (0 + 1 + 1 + 1 + 1 : Int) + 1).toNat = 9 from rfl, show (2 * (0 + 1 + 1 + 1 + 1 + 1 : Int) + 1).toNat = 11 from rfl]
theorem hc_w6C {b : Nat} (hb : hg_rd b) {w v : hg_W} (hR : hx_R b w v) : ∃ r : Int, fX0_worthOfAll b w = some (w, wr r) ∧ fX5_worthAll v = some (v, wr r) ∧ 0 ≤ r ∧ r ≤ 11880 := by
  obtain ⟨r1, -⟩ := hR
  have h := fun k hk => (r1 k hk)
  have c0 := h 0 (by omega); have c1 := h 1 (by omega); have c2 := h 2 (by omega); have c3 := h 3 (by omega); have c4 := h 4 (by omega); have c5 := h 5 (by omega)
  simp only [Nat.reduceMul, Nat.reduceAdd] at c0 c1 c2 c3 c4 c5
  refine ⟨0 + w (b + 1) 0 * w (b + 2) 0 + w (b + 1) 1 * w (b + 2) 1 + w (b + 1) 2 * w (b + 2) 2 + w (b + 1) 3 * w (b + 2) 3 + w (b + 1) 4 * w (b + 2) 4 + w (b + 1) 5 * w (b + 2) 5, ?_, ?_, ?_, ?_⟩
  · exact hc_w6a hb hg_F (by unfold hg_F; omega)
  · unfold fX5_worthAll
    rw [hc_w6b hg_F (by unfold hg_F; omega), c0.1.2.2, c0.2.1.2.2, c1.1.2.2, c1.2.1.2.2, c2.1.2.2, c2.2.1.2.2, c3.1.2.2, c3.2.1.2.2, c4.1.2.2, c4.2.1.2.2, c5.1.2.2, c5.2.1.2.2]
  · have := Int.mul_nonneg c0.1.1 c0.2.1.1
    have := Int.mul_nonneg c1.1.1 c1.2.1.1
    have := Int.mul_nonneg c2.1.1 c2.2.1.1
    have := Int.mul_nonneg c3.1.1 c3.2.1.1
    have := Int.mul_nonneg c4.1.1 c4.2.1.1
    have := Int.mul_nonneg c5.1.1 c5.2.1.1
    omega
  · have m : ∀ x y : Int, 0 ≤ x → x ≤ 99 → 0 ≤ y → y ≤ 20 → x * y ≤ 1980 := fun x y h1 h2 h3 h4 => Int.le_trans (Int.mul_le_mul h2 h4 h3 (by omega)) (by omega)
    have := m _ _ c0.1.1 c0.1.2.1 c0.2.1.1 c0.2.1.2.1
    have := m _ _ c1.1.1 c1.1.2.1 c1.2.1.1 c1.2.1.2.1
    have := m _ _ c2.1.1 c2.1.2.1 c2.2.1.1 c2.2.1.2.1
    have := m _ _ c3.1.1 c3.1.2.1 c3.2.1.1 c3.2.1.2.1
    have := m _ _ c4.1.1 c4.1.2.1 c4.2.1.1 c4.2.1.2.1
    have := m _ _ c5.1.1 c5.1.2.1 c5.2.1.1 c5.2.1.2.1
    omega
theorem hc_hat {w v : hg_W} (h : hx_A w v) {a x : Int} (ha : hx_c a) (hx : hx_c x) : hx_ret (fX4_hat w a x) (fX5_hat v a x) := by
  obtain ⟨hT, hR, hTp, hIm, hSh⟩ := id h
  obtain ⟨r, g1, g2, -, -⟩ := hc_w6C hx_r19 hR
  unfold fX4_hat fX5_hat
  rw [hx_isCoin ha, hp_bd, hx_bif, hx_isSort ha, hp_bd, hx_bif, hx_in hx (by unfold hx_c; omega) (by unfold hx_c; omega), hp_bd, hx_bif, wr_id hx.1 hx.2, wr_id (x := 1) (by omega) (by omega), wr_id (x := 2) (by omega) (by omega), g1, g2, hp_bd, hp_bd]
  by_cases q : x = 2
  · rw [if_pos q, if_pos q]; exact hx_ret.c h
  · rw [if_neg q, if_neg q]
    by_cases q1 : 0 ≤ a ∧ a < 6
    · rw [if_pos q1, if_pos q1]
      obtain ⟨k, rfl⟩ : ∃ k : Nat, a = (k : Int) := ⟨a.toNat, by omega⟩
      have tk : (k : Int).toNat = k := by omega
      obtain ⟨kw, ki, -⟩ := hR.1 k (by omega)
      by_cases q2 : x = 0
      · rw [if_neg (by omega), if_pos (by omega), if_pos q2, if_pos (show 0 ≤ x ∧ x ≤ 1 by omega), show (20 : Nat) = 19 + 1 from rfl, ag_r1 hx_r19 (by omega) (by omega), hp_b, ag_m4 (by omega) (by omega), hp_b, tk, show (2 * (k : Int) + x).toNat = 2 * k by omega, kw.2.2]
        exact hx_ret.c h
      · by_cases q3 : x = 1
        · rw [if_neg (by omega), if_pos (by omega), if_neg q2, if_pos (show 0 ≤ x ∧ x ≤ 1 by omega), show (21 : Nat) = 19 + 2 from rfl, ag_r2 hx_r19 (by omega) (by omega), hp_b, ag_m4 (by omega) (by omega), hp_b, tk, show (2 * (k : Int) + x).toNat = 2 * k + 1 by omega, ki.2.2]
          exact hx_ret.c h
        · rw [if_neg (show ¬ (0 ≤ x ∧ x ≤ 1) by omega)]
          by_cases q4 : x < 0
          · rw [if_pos q4]; exact hx_ret.c h
          · rw [if_neg q4, if_neg (by omega)]; exact hx_ret.c h
    · rw [if_neg q1, if_neg q1]; exact hx_ret.c h
theorem hc_R2 {b : Nat} (hb : hg_rd b) {w v : hg_W} (hR : hx_R b w v) {k : Nat} {x : Int} (hk : k < 6) (hx : 0 ≤ x ∧ x ≤ 20) : hx_R b (hg_up (hg_up w b 10 (w b 10 + (x - w (b + 2) k))) (b + 2) k x) (hg_up v 4 (2 * k + 1) x) := by
  have hb2 := hx_rd19 hb
  obtain ⟨r1, r2, r3, r4, r5, r6, r7⟩ := hR
  refine ⟨fun j hj => ⟨?_, ?_, ?_, ?_, ?_⟩, fun j hj => ?_, ?_, ?_, ?_, ?_, ?_⟩
  · have h := (r1 j hj).1
    simp (disch := omega) only [hp_up_c, hp_up_k]; exact h
  · have h := (r1 j hj).2.1
    by_cases q : j = k
    · subst q
      refine ⟨?_, ?_, ?_⟩ <;> simp (disch := omega) only [hp_up_c, hp_up_k, hp_up_eq] <;> omega
    · simp (disch := omega) only [hp_up_c, hp_up_k]; exact h
  · have h := (r1 j hj).2.2.1
    simp (disch := omega) only [hp_up_c, hp_up_k]; exact h
  · have h := (r1 j hj).2.2.2.1
    simp (disch := omega) only [hp_up_c, hp_up_k]; exact h
  · have h := (r1 j hj).2.2.2.2
    simp (disch := omega) only [hp_up_c, hp_up_k]; exact h
  · simp (disch := omega) only [hp_up_c, hp_up_k] at hj ⊢; exact r2 j hj
  · simp (disch := omega) only [hp_up_c, hp_up_k]; exact r3
  · clear r1 r2 r3 r5 r6 r7
    rcases (by omega : k = 0 ∨ k = 1 ∨ k = 2 ∨ k = 3 ∨ k = 4 ∨ k = 5) with rfl | rfl | rfl | rfl | rfl | rfl <;> (simp (disch := omega) only [hp_up_c, hp_up_k, hp_up_eq]; omega)
  · simp (disch := omega) only [hp_up_c, hp_up_k]; exact r5
  · simp (disch := omega) only [hp_up_c, hp_up_k]; exact r6
  · simp (disch := omega) only [hp_up_c, hp_up_k]; exact r7
theorem hc_setIn {b : Nat} (hb : hg_rd b) {w v : hg_W} (hR : hx_R b w v) {k : Nat} {x : Int} (hk : k < 6) (hx : 0 ≤ x ∧ x ≤ 20) : fX0_setInHat b w (k : Int) x = some (hg_up (hg_up w b 10 (w b 10 + (x - w (b + 2) k))) (b + 2) k x, 0) := by
  have hb2 := hx_rd19 hb
  have h := (hR.1 k hk).2.1
  have hcs := hx_cs_eq hR
  have tk : (k : Int).toNat = k := by omega
  unfold fX0_setInHat
  rw [ag_r2 hb (by omega) (by omega), hp_b, hp_pt, hp_b, as_r2 hb (by omega) (by omega), hp_b, tk, wr_id (x := x) (by omega) (by omega), wr_id (by omega) (by omega)]
theorem hc_fill {w v : hg_W} (h : hx_A w v) {a y x : Int} (ha : hx_c a) (hy : hx_c y) (hx : hx_c x) : hx_ret (fX4_fill w a y x) (fX5_fill v a y x) := by
  obtain ⟨hT, hR, hTp, hIm, hSh⟩ := id h
  unfold fX4_fill fX5_fill fX4_fill_35 fX5_fill_32
  rw [hx_isCoin ha, hp_bd, hx_bif, hx_isSort ha, hp_bd, hx_bif, hx_in hy (by unfold hx_c; omega) (by unfold hx_c; omega), hp_bd, hx_bif, hx_in hx (by unfold hx_c; omega) (by unfold hx_c; omega), hp_bd, hx_bif, hx_in hx (by unfold hx_c; omega) (by unfold hx_c; omega), hp_bd, hx_bif, wr_id hy.1 hy.2, wr_id hx.1 hx.2, wr_id (x := 1) (by omega) (by omega), wr_id (x := 99) (by omega) (by omega), wr_id (x := 20) (by omega) (by omega)]
  by_cases q1 : 0 ≤ a ∧ a < 6
  · rw [if_pos q1, if_pos q1]
    obtain ⟨k, rfl⟩ : ∃ k : Nat, a = (k : Int) := ⟨a.toNat, by omega⟩
    have tk : (k : Int).toNat = k := by omega
    have hk : k < 6 := by omega
    obtain ⟨kw, ki, -⟩ := hR.1 k hk
    by_cases q2 : 0 ≤ y ∧ y ≤ 1
    · rw [if_neg (show ¬ y < 0 by omega), if_neg (show ¬ 1 < y by omega), if_pos q2]
      by_cases q3 : y = 0
      · subst q3
        simp only [if_true]
        by_cases q4 : x < 0
        · rw [if_pos q4, if_neg (by omega)]; exact hx_ret.c h
        · rw [if_neg q4]
          by_cases q5 : x ≤ 99
          · rw [if_pos q5, if_pos (by omega)]
            unfold fX4_fill_66
            rw [show (20 : Nat) = 19 + 1 from rfl, ag_r1 hx_r19 (by omega) (by omega), hp_b, wr_id (x := 0) (by omega) (by omega), if_pos rfl, as_r1 hx_r19 (by omega) (by omega), hp_b, ag_m4 (by omega) (by omega), hp_b, as_m4 (by omega) (by omega), hp_b, tk, show (2 * (k : Int) + 0).toNat = 2 * k by omega, kw.2.2, wr_id hx.1 hx.2]
            refine ⟨_, _, _, rfl, rfl, h.go ?_ (hx_FC.up (by omega)) (hp_up_c (by omega)) (hx_FM.up (by omega))⟩
            obtain ⟨r1, r2, r3, r4, r5, r6, r7⟩ := hR
            refine ⟨fun j hj => ⟨?_, ?_, ?_, ?_, ?_⟩, fun j hj => ?_, ?_, ?_, ?_, ?_, ?_⟩
            · have h := (r1 j hj).1
              by_cases q : j = k
              · subst q
                refine ⟨?_, ?_, ?_⟩ <;> simp (disch := omega) only [hp_up_c, hp_up_k, hp_up_eq] <;> omega
              · simp (disch := omega) only [hp_up_c, hp_up_k]; exact h
            · have h := (r1 j hj).2.1
              simp (disch := omega) only [hp_up_c, hp_up_k]; exact h
            · have h := (r1 j hj).2.2.1
              simp (disch := omega) only [hp_up_c]; exact h
            · have h := (r1 j hj).2.2.2.1
              simp (disch := omega) only [hp_up_c]; exact h
            · have h := (r1 j hj).2.2.2.2
              simp (disch := omega) only [hp_up_c]; exact h
            · simp (disch := omega) only [hp_up_c] at hj ⊢; exact r2 j hj
            · simp (disch := omega) only [hp_up_c]; exact r3
            · simp (disch := omega) only [hp_up_c]; exact r4
            · simp (disch := omega) only [hp_up_c]; exact r5
            · simp (disch := omega) only [hp_up_c]; exact r6
            · simp (disch := omega) only [hp_up_c]; exact r7
          · rw [if_neg q5, if_neg (by omega)]; exact hx_ret.c h
      · have q3b : y = 1 := by omega
        subst q3b
        simp only [Int.reduceEq, if_false]
        by_cases q4 : x < 0
        · rw [if_pos q4, if_neg (by omega)]; exact hx_ret.c h
        · rw [if_neg q4]
          by_cases q5 : x ≤ 20
          · rw [if_pos q5, if_pos (by omega)]
            unfold fX4_fill_66
            rw [show (21 : Nat) = 19 + 2 from rfl, ag_r2 hx_r19 (by omega) (by omega), hp_b, wr_id (x := 1) (by omega) (by omega), if_neg (by omega), hc_setIn hx_r19 hR hk ⟨by omega, q5⟩, hp_bd, ag_m4 (by omega) (by omega), hp_b, as_m4 (by omega) (by omega), hp_b, tk, show (2 * (k : Int) + 1).toNat = 2 * k + 1 by omega, ki.2.2, wr_id hx.1 hx.2]
            exact ⟨_, _, _, rfl, rfl, h.go (hc_R2 hx_r19 hR hk ⟨by omega, q5⟩) ((hx_FC.up (by omega)).tr (hx_FC.up (by omega))) (by rw [hp_up_c (by omega), hp_up_k (by omega)]) (hx_FM.up (by omega))⟩
          · rw [if_neg q5, if_neg (by omega)]; exact hx_ret.c h
    · rw [if_neg q2]
      by_cases q3 : y < 0
      · rw [if_pos q3]; exact hx_ret.c h
      · rw [if_neg q3, if_pos (by omega)]; exact hx_ret.c h
  · rw [if_neg q1, if_neg q1]; exact hx_ret.c h
