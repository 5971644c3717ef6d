/-! ===== one takes a coin ===== -/
theorem hx_R.of {b : Nat} {w v w' v' : hg_W} (hR : hx_R b w v) (h0 : w' b = w b) (h1 : w' (b + 1) = w (b + 1)) (h2 : w' (b + 2) = w (b + 2)) (h3 : w' (b + 3) = w (b + 3)) (h4 : w' (b + 4) = w (b + 4)) (h5 : w' (b + 5) = w (b + 5)) (h6 : w' (b + 6) = w (b + 6)) (h7 : w' (b + 7) = w (b + 7)) (ht : w' 1 3 = w 1 3) (g0 : v' 0 = v 0) (g1 : v' 1 = v 1) (g2 : v' 2 = v 2) (g3 : v' 3 = v 3) (g4 : v' 4 = v 4) : hx_R b w' v' := by
  unfold hx_R at hR ⊢
  rw [h0, h1, h2, h3, h4, h5, h6, h7, ht, g0, g1, g2, g3, g4]
  exact hR
theorem hx_R.sm {b : Nat} (hb : hg_rd b) {w v w' v' : hg_W} (hR : hx_R b w v) (hw : ∀ c, c ≠ 16 → c ≠ b + 8 → w' c = w c) (hv : ∀ c, c ≠ 16 → c ≠ 17 → v' c = v c) : hx_R b w' v' := by
  have hb2 := hx_rd19 hb
  exact hR.of (hw _ (by omega) (by omega)) (hw _ (by omega) (by omega)) (hw _ (by omega) (by omega)) (hw _ (by omega) (by omega)) (hw _ (by omega) (by omega)) (hw _ (by omega) (by omega)) (hw _ (by omega) (by omega)) (hw _ (by omega) (by omega)) (by rw [hw 1 (by omega) (by omega)]) (hv _ (by omega) (by omega)) (hv _ (by omega) (by omega)) (hv _ (by omega) (by omega)) (hv _ (by omega) (by omega)) (hv _ (by omega) (by omega))
def hx_sC (b : Nat) (w w' : hg_W) : Prop := ∀ c, c ≠ 16 → c ≠ b + 8 → w' c = w c
def hx_sM (v v' : hg_W) : Prop := ∀ c, c ≠ 16 → c ≠ 17 → v' c = v c
theorem hx_sC.fc {b : Nat} {w w' : hg_W} (h : hx_sC b w w') : hx_FC b w w' := fun c h1 h2 => h c h1 (by omega)
theorem hx_sM.fm {v v' : hg_W} (h : hx_sM v v') : hx_FM v v' := ⟨fun c h1 h2 h3 h4 h5 => h c h4 h5, fun k _ _ => by rw [h 0 (by omega) (by omega)]⟩
theorem hx_sC.rf {b : Nat} {w : hg_W} : hx_sC b w w := fun _ _ _ => rfl
theorem hx_sT {b : Nat} (hb : hg_rd b) {w v w' v' : hg_W} (hT : hx_T w v) (hw : hx_sC b w w') (hv : hx_sM v v') : hx_T w' v' := hT.fr hb hw.fc hv.fm
theorem hx_kinds {b p : Nat} {w v : hg_W} (hR : hx_R b w v) (hp : (p : Int) < w b 9) : p < 6 ∧ (w (b + 3) p = 0 ∨ w (b + 3) p = 1 ∨ w (b + 3) p = 2 ∨ w (b + 3) p = 3 ∨ w (b + 3) p = 4 ∨ w (b + 3) p = 5) ∧ v 1 p = w (b + 3) p ∧ v 2 p = w (b + 4) p := by
  have r2 := hR.2.1 p hp
  have r3 := hR.2.2.1
  omega
theorem hx_takes {b : Nat} (hb : hg_rd b) {w v : hg_W} (hT : hx_T w v) (hR : hx_R b w v) {p : Nat} (hp : (p : Int) < w b 9) :
    ∃ (w' v' : hg_W) (r : Int), fX0_takes b w (p : Int) = some (w', r) ∧ fX5_takesOf v (p : Int) = some (v', r) ∧ hx_sC b w w' ∧ hx_sM v v' := by
  obtain ⟨w', v', r, g1, g2, -, -, g3, g4⟩ := hx_says hb hT hR (part := 0) (x := -1) hp (Or.inl rfl) (by omega)
  obtain ⟨hp6, hk, e1, e2⟩ := hx_kinds hR hp
  have hb2 := hx_rd19 hb
  have f4 : w' (b + 4) = w (b + 4) := g3 _ (by omega) (by omega)
  have m1 : v' 1 = v 1 := g4 _ (by omega) (by omega)
  have m2 : v' 2 = v 2 := g4 _ (by omega) (by omega)
  have m0 : v' 0 = v 0 := g4 _ (by omega) (by omega)
  have tp : (p : Int).toNat = p := by omega
  have et : v 0 6 = w b 12 := hR.2.2.2.2.2.1.2.2
  rw [show ((0 : Nat) : Int) = 0 from rfl] at g1 g2
  unfold fX0_takes fX5_takesOf fX0_takes_50 fX5_takesOf_52
  rw [g2, hp_bd, g1]
  clear hT hR hb2
  simp (disch := omega) only [ag_r3 hb, ag_r4 hb, ag_m1, ag_m2, hp_b, hp_bd, tp, m1, m2, m0, e1, e2, f4, et, if_pos, if_neg, if_true, if_false]
  rcases hk with hk | hk | hk | hk | hk | hk
  · exact ⟨w', v', wr r, by simp (disch := omega) only [hk, wr_id (x := 0), if_pos, if_neg, if_true, if_false], by simp (disch := omega) only [hk, wr_id (x := 0), if_pos, if_neg, if_true, if_false], g3, g4⟩
  · exact ⟨w', v', wr (hg_dv r 4), by simp (disch := omega) only [hk, wr_id (x := 1), if_pos, if_neg, if_true, if_false], by simp (disch := omega) only [hk, wr_id (x := 1), if_pos, if_neg, if_true, if_false], g3, g4⟩
  · exact ⟨w', v', wr (r + 5 * w (b + 4) p), by simp (disch := omega) only [hk, wr_id (x := 2), if_pos, if_neg, if_true, if_false], by simp (disch := omega) only [hk, wr_id (x := 2), if_pos, if_neg, if_true, if_false], g3, g4⟩
  · by_cases q : wr (hg_rm (w b 12) 2) = 0
    · exact ⟨w, v', wr (w (b + 4) p), by simp (disch := omega) only [hk, wr_id (x := 3), q, if_pos, if_neg, if_true, if_false], by simp (disch := omega) only [hk, wr_id (x := 3), q, if_pos, if_neg, if_true, if_false], hx_sC.rf, g4⟩
    · exact ⟨w', v', wr (hg_dv r 4), by simp (disch := omega) only [hk, wr_id (x := 3), q, if_pos, if_neg, if_true, if_false], by simp (disch := omega) only [hk, wr_id (x := 3), q, if_pos, if_neg, if_true, if_false], g3, g4⟩
  · exact ⟨w', v', wr (r + 5 * w (b + 4) p), by simp (disch := omega) only [hk, wr_id (x := 4), if_pos, if_neg, if_true, if_false], by simp (disch := omega) only [hk, wr_id (x := 4), if_pos, if_neg, if_true, if_false], g3, g4⟩
  · exact ⟨w, v', wr 99, by simp (disch := omega) only [hk, wr_id (x := 5), if_pos, if_neg, if_true, if_false], by simp (disch := omega) only [hk, wr_id (x := 5), if_pos, if_neg, if_true, if_false], hx_sC.rf, g4⟩
theorem hx_sounds {b : Nat} (hb : hg_rd b) {w v : hg_W} (hT : hx_T w v) (hR : hx_R b w v) {p : Nat} (hp : (p : Int) < w b 9) {x : Int} (hx : 0 ≤ x ∧ x < 6) :
    ∃ (w' v' : hg_W) (r : Int), fX0_sounds b w (p : Int) x = some (w', r) ∧ fX5_soundsOf v (p : Int) x = some (v', r) ∧ 0 ≤ r ∧ r ≤ 999 ∧ hx_sC b w w' ∧ hx_sM v v' := by
  obtain ⟨w', v', r, g1, g2, g5, g6, g3, g4⟩ := hx_says hb hT hR (part := 1) (x := x) hp (Or.inr hx) (by omega)
  obtain ⟨hp6, hk, e1, e2⟩ := hx_kinds hR hp
  have r2 := (hR.2.1 p hp).2
  have hb2 := hx_rd19 hb
  have f4 : w' (b + 4) = w (b + 4) := g3 _ (by omega) (by omega)
  have m1 : v' 1 = v 1 := g4 _ (by omega) (by omega)
  have m2 : v' 2 = v 2 := g4 _ (by omega) (by omega)
  have tp : (p : Int).toNat = p := by omega
  rw [show ((1 : Nat) : Int) = 1 from rfl] at g1 g2
  rw [if_neg (by omega)] at g5
  unfold fX0_sounds fX5_soundsOf fX0_sounds_70
  rw [g2, hp_bd, g1]
  clear hT hR hb2
  simp (disch := omega) only [ag_r3 hb, ag_r4 hb, ag_m1, ag_m2, hp_b, hp_bd, tp, m1, m2, e1, e2, f4, if_pos, if_neg, if_true, if_false]
  rcases hk with hk | hk | hk | hk | hk | hk
  · exact ⟨w', v', wr r, by simp (disch := omega) only [hk, wr_id (x := 0), if_pos, if_neg, if_true, if_false], by simp (disch := omega) only [hk, wr_id (x := 0), if_pos, if_neg, if_true, if_false], by rw [wr_id (by omega) (by omega)]; omega, by rw [wr_id (by omega) (by omega)]; omega, g3, g4⟩
  · exact ⟨w', v', wr (r + w (b + 4) p), by simp (disch := omega) only [hk, wr_id (x := 1), if_pos, if_neg, if_true, if_false], by simp (disch := omega) only [hk, wr_id (x := 1), if_pos, if_neg, if_true, if_false], by rw [wr_id (by omega) (by omega)]; omega, by rw [wr_id (by omega) (by omega)]; omega, g3, g4⟩
  · exact ⟨w', v', wr r, by simp (disch := omega) only [hk, wr_id (x := 2), if_pos, if_neg, if_true, if_false], by simp (disch := omega) only [hk, wr_id (x := 2), if_pos, if_neg, if_true, if_false], by rw [wr_id (by omega) (by omega)]; omega, by rw [wr_id (by omega) (by omega)]; omega, g3, g4⟩
  · exact ⟨w', v', wr (3 * (r + w (b + 4) p)), by simp (disch := omega) only [hk, wr_id (x := 3), if_pos, if_neg, if_true, if_false], by simp (disch := omega) only [hk, wr_id (x := 3), if_pos, if_neg, if_true, if_false], by rw [wr_id (by omega) (by omega)]; omega, by rw [wr_id (by omega) (by omega)]; omega, g3, g4⟩
  · exact ⟨w, v', wr 0, by simp (disch := omega) only [hk, wr_id (x := 4), if_pos, if_neg, if_true, if_false], by simp (disch := omega) only [hk, wr_id (x := 4), if_pos, if_neg, if_true, if_false], by rw [wr_id (by omega) (by omega)]; omega, by rw [wr_id (by omega) (by omega)]; omega, hx_sC.rf, g4⟩
  · exact ⟨w', v', wr r, by simp (disch := omega) only [hk, wr_id (x := 5), if_pos, if_neg, if_true, if_false], by simp (disch := omega) only [hk, wr_id (x := 5), if_pos, if_neg, if_true, if_false], by rw [wr_id (by omega) (by omega)]; omega, by rw [wr_id (by omega) (by omega)]; omega, g3, g4⟩
theorem hx_costs {b : Nat} (hb : hg_rd b) {w v : hg_W} (hT : hx_T w v) (hR : hx_R b w v) {p : Nat} (hp : (p : Int) < w b 9) {x : Int} (hx : 0 ≤ x ∧ x < 6) :
    ∃ (w' v' : hg_W) (r : Int), fX0_costs b w (p : Int) x = some (w', r) ∧ fX5_costsOf v (p : Int) x = some (v', r) ∧ -999 ≤ r ∧ r ≤ 999 ∧ hx_sC b w w' ∧ hx_sM v v' := by
  obtain ⟨w', v', r, g1, g2, g5, g6, g3, g4⟩ := hx_says hb hT hR (part := 2) (x := x) hp (Or.inr hx) (by omega)
  obtain ⟨hp6, hk, e1, e2⟩ := hx_kinds hR hp
  have r2 := (hR.2.1 p hp).2
  have hb2 := hx_rd19 hb
  have f4 : w' (b + 4) = w (b + 4) := g3 _ (by omega) (by omega)
  have m1 : v' 1 = v 1 := g4 _ (by omega) (by omega)
  have m2 : v' 2 = v 2 := g4 _ (by omega) (by omega)
  have tp : (p : Int).toNat = p := by omega
  rw [show ((2 : Nat) : Int) = 2 from rfl] at g1 g2
  rw [if_pos rfl] at g5
  unfold fX0_costs fX5_costsOf fX0_costs_65
  rw [g2, hp_bd, g1]
  clear hT hR hb2
  simp (disch := omega) only [ag_r3 hb, ag_r4 hb, ag_m1, ag_m2, hp_b, hp_bd, tp, m1, m2, e1, e2, f4, if_pos, if_neg, if_true, if_false]
  rcases hk with hk | hk | hk | hk | hk | hk
  · exact ⟨w', v', wr r, by simp (disch := omega) only [hk, wr_id (x := 0), if_pos, if_neg, if_true, if_false], by simp (disch := omega) only [hk, wr_id (x := 0), if_pos, if_neg, if_true, if_false], by rw [wr_id (by omega) (by omega)]; omega, by rw [wr_id (by omega) (by omega)]; omega, g3, g4⟩
  · exact ⟨w', v', wr r, by simp (disch := omega) only [hk, wr_id (x := 1), if_pos, if_neg, if_true, if_false], by simp (disch := omega) only [hk, wr_id (x := 1), if_pos, if_neg, if_true, if_false], by rw [wr_id (by omega) (by omega)]; omega, by rw [wr_id (by omega) (by omega)]; omega, g3, g4⟩
  · exact ⟨w', v', wr (2 * r), by simp (disch := omega) only [hk, wr_id (x := 2), if_pos, if_neg, if_true, if_false], by simp (disch := omega) only [hk, wr_id (x := 2), if_pos, if_neg, if_true, if_false], by rw [wr_id (by omega) (by omega)]; omega, by rw [wr_id (by omega) (by omega)]; omega, g3, g4⟩
  · exact ⟨w', v', wr r, by simp (disch := omega) only [hk, wr_id (x := 3), if_pos, if_neg, if_true, if_false], by simp (disch := omega) only [hk, wr_id (x := 3), if_pos, if_neg, if_true, if_false], by rw [wr_id (by omega) (by omega)]; omega, by rw [wr_id (by omega) (by omega)]; omega, g3, g4⟩
  · exact ⟨w', v', wr (2 * r - w (b + 4) p), by simp (disch := omega) only [hk, wr_id (x := 4), if_pos, if_neg, if_true, if_false], by simp (disch := omega) only [hk, wr_id (x := 4), if_pos, if_neg, if_true, if_false], by rw [wr_id (by omega) (by omega)]; omega, by rw [wr_id (by omega) (by omega)]; omega, g3, g4⟩
  · exact ⟨w, v', wr 0, by simp (disch := omega) only [hk, wr_id (x := 5), if_pos, if_neg, if_true, if_false], by simp (disch := omega) only [hk, wr_id (x := 5), if_pos, if_neg, if_true, if_false], by rw [wr_id (by omega) (by omega)]; omega, by rw [wr_id (by omega) (by omega)]; omega, hx_sC.rf, g4⟩
/-- THE COIN: the two searches in step -/
theorem hx_coin1 {b : Nat} (hb : hg_rd b) {w v : hg_W} {tk : Int} {k : Nat} {fit least most few : Int} {n1 n2 : Nat} (hk6 : k < 6)
    (hw : 0 ≤ w (b + 1) k ∧ w (b + 1) k ≤ 99 ∧ v 4 (2 * k) = w (b + 1) k) (hi : 0 < w (b + 2) k ∧ w (b + 2) k ≤ 20 ∧ v 4 (2 * k + 1) = w (b + 2) k)
    (hf : fit = -1 ∨ (0 ≤ fit ∧ fit < 6 ∧ w (b + 1) fit.toNat = most ∧ 0 ≤ most ∧ most ≤ 99)) (hl : least = -1 ∨ (0 ≤ least ∧ least < 6 ∧ w (b + 1) least.toNat = few ∧ 0 ≤ few ∧ few ≤ 99)) :
    ∃ fit' most' least' few' : Int, ((fit' = fit ∧ most' = most) ∨ (fit' = k ∧ most' = w (b + 1) k)) ∧ ((least' = least ∧ few' = few ∧ least ≠ -1) ∨ (least' = k ∧ few' = w (b + 1) k)) ∧
      fX0_coinUpTo_7 b (n1 + 1) w tk fit least (k : Int) = fX0_coinUpTo_7 b n1 w tk fit' least' ((k : Int) + 1) ∧ fX5_theCoin_20 (n2 + 1) v tk fit most least few (k : Int) = fX5_theCoin_20 n2 v tk fit' most' least' few' ((k : Int) + 1) := by
  have tk1 : (k : Int).toNat = k := by omega
  have t2 : (2 * (k : Int)).toNat = 2 * k := by omega
  have t3 : (2 * (k : Int) + 1).toNat = 2 * k + 1 := by omega
  obtain ⟨hw1, hw2, hw3⟩ := hw
  obtain ⟨hi1, hi2, hi3⟩ := hi
  -- the first half: fit
  have A : ∃ fit' most' : Int, ((fit' = fit ∧ most' = most) ∨ (fit' = k ∧ most' = w (b + 1) k)) ∧ fX0_coinUpTo_7 b (n1 + 1) w tk fit least (k : Int) = fX0_coinUpTo_58 (fX0_coinUpTo_7 b n1) b w tk fit' least (k : Int) ∧ fX5_theCoin_20 (n2 + 1) v tk fit most least few (k : Int) = fX5_theCoin_101 (fX5_theCoin_20 n2) v tk fit' least few (k : Int) (w (b + 1) k) most' := by
    by_cases q1 : wr tk < w (b + 1) k
    · refine ⟨fit, most, Or.inl ⟨rfl, rfl⟩, ?_, ?_⟩
      · simp (disch := omega) only [fX0_coinUpTo_7, wr_id (x := 6), wr_id (x := (k : Int)), wr_id (x := w (b + 1) k), wr_id (x := w (b + 2) k), ag_r1 hb, ag_r2 hb, hp_b, tk1, if_pos, if_neg, if_true, if_false]
      · simp (disch := omega) only [fX5_theCoin_20, fX5_theCoin_74, fX5_theCoin_75, fX5_theCoin_88, wr_id (x := 6), wr_id (x := 0), wr_id (x := (k : Int)), wr_id (x := w (b + 1) k), wr_id (x := w (b + 2) k), ag_m4, hp_b, t2, t3, hw3, hi3, if_pos, if_neg, if_true, if_false]
    · rcases hf with hf | ⟨hf1, hf2, hf3, hf4, hf5⟩
      · refine ⟨k, w (b + 1) k, Or.inr ⟨rfl, rfl⟩, ?_, ?_⟩
        · simp (disch := omega) only [fX0_coinUpTo_7, fX0_coinUpTo_55, wr_id (x := 6), wr_id (x := (k : Int)), wr_id (x := fit), wr_id (x := w (b + 1) k), wr_id (x := w (b + 2) k), ag_r1 hb, ag_r2 hb, hp_b, tk1, if_pos, if_neg, if_true, if_false]
        · simp (disch := omega) only [fX5_theCoin_20, fX5_theCoin_70, fX5_theCoin_75, fX5_theCoin_88, wr_id (x := 6), wr_id (x := 1), wr_id (x := -1), wr_id (x := (k : Int)), wr_id (x := fit), wr_id (x := w (b + 1) k), wr_id (x := w (b + 2) k), ag_m4, hp_b, t2, t3, hw3, hi3, if_pos, if_neg, if_true, if_false]
      · by_cases q2 : w (b + 1) k ≤ most
        · refine ⟨fit, most, Or.inl ⟨rfl, rfl⟩, ?_, ?_⟩
          · simp (disch := omega) only [fX0_coinUpTo_7, fX0_coinUpTo_55, wr_id (x := 6), wr_id (x := (k : Int)), wr_id (x := fit), wr_id (x := most), wr_id (x := w (b + 1) k), wr_id (x := w (b + 2) k), ag_r1 hb, ag_r2 hb, hp_b, tk1, hf3, if_pos, if_neg, if_true, if_false]
          · simp (disch := omega) only [fX5_theCoin_20, fX5_theCoin_74, fX5_theCoin_75, fX5_theCoin_88, wr_id (x := 6), wr_id (x := 0), wr_id (x := -1), wr_id (x := most), wr_id (x := (k : Int)), wr_id (x := fit), wr_id (x := w (b + 1) k), wr_id (x := w (b + 2) k), ag_m4, hp_b, t2, t3, hw3, hi3, if_pos, if_neg, if_true, if_false]
        · refine ⟨k, w (b + 1) k, Or.inr ⟨rfl, rfl⟩, ?_, ?_⟩
          · simp (disch := omega) only [fX0_coinUpTo_7, fX0_coinUpTo_55, wr_id (x := 6), wr_id (x := (k : Int)), wr_id (x := fit), wr_id (x := most), wr_id (x := w (b + 1) k), wr_id (x := w (b + 2) k), ag_r1 hb, ag_r2 hb, hp_b, tk1, hf3, if_pos, if_neg, if_true, if_false]
          · simp (disch := omega) only [fX5_theCoin_20, fX5_theCoin_70, fX5_theCoin_75, fX5_theCoin_88, wr_id (x := 6), wr_id (x := 1), wr_id (x := -1), wr_id (x := most), wr_id (x := (k : Int)), wr_id (x := fit), wr_id (x := w (b + 1) k), wr_id (x := w (b + 2) k), ag_m4, hp_b, t2, t3, hw3, hi3, if_pos, if_neg, if_true, if_false]
  obtain ⟨fit', most', hfit, hC, hM⟩ := A
  rcases hl with hl | ⟨hl1, hl2, hl3, hl4, hl5⟩
  · refine ⟨fit', most', k, w (b + 1) k, hfit, Or.inr ⟨rfl, rfl⟩, ?_, ?_⟩
    · rw [hC]
      simp (disch := omega) only [fX0_coinUpTo_58, fX0_coinUpTo_78, fX0_coinUpTo_81, wr_id (x := least), if_pos, if_neg, if_true, if_false]
    · rw [hM]
      simp (disch := omega) only [fX5_theCoin_101, fX5_theCoin_116, fX5_theCoin_121, fX5_theCoin_135, fX5_theCoin_149, fX5_theCoin_151, wr_id (x := least), wr_id (x := -1), wr_id (x := 1), if_pos, if_neg, if_true, if_false]
  · by_cases q3 : few ≤ w (b + 1) k
    · refine ⟨fit', most', least, few, hfit, Or.inl ⟨rfl, rfl, by omega⟩, ?_, ?_⟩
      · rw [hC]
        simp (disch := omega) only [fX0_coinUpTo_58, fX0_coinUpTo_78, fX0_coinUpTo_81, wr_id (x := least), wr_id (x := few), wr_id (x := w (b + 1) k), ag_r1 hb, hp_b, tk1, hl3, if_pos, if_neg, if_true, if_false]
      · rw [hM]
        simp (disch := omega) only [fX5_theCoin_101, fX5_theCoin_116, fX5_theCoin_121, fX5_theCoin_135, fX5_theCoin_149, fX5_theCoin_151, wr_id (x := least), wr_id (x := few), wr_id (x := w (b + 1) k), wr_id (x := -1), wr_id (x := 0), if_pos, if_neg, if_true, if_false]
    · refine ⟨fit', most', k, w (b + 1) k, hfit, Or.inr ⟨rfl, rfl⟩, ?_, ?_⟩
      · rw [hC]
        simp (disch := omega) only [fX0_coinUpTo_58, fX0_coinUpTo_78, fX0_coinUpTo_81, wr_id (x := least), wr_id (x := few), wr_id (x := w (b + 1) k), ag_r1 hb, hp_b, tk1, hl3, if_pos, if_neg, if_true, if_false]
      · rw [hM]
        simp (disch := omega) only [fX5_theCoin_101, fX5_theCoin_116, fX5_theCoin_121, fX5_theCoin_135, fX5_theCoin_149, fX5_theCoin_151, wr_id (x := least), wr_id (x := few), wr_id (x := w (b + 1) k), wr_id (x := -1), wr_id (x := 1), if_pos, if_neg, if_true, if_false]
theorem hx_coinL {b : Nat} (hb : hg_rd b) {w v : hg_W} {tk : Int} (hr : ∀ k, k < 6 → (0 ≤ w (b + 1) k ∧ w (b + 1) k ≤ 99 ∧ v 4 (2 * k) = w (b + 1) k) ∧ (0 ≤ w (b + 2) k ∧ w (b + 2) k ≤ 20 ∧ v 4 (2 * k + 1) = w (b + 2) k)) :
    ∀ (m n1 n2 k : Nat) (fit least most few : Int), m < n1 → m < n2 → k + m = 6 → (fit = -1 ∨ (0 ≤ fit ∧ fit < 6 ∧ w (b + 1) fit.toNat = most ∧ 0 ≤ most ∧ most ≤ 99 ∧ 0 < w (b + 2) fit.toNat)) → ((least = -1 ∧ ∀ j, j < k → w (b + 2) j = 0) ∨ (0 ≤ least ∧ least < 6 ∧ w (b + 1) least.toNat = few ∧ 0 ≤ few ∧ few ≤ 99 ∧ 0 < w (b + 2) least.toNat)) → (least = -1 → fit = -1) →
    ∃ r : Int, fX0_coinUpTo_7 b n1 w tk fit least (k : Int) = some (w, r) ∧ fX5_theCoin_20 n2 v tk fit most least few (k : Int) = some (v, r) ∧ ((r = -1 ∧ ∀ j, j < 6 → w (b + 2) j = 0) ∨ (0 ≤ r ∧ r < 6 ∧ 0 < w (b + 2) r.toNat)) := by
  intro m
  induction m with
  | zero =>
    intro n1 n2 k fit least most few h1 h2 hk hf hl hlf
    obtain ⟨n1, rfl⟩ : ∃ z, n1 = z + 1 := ⟨n1 - 1, by omega⟩
    obtain ⟨n2, rfl⟩ : ∃ z, n2 = z + 1 := ⟨n2 - 1, by omega⟩
    have hk6 : k = 6 := by omega
    subst hk6
    rcases hf with hf | ⟨hf1, hf2, hf3, hf4, hf5, hf6⟩
    · subst hf
      refine ⟨least, ?_, ?_, ?_⟩
      · rcases hl with ⟨rfl, -⟩ | hl <;> simp (disch := omega) only [fX0_coinUpTo_7, wr_id, if_pos, if_neg, if_true, if_false]
      · rcases hl with ⟨rfl, -⟩ | hl <;> simp (disch := omega) only [fX5_theCoin_20, wr_id, if_pos, if_neg, if_true, if_false]
      · rcases hl with ⟨rfl, hl⟩ | hl
        · exact Or.inl ⟨rfl, hl⟩
        · exact Or.inr ⟨hl.1, hl.2.1, hl.2.2.2.2.2⟩
    · exact ⟨fit, by simp (disch := omega) only [fX0_coinUpTo_7, wr_id, if_pos, if_neg, if_true, if_false], by simp (disch := omega) only [fX5_theCoin_20, wr_id, if_pos, if_neg, if_true, if_false], Or.inr ⟨hf1, hf2, hf6⟩⟩
  | succ m ih =>
    intro n1 n2 k fit least most few h1 h2 hk hf hl hlf
    obtain ⟨n1, rfl⟩ : ∃ z, n1 = z + 1 := ⟨n1 - 1, by omega⟩
    obtain ⟨n2, rfl⟩ : ∃ z, n2 = z + 1 := ⟨n2 - 1, by omega⟩
    obtain ⟨hw, hi⟩ := hr k (by omega)
    by_cases q : w (b + 2) k ≤ 0
    · have tk1 : (k : Int).toNat = k := by omega
      have t3 : (2 * (k : Int) + 1).toNat = 2 * k + 1 := by omega
      obtain ⟨hi1, hi2, hi3⟩ := hi
      have hC : fX0_coinUpTo_7 b (n1 + 1) w tk fit least (k : Int) = fX0_coinUpTo_7 b n1 w tk fit least ((k + 1 : Nat) : Int) := by
        clear ih hf hl hlf hr
        simp (disch := omega) only [fX0_coinUpTo_7, fX0_coinUpTo_81, wr_id (x := 6), wr_id (x := (k : Int)), wr_id (x := w (b + 2) k), ag_r2 hb, hp_b, tk1, if_pos, if_neg, if_true, if_false]
        rfl
      have hM : fX5_theCoin_20 (n2 + 1) v tk fit most least few (k : Int) = fX5_theCoin_20 n2 v tk fit most least few ((k + 1 : Nat) : Int) := by
        clear ih hf hl hlf hr
        simp (disch := omega) only [fX5_theCoin_20, fX5_theCoin_151, wr_id (x := 6), wr_id (x := (k : Int)), wr_id (x := w (b + 2) k), ag_m4, hp_b, t3, hi3, if_pos, if_neg, if_true, if_false]
        rfl
      rw [hC, hM]
      refine ih n1 n2 (k + 1) fit least most few (by omega) (by omega) (by omega) hf ?_ hlf
      rcases hl with ⟨h3, h4⟩ | hl
      · refine Or.inl ⟨h3, fun j hj => ?_⟩
        rcases (by omega : j < k ∨ j = k) with h | h
        · exact h4 j h
        · rw [h]; omega
      · exact Or.inr hl
    · obtain ⟨fit', most', least', few', e1, e2, hC, hM⟩ := hx_coin1 hb (tk := tk) (n1 := n1) (n2 := n2) (fit := fit) (least := least) (most := most) (few := few) (by omega : k < 6) hw ⟨by omega, hi.2⟩ (by rcases hf with h | h; exact Or.inl h; exact Or.inr ⟨h.1, h.2.1, h.2.2.1, h.2.2.2.1, h.2.2.2.2.1⟩) (by rcases hl with h | h; exact Or.inl h.1; exact Or.inr ⟨h.1, h.2.1, h.2.2.1, h.2.2.2.1, h.2.2.2.2.1⟩)
      rw [hC, hM]
      have tk1 : (k : Int).toNat = k := by omega
      rw [show (k : Int) + 1 = ((k + 1 : Nat) : Int) by omega]
      refine ih n1 n2 (k + 1) fit' least' most' few' (by omega) (by omega) (by omega) ?_ ?_ ?_
      · rcases e1 with ⟨rfl, rfl⟩ | ⟨rfl, rfl⟩
        · exact hf
        · exact Or.inr ⟨by omega, by omega, by rw [tk1], hw.1, hw.2.1, by rw [tk1]; omega⟩
      · rcases e2 with ⟨rfl, rfl, h5⟩ | ⟨rfl, rfl⟩
        · rcases hl with ⟨h6, -⟩ | hl
          · exact absurd h6 h5
          · exact Or.inr hl
        · exact Or.inr ⟨by omega, by omega, by rw [tk1], hw.1, hw.2.1, by rw [tk1]; omega⟩
      · intro h6
        rcases e2 with ⟨h7, -, h5⟩ | ⟨h7, -⟩
        · exact absurd (h7 ▸ h6) h5
        · omega
