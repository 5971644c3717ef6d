/-! ===== sheet, cell, copy ===== -/
theorem hx_c.i2b {x : Int} : hx_c (hg_i2b x) := ⟨Int32.le_toInt _, by unfold hg_i2b; have := Int32.toInt_lt (hg_I x).toInt8.toInt32; omega⟩
theorem hx_c.i2s {x : Int} : hx_c (hg_i2s x) := ⟨Int32.le_toInt _, by unfold hg_i2s; have := Int32.toInt_lt (hg_I x).toInt16.toInt32; omega⟩
theorem hx_A.shO {w v w' v' : hg_W} (h : hx_A w v) (hS : hx_Sh w' v') (hw : ∀ c, (c ≤ 46 ∨ 54 ≤ c) → w' c = w c) (hv : ∀ c, (c < 10 ∨ 12 < c) → v' c = v c) : hx_A w' v' :=
  h.psh (h.2.1.of (hw _ (by omega)) (hw _ (by omega)) (hw _ (by omega)) (hw _ (by omega)) (hw _ (by omega)) (hw _ (by omega)) (hw _ (by omega)) (hw _ (by omega)) (by rw [hw 1 (by omega)]) (hv 0 (by omega)) (hv 1 (by omega)) (hv 2 (by omega)) (hv 3 (by omega)) (hv 4 (by omega))) hS (fun c hc => hw c (by omega)) (by rw [hw 19 (by omega)]) (fun c hc => hv c (by omega)) (by rw [hv 0 (by omega)]) (by rw [hv 0 (by omega)]) (by rw [hv 0 (by omega)])
theorem hx_shZ {s : Nat} (hs : s < 4) : ∀ (m n k : Nat) (v : hg_W), m < n → k + m = 40 → ∃ v', fX5_sheet_70 n v (s : Int) (k : Int) = some (v', 1) ∧ (∀ c, c ≠ 12 → v' c = v c) ∧ ∀ j, v' 12 j = if 40 * s + k ≤ j ∧ j < 40 * s + 40 then 0 else v 12 j := by
  intro m
  induction m with
  | zero =>
    intro n k v h hk
    obtain ⟨n, rfl⟩ : ∃ z, n = z + 1 := ⟨n - 1, by omega⟩
    refine ⟨v, ?_, fun _ _ => rfl, fun j => by rw [if_neg (by omega)]⟩
    simp only [fX5_sheet_70]
    rw [wr_id (x := 40) (by omega) (by omega), wr_id (x := (k : Int)) (by omega) (by omega), if_pos (by omega), hx_wr01.2.1]
  | succ m ih =>
    intro n k v h hk
    obtain ⟨n, rfl⟩ : ∃ z, n = z + 1 := ⟨n - 1, by omega⟩
    obtain ⟨v', g1, g2, g3⟩ := ih n (k + 1) (hg_up v 12 (40 * s + k) 0) (by omega) (by omega)
    refine ⟨v', ?_, fun c hc => (g2 c hc).trans (hg_up_ne c hc), fun j => ?_⟩
    · rw [← g1]
      simp only [fX5_sheet_70]
      rw [wr_id (x := 40) (by omega) (by omega), wr_id (x := (k : Int)) (by omega) (by omega), if_neg (by omega), as_m12 (by omega) (by omega), hp_b, show (40 * (s : Int) + (k : Int)).toNat = 40 * s + k by omega, hx_wr01.1]
      rfl
    · rw [g3 j]
      by_cases q : j = 40 * s + k
      · subst q
        rw [if_neg (by omega), if_pos (by omega), hp_up_eq]
      · simp only [hp_up_k q]
        by_cases q2 : 40 * s + k ≤ j ∧ j < 40 * s + 40
        · rw [if_pos q2, if_pos (by omega)]
        · rw [if_neg q2, if_neg (by omega)]
theorem hx_shNew {w v : hg_W} (h : hx_A w v) {s : Nat} {x y : Int} (hs : s < 4) (hx : -1 ≤ x ∧ x ≤ 2) (hy : 0 ≤ y ∧ y ≤ 40) : hx_ret (fX4_sheet_59 w (s : Int) x y) ((hg_as 1 v 10 (s : Int) x).bind fun w1 => fX5_sheet_66 w1 (s : Int) (s : Int) y) := by
  obtain ⟨w1, g1, g2, g3, g4, g5⟩ := hx_sbe (w := w) (s := s) (x := x) (y := y) hs (by unfold hx_c; omega) (by unfold hx_c; omega)
  obtain ⟨v1, m1, m2, m3⟩ := hx_shZ hs 40 hg_F 0 (hg_up (hg_up v 10 s x) 11 s y) (by unfold hg_F; omega) (by omega)
  have m1' : fX5_sheet_70 hg_F (hg_up (hg_up v 10 s x) 11 s y) (s : Int) 0 = some (v1, 1) := m1
  unfold fX4_sheet_59 fX5_sheet_66
  rw [g1, hp_bd, as_m10 (by omega) (by omega), hp_b, as_m11 (by omega) (by omega), hp_b, show (s : Int).toNat = s by omega, wr_id (x := x) (by omega) (by omega), wr_id (x := y) (by omega) (by omega), m1', hx_wr01.2.1]
  refine ⟨_, _, _, rfl, rfl, h.shO ?_ (fun c hc => g2 c (by omega) (by omega) (by omega)) (fun c hc => by rw [m2 c (by omega), hg_up_ne c (by omega), hg_up_ne c (by omega)])⟩
  intro t ht
  obtain ⟨o1, o2, o3⟩ := h.2.2.2.2 t ht
  have e10 : v1 10 = hg_up v 10 s x 10 := by rw [m2 10 (by omega), hg_up_ne 10 (by omega)]
  rw [g3, g4, e10, m2 11 (by omega)]
  by_cases q : t = s
  · subst q
    rw [hp_up_eq, hp_up_eq, hp_up_eq, hp_up_eq]
    refine ⟨by omega, by omega, fun i hi => ?_⟩
    rw [g5 i hi, m3, if_pos (by omega)]
    exact ⟨by unfold hx_c; omega, rfl⟩
  · rw [hp_up_k q, hp_up_k q, hp_up_k q, hp_up_k q, hp_up_c (by omega)]
    refine ⟨o1, o2, fun i hi => ?_⟩
    rw [m3, if_neg (by omega), hp_up_c (by omega), hp_up_c (by omega), g2 (50 + t) (by omega) (by omega) (by omega)]
    exact o3 i hi
theorem hc_sheet {w v : hg_W} (h : hx_A w v) {a x y : Int} (ha : hx_c a) (hx : hx_c x) (hy : hx_c y) : hx_ret (fX4_sheet w a x y) (fX5_sheet v a x y) := by
  have w2 : wr (-2) = -2 := wr_id (by omega) (by omega)
  unfold fX4_sheet fX5_sheet
  rw [hx_isSheet ha, hp_bd, hx_bif, hx_in ha (by unfold hx_c; omega) (by unfold hx_c; omega), hp_bd, hx_bif, hx_in hx (by unfold hx_c; omega) (by unfold hx_c; omega), hp_bd, hx_bif]
  unfold fX4_sheet_31 fX5_sheet_32 fX4_sheet_43 fX5_sheet_44
  rw [w2, wr_id (x := x) hx.1 hx.2, wr_id (x := y) hy.1 hy.2, wr_id (x := 40) (by omega) (by omega), wr_id (x := 2) (by omega) (by omega), hx_wr01.2.2]
  by_cases q1 : 0 ≤ a ∧ a ≤ 3
  · rw [if_pos q1, if_pos q1]
    obtain ⟨s, rfl⟩ : ∃ s : Nat, a = (s : Int) := ⟨a.toNat, by omega⟩
    by_cases q2 : -1 ≤ x ∧ x ≤ 2
    · rw [if_neg (show ¬ x < -1 by omega), if_neg (show ¬ 2 < x by omega), if_pos q2]
      by_cases q3 : x = -1
      · simp only [if_pos q3]
        exact hx_shNew h (by omega) q2 (by omega)
      · simp only [if_neg q3]
        by_cases q4 : y ≤ 40
        · rw [if_pos q4, if_pos q4]
          by_cases q5 : 0 ≤ y
          · rw [if_pos q5, if_pos q5]
            exact hx_shNew h (by omega) q2 (by omega)
          · rw [if_neg q5, if_neg q5]; exact hx_ret.c h
        · rw [if_neg q4, if_neg q4]; exact hx_ret.c h
    · rw [if_neg q2]
      by_cases q3 : x < -1
      · rw [if_pos q3]; exact hx_ret.c h
      · rw [if_neg q3, if_pos (by omega)]; exact hx_ret.c h
  · rw [if_neg q1, if_neg q1]; exact hx_ret.c h
theorem hx_miss {w v : hg_W} (h : hx_A w v) {s : Nat} (hs : s < 4) : fX1_isMissing w (s : Int) = some (w, if w 47 s = -1 then 1 else 0) := by
  obtain ⟨o1, -, -⟩ := h.2.2.2.2 s hs
  unfold fX1_isMissing
  rw [ag_h47 (by omega) (by omega), hp_b, show (s : Int).toNat = s by omega, wr_id (x := w 47 s) (by omega) (by omega), hx_wr01.1, hx_wr01.2.1]
  simp only [true_or, or_true, if_true, Int.reduceEq]
  by_cases q : w 47 s = -1
  · rw [if_neg (by omega), if_pos q]
  · rw [if_pos (by omega), if_neg q]
theorem hx_cellA {w v : hg_W} (h : hx_A w v) {s i : Nat} {x : Int} (hs : s < 4) (hi : i < 40) (hx : hx_c x) : hx_A (hg_up w (50 + s) i x) (hg_up v 12 (40 * s + i) x) := by
  refine h.shO ?_ (fun c hc => hg_up_ne c (by omega)) (fun c hc => hg_up_ne c (by omega))
  intro t ht
  obtain ⟨o1, o2, o3⟩ := h.2.2.2.2 t ht
  rw [hp_up_c (by omega), hp_up_c (by omega), hp_up_c (by omega), hp_up_c (by omega)]
  refine ⟨o1, o2, fun j hj => ?_⟩
  by_cases q : t = s
  · subst q
    by_cases q2 : j = i
    · rw [q2, hp_up_eq, hp_up_eq]; exact ⟨hx, rfl⟩
    · rw [hp_up_k q2, hp_up_k (by omega)]; exact o3 j hj
  · rw [hp_up_c (by omega), hp_up_k (by omega)]; exact o3 j hj
theorem hc_cell {w v : hg_W} (h : hx_A w v) {a y x : Int} (ha : hx_c a) (hy : hx_c y) (hx : hx_c x) : hx_ret (fX4_cell w a y x) (fX5_cell v a y x) := by
  have w2 : wr (-2) = -2 := wr_id (by omega) (by omega)
  have w11 : wr (-11) = -11 := wr_id (by omega) (by omega)
  have w12 : wr (-12) = -12 := wr_id (by omega) (by omega)
  unfold fX4_cell fX5_cell
  rw [hx_isSheet ha, hp_bd, hx_bif, hx_in ha (by unfold hx_c; omega) (by unfold hx_c; omega), hp_bd, hx_bif, w2, w11, w12, wr_id (x := y) hy.1 hy.2, hx_wr01.2.2]
  by_cases q1 : 0 ≤ a ∧ a ≤ 3
  · rw [if_pos q1, if_pos q1]
    obtain ⟨s, rfl⟩ : ∃ s : Nat, a = (s : Int) := ⟨a.toNat, by omega⟩
    have hs : s < 4 := by omega
    have ts : (s : Int).toNat = s := by omega
    obtain ⟨o1, o2, o3⟩ := h.2.2.2.2 s hs
    rw [hx_miss h hs, hp_bd, hx_bif, ag_m10 (by omega) (by omega), hp_b, ts, o1.2.2, wr_id (x := w 47 s) (by omega) (by omega)]
    by_cases q2 : w 47 s = -1
    · rw [if_pos q2, if_pos q2]; exact hx_ret.c h
    · rw [if_neg q2, if_neg q2, ag_h48 (by omega) (by omega), hp_b, ag_m11 (by omega) (by omega), hp_b, ts, o2.2.2, wr_id (x := w 48 s) (by omega) (by omega), hx_in hy (by unfold hx_c; omega) (by unfold hx_c; omega), hp_bd, hx_bif]
      by_cases q3 : 0 ≤ y ∧ y ≤ w 48 s - 1
      · rw [if_neg (by omega), if_pos (by omega), if_pos q3]
        obtain ⟨i, rfl⟩ : ∃ i : Nat, y = (i : Int) := ⟨y.toNat, by omega⟩
        have ti : (i : Int).toNat = i := by omega
        have tsi : (40 * (s : Int) + (i : Int)).toNat = 40 * s + i := by omega
        unfold fX1_store fX5_cell_84
        rw [ag_h47 (by omega) (by omega), hp_b, ts, wr_id (x := w 47 s) (by omega) (by omega), hx_wr01.2.1]
        rw [hp_ar49 (by omega) (by omega), ts, ag_m10 (by omega) (by omega), ts, o1.2.2]
        simp only [hp_b]
        rw [wr_id (x := w 47 s) (by omega) (by omega)]
        rw [hp_shS (by omega) (by omega) (by omega), hp_shS (by omega) (by omega) (by omega), hp_shS (by omega) (by omega) (by omega), as_m12 (by omega) (by omega), as_m12 (by omega) (by omega), as_m12 (by omega) (by omega), ti, tsi, wr_id (x := hg_i2b x) hx_c.i2b.1 hx_c.i2b.2, wr_id (x := hg_i2s x) hx_c.i2s.1 hx_c.i2s.2, wr_id (x := x) hx.1 hx.2]
        simp only [hp_b]
        by_cases c0 : w 47 s = 0
        · rw [if_pos c0, if_pos c0, hp_bd]
          exact ⟨_, _, _, rfl, rfl, hx_cellA h hs (by omega) hx_c.i2b⟩
        · rw [if_neg c0, if_neg c0]
          by_cases c1 : w 47 s = 1
          · rw [if_pos c1, if_pos c1, hp_bd]
            exact ⟨_, _, _, rfl, rfl, hx_cellA h hs (by omega) hx_c.i2s⟩
          · rw [if_neg c1, if_neg c1, hp_bd]
            exact ⟨_, _, _, rfl, rfl, hx_cellA h hs (by omega) hx⟩
      · rw [if_neg q3]
        by_cases q4 : y < 0
        · rw [if_pos q4]; exact hx_ret.c h
        · rw [if_neg q4, if_neg (by omega)]; exact hx_ret.c h
  · rw [if_neg q1, if_neg q1]; exact hx_ret.c h
