/-! ===== pewBy, taken, image, back ===== -/
theorem hx_pewL {s : Nat} (hs : s < 4) {x : Int} (hx : hx_c x) : ∀ (m n1 n2 k : Nat) (w v : hg_W) (c : Int), m < n1 → m < n2 → k + m ≤ 6 → hx_A w v → 0 ≤ c → c ≤ k → (k = 0 ∨ 0 ≤ x ∧ x ≤ 38) → hx_ret (fX4_pewBy_67 n1 w (s : Int) x ((k + m : Nat) : Int) c (k : Int)) (fX5_pewBy_64 n2 v (s : Int) x ((k + m : Nat) : Int) c (k : Int)) := by
  unfold hx_c at hx
  intro m
  induction m with
  | zero =>
    intro n1 n2 k w v c h1 h2 hk h hc1 hc2 hkx
    obtain ⟨n1, rfl⟩ : ∃ z, n1 = z + 1 := ⟨n1 - 1, by omega⟩
    obtain ⟨n2, rfl⟩ : ∃ z, n2 = z + 1 := ⟨n2 - 1, by omega⟩
    simp only [fX4_pewBy_67, fX5_pewBy_64]
    rw [wr_id (x := ((k + 0 : Nat) : Int)) (by omega) (by omega), wr_id (x := (k : Int)) (by omega) (by omega), if_pos (by omega), if_pos (by omega)]
    exact hx_ret.c h
  | succ m ih =>
    intro n1 n2 k w v c h1 h2 hk h hc1 hc2 hkx
    obtain ⟨n1, rfl⟩ : ∃ z, n1 = z + 1 := ⟨n1 - 1, by omega⟩
    obtain ⟨n2, rfl⟩ : ∃ z, n2 = z + 1 := ⟨n2 - 1, by omega⟩
    obtain ⟨o1, o2, o3⟩ := h.2.2.2.2 s hs
    have ts : (s : Int).toNat = s := by omega
    have w12 : wr (-12) = -12 := wr_id (by omega) (by omega)
    simp only [fX4_pewBy_67, fX5_pewBy_64]
    rw [wr_id (x := ((k + (m + 1) : Nat) : Int)) (by omega) (by omega), wr_id (x := (k : Int)) (by omega) (by omega), if_neg (show ¬ ((k + (m + 1) : Nat) : Int) ≤ (k : Int) by omega), if_neg (show ¬ ((k + (m + 1) : Nat) : Int) ≤ (k : Int) by omega), w12, wr_id (x := x) hx.1 hx.2, ag_h48 (by omega) (by omega), hp_b, ag_m11 (by omega) (by omega), hp_b, ts, o2.2.2, wr_id (x := w 48 s - 2) (by omega) (by omega)]
    by_cases q : 0 ≤ x
    · rw [if_neg (show ¬ x < 0 by omega)]
      by_cases q1 : x + 2 * (k : Int) ≤ w 48 s - 2
      · have hi : 0 ≤ x + 2 * (k : Int) ∧ x + 2 * (k : Int) ≤ 38 := by omega
        rw [wr_id (x := x + 2 * (k : Int)) (by omega) (by omega), if_neg (show ¬ x + 2 * (k : Int) < 0 by omega), if_neg (show ¬ x + 2 * (k : Int) < x by omega), if_pos q1, if_pos q1]
        obtain ⟨i, hi2⟩ : ∃ i : Nat, (i : Int) = x + 2 * (k : Int) := ⟨(x + 2 * (k : Int)).toNat, by omega⟩
        rw [← hi2, hp_ar49 (by omega) (by omega), hp_b, ts]
        obtain ⟨c1, e1⟩ := o3 i (by omega)
        obtain ⟨c2, e2⟩ := o3 (i + 1) (by omega)
        rw [hp_sh (by omega) (by omega) (by omega), hp_b, hp_b, hp_sh (by omega) (by omega) (by omega), hp_b, ag_m12 (by omega) (by omega), hp_b, ag_m12 (by omega) (by omega), hp_b, show (i : Int).toNat = i by omega, show ((i : Int) + 1).toNat = i + 1 by omega, show (40 * (s : Int) + (i : Int)).toNat = 40 * s + i by omega, show (40 * (s : Int) + (i : Int) + 1).toNat = 40 * s + (i + 1) by omega, e1, e2]
        obtain ⟨w', v', r, g1, g2, g3, g4, -, -⟩ := hc_person h c1 c2
        rw [g1, g2, hp_bd, hp_bd, wr_id (x := r) g4.1 g4.2]
        unfold fX4_pewBy_142 fX5_pewBy_144
        rw [show (k : Int) + 1 = ((k + 1 : Nat) : Int) by omega, show k + (m + 1) = (k + 1) + m by omega]
        by_cases q2 : r < 0
        · rw [if_pos q2, if_pos q2, Int.add_zero]
          exact ih n1 n2 (k + 1) w' v' c (by omega) (by omega) (by omega) g3 hc1 (by omega) (Or.inr (by omega))
        · rw [if_neg q2, if_neg q2]
          exact ih n1 n2 (k + 1) w' v' (c + 1) (by omega) (by omega) (by omega) g3 (by omega) (by omega) (Or.inr (by omega))
      · have key : (wr (x + 2 * (k : Int)) < 0 ∨ ¬ wr (x + 2 * (k : Int)) ≤ w 48 s - 2) ∧ (wr (x + 2 * (k : Int)) < x ∨ ¬ wr (x + 2 * (k : Int)) ≤ w 48 s - 2) := by
          rcases hkx with rfl | hkx
          · rw [wr_id (x := x + 2 * ((0 : Nat) : Int)) (by omega) (by omega)]; omega
          · rw [wr_id (x := x + 2 * (k : Int)) (by omega) (by omega)]; omega
        obtain ⟨k1, k2⟩ := key
        by_cases q2 : wr (x + 2 * (k : Int)) ≤ w 48 s - 2
        · rw [if_pos (show wr (x + 2 * (k : Int)) < 0 by omega), if_pos (show wr (x + 2 * (k : Int)) < x by omega)]
          exact hx_ret.c h
        · rw [if_neg q2, if_neg q2, ite_self, ite_self]
          exact hx_ret.c h
    · rw [if_pos (show x < 0 by omega)]
      have k0 : k = 0 := by omega
      subst k0
      rw [wr_id (x := x + 2 * ((0 : Nat) : Int)) (by omega) (by omega), if_pos (show x + 2 * ((0 : Nat) : Int) < 0 by omega)]
      exact hx_ret.c h
theorem hc_pewBy {w v : hg_W} (h : hx_A w v) {a x y n : Int} (ha : hx_c a) (hx : hx_c x) (hy : hx_c y) (hn : hx_c n) : hx_ret (fX4_pewBy w a x y n) (fX5_pewBy v a x y n) := by
  have w2 : wr (-2) = -2 := wr_id (by omega) (by omega)
  have w11 : wr (-11) = -11 := wr_id (by omega) (by omega)
  have w13 : wr (-13) = -13 := wr_id (by omega) (by omega)
  unfold fX4_pewBy fX5_pewBy
  rw [hx_isSheet ha, hp_bd, hx_bif, hx_in ha (by unfold hx_c; omega) (by unfold hx_c; omega), hp_bd, hx_bif, hx_in hx (by unfold hx_c; omega) (by unfold hx_c; omega), hp_bd, hx_bif, hx_in hn (by unfold hx_c; omega) (by unfold hx_c; omega), hp_bd, hx_bif, w2, w11, w13, wr_id (x := x) hx.1 hx.2, wr_id (x := n) hn.1 hn.2, hx_wr01.2.2, wr_id (x := 2) (by omega) (by omega), wr_id (x := 6) (by omega) (by omega)]
  by_cases q1 : 0 ≤ a ∧ a ≤ 3
  · rw [if_pos q1, if_pos q1]
    obtain ⟨s, rfl⟩ : ∃ s : Nat, a = (s : Int) := ⟨a.toNat, by omega⟩
    have hs : s < 4 := by omega
    have ts : (s : Int).toNat = s := by omega
    obtain ⟨o1, o2, o3⟩ := h.2.2.2.2 s hs
    by_cases q2 : 0 ≤ x ∧ x ≤ 2
    · rw [if_neg (show ¬ x < 0 by omega), if_neg (show ¬ 2 < x by omega), if_pos q2]
      by_cases q3 : 0 ≤ n ∧ n ≤ 6
      · rw [if_neg (show ¬ n < 0 by omega), if_pos (show n ≤ 6 by omega), if_pos q3, hx_miss h hs, hp_bd, hx_bif, ag_m10 (by omega) (by omega), hp_b, hp_b, ts, o1.2.2, wr_id (x := w 47 s) (by omega) (by omega)]
        by_cases q4 : w 47 s = -1
        · rw [if_pos q4, if_pos q4]; exact hx_ret.c h
        · rw [if_neg q4, if_neg q4, ag_h47 (by omega) (by omega), hp_b, ts, wr_id (x := w 47 s) (by omega) (by omega)]
          by_cases q5 : w 47 s = x
          · rw [if_pos q5, if_pos q5]
            have g := hx_pewL hs hy n.toNat hg_F hg_F 0 w v 0 (by unfold hg_F; omega) (by unfold hg_F; omega) (by omega) h (by omega) (by omega) (Or.inl rfl)
            rw [show ((0 + n.toNat : Nat) : Int) = n by omega] at g
            exact g
          · rw [if_neg q5, if_neg q5]; exact hx_ret.c h
      · rw [if_neg q3]
        by_cases q4 : n < 0
        · rw [if_pos q4]; exact hx_ret.c h
        · rw [if_neg q4, if_neg (by omega)]; exact hx_ret.c h
    · rw [if_neg q2]
      by_cases q3 : x < 0
      · rw [if_pos q3]; exact hx_ret.c h
      · rw [if_neg q3, if_pos (by omega)]; exact hx_ret.c h
  · rw [if_neg q1, if_neg q1]; exact hx_ret.c h
theorem hx_under {w v : hg_W} {k x : Int} (hk : 0 ≤ k ∧ k ≤ 5) (hx : 0 ≤ x ∧ x ≤ 5) : ∃ b : Int, fX4_isOneOf w k x = some (w, b) ∧ fX5_isUnder v k x = some (v, b) := by
  unfold fX4_isOneOf fX4_isOneOf_40 fX4_isOneOf_56 fX5_isUnder fX5_isUnder_29 fX5_isUnder_19
  rw [wr_id (x := k) (by omega) (by omega), wr_id (x := x) (by omega) (by omega), hx_wr01.1, hx_wr01.2.1, wr_id (x := 2) (by omega) (by omega), wr_id (x := 3) (by omega) (by omega), wr_id (x := 4) (by omega) (by omega)]
  simp only [true_or, or_true, if_true, Int.reduceEq]
  rcases (by omega : x = 0 ∨ x = 1 ∨ x = 2 ∨ 3 ≤ x) with rfl | rfl | rfl | q
  · simp only [if_true]; exact ⟨1, rfl, rfl⟩
  · simp only [Int.reduceEq, if_true, if_false]
    by_cases q1 : k = 1
    · rw [if_pos q1, if_pos q1]; exact ⟨1, rfl, rfl⟩
    · rw [if_neg q1, if_neg q1]
      by_cases q2 : k = 3
      · rw [if_pos q2, if_pos q2]; exact ⟨1, rfl, rfl⟩
      · rw [if_neg q2, if_neg q2]; exact ⟨0, rfl, rfl⟩
  · simp only [Int.reduceEq, if_true, if_false]
    by_cases q1 : k = 2
    · rw [if_pos q1, if_pos q1]; exact ⟨1, rfl, rfl⟩
    · rw [if_neg q1, if_neg q1]
      by_cases q2 : k = 4
      · rw [if_pos q2, if_pos q2]; exact ⟨1, rfl, rfl⟩
      · rw [if_neg q2, if_neg q2]; exact ⟨0, rfl, rfl⟩
  · simp only [if_neg (show ¬ x = 0 by omega), if_neg (show ¬ x = 1 by omega), if_neg (show ¬ x = 2 by omega)]
    by_cases q1 : k = x
    · rw [if_pos q1, if_pos q1]; exact ⟨1, rfl, rfl⟩
    · rw [if_neg q1, if_neg q1]; exact ⟨0, rfl, rfl⟩
theorem hc_taken {w v : hg_W} (h : hx_A w v) {a x : Int} (ha : hx_c a) (hx : hx_c x) : hx_ret (fX4_taken w a x) (fX5_taken v a x) := by
  obtain ⟨hT, hR, hTp, hIm, hSh⟩ := id h
  have r3 := hR.2.2.1
  unfold fX4_taken fX5_taken
  rw [hx_in hx (by unfold hx_c; omega) (by unfold hx_c; omega), hp_bd, hx_bif, hx_in ha (by unfold hx_c; omega) (by unfold hx_c; omega), hp_bd, hx_bif, wr_id (x := a) ha.1 ha.2, wr_id (x := x) hx.1 hx.2, wr_id (x := 6) (by omega) (by omega), wr_id (x := 12) (by omega) (by omega), r3.2.2, wr_id (x := w 19 9) (by omega) (by omega), hx_isThere ha ⟨r3.1, r3.2.1⟩, hp_bd, hx_bif]
  by_cases q1 : 0 ≤ x ∧ x ≤ 6
  · rw [if_neg (show ¬ x < 0 by omega), if_pos (show x ≤ 6 by omega), if_pos q1]
    by_cases q2 : 0 ≤ a ∧ a ≤ 11
    · rw [if_neg (show ¬ a < 0 by omega), if_pos (show a < 12 by omega), if_pos q2]
      by_cases q3 : a < 6
      · rw [if_pos q3, if_pos q3]
        by_cases q4 : a < w 19 9
        · rw [if_pos (show 0 ≤ a ∧ a < w 19 9 by omega), if_pos q4]
          obtain ⟨p, rfl⟩ : ∃ p : Nat, a = (p : Int) := ⟨a.toNat, by omega⟩
          obtain ⟨kk, km⟩ := hR.2.1 p (by omega)
          rw [show (22 : Nat) = 19 + 3 from rfl, ag_r3 hx_r19 (by omega) (by omega), hp_b, ag_m1 (by omega) (by omega), hp_b, show (p : Int).toNat = p by omega, kk.2.2]
          by_cases q5 : 6 ≤ x
          · rw [if_pos q5]
            obtain rfl : x = 6 := by omega
            unfold fX4_isOneOf
            rw [wr_id (x := 6) (by omega) (by omega), hx_wr01.1, wr_id (x := w (19 + 3) p) (by omega) (by omega)]
            simp only [true_or, or_true, if_true, Int.reduceEq, if_false]
            rw [if_neg (by omega), hp_bd, hx_wr01.1, if_pos rfl]
            exact hx_ret.c h
          · rw [if_neg q5]
            obtain ⟨b, e1, e2⟩ := hx_under (w := w) (v := v) (k := w (19 + 3) p) (x := x) ⟨kk.1, kk.2.1⟩ (by omega)
            rw [e1, e2, hp_bd, hp_bd]
            split
            · exact hx_ret.c h
            · exact hx_ret.c h
        · rw [if_neg (show ¬ (0 ≤ a ∧ a < w 19 9) by omega), if_neg q4]; exact hx_ret.c h
      · rw [if_neg q3, if_neg q3]
        by_cases q4 : x = 6
        · rw [if_pos q4, if_pos q4]
          obtain ⟨k, hk⟩ : ∃ k : Nat, a - 6 = (k : Int) := ⟨(a - 6).toNat, by omega⟩
          obtain ⟨-, ki, -⟩ := hR.1 k (by omega)
          rw [hk, show (21 : Nat) = 19 + 2 from rfl, ag_r2 hx_r19 (by omega) (by omega), hp_b, ag_m4 (by omega) (by omega), hp_b, show (k : Int).toNat = k by omega, show (2 * (k : Int) + 1).toNat = 2 * k + 1 by omega, ki.2.2]
          exact hx_ret.c h
        · rw [if_neg q4, if_neg q4]; exact hx_ret.c h
    · rw [if_neg q2]
      by_cases q3 : a < 0
      · rw [if_pos q3]; exact hx_ret.c h
      · rw [if_neg q3, if_neg (by omega)]; exact hx_ret.c h
  · rw [if_neg q1]
    by_cases q2 : x < 0
    · rw [if_pos q2]; exact hx_ret.c h
    · rw [if_neg q2, if_neg (by omega)]; exact hx_ret.c h
