/-! ===== seating: how far one order lets them differ ===== -/
theorem hz_mm {w v : hg_W} (hR : hx_R 28 w v) : ∀ (m n1 n2 k : Nat) (x y : Int), m < n1 → m < n2 → (k : Int) + m = w 28 9 → 0 ≤ y → y ≤ x → x ≤ 9999 → ∃ d : Int, fX4_differByOrder_90 n1 w (w 28 9) x y (k : Int) = some (w, d) ∧ fX5_differBy_58 n2 v x y (k : Int) = some (v, d) ∧ 0 ≤ d ∧ d ≤ 9999 := by
  have r3 := hR.2.2.1
  intro m
  induction m with
  | zero =>
    intro n1 n2 k x y h1 h2 hk hy hxy hx
    obtain ⟨n1, rfl⟩ : ∃ z, n1 = z + 1 := ⟨n1 - 1, by omega⟩
    obtain ⟨n2, rfl⟩ : ∃ z, n2 = z + 1 := ⟨n2 - 1, by omega⟩
    simp only [fX4_differByOrder_90, fX5_differBy_58]
    rw [r3.2.2, wr_id (x := w 28 9) (by omega) (by omega), wr_id (x := (k : Int)) (by omega) (by omega), if_pos (by omega), if_pos (by omega), wr_id (x := x - y) (by omega) (by omega)]
    exact ⟨_, rfl, rfl, by omega, by omega⟩
  | succ m ih =>
    intro n1 n2 k x y h1 h2 hk hy hxy hx
    obtain ⟨n1, rfl⟩ : ∃ z, n1 = z + 1 := ⟨n1 - 1, by omega⟩
    obtain ⟨n2, rfl⟩ : ∃ z, n2 = z + 1 := ⟨n2 - 1, by omega⟩
    obtain ⟨-, -, -, kq, -⟩ := hR.1 k (by omega)
    obtain ⟨P, hP⟩ : ∃ P, P = w (28 + 6) k := ⟨_, rfl⟩
    rw [← hP] at kq
    simp only [fX4_differByOrder_90, fX5_differBy_58]
    rw [r3.2.2, wr_id (x := w 28 9) (by omega) (by omega), wr_id (x := (k : Int)) (by omega) (by omega), if_neg (by omega), if_neg (by omega), show (34 : Nat) = 28 + 6 from rfl, ag_r6 hx_r28 (by omega) (by omega), hp_b, hp_b, ag_m3 (by omega) (by omega), show (k : Int).toNat = k by omega, show (3 * (k : Int) + 1).toNat = 3 * k + 1 by omega, ← hP, kq.2.2]
    simp only [hp_b]
    unfold fX5_differBy_97 fX5_differBy_128
    rw [ag_m3 (by omega) (by omega), show (3 * (k : Int) + 1).toNat = 3 * k + 1 by omega, kq.2.2]
    simp only [hp_b]
    rw [hx_mx (by omega) (by omega), hx_mn (by omega) (by omega), wr_id (x := x) (by omega) (by omega), wr_id (x := y) (by omega) (by omega), wr_id (x := P) (by omega) (by omega), show (k : Int) + 1 = ((k + 1 : Nat) : Int) by omega]
    by_cases q1 : P ≤ x
    · rw [if_neg (show ¬ x < P by omega), if_pos q1]
      by_cases q2 : y ≤ P
      · rw [if_neg (show ¬ P < y by omega), if_pos q2]
        exact ih n1 n2 (k + 1) x y (by omega) (by omega) (by omega) hy hxy hx
      · rw [if_pos (show P < y by omega), if_neg q2]
        exact ih n1 n2 (k + 1) x P (by omega) (by omega) (by omega) (by omega) (by omega) hx
    · rw [if_pos (show x < P by omega), if_neg q1]
      by_cases q2 : y ≤ P
      · rw [if_neg (show ¬ P < y by omega), if_pos q2]
        exact ih n1 n2 (k + 1) P y (by omega) (by omega) (by omega) hy (by omega) (by omega)
      · exact absurd q2 (by omega)
theorem hz_go {o : Nat → Nat} : ∀ (m n1 n2 pos : Nat) (w v : hg_W) (i : Int), m < n1 → m < n2 → w 28 10 = (m : Int) → 0 ≤ i → i + m ≤ 120 → hx_T w v → hx_R 28 w v → (pos : Int) < w 28 9 → (∀ k : Nat, (k : Int) < w 28 9 → (w 55 k = (o k : Int) ∧ v 19 k = (o k : Int) ∧ (o k : Int) < w 28 9)) → ∃ (w' v' : hg_W) (d : Int), fX4_differByOrder_23 n1 w (w 28 9) (pos : Int) i = some (w', d) ∧ fX5_differBy_2 n2 v (pos : Int) = some (v', d) ∧ hx_FC 28 w w' ∧ hx_FM v v' ∧ 0 ≤ d ∧ d ≤ 9999 := by
  intro m
  induction m with
  | zero =>
    intro n1 n2 pos w v i h1 h2 hc hi hi2 hT hR hpos ho
    obtain ⟨n1, rfl⟩ : ∃ z, n1 = z + 1 := ⟨n1 - 1, by omega⟩
    obtain ⟨n2, rfl⟩ : ∃ z, n2 = z + 1 := ⟨n2 - 1, by omega⟩
    have r3 := hR.2.2.1
    have hcs := hx_cs_eq hR
    obtain ⟨-, -, -, kq, -⟩ := hR.1 0 (by omega)
    obtain ⟨d, g1, g2, g3, g4⟩ := hz_mm hR (w 28 9 - 1).toNat hg_F hg_F 1 (w (28 + 6) 0) (w (28 + 6) 0) (by unfold hg_F; omega) (by unfold hg_F; omega) (by omega) kq.1 (Int.le_refl _) kq.2.1
    have g1' : fX4_differByOrder_90 hg_F w (w 28 9) (w (28 + 6) 0) (w (28 + 6) 0) 1 = some (w, d) := g1
    have g2' : fX5_differBy_58 hg_F v (w (28 + 6) 0) (w (28 + 6) 0) 1 = some (v, d) := g2
    refine ⟨w, v, d, ?_, ?_, hx_FC.rf, hx_FM.rf, g3, g4⟩
    · simp only [fX4_differByOrder_23]
      unfold fX4_differByOrder_74
      rw [hc, wr_id (x := ((0 : Nat) : Int)) (by omega) (by omega), if_pos (show ((0 : Nat) : Int) ≤ 0 by omega), ite_self, show (34 : Nat) = 28 + 6 from rfl, ag_r6 hx_r28 (by omega) (by omega), hp_b]
      exact g1'
    · simp only [fX5_differBy_2]
      rw [hx_coins, hp_bd, hcs.1, hc, wr_wr, wr_id (x := ((0 : Nat) : Int)) (by omega) (by omega), if_pos (show ((0 : Nat) : Int) ≤ 0 by omega), ag_m3 (by omega) (by omega), hp_b, hp_b, show (1 : Int).toNat = 3 * 0 + 1 from rfl, kq.2.2]
      exact g2'
  | succ m ih =>
    intro n1 n2 pos w v i h1 h2 hc hi hi2 hT hR hpos ho
    obtain ⟨n1, rfl⟩ : ∃ z, n1 = z + 1 := ⟨n1 - 1, by omega⟩
    obtain ⟨n2, rfl⟩ : ∃ z, n2 = z + 1 := ⟨n2 - 1, by omega⟩
    have r3 := hR.2.2.1
    have hcs := hx_cs_eq hR
    obtain ⟨o1, o2, o3⟩ := ho pos hpos
    obtain ⟨w1, v1, r, g1, g2, hR1, f1, m1, k1, e11, hr⟩ := hx_take hx_r28 hT hR (p := o pos) o3
    have hT1 := hT.fr hx_r28 f1 m1
    have e9 := k1.1
    have nxt : ∀ p' : Nat, (p' : Int) < w 28 9 → ∃ (w' v' : hg_W) (d : Int), fX4_differByOrder_23 n1 w1 (w 28 9) (p' : Int) (i + 1) = some (w', d) ∧ fX5_differBy_2 n2 v1 (p' : Int) = some (v', d) ∧ hx_FC 28 w w' ∧ hx_FM v v' ∧ 0 ≤ d ∧ d ≤ 9999 := by
      intro p' hp'
      obtain ⟨w', v', d, l1, l2, l3, l4, l5, l6⟩ := ih n1 n2 p' w1 v1 (i + 1) (by omega) (by omega) (by omega) (by omega) (by omega) hT1 hR1 (by omega) (fun k hk => by
        rw [e9] at hk ⊢
        rw [f1 55 (by omega) (by omega), m1.1 19 (by omega) (by omega) (by omega) (by omega) (by omega)]
        exact ho k hk)
      rw [e9] at l1
      exact ⟨w', v', d, l1, l2, f1.tr l3, m1.tr l4, l5, l6⟩
    have tp : (pos : Int).toNat = pos := by omega
    have wp : wr ((pos : Int) + 1) = (pos : Int) + 1 := wr_id (by omega) (by omega)
    have w9 : wr (w 28 9) = w 28 9 := wr_id (by omega) (by omega)
    simp only [fX4_differByOrder_23, fX5_differBy_2]
    rw [wr_id (x := 120) (by omega) (by omega), wr_id (x := i) (by omega) (by omega), if_neg (show ¬ (120 : Int) ≤ i by omega), wr_id (x := w 28 10) (by omega) (by omega), if_neg (show ¬ w 28 10 ≤ 0 by omega), ag_h55 (by omega) (by omega), hp_b, tp, o1, g1, hp_bd, hx_coins, hp_bd, hcs.1, wr_wr, wr_id (x := w 28 10) (by omega) (by omega), if_neg (show ¬ w 28 10 ≤ 0 by omega), ag_m19 (by omega) (by omega), hp_b, tp, o2, g2, hp_bd, hR1.2.2.1.2.2, e9, w9, wp]
    unfold fX4_differByOrder_67 fX5_differBy_37
    by_cases q : (pos : Int) + 1 = w 28 9
    · rw [if_pos (by omega), if_pos q]
      exact nxt 0 (by omega)
    · rw [if_neg (by omega), if_neg q, show (pos : Int) + 1 = ((pos + 1 : Nat) : Int) by omega]
      exact nxt (pos + 1) (by omega)
