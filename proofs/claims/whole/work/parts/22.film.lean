/-! ===== film ===== -/
theorem hx_A.psh {w v w' v' : hg_W} (h : hx_A w v) (hR : hx_R 19 w' v') (hS : hx_Sh w' v') (hw : ∀ c, (c < 16 ∨ c = 17 ∨ c = 18 ∨ 37 ≤ c ∧ c ≤ 46) → w' c = w c) (h9 : w' 19 9 = w 19 9) (hv : ∀ c, (1 ≤ c ∧ c ≤ 2 ∨ 5 ≤ c ∧ c ≤ 9 ∨ c = 14) → v' c = v c) (h8 : v' 0 8 = v 0 8) (h11 : v' 0 11 = v 0 11) (h13 : v' 0 13 = v 0 13) : hx_A w' v' := by
  obtain ⟨hT, -, hTp, hIm, -⟩ := h
  refine ⟨hT.of (fun c h1 h2 => hw c (Or.inl h2)) h11 (hv 6 (by omega)) (hv 7 (by omega)), hR, ?_, ?_, hS⟩
  · unfold hx_Tp at hTp ⊢
    rw [hw 17 (by omega), hw 18 (by omega), hv 5 (by omega), hv 14 (by omega), h8]
    exact hTp
  · unfold hx_Im at hIm ⊢
    rw [hw 0 (by omega), h13, h9, hw 37 (by omega)]
    refine ⟨hIm.1, hIm.2.1, fun h1 => ⟨?_, (hIm.2.2 h1).2⟩⟩
    refine (hIm.2.2 h1).1.of (hw _ (by omega)) (hw _ (by omega)) (hw _ (by omega)) (hw _ (by omega)) (hw _ (by omega)) (hw _ (by omega)) (hw _ (by omega)) (hw _ (by omega)) (by rw [hw 1 (by omega)]) ?_ ?_ ?_ ?_ ?_
    · funext k; unfold hx_iv; rw [hv 9 (by omega)]; rfl
    · funext k; unfold hx_iv; simp only [Nat.reduceEqDiff, if_false]; rw [hv 1 (by omega)]
    · funext k; unfold hx_iv; simp only [Nat.reduceEqDiff, if_false]; rw [hv 2 (by omega)]
    · funext k; unfold hx_iv; rw [hv 8 (by omega)]; rfl
    · funext k; unfold hx_iv; rw [hv 8 (by omega)]; rfl
theorem hx_Q.sh {w v w' v' : hg_W} (h : hx_Q w v) (hw : ∀ c, (c < 16 ∨ 28 ≤ c ∧ c ≤ 36) → w' c = w c) (hv : ∀ c, c ≠ 12 → v' c = v c) : hx_Q w' v' := by
  obtain ⟨vs, hT, hR, hd⟩ := h
  have hR2 : ∀ {a b c : hg_W}, hx_R 28 a b → (∀ c, (c < 16 ∨ 28 ≤ c ∧ c ≤ 36) → c = c) → True := fun _ _ => trivial
  rcases hd with rfl | ⟨h1, w2, h2, h3⟩
  · refine ⟨v', hT.of (fun c _ _ => hw c (by omega)) (by rw [hv 0 (by omega)]) (hv 6 (by omega)) (hv 7 (by omega)), hR.of (hw _ (by omega)) (hw _ (by omega)) (hw _ (by omega)) (hw _ (by omega)) (hw _ (by omega)) (hw _ (by omega)) (hw _ (by omega)) (hw _ (by omega)) (by rw [hw 1 (by omega)]) (hv 0 (by omega)) (hv 1 (by omega)) (hv 2 (by omega)) (hv 3 (by omega)) (hv 4 (by omega)), Or.inl rfl⟩
  · refine ⟨vs, hT.of (fun c _ _ => hw c (by omega)) rfl rfl rfl, hR.of (hw _ (by omega)) (hw _ (by omega)) (hw _ (by omega)) (hw _ (by omega)) (hw _ (by omega)) (hw _ (by omega)) (hw _ (by omega)) (hw _ (by omega)) (by rw [hw 1 (by omega)]) rfl rfl rfl rfl rfl, Or.inr ⟨by rw [hw 28 (by omega)]; exact h1, w2, h2.of rfl rfl rfl rfl rfl rfl rfl rfl rfl (hv 0 (by omega)) (hv 1 (by omega)) (hv 2 (by omega)) (hv 3 (by omega)) (hv 4 (by omega)), h3⟩⟩
/-! a sheet made anew -/
theorem hx_sbeL {s : Nat} (hs : s < 4) : ∀ (m n k : Nat) (w : hg_W), m < n → k + m = 40 → ∃ w', fX1_become_17 n w (s : Int) (k : Int) = some (w', 0) ∧ (∀ c, c ≠ 50 + s → w' c = w c) ∧ ∀ j, w' (50 + s) j = if k ≤ j ∧ j < 40 then 0 else w (50 + s) j := by
  intro m
  induction m with
  | zero =>
    intro n k w h hk
    obtain ⟨n, rfl⟩ : ∃ z, n = z + 1 := ⟨n - 1, by omega⟩
    refine ⟨w, ?_, fun _ _ => rfl, fun j => by rw [if_neg (by omega)]⟩
    simp only [fX1_become_17]
    rw [wr_id (x := 40) (by omega) (by omega), wr_id (x := (k : Int)) (by omega) (by omega), if_pos (by omega)]
  | succ m ih =>
    intro n k w h hk
    obtain ⟨n, rfl⟩ : ∃ z, n = z + 1 := ⟨n - 1, by omega⟩
    obtain ⟨w', g1, g2, g3⟩ := ih n (k + 1) (hg_up w (50 + s) k 0) (by omega) (by omega)
    refine ⟨w', ?_, fun c hc => (g2 c hc).trans (hg_up_ne c hc), fun j => ?_⟩
    · rw [← g1]
      simp only [fX1_become_17]
      rw [wr_id (x := 40) (by omega) (by omega), wr_id (x := (k : Int)) (by omega) (by omega), if_neg (by omega), hp_ar49 (by omega) (by omega), hp_b, show (s : Int).toNat = s by omega, hp_shS (by omega) (by omega) (by omega), hp_b, show (k : Int).toNat = k by omega, hx_wr01.1]
      rfl
    · rw [g3 j]
      by_cases q : j = k
      · subst q
        rw [if_neg (by omega), if_pos (by omega), hp_up_eq]
      · simp only [hp_up_k q]
        by_cases q2 : k ≤ j ∧ j < 40
        · rw [if_pos q2, if_pos (by omega)]
        · rw [if_neg q2, if_neg (by omega)]
theorem hx_sbe {w : hg_W} {s : Nat} {x y : Int} (hs : s < 4) (hx : hx_c x) (hy : hx_c y) : ∃ w', fX1_become w (s : Int) x y = some (w', 0) ∧ (∀ c, c ≠ 47 → c ≠ 48 → c ≠ 50 + s → w' c = w c) ∧ w' 47 = hg_up w 47 s x 47 ∧ w' 48 = hg_up w 48 s y 48 ∧ ∀ j, j < 40 → w' (50 + s) j = 0 := by
  obtain ⟨w', g1, g2, g3⟩ := hx_sbeL hs 40 hg_F 0 (hg_up (hg_up w 47 s x) 48 s y) (by unfold hg_F; omega) (by omega)
  refine ⟨w', ?_, fun c h1 h2 h3 => by rw [g2 c h3, hg_up_ne c h2, hg_up_ne c h1], ?_, ?_, fun j hj => by rw [g3 j, if_pos (by omega)]⟩
  · unfold fX1_become
    rw [as_h47 (by omega) (by omega), hp_b, as_h48 (by omega) (by omega), hp_b, show (s : Int).toNat = s by omega, wr_id (x := x) hx.1 hx.2, wr_id (x := y) hy.1 hy.2]
    exact g1
  · rw [g2 47 (by omega), hg_up_ne 47 (by omega)]
  · rw [g2 48 (by omega)]
    funext k
    by_cases q : k = s
    · subst q; rw [hp_up_eq, hp_up_eq]
    · simp only [hp_up_k q]
theorem hx_filmZ {s : Nat} (hs : s < 4) {y : Int} (hy : 0 ≤ y ∧ y ≤ 40) : ∀ (m n k : Nat) (v : hg_W), m < n → k + m = 40 → y ≤ k → ∃ v', fX5_film_45 n v (s : Int) y (k : Int) = (hg_bd (fX5_lays v') fun w1 _ => some (w1, y)) ∧ (∀ c, c ≠ 12 → v' c = v c) ∧ ∀ j, v' 12 j = if 40 * s + k ≤ j ∧ j < 40 * s + 40 then 0 else v 12 j := by
  intro m
  induction m with
  | zero =>
    intro n k v h hk hyk
    obtain ⟨n, rfl⟩ : ∃ z, n = z + 1 := ⟨n - 1, by omega⟩
    refine ⟨v, ?_, fun _ _ => rfl, fun j => by rw [if_neg (by omega)]⟩
    simp only [fX5_film_45]
    rw [wr_id (x := 40) (by omega) (by omega), wr_id (x := (k : Int)) (by omega) (by omega), if_pos (by omega), wr_id (x := y) (by omega) (by omega)]
  | succ m ih =>
    intro n k v h hk hyk
    obtain ⟨n, rfl⟩ : ∃ z, n = z + 1 := ⟨n - 1, by omega⟩
    obtain ⟨v', g1, g2, g3⟩ := ih n (k + 1) (hg_up v 12 (40 * s + k) 0) (by omega) (by omega) (by omega)
    refine ⟨v', ?_, fun c hc => (g2 c hc).trans (hg_up_ne c hc), fun j => ?_⟩
    · rw [← g1]
      simp only [fX5_film_45]
      unfold fX5_film_74
      rw [wr_id (x := 40) (by omega) (by omega), wr_id (x := (k : Int)) (by omega) (by omega), if_neg (by omega), wr_id (x := y) (by omega) (by omega), if_pos hyk, as_m12 (by omega) (by omega), hp_b, show (40 * (s : Int) + (k : Int)).toNat = 40 * s + k by omega, hx_wr01.1]
      rfl
    · rw [g3 j]
      by_cases q : j = 40 * s + k
      · subst q
        rw [if_neg (by omega), if_pos (by omega), hp_up_eq]
      · simp only [hp_up_k q]
        by_cases q2 : 40 * s + k ≤ j ∧ j < 40 * s + 40
        · rw [if_pos q2, if_pos (by omega)]
        · rw [if_neg q2, if_neg (by omega)]
theorem hx_filmL {s : Nat} (hs : s < 4) {y : Nat} (hy : y ≤ 30) : ∀ (m n1 n2 k : Nat) (w v : hg_W), m < n1 → k + m = y → hx_Q w v → ∃ (w' v' : hg_W), fX4_film_46 n1 w (s : Int) (y : Int) (k : Int) = some (w', (y : Int)) ∧ fX5_film_45 (n2 + m) v (s : Int) (y : Int) (k : Int) = fX5_film_45 n2 v' (s : Int) (y : Int) (y : Int) ∧ (∀ c, c ≠ 16 → c ≠ 50 + s → (c < 28 ∨ 36 < c) → w' c = w c) ∧ (∀ c, c ≠ 0 → c ≠ 3 → c ≠ 4 → c ≠ 12 → c ≠ 16 → c ≠ 17 → v' c = v c) ∧ (∀ j, j ≠ 5 → j ≠ 6 → v' 0 j = v 0 j) ∧ (∀ i, k ≤ i → i < y → hx_c (w' (50 + s) i) ∧ v' 12 (40 * s + i) = w' (50 + s) i) ∧ (∀ i, (i < k ∨ y ≤ i) → w' (50 + s) i = w (50 + s) i) ∧ (∀ j, (j < 40 * s + k ∨ 40 * s + y ≤ j) → v' 12 j = v 12 j) := by
  intro m
  induction m with
  | zero =>
    intro n1 n2 k w v h1 hk hQ
    obtain ⟨n1, rfl⟩ : ∃ z, n1 = z + 1 := ⟨n1 - 1, by omega⟩
    obtain rfl : k = y := by omega
    refine ⟨w, v, ?_, rfl, fun _ _ _ _ => rfl, fun _ _ _ _ _ _ _ => rfl, fun _ _ _ => rfl, fun i h1 h2 => absurd h1 (by omega), fun _ _ => rfl, fun _ _ => rfl⟩
    simp only [fX4_film_46]
    rw [wr_id (x := (k : Int)) (by omega) (by omega), if_pos (by omega)]
  | succ m ih =>
    intro n1 n2 k w v h1 hk hQ
    obtain ⟨n1, rfl⟩ : ∃ z, n1 = z + 1 := ⟨n1 - 1, by omega⟩
    obtain ⟨w1, v1, r, g1, g2, hQ1, f1, m1, hr⟩ := hx_tt hQ
    have hQ2 : hx_Q (hg_up w1 (50 + s) k (r + 1)) (hg_up v1 12 (40 * s + k) (r + 1)) := hQ1.sh (fun c hc => hg_up_ne c (by omega)) (fun c hc => hg_up_ne c hc)
    obtain ⟨w', v', l1, l2, l3, l4, l5, l6, l7, l8⟩ := ih n1 n2 (k + 1) _ _ (by omega) (by omega) hQ2
    have wk : wr (k : Int) = (k : Int) := wr_id (by omega) (by omega)
    have tk : (k : Int).toNat = k := by omega
    refine ⟨w', v', ?_, ?_, ?_, ?_, ?_, ?_, ?_, ?_⟩
    · rw [← l1]
      simp only [fX4_film_46]
      rw [wr_id (x := (y : Int)) (by omega) (by omega), wk, if_neg (by omega), hp_ar49 (by omega) (by omega), hp_b, g1, hp_bd, show (s : Int).toNat = s by omega, hp_shS (by omega) (by omega) (by omega), hp_b, tk, wr_id (x := r + 1) (by omega) (by omega)]
      rfl
    · rw [← l2]
      rw [show n2 + (m + 1) = (n2 + m) + 1 from rfl]
      simp only [fX5_film_45]
      unfold fX5_film_74
      rw [wr_id (x := 40) (by omega) (by omega), wr_id (x := (y : Int)) (by omega) (by omega), wk, if_neg (by omega), if_neg (by omega), g2, hp_bd, as_m12 (by omega) (by omega), hp_b, show (40 * (s : Int) + (k : Int)).toNat = 40 * s + k by omega, wr_id (x := r + 1) (by omega) (by omega)]
      rfl
    · intro c a1 a2 a3
      rw [l3 c a1 a2 a3, hg_up_ne c a2, f1 c a1 (by omega)]
    · intro c a1 a2 a3 a4 a5 a6
      rw [l4 c a1 a2 a3 a4 a5 a6, hg_up_ne c a4, m1.1 c a1 a2 a3 a5 a6]
    · intro j a1 a2
      rw [l5 j a1 a2, hp_up_c (by omega), m1.2 j a1 a2]
    · intro i a1 a2
      by_cases q : i = k
      · subst q
        rw [l7 i (by omega), l8 (40 * s + i) (by omega), hp_up_eq, hp_up_eq]
        exact ⟨by unfold hx_c; omega, rfl⟩
      · exact l6 i (by omega) a2
    · intro i hi
      rw [l7 i (by omega), hp_up_k (by omega), f1 (50 + s) (by omega) (by omega)]
    · intro j hj
      rw [l8 j (by omega), hp_up_k (by omega), m1.1 12 (by omega) (by omega) (by omega) (by omega) (by omega)]
theorem hx_isSheet {w : hg_W} {x : Int} (hx : hx_c x) : fX4_isSheet w x = some (w, if 0 ≤ x ∧ x ≤ 3 then 1 else 0) := by
  unfold hx_c at hx
  unfold fX4_isSheet
  rw [wr_id hx.1 hx.2, wr_id (x := 4) (by omega) (by omega), hx_wr01.1, hx_wr01.2.1]
  simp only [true_or, or_true, if_true, Int.reduceEq]
  by_cases q1 : x < 0
  · rw [if_pos q1, if_neg (by omega)]
  · rw [if_neg q1]
    by_cases q2 : 4 ≤ x
    · rw [if_pos q2, if_neg (by omega)]
    · rw [if_neg q2, if_pos (by omega)]
theorem hc_film {w v : hg_W} (h : hx_A w v) {a y : Int} (ha : hx_c a) (hy : hx_c y) : hx_ret (fX4_film w a y) (fX5_film v a y) := by
  obtain ⟨hT, hR, hTp, hIm, hSh⟩ := id h
  have w2 : wr (-2) = -2 := wr_id (by omega) (by omega)
  have w7 : wr (-7) = -7 := wr_id (by omega) (by omega)
  unfold fX4_film fX5_film
  rw [hx_isSheet ha, hp_bd, hx_bif, hx_in ha (by unfold hx_c; omega) (by unfold hx_c; omega), hp_bd, hx_bif, hx_in hy (by unfold hx_c; omega) (by unfold hx_c; omega), hp_bd, hx_bif, w2, w7, wr_id (x := y) hy.1 hy.2, wr_id (x := 30) (by omega) (by omega)]
  by_cases q1 : 0 ≤ a ∧ a ≤ 3
  · rw [if_pos q1, if_pos q1]
    by_cases q2 : 0 ≤ y ∧ y ≤ 30
    · rw [if_neg (show ¬ y < 0 by omega), if_pos q2.2, if_pos q2]
      obtain ⟨s, rfl⟩ : ∃ s : Nat, a = (s : Int) := ⟨a.toNat, by omega⟩
      obtain ⟨z, rfl⟩ : ∃ z : Nat, y = (z : Int) := ⟨y.toNat, by omega⟩
      have hs : s < 4 := by omega
      have hz : z ≤ 30 := by omega
      obtain ⟨w1, g1, g2, g3, g4, g5⟩ := hx_sbe (w := w) (s := s) (x := 0) (y := (z : Int)) hs (by unfold hx_c; omega) hy
      have c1 : ∀ c, c < 47 → w1 c = w c := fun c hc => g2 c (by omega) (by omega) (by omega)
      obtain ⟨v1, ev1⟩ : ∃ v1, v1 = hg_up (hg_up v 10 s 0) 11 s (z : Int) := ⟨_, rfl⟩
      have d1 : ∀ c, c ≠ 10 → c ≠ 11 → v1 c = v c := fun c h1 h2 => by rw [ev1, hg_up_ne c h2, hg_up_ne c h1]
      have hR1 : hx_R 19 w1 v1 := hR.of (c1 _ (by omega)) (c1 _ (by omega)) (c1 _ (by omega)) (c1 _ (by omega)) (c1 _ (by omega)) (c1 _ (by omega)) (c1 _ (by omega)) (c1 _ (by omega)) (by rw [c1 1 (by omega)]) (d1 0 (by omega) (by omega)) (d1 1 (by omega) (by omega)) (d1 2 (by omega) (by omega)) (d1 3 (by omega) (by omega)) (d1 4 (by omega) (by omega))
      have hT1 : hx_T w1 v1 := hT.of (fun c _ _ => c1 c (by omega)) (by rw [d1 0 (by omega) (by omega)]) (d1 6 (by omega) (by omega)) (d1 7 (by omega) (by omega))
      have hR2 : hx_R 28 (hk_beW w1 28 19) v1 := hk_beR hx_r28 hT1.1.2.1 hR1
      have hF2 : hx_FC 28 w1 (hk_beW w1 28 19) := hk_beFC
      have hT2 : hx_T (hk_beW w1 28 19) v1 := hT1.fr hx_r28 hF2 hx_FM.rf
      obtain ⟨u, k1, k2, k3⟩ := hk_both hR2
      have hK : hx_Kp v1 u := k3
      have hVu : hx_V v1 u := ⟨fun c _ _ _ _ h18 => k2 c h18, fun j _ => by rw [k2 3 (by omega)], fun j _ => by rw [k2 4 (by omega)]⟩
      obtain ⟨w', v', l1, l2, l3, l4, l5, l6, l7, l8⟩ := hx_filmL hs hz z hg_F (hg_F - z) 0 (hk_beW w1 28 19) u (by unfold hg_F; omega) (by omega) ⟨u, hVu.T hT2, hVu.R hR2, Or.inl rfl⟩
      rw [Nat.sub_add_cancel (by unfold hg_F; omega)] at l2
      obtain ⟨v2, m1, m2, m3⟩ := hx_filmZ hs (y := (z : Int)) (by omega) (40 - z) (hg_F - z) z v' (by unfold hg_F; omega) (by omega) (by omega)
      have e18 : v2 18 = u 18 := by rw [m2 18 (by omega), l4 18 (by omega) (by omega) (by omega) (by omega) (by omega) (by omega)]
      obtain ⟨v3, b1, b2, b3, b4, b5, b6, b7⟩ := hK v2 e18
      have ef : fX5_film_45 hg_F u (s : Int) (z : Int) 0 = some (v3, (z : Int)) := by
        have l2' : fX5_film_45 hg_F u (s : Int) (z : Int) 0 = _ := l2
        rw [l2', m1, b1, hp_bd]
      have l1' : fX4_film_46 hg_F (hk_beW w1 28 19) (s : Int) (z : Int) 0 = some (w', (z : Int)) := l1
      rw [g1, hp_bd, hx_become28, hp_bd, l1', as_m10 (by omega) (by omega), hp_b, as_m11 (by omega) (by omega), hp_b, show (s : Int).toNat = s by omega, hx_wr01.1, wr_id (x := (z : Int)) (by omega) (by omega), ← ev1, k1, hp_bd, ef]
      refine ⟨_, _, _, rfl, rfl, ?_⟩
      have fw : ∀ c, c ≠ 16 → c ≠ 50 + s → (c < 28 ∨ 36 < c) → w' c = w1 c := fun c h1 h2 h3 => by rw [l3 c h1 h2 h3, hF2 c h1 (by omega)]
      have fv : ∀ c, c ≠ 0 → c ≠ 3 → c ≠ 4 → c ≠ 10 → c ≠ 11 → c ≠ 12 → c ≠ 16 → c ≠ 17 → c ≠ 18 → v3 c = v c := fun c h0 h3 h4 h10 h11 h12 h16 h17 h18 => by
        rw [b2 c h0 h3 h4, m2 c h12, l4 c h0 h3 h4 h12 h16 h17, k2 c h18, d1 c h10 h11]
      have fv0 : v3 0 = v 0 := by
        funext j
        by_cases j5 : j = 5
        · rw [j5, b4, d1 0 (by omega) (by omega)]
        · by_cases j6 : j = 6
          · rw [j6, b5, d1 0 (by omega) (by omega)]
          · rw [b3 j j5 j6, m2 0 (by omega), l5 j j5 j6, k2 0 (by omega), d1 0 (by omega) (by omega)]
      have hVx : hx_V (fun c => if c = 10 ∨ c = 11 ∨ c = 12 then v3 c else v c) v3 := by
        refine ⟨fun c h3 h4 h16 h17 h18 => ?_, fun j hj => ?_, fun j hj => ?_⟩
        · show v3 c = if c = 10 ∨ c = 11 ∨ c = 12 then v3 c else v c
          by_cases q : c = 10 ∨ c = 11 ∨ c = 12
          · rw [if_pos q]
          · rw [if_neg q]
            by_cases q0 : c = 0
            · rw [q0]; exact fv0
            · exact fv c q0 h3 h4 (by omega) (by omega) (by omega) h16 h17 h18
        · rw [b6 j hj, d1 3 (by omega) (by omega)]; rfl
        · rw [b7 j hj, d1 4 (by omega) (by omega)]; rfl
      have f3 : ∀ c, c ≠ 16 → c < 28 ∨ 36 < c ∧ c < 47 → w' c = w c := fun c h1 h2 => by rw [fw c h1 (by omega) (by omega), c1 c (by omega)]
      have hR3 : hx_R 19 w' v3 := hVx.R (hR.of (f3 _ (by omega) (by omega)) (f3 _ (by omega) (by omega)) (f3 _ (by omega) (by omega)) (f3 _ (by omega) (by omega)) (f3 _ (by omega) (by omega)) (f3 _ (by omega) (by omega)) (f3 _ (by omega) (by omega)) (f3 _ (by omega) (by omega)) (by rw [f3 1 (by omega) (by omega)]) rfl rfl rfl rfl rfl)
      refine h.psh hR3 ?_ (fun c hc => f3 c (by omega) (by omega)) (by rw [f3 19 (by omega) (by omega)]) (fun c hc => fv c (by omega) (by omega) (by omega) (by omega) (by omega) (by omega) (by omega) (by omega) (by omega)) (by rw [fv0]) (by rw [fv0]) (by rw [fv0])
      have e47 : w' 47 = hg_up w 47 s 0 47 := by rw [fw 47 (by omega) (by omega) (by omega), g3]
      have e48 : w' 48 = hg_up w 48 s (z : Int) 48 := by rw [fw 48 (by omega) (by omega) (by omega), g4]
      have e10 : v3 10 = hg_up v 10 s 0 10 := by rw [b2 10 (by omega) (by omega) (by omega), m2 10 (by omega), l4 10 (by omega) (by omega) (by omega) (by omega) (by omega) (by omega), k2 10 (by omega), ev1, hg_up_ne 10 (by omega)]
      have e11 : v3 11 = hg_up v 11 s (z : Int) 11 := by
        rw [b2 11 (by omega) (by omega) (by omega), m2 11 (by omega), l4 11 (by omega) (by omega) (by omega) (by omega) (by omega) (by omega), k2 11 (by omega), ev1]
        funext k
        by_cases q : k = s
        · subst q; rw [hp_up_eq, hp_up_eq]
        · simp only [hp_up_k q]
      have e12 : ∀ j, v3 12 j = if 40 * s + z ≤ j ∧ j < 40 * s + 40 then 0 else v' 12 j := fun j => by rw [b2 12 (by omega) (by omega) (by omega), m3 j]
      intro t ht
      obtain ⟨o1, o2, o3⟩ := hSh t ht
      by_cases q : t = s
      · subst q
        rw [e47, e48, e10, e11, hp_up_eq, hp_up_eq, hp_up_eq, hp_up_eq]
        refine ⟨by omega, by omega, fun i hi => ?_⟩
        rw [e12]
        by_cases q2 : i < z
        · rw [if_neg (by omega)]
          exact l6 i (by omega) q2
        · rw [if_pos (by omega), l7 i (by omega), hF2 (50 + t) (by omega) (by omega), g5 i hi]
          exact ⟨by unfold hx_c; omega, rfl⟩
      · rw [e47, e48, e10, e11, hp_up_k q, hp_up_k q, hp_up_k q, hp_up_k q]
        refine ⟨o1, o2, fun i hi => ?_⟩
        rw [e12, if_neg (by omega), l8 (40 * t + i) (by omega), k2 12 (by omega), d1 12 (by omega) (by omega), fw (50 + t) (by omega) (by omega) (by omega), g2 (50 + t) (by omega) (by omega) (by omega)]
        exact o3 i hi
    · rw [if_neg q2]
      by_cases q3 : y < 0
      · rw [if_pos q3]; exact hx_ret.c h
      · rw [if_neg q3, if_neg (by omega)]; exact hx_ret.c h
  · rw [if_neg q1, if_neg q1]; exact hx_ret.c h
