/-! ===== kept and laid back; a round becomes another ===== -/
theorem hk_k2 {v0 : hg_W} : ∀ (m n : Nat) (v : hg_W) (k : Nat), m < n → k + m = 12 → ∃ u : hg_W, fX5_keeps_28 n v (k : Int) = (((hg_as 1 u 18 30 (u 0 5)).bind fun w1 => (hg_as 1 w1 18 31 (w1 0 6)).bind fun w3 => some (w3, (0 : Int))) : Option (hg_W × Int)) ∧ (∀ c, c ≠ 18 → u c = v c) ∧ ∀ j, u 18 j = if 18 + k ≤ j ∧ j < 30 then wr (v 4 (j - 18)) else v 18 j := by
  intro m
  induction m with
  | zero =>
    intro n v k h hk
    obtain ⟨n, rfl⟩ : ∃ z, n = z + 1 := ⟨n - 1, by omega⟩
    refine ⟨v, ?_, fun _ _ => rfl, fun j => by rw [if_neg (by omega)]⟩
    simp only [fX5_keeps_28]
    rw [if_pos (by rw [wr_id (by omega) (by omega), wr_id (by omega) (by omega)]; omega)]
  | succ m ih =>
    intro n v k h hk
    obtain ⟨n, rfl⟩ : ∃ z, n = z + 1 := ⟨n - 1, by omega⟩
    obtain ⟨u, g1, g2, g3⟩ := ih n (hg_up v 18 (18 + k) (wr (v 4 k))) (k + 1) (by omega) (by omega)
    refine ⟨u, ?_, fun c hc => (g2 c hc).trans (hg_up_ne c hc), fun j => ?_⟩
    · rw [← g1]
      simp only [fX5_keeps_28]
      rw [if_neg (by rw [wr_id (by omega) (by omega), wr_id (by omega) (by omega)]; omega), ag_m4 (by omega) (by omega), hp_b, as_m18 (by omega) (by omega), hp_b, show (18 + (k : Int)).toNat = 18 + k by omega, show (k : Int).toNat = k by omega]
      rfl
    · rw [g3 j]
      by_cases q : j = 18 + k
      · subst q
        rw [if_neg (by omega), if_pos (by omega), hp_up_eq, show 18 + k - 18 = k by omega]
      · rw [hp_up_k q]
        by_cases q2 : 18 + k ≤ j ∧ j < 30
        · rw [if_pos q2, if_pos (by omega), hp_up_c (by omega)]
        · rw [if_neg q2, if_neg (by omega)]
theorem hk_k1 : ∀ (m n : Nat) (v : hg_W) (k : Nat), m < n → k + m = 18 → ∃ u : hg_W, fX5_keeps_2 n v (k : Int) = fX5_keeps_28 hg_F u 0 ∧ (∀ c, c ≠ 18 → u c = v c) ∧ ∀ j, u 18 j = if k ≤ j ∧ j < 18 then wr (v 3 j) else v 18 j := by
  intro m
  induction m with
  | zero =>
    intro n v k h hk
    obtain ⟨n, rfl⟩ : ∃ z, n = z + 1 := ⟨n - 1, by omega⟩
    refine ⟨v, ?_, fun _ _ => rfl, fun j => by rw [if_neg (by omega)]⟩
    simp only [fX5_keeps_2]
    rw [if_pos (by rw [wr_id (by omega) (by omega), wr_id (by omega) (by omega)]; omega)]
  | succ m ih =>
    intro n v k h hk
    obtain ⟨n, rfl⟩ : ∃ z, n = z + 1 := ⟨n - 1, by omega⟩
    obtain ⟨u, g1, g2, g3⟩ := ih n (hg_up v 18 k (wr (v 3 k))) (k + 1) (by omega) (by omega)
    refine ⟨u, ?_, fun c hc => (g2 c hc).trans (hg_up_ne c hc), fun j => ?_⟩
    · rw [← g1]
      simp only [fX5_keeps_2]
      rw [if_neg (by rw [wr_id (by omega) (by omega), wr_id (by omega) (by omega)]; omega), ag_m3 (by omega) (by omega), hp_b, as_m18 (by omega) (by omega), hp_b, show (k : Int).toNat = k by omega]
      rfl
    · rw [g3 j]
      by_cases q : j = k
      · subst q
        rw [if_neg (by omega), if_pos (by omega), hp_up_eq]
      · simp only [hp_up_k q]
        by_cases q2 : k ≤ j ∧ j < 18
        · rw [if_pos q2, if_pos (by omega)]
        · rw [if_neg q2, if_neg (by omega)]
theorem hk_keeps (v : hg_W) : ∃ u : hg_W, fX5_keeps v = some (u, 0) ∧ (∀ c, c ≠ 18 → u c = v c) ∧ (∀ j, j < 18 → u 18 j = wr (v 3 j)) ∧ (∀ j, j < 12 → u 18 (18 + j) = wr (v 4 j)) ∧ u 18 30 = wr (v 0 5) ∧ u 18 31 = wr (v 0 6) := by
  obtain ⟨u1, g1, g2, g3⟩ := hk_k1 18 hg_F v 0 (by unfold hg_F; omega) rfl
  obtain ⟨u2, g4, g5, g6⟩ := hk_k2 (v0 := v) 12 hg_F u1 0 (by unfold hg_F; omega) rfl
  refine ⟨hg_up (hg_up u2 18 30 (wr (v 0 5))) 18 31 (wr (v 0 6)), ?_, fun c hc => by rw [hg_up_ne c hc, hg_up_ne c hc, g5 c hc, g2 c hc], fun j hj => ?_, fun j hj => ?_, ?_, ?_⟩
  · have e : fX5_keeps v = fX5_keeps_28 hg_F u1 0 := g1
    rw [e]
    have e2 : fX5_keeps_28 hg_F u1 0 = _ := g4
    rw [e2, as_m18 (by omega) (by omega), hp_b, as_m18 (by omega) (by omega), hp_b, hp_up_c (by omega), g5 0 (by omega), g2 0 (by omega)]
    rfl
  · rw [hp_up_k (by omega), hp_up_k (by omega), g6 j, if_neg (by omega), g3 j, if_pos (by omega)]
  · rw [hp_up_k (by omega), hp_up_k (by omega), g6 (18 + j), if_pos (by omega), show 18 + j - 18 = j by omega, g2 4 (by omega)]
  · rw [hp_up_k (by omega), hp_up_eq]
  · rw [hp_up_eq]
theorem hk_l2 : ∀ (m n : Nat) (v : hg_W) (k : Nat), m < n → k + m = 12 → ∃ u : hg_W, fX5_lays_28 n v (k : Int) = (((hg_ag 1 u 18 30).bind fun v1 => (hg_pt u 0 5 v1).bind fun w3 => (hg_ag 1 w3 18 31).bind fun v5 => (hg_pt w3 0 6 v5).bind fun w7 => some (w7, (0 : Int))) : Option (hg_W × Int)) ∧ (∀ c, c ≠ 4 → u c = v c) ∧ ∀ j, u 4 j = if k ≤ j ∧ j < 12 then wr (v 18 (18 + j)) else v 4 j := by
  intro m
  induction m with
  | zero =>
    intro n v k h hk
    obtain ⟨n, rfl⟩ : ∃ z, n = z + 1 := ⟨n - 1, by omega⟩
    refine ⟨v, ?_, fun _ _ => rfl, fun j => by rw [if_neg (by omega)]⟩
    simp only [fX5_lays_28]
    rw [if_pos (by rw [wr_id (by omega) (by omega), wr_id (by omega) (by omega)]; omega)]
  | succ m ih =>
    intro n v k h hk
    obtain ⟨n, rfl⟩ : ∃ z, n = z + 1 := ⟨n - 1, by omega⟩
    obtain ⟨u, g1, g2, g3⟩ := ih n (hg_up v 4 k (wr (v 18 (18 + k)))) (k + 1) (by omega) (by omega)
    refine ⟨u, ?_, fun c hc => (g2 c hc).trans (hg_up_ne c hc), fun j => ?_⟩
    · rw [← g1]
      simp only [fX5_lays_28]
      rw [if_neg (by rw [wr_id (by omega) (by omega), wr_id (by omega) (by omega)]; omega), ag_m18 (by omega) (by omega), hp_b, as_m4 (by omega) (by omega), hp_b, show (18 + (k : Int)).toNat = 18 + k by omega, show (k : Int).toNat = k by omega]
      rfl
    · rw [g3 j]
      by_cases q : j = k
      · subst q
        rw [if_neg (by omega), if_pos (by omega), hp_up_eq]
      · rw [hp_up_k q]
        by_cases q2 : k ≤ j ∧ j < 12
        · rw [if_pos q2, if_pos (by omega), hp_up_c (by omega)]
        · rw [if_neg q2, if_neg (by omega)]
theorem hk_l1 : ∀ (m n : Nat) (v : hg_W) (k : Nat), m < n → k + m = 18 → ∃ u : hg_W, fX5_lays_2 n v (k : Int) = fX5_lays_28 hg_F u 0 ∧ (∀ c, c ≠ 3 → u c = v c) ∧ ∀ j, u 3 j = if k ≤ j ∧ j < 18 then wr (v 18 j) else v 3 j := by
  intro m
  induction m with
  | zero =>
    intro n v k h hk
    obtain ⟨n, rfl⟩ : ∃ z, n = z + 1 := ⟨n - 1, by omega⟩
    refine ⟨v, ?_, fun _ _ => rfl, fun j => by rw [if_neg (by omega)]⟩
    simp only [fX5_lays_2]
    rw [if_pos (by rw [wr_id (by omega) (by omega), wr_id (by omega) (by omega)]; omega)]
  | succ m ih =>
    intro n v k h hk
    obtain ⟨n, rfl⟩ : ∃ z, n = z + 1 := ⟨n - 1, by omega⟩
    obtain ⟨u, g1, g2, g3⟩ := ih n (hg_up v 3 k (wr (v 18 k))) (k + 1) (by omega) (by omega)
    refine ⟨u, ?_, fun c hc => (g2 c hc).trans (hg_up_ne c hc), fun j => ?_⟩
    · rw [← g1]
      simp only [fX5_lays_2]
      rw [if_neg (by rw [wr_id (by omega) (by omega), wr_id (by omega) (by omega)]; omega), ag_m18 (by omega) (by omega), hp_b, as_m3 (by omega) (by omega), hp_b, show (k : Int).toNat = k by omega]
      rfl
    · rw [g3 j]
      by_cases q : j = k
      · subst q
        rw [if_neg (by omega), if_pos (by omega), hp_up_eq]
      · simp only [hp_up_k q]
        by_cases q2 : k ≤ j ∧ j < 18
        · rw [if_pos q2, if_pos (by omega)]
        · rw [if_neg q2, if_neg (by omega)]
theorem hk_lays (v : hg_W) : ∃ u : hg_W, fX5_lays v = some (u, 0) ∧ (∀ c, c ≠ 0 → c ≠ 3 → c ≠ 4 → u c = v c) ∧ (∀ k, k ≠ 5 → k ≠ 6 → u 0 k = v 0 k) ∧ (∀ j, j < 18 → u 3 j = wr (v 18 j)) ∧ (∀ j, j < 12 → u 4 j = wr (v 18 (18 + j))) ∧ u 0 5 = wr (v 18 30) ∧ u 0 6 = wr (v 18 31) := by
  obtain ⟨u1, g1, g2, g3⟩ := hk_l1 18 hg_F v 0 (by unfold hg_F; omega) rfl
  obtain ⟨u2, g4, g5, g6⟩ := hk_l2 12 hg_F u1 0 (by unfold hg_F; omega) rfl
  refine ⟨hg_up (hg_up u2 0 5 (wr (v 18 30))) 0 6 (wr (v 18 31)), ?_, fun c h0 h3 h4 => by rw [hg_up_ne c h0, hg_up_ne c h0, g5 c h4, g2 c h3], fun k h5 h6 => by rw [hp_up_k h6, hp_up_k h5, g5 0 (by omega), g2 0 (by omega)], fun j hj => ?_, fun j hj => ?_, ?_, ?_⟩
  · have e : fX5_lays v = fX5_lays_28 hg_F u1 0 := g1
    rw [e]
    have e2 : fX5_lays_28 hg_F u1 0 = _ := g4
    rw [e2, ag_m18 (by omega) (by omega), hp_b, hp_pt, hp_b, ag_m18 (by omega) (by omega), hp_b, hp_pt, hp_b, hp_up_c (by omega), g5 18 (by omega), g2 18 (by omega)]
    rfl
  · rw [hp_up_c (by omega), hp_up_c (by omega), g5 3 (by omega), g3 j, if_pos (by omega)]
  · rw [hp_up_c (by omega), hp_up_c (by omega), g6 j, if_pos (by omega), g2 18 (by omega)]
  · rw [hp_up_k (by omega), hp_up_eq]
  · rw [hp_up_eq]
/-- the reference's current round is as it was -/
def hx_V (v v' : hg_W) : Prop := (∀ c, c ≠ 3 → c ≠ 4 → c ≠ 16 → c ≠ 17 → c ≠ 18 → v' c = v c) ∧ (∀ j, j < 18 → v' 3 j = v 3 j) ∧ (∀ j, j < 12 → v' 4 j = v 4 j)
theorem hx_V.rf {v : hg_W} : hx_V v v := ⟨fun _ _ _ _ _ _ => rfl, fun _ _ => rfl, fun _ _ => rfl⟩
theorem hx_V.tr {a b c : hg_W} (h1 : hx_V a b) (h2 : hx_V b c) : hx_V a c := ⟨fun x p q r s t => (h2.1 x p q r s t).trans (h1.1 x p q r s t), fun j hj => (h2.2.1 j hj).trans (h1.2.1 j hj), fun j hj => (h2.2.2 j hj).trans (h1.2.2 j hj)⟩
theorem hx_V.R {b : Nat} {w v v' : hg_W} (h : hx_V v v') (hR : hx_R b w v) : hx_R b w v' := by
  obtain ⟨h1, h2, h3⟩ := h
  obtain ⟨r1, r2, r3, r4, r5, r6, r7⟩ := hR
  have e0 := h1 0 (by omega) (by omega) (by omega) (by omega) (by omega)
  refine ⟨fun k hk => ?_, fun k hk => ?_, by rw [e0]; exact r3, r4, by rw [e0]; exact r5, by rw [e0]; exact r6, by rw [e0]; exact r7⟩
  · rw [h2 (3 * k) (by omega), h2 (3 * k + 1) (by omega), h2 (3 * k + 2) (by omega), h3 (2 * k) (by omega), h3 (2 * k + 1) (by omega)]
    exact r1 k hk
  · rw [h1 1 (by omega) (by omega) (by omega) (by omega) (by omega), h1 2 (by omega) (by omega) (by omega) (by omega) (by omega)]
    exact r2 k hk
theorem hx_V.T {w v v' : hg_W} (h : hx_V v v') (hT : hx_T w v) : hx_T w v' :=
  hT.of (fun _ _ _ => rfl) (by rw [h.1 0 (by omega) (by omega) (by omega) (by omega) (by omega)]) (h.1 6 (by omega) (by omega) (by omega) (by omega) (by omega)) (h.1 7 (by omega) (by omega) (by omega) (by omega) (by omega))
theorem hx_canon {b : Nat} {w v : hg_W} (hR : hx_R b w v) : (∀ j, j < 18 → wr (v 3 j) = v 3 j) ∧ (∀ j, j < 12 → wr (v 4 j) = v 4 j) ∧ wr (v 0 5) = v 0 5 ∧ wr (v 0 6) = v 0 6 := by
  obtain ⟨r1, r2, r3, r4, r5, r6, r7⟩ := hR
  refine ⟨fun j hj => ?_, fun j hj => ?_, wr_id (by omega) (by omega), wr_id (by omega) (by omega)⟩
  · have h := r1 (j / 3) (by omega)
    rcases (by omega : j = 3 * (j / 3) ∨ j = 3 * (j / 3) + 1 ∨ j = 3 * (j / 3) + 2) with e | e | e <;> rw [e] <;> exact wr_id (by omega) (by omega)
  · have h := r1 (j / 2) (by omega)
    rcases (by omega : j = 2 * (j / 2) ∨ j = 2 * (j / 2) + 1) with e | e <;> rw [e] <;> exact wr_id (by omega) (by omega)
/-- keeps; then whatever keeps what is kept; then lays: the current round is as it was, all else as it came -/
theorem hk_both {b : Nat} {w v : hg_W} (hR : hx_R b w v) : ∃ u : hg_W, fX5_keeps v = some (u, 0) ∧ (∀ c, c ≠ 18 → u c = v c) ∧ ∀ v2 : hg_W, v2 18 = u 18 → ∃ v3 : hg_W, fX5_lays v2 = some (v3, 0) ∧ (∀ c, c ≠ 0 → c ≠ 3 → c ≠ 4 → v3 c = v2 c) ∧ (∀ k, k ≠ 5 → k ≠ 6 → v3 0 k = v2 0 k) ∧ v3 0 5 = v 0 5 ∧ v3 0 6 = v 0 6 ∧ (∀ j, j < 18 → v3 3 j = v 3 j) ∧ (∀ j, j < 12 → v3 4 j = v 4 j) := by
  obtain ⟨c1, c2, c3, c4⟩ := hx_canon hR
  obtain ⟨u, g1, g2, g3, g4, g5, g6⟩ := hk_keeps v
  refine ⟨u, g1, g2, fun v2 h18 => ?_⟩
  obtain ⟨v3, q1, q2, q3, q4, q5, q6, q7⟩ := hk_lays v2
  refine ⟨v3, q1, q2, q3, ?_, ?_, fun j hj => ?_, fun j hj => ?_⟩
  · rw [q6, h18, g5, wr_wr, c3]
  · rw [q7, h18, g6, wr_wr, c4]
  · rw [q4 j hj, h18, g3 j hj, wr_wr, c1 j hj]
  · rw [q5 j hj, h18, g4 j hj, wr_wr, c2 j hj]
theorem hk_V {b : Nat} {w v : hg_W} (hR : hx_R b w v) : ∃ u : hg_W, fX5_keeps v = some (u, 0) ∧ (∀ c, c ≠ 18 → u c = v c) ∧ ∀ v2 : hg_W, hx_FM u v2 → ∃ v3 : hg_W, fX5_lays v2 = some (v3, 0) ∧ hx_V v v3 := by
  obtain ⟨u, g1, g2, g3⟩ := hk_both hR
  refine ⟨u, g1, g2, fun v2 hF => ?_⟩
  obtain ⟨v3, q1, q2, q3, q4, q5, q6, q7⟩ := g3 v2 (hF.1 18 (by omega) (by omega) (by omega) (by omega) (by omega))
  refine ⟨v3, q1, fun c h3 h4 h16 h17 h18 => ?_, q6, q7⟩
  by_cases q : c = 0
  · subst q
    funext k
    by_cases k5 : k = 5
    · rw [k5]; exact q4
    · by_cases k6 : k = 6
      · rw [k6]; exact q5
      · rw [q3 k k5 k6, hF.2 k k5 k6, g2 0 (by omega)]
  · rw [q2 c q h3 h4, hF.1 c q h3 h4 h16 h17, g2 c h18]
/-! become -/
theorem hk_cp {w : hg_W} {a c : Nat} (ha : hg_ln 0 a = 6) (hc : hg_ln 0 c = 6) : hg_cp w a 0 c 0 6 = some (fun c' k' => if c' = c then (if k' < 6 then w a k' else w c k') else w c' k') := by
  unfold hg_cp
  rw [ha, hc, wr_id (x := 0) (by omega) (by omega), wr_id (x := 6) (by omega) (by omega), if_pos (by omega)]
  congr 1
  funext c' k'
  simp
def hk_beW (w : hg_W) (b b2 : Nat) : hg_W := fun c k => if c = b then (if 9 ≤ k ∧ k ≤ 13 then wr (w b2 k) else w c k) else if b + 1 ≤ c ∧ c ≤ b + 7 ∧ k < 6 then w (b2 + (c - b)) k else w c k
def hk_Wi (w : hg_W) (b b2 i : Nat) : hg_W := fun c k => if b + 1 ≤ c ∧ c ≤ b + i ∧ k < 6 then w (b2 + (c - b)) k else w c k
theorem hk_cpi {b b2 i : Nat} {w : hg_W} (ha : hg_ln 0 (b2 + (i + 1)) = 6) (hc : hg_ln 0 (b + (i + 1)) = 6) (hd : b + 9 ≤ b2 ∨ b2 + 9 ≤ b) (hi : i < 7) : hg_cp (hk_Wi w b b2 i) (b2 + (i + 1)) 0 (b + (i + 1)) 0 6 = some (hk_Wi w b b2 (i + 1)) := by
  rw [hk_cp ha hc]
  congr 1
  funext c k
  unfold hk_Wi
  by_cases q : c = b + (i + 1)
  · subst q
    rw [if_pos rfl]
    by_cases q6 : k < 6
    · rw [if_pos q6, if_neg (by omega), if_pos (by omega), show b + (i + 1) - b = i + 1 by omega]
    · rw [if_neg q6, if_neg (by omega), if_neg (by omega)]
  · rw [if_neg q]
    by_cases q2 : b + 1 ≤ c ∧ c ≤ b + i ∧ k < 6
    · rw [if_pos q2, if_pos (by omega)]
    · rw [if_neg q2, if_neg (by omega)]
theorem hk_become {b b2 : Nat} (hb : hg_rd b) (hb2 : hg_rd b2) (hne : b ≠ b2) {w : hg_W} : fX0_become b w b2 = some (hk_beW w b b2, 0) := by
  have h1 := hp_ln_rd hb
  have h2 := hp_ln_rd hb2
  have a1 : b + 9 ≤ b2 ∨ b2 + 9 ≤ b := by
    rcases hb with rfl | rfl | rfl <;> rcases hb2 with rfl | rfl | rfl <;> omega
  have e0 : w = hk_Wi w b b2 0 := by
    funext c k
    unfold hk_Wi
    rw [if_neg (by omega)]
  have e1 := hk_cpi (w := w) (i := 0) h2.1 h1.1 a1 (by omega)
  have e2 := hk_cpi (w := w) (i := 1) h2.2.1 h1.2.1 a1 (by omega)
  have e3 := hk_cpi (w := w) (i := 2) h2.2.2.1 h1.2.2.1 a1 (by omega)
  have e4 := hk_cpi (w := w) (i := 3) h2.2.2.2.1 h1.2.2.2.1 a1 (by omega)
  have e5 := hk_cpi (w := w) (i := 4) h2.2.2.2.2.1 h1.2.2.2.2.1 a1 (by omega)
  have e6 := hk_cpi (w := w) (i := 5) h2.2.2.2.2.2.1 h1.2.2.2.2.2.1 a1 (by omega)
  have e7 := hk_cpi (w := w) (i := 6) h2.2.2.2.2.2.2.1 h1.2.2.2.2.2.2.1 a1 (by omega)
  simp only [Nat.reduceAdd] at e1 e2 e3 e4 e5 e6 e7
  rw [← e0] at e1
  unfold fX0_become
  rw [e1, hp_b, e2, hp_b, e3, hp_b, e4, hp_b, e5, hp_b, e6, hp_b, e7, hp_b]
  have f2 : ∀ k, hk_Wi w b b2 7 b2 k = w b2 k := fun k => by unfold hk_Wi; rw [if_neg (by omega)]
  have f1 : ∀ c k, hk_Wi w b b2 7 c k = if b + 1 ≤ c ∧ c ≤ b + 7 ∧ k < 6 then w (b2 + (c - b)) k else w c k := fun _ _ => rfl
  generalize hk_Wi w b b2 7 = u at f1 f2
  clear h1 h2 hb hb2 e1 e2 e3 e4 e5 e6 e7 e0
  simp (disch := omega) only [hp_pt, hp_b, hp_up_c, f2]
  congr 2
  funext c k
  unfold hk_beW
  by_cases q : c = b
  · subst q
    rw [if_pos rfl]
    by_cases q9 : 9 ≤ k ∧ k ≤ 13
    · rw [if_pos q9]
      rcases (by omega : k = 9 ∨ k = 10 ∨ k = 11 ∨ k = 12 ∨ k = 13) with rfl | rfl | rfl | rfl | rfl <;> simp (disch := omega) only [hp_up_eq, hp_up_k]
    · rw [if_neg q9]
      simp (disch := omega) only [hp_up_k]
      rw [f1, if_neg (by omega)]
  · rw [if_neg q]
    simp only [hp_up_c q]
    rw [f1]
theorem hk_beFC {b b2 : Nat} {w : hg_W} : hx_FC b w (hk_beW w b b2) := fun c _ h => by
  funext k
  unfold hk_beW
  rw [if_neg (by omega), if_neg (by omega)]
theorem hk_beR {b b2 : Nat} (hb : hg_rd b) {w v : hg_W} (hT : w 1 3 ≤ 6) (hR : hx_R b2 w v) : hx_R b (hk_beW w b b2) v := by
  have a0 := hx_rd19 hb
  have hcs := hx_cs_eq hR
  obtain ⟨r1, r2, r3, r4, r5, r6, r7⟩ := hR
  have e1 : ∀ i k, 1 ≤ i → i ≤ 7 → k < 6 → hk_beW w b b2 (b + i) k = w (b2 + i) k := fun i k h1 h2 h3 => by
    unfold hk_beW
    rw [if_neg (by omega), if_pos (by omega), show b + i - b = i by omega]
  have e0 : ∀ k, 9 ≤ k → k ≤ 13 → hk_beW w b b2 b k = wr (w b2 k) := fun k h1 h2 => by
    unfold hk_beW
    rw [if_pos rfl, if_pos ⟨h1, h2⟩]
  have f1 : hk_beW w b b2 1 3 = w 1 3 := by rw [hk_beFC 1 (by omega) (by omega)]
  have e9 : hk_beW w b b2 b 9 = w b2 9 := by rw [e0 9 (by omega) (by omega), wr_id (by omega) (by omega)]
  refine ⟨fun k hk => ?_, fun k hk => ?_, ?_, ?_, ?_, ?_, ?_⟩
  · rw [e1 1 k (by omega) (by omega) hk, e1 2 k (by omega) (by omega) hk, e1 5 k (by omega) (by omega) hk, e1 6 k (by omega) (by omega) hk, e1 7 k (by omega) (by omega) hk]
    exact r1 k hk
  · rw [e9] at hk
    rw [e1 3 k (by omega) (by omega) (by omega), e1 4 k (by omega) (by omega) (by omega)]
    exact r2 k hk
  · rw [e9]; exact r3
  · rw [e0 10 (by omega) (by omega), wr_id (by omega) (by omega), e1 2 0 (by omega) (by omega) (by omega), e1 2 1 (by omega) (by omega) (by omega), e1 2 2 (by omega) (by omega) (by omega), e1 2 3 (by omega) (by omega) (by omega), e1 2 4 (by omega) (by omega) (by omega), e1 2 5 (by omega) (by omega) (by omega)]
    exact r4
  · rw [e0 11 (by omega) (by omega), wr_id (by omega) (by omega), e9]; exact r5
  · rw [e0 12 (by omega) (by omega), wr_id (by omega) (by omega)]; exact r6
  · rw [e0 13 (by omega) (by omega), f1, wr_id (by omega) (by omega)]; exact r7
