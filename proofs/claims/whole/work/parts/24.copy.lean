/-! ===== copy ===== -/
theorem hx_cpF {v0 : hg_W} {f t n : Nat} (hf : f + n ≤ 160) (ht : t + n ≤ 160) (hd : t ≤ f) : ∀ (m n1 k : Nat) (v : hg_W), m < n1 → k + m = n → (∀ c, c ≠ 12 → v c = v0 c) → (∀ j, v 12 j = if t ≤ j ∧ j < t + k then v0 12 (f + (j - t)) else v0 12 j) → (∀ j, j < 160 → hx_c (v0 12 j)) → ∃ v', fX5_copy_147 n1 v (n : Int) (f : Int) (t : Int) (k : Int) = some (v', (n : Int)) ∧ (∀ c, c ≠ 12 → v' c = v0 c) ∧ ∀ j, v' 12 j = if t ≤ j ∧ j < t + n then v0 12 (f + (j - t)) else v0 12 j := by
  intro m
  induction m with
  | zero =>
    intro n1 k v h hk h1 h2 h3
    obtain ⟨n1, rfl⟩ : ∃ z, n1 = z + 1 := ⟨n1 - 1, by omega⟩
    obtain rfl : k = n := by omega
    refine ⟨v, ?_, h1, h2⟩
    simp only [fX5_copy_147]
    rw [wr_id (x := (k : Int)) (by omega) (by omega), if_pos (by omega)]
  | succ m ih =>
    intro n1 k v h hk h1 h2 h3
    obtain ⟨n1, rfl⟩ : ∃ z, n1 = z + 1 := ⟨n1 - 1, by omega⟩
    have e1 : v 12 (f + k) = v0 12 (f + k) := by rw [h2, if_neg (by omega)]
    obtain ⟨v', g1, g2, g3⟩ := ih n1 (k + 1) (hg_up v 12 (t + k) (v0 12 (f + k))) (by omega) (by omega) (fun c hc => (hg_up_ne c hc).trans (h1 c hc)) (fun j => by
      by_cases q : j = t + k
      · rw [q, hp_up_eq, if_pos (by omega), show f + (t + k - t) = f + k by omega]
      · rw [hp_up_k q, h2]
        by_cases q2 : t ≤ j ∧ j < t + k
        · rw [if_pos q2, if_pos (by omega)]
        · rw [if_neg q2, if_neg (by omega)]) h3
    refine ⟨v', ?_, g2, g3⟩
    rw [← g1]
    have hc := h3 (f + k) (by omega)
    simp only [fX5_copy_147]
    unfold fX5_copy_173
    rw [wr_id (x := (n : Int)) (by omega) (by omega), wr_id (x := (k : Int)) (by omega) (by omega), if_neg (by omega), wr_id (x := (t : Int)) (by omega) (by omega), wr_id (x := (f : Int)) (by omega) (by omega), if_pos (by omega), ag_m12 (by omega) (by omega), hp_b, as_m12 (by omega) (by omega), hp_b, show ((f : Int) + (k : Int)).toNat = f + k by omega, show ((t : Int) + (k : Int)).toNat = t + k by omega, e1, wr_id hc.1 hc.2]
    rfl
theorem hx_cpB {v0 : hg_W} {f t n : Nat} (hf : f + n ≤ 160) (ht : t + n ≤ 160) (hd : f < t) : ∀ (m n1 k : Nat) (v : hg_W), m < n1 → k + m = n → (∀ c, c ≠ 12 → v c = v0 c) → (∀ j, v 12 j = if t + m ≤ j ∧ j < t + n then v0 12 (f + (j - t)) else v0 12 j) → (∀ j, j < 160 → hx_c (v0 12 j)) → ∃ v', fX5_copy_147 n1 v (n : Int) (f : Int) (t : Int) (k : Int) = some (v', (n : Int)) ∧ (∀ c, c ≠ 12 → v' c = v0 c) ∧ ∀ j, v' 12 j = if t ≤ j ∧ j < t + n then v0 12 (f + (j - t)) else v0 12 j := by
  intro m
  induction m with
  | zero =>
    intro n1 k v h hk h1 h2 h3
    obtain ⟨n1, rfl⟩ : ∃ z, n1 = z + 1 := ⟨n1 - 1, by omega⟩
    obtain rfl : k = n := by omega
    refine ⟨v, ?_, h1, h2⟩
    simp only [fX5_copy_147]
    rw [wr_id (x := (k : Int)) (by omega) (by omega), if_pos (by omega)]
  | succ m ih =>
    intro n1 k v h hk h1 h2 h3
    obtain ⟨n1, rfl⟩ : ∃ z, n1 = z + 1 := ⟨n1 - 1, by omega⟩
    have e1 : v 12 (f + m) = v0 12 (f + m) := by rw [h2, if_neg (by omega)]
    obtain ⟨v', g1, g2, g3⟩ := ih n1 (k + 1) (hg_up v 12 (t + m) (v0 12 (f + m))) (by omega) (by omega) (fun c hc => (hg_up_ne c hc).trans (h1 c hc)) (fun j => by
      by_cases q : j = t + m
      · rw [q, hp_up_eq, if_pos (by omega), show f + (t + m - t) = f + m by omega]
      · rw [hp_up_k q, h2]
        by_cases q2 : t + (m + 1) ≤ j ∧ j < t + n
        · rw [if_pos q2, if_pos (by omega)]
        · rw [if_neg q2, if_neg (by omega)]) h3
    refine ⟨v', ?_, g2, g3⟩
    rw [← g1]
    have hc := h3 (f + m) (by omega)
    simp only [fX5_copy_147]
    unfold fX5_copy_173
    rw [wr_id (x := (n : Int)) (by omega) (by omega), wr_id (x := (k : Int)) (by omega) (by omega), if_neg (by omega), wr_id (x := (t : Int)) (by omega) (by omega), wr_id (x := (f : Int)) (by omega) (by omega), if_neg (by omega), show (n : Int) - 1 - (k : Int) = (m : Int) by omega, ag_m12 (by omega) (by omega), hp_b, as_m12 (by omega) (by omega), hp_b, show ((f : Int) + (m : Int)).toNat = f + m by omega, show ((t : Int) + (m : Int)).toNat = t + m by omega, e1, wr_id hc.1 hc.2]
    rfl
theorem hx_cpA {w v : hg_W} (h : hx_A w v) {s t i j n : Nat} (hs : s < 4) (ht : t < 4) (hi : i + n ≤ 40) (hj : j + n ≤ 40) : ∃ w' v' : hg_W, hg_cp w (50 + s) (i : Int) (50 + t) (j : Int) (n : Int) = some w' ∧ fX5_copy_147 hg_F v (n : Int) (40 * (s : Int) + (i : Int)) (40 * (t : Int) + (j : Int)) 0 = some (v', (n : Int)) ∧ hx_A w' v' := by
  have hS := h.2.2.2.2
  have h3 : ∀ k, k < 160 → hx_c (v 12 k) := fun k hk => by
    have := (hS (k / 40) (by omega)).2.2 (k % 40) (by omega)
    rw [show 40 * (k / 40) + k % 40 = k by omega] at this
    rw [this.2]; exact this.1
  have hv : ∃ v', fX5_copy_147 hg_F v (n : Int) ((40 * s + i : Nat) : Int) ((40 * t + j : Nat) : Int) ((0 : Nat) : Int) = some (v', (n : Int)) ∧ (∀ c, c ≠ 12 → v' c = v c) ∧ ∀ k, v' 12 k = if 40 * t + j ≤ k ∧ k < 40 * t + j + n then v 12 (40 * s + i + (k - (40 * t + j))) else v 12 k := by
    by_cases q : 40 * t + j ≤ 40 * s + i
    · exact hx_cpF (by omega) (by omega) q n hg_F 0 v (by unfold hg_F; omega) (by omega) (fun _ _ => rfl) (fun k => by rw [if_neg (by omega)]) h3
    · exact hx_cpB (by omega) (by omega) (by omega) n hg_F 0 v (by unfold hg_F; omega) (by omega) (fun _ _ => rfl) (fun k => by rw [if_neg (by omega)]) h3
  obtain ⟨v', g1, g2, g3⟩ := hv
  rw [show ((40 * s + i : Nat) : Int) = 40 * (s : Int) + (i : Int) by omega, show ((40 * t + j : Nat) : Int) = 40 * (t : Int) + (j : Int) by omega] at g1
  obtain ⟨w', ew, f1, f2⟩ : ∃ w' : hg_W, hg_cp w (50 + s) (i : Int) (50 + t) (j : Int) (n : Int) = some w' ∧ (∀ c, c ≠ 50 + t → w' c = w c) ∧ ∀ k, w' (50 + t) k = if j ≤ k ∧ k < j + n then w (50 + s) (i + (k - j)) else w (50 + t) k := by
    refine ⟨fun c' k' => if c' = 50 + t then (if j ≤ k' ∧ k' < j + n then w (50 + s) (i + (k' - j)) else w (50 + t) k') else w c' k', ?_, fun c hc => ?_, fun k => ?_⟩
    · unfold hg_cp
      rw [hp_ln_sh (50 + s) (by omega) (by omega), hp_ln_sh (50 + t) (by omega) (by omega), wr_id (x := (i : Int)) (by omega) (by omega), wr_id (x := (j : Int)) (by omega) (by omega), wr_id (x := (n : Int)) (by omega) (by omega), if_pos (by omega), show (i : Int).toNat = i by omega, show (j : Int).toNat = j by omega, show (n : Int).toNat = n by omega]
    · funext k
      show (if c = 50 + t then _ else w c k) = w c k
      rw [if_neg hc]
    · show (if 50 + t = 50 + t then _ else _) = _
      rw [if_pos rfl]
  refine ⟨w', v', ew, g1, h.shO ?_ (fun c hc => f1 c (by omega)) (fun c hc => g2 c (by omega))⟩
  intro r hr
  obtain ⟨o1, o2, o3⟩ := hS r hr
  rw [f1 47 (by omega), f1 48 (by omega), g2 10 (by omega), g2 11 (by omega)]
  refine ⟨o1, o2, fun k hk => ?_⟩
  by_cases q : r = t
  · subst q
    rw [f2, g3]
    by_cases q2 : j ≤ k ∧ k < j + n
    · rw [if_pos q2, if_pos (by omega), show 40 * s + i + (40 * r + k - (40 * r + j)) = 40 * s + (i + (k - j)) by omega]
      exact (hS s hs).2.2 (i + (k - j)) (by omega)
    · rw [if_neg q2, if_neg (by omega)]
      exact o3 k hk
  · rw [f1 (50 + r) (by omega), g3, if_neg (by omega)]
    exact o3 k hk
theorem hc_copy {w v : hg_W} (h : hx_A w v) {a x b y n : Int} (ha : hx_c a) (hx : hx_c x) (hb : hx_c b) (hy : hx_c y) (hn : hx_c n) : hx_ret (fX4_copy w a x b y n) (fX5_copy v a x b y n) := by
  have w2 : wr (-2) = -2 := wr_id (by omega) (by omega)
  have w11 : wr (-11) = -11 := wr_id (by omega) (by omega)
  have w12 : wr (-12) = -12 := wr_id (by omega) (by omega)
  have w13 : wr (-13) = -13 := wr_id (by omega) (by omega)
  unfold fX4_copy fX5_copy
  rw [hx_isSheet ha, hp_bd, hx_bif, hx_isSheet hb, hp_bd, hx_bif, hx_in ha (by unfold hx_c; omega) (by unfold hx_c; omega), hp_bd, hx_bif, hx_in hb (by unfold hx_c; omega) (by unfold hx_c; omega), hp_bd, hx_bif, w2, w11, w12, w13, wr_id (x := n) hn.1 hn.2, wr_id (x := x) hx.1 hx.2, wr_id (x := y) hy.1 hy.2, hx_wr01.2.2]
  by_cases q1 : 0 ≤ a ∧ a ≤ 3
  · rw [if_pos q1, if_pos q1]
    by_cases q2 : 0 ≤ b ∧ b ≤ 3
    · rw [if_pos q2, if_pos q2]
      obtain ⟨s, rfl⟩ : ∃ s : Nat, a = (s : Int) := ⟨a.toNat, by omega⟩
      obtain ⟨t, rfl⟩ : ∃ t : Nat, b = (t : Int) := ⟨b.toNat, by omega⟩
      have hs : s < 4 := by omega
      have ht : t < 4 := by omega
      have ts : (s : Int).toNat = s := by omega
      have tt : (t : Int).toNat = t := by omega
      obtain ⟨o1, o2, o3⟩ := h.2.2.2.2 s hs
      obtain ⟨p1, p2, p3⟩ := h.2.2.2.2 t ht
      rw [hx_miss h hs, hp_bd, hx_bif, hx_miss h ht, hp_bd, hx_bif]
      simp only [ag_m10 (show 0 ≤ (s : Int) by omega) (show (s : Int) < 4 by omega), ag_m10 (show 0 ≤ (t : Int) by omega) (show (t : Int) < 4 by omega), ag_h47 (show 0 ≤ (s : Int) by omega) (show (s : Int) < 4 by omega), ag_h47 (show 0 ≤ (t : Int) by omega) (show (t : Int) < 4 by omega), ag_m11 (show 0 ≤ (s : Int) by omega) (show (s : Int) < 4 by omega), ag_m11 (show 0 ≤ (t : Int) by omega) (show (t : Int) < 4 by omega), ag_h48 (show 0 ≤ (s : Int) by omega) (show (s : Int) < 4 by omega), ag_h48 (show 0 ≤ (t : Int) by omega) (show (t : Int) < 4 by omega), hp_b, ts, tt, o1.2.2, o2.2.2, p1.2.2, p2.2.2]
      rw [wr_id (x := w 47 s) (by omega) (by omega), wr_id (x := w 47 t) (by omega) (by omega), wr_id (x := w 48 s) (by omega) (by omega), wr_id (x := w 48 t) (by omega) (by omega)]
      by_cases q3 : w 47 s = -1
      · rw [if_pos q3, if_pos q3]; exact hx_ret.c h
      · rw [if_neg q3, if_neg q3]
        by_cases q4 : w 47 t = -1
        · rw [if_pos q4, if_pos q4]; exact hx_ret.c h
        · rw [if_neg q4, if_neg q4]
          by_cases q5 : w 47 s = w 47 t
          · rw [if_pos q5, if_pos q5]
            by_cases q6 : n < 0
            · rw [if_pos q6, if_pos q6]; exact hx_ret.c h
            · rw [if_neg q6, if_neg q6]
              by_cases q7 : x < 0
              · rw [if_pos q7, if_pos q7]; exact hx_ret.c h
              · rw [if_neg q7, if_neg q7]
                by_cases q8 : y < 0
                · rw [if_pos q8, if_pos q8]; exact hx_ret.c h
                · rw [if_neg q8, if_neg q8]
                  have hn2 := hn.2
                  have hx2 := hx.2
                  have hy2 := hy.2
                  rw [wr_id (x := w 48 s - n) (by omega) (by omega), wr_id (x := w 48 t - n) (by omega) (by omega), wr_id (x := w 48 s - x) (by omega) (by omega), wr_id (x := w 48 t - y) (by omega) (by omega)]
                  by_cases q9 : w 48 s - n < x
                  · rw [if_pos q9]
                    by_cases q10 : w 48 s < x
                    · rw [if_pos q10]; exact hx_ret.c h
                    · rw [if_neg q10]
                      by_cases q11 : w 48 t < y
                      · rw [if_pos q11]; exact hx_ret.c h
                      · rw [if_neg q11, if_pos (show w 48 s - x < n by omega)]; exact hx_ret.c h
                  · rw [if_neg q9, if_neg (show ¬ w 48 s < x by omega)]
                    by_cases q10 : y ≤ w 48 t - n
                    · rw [if_pos q10, if_neg (show ¬ w 48 t < y by omega), if_neg (show ¬ w 48 s - x < n by omega), if_pos (show n ≤ w 48 t - y by omega)]
                      obtain ⟨i, rfl⟩ : ∃ i : Nat, x = (i : Int) := ⟨x.toNat, by omega⟩
                      obtain ⟨j, rfl⟩ : ∃ j : Nat, y = (j : Int) := ⟨y.toNat, by omega⟩
                      obtain ⟨k, rfl⟩ : ∃ k : Nat, n = (k : Int) := ⟨n.toNat, by omega⟩
                      obtain ⟨w', v', g1, g2, g3⟩ := hx_cpA h (s := s) (t := t) (i := i) (j := j) (n := k) hs ht (by omega) (by omega)
                      rw [hp_ar49 (by omega) (by omega), hp_b, hp_ar49 (by omega) (by omega), hp_b, ts, tt, g1, hp_b, g2]
                      exact ⟨_, _, _, rfl, rfl, g3⟩
                    · rw [if_neg q10]
                      by_cases q11 : w 48 t < y
                      · rw [if_pos q11]; exact hx_ret.c h
                      · rw [if_neg q11, if_neg (show ¬ w 48 s - x < n by omega), if_neg (show ¬ n ≤ w 48 t - y by omega)]; exact hx_ret.c h
          · rw [if_neg q5, if_neg q5]; exact hx_ret.c h
    · rw [if_neg q2, if_neg q2]; exact hx_ret.c h
  · rw [if_neg q1, if_neg q1]; exact hx_ret.c h
