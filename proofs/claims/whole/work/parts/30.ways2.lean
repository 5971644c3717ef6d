/-! ===== ways: the whole ===== -/
theorem hw_M86 : ∀ (m n k : Nat) (v : hg_W), m < n → k + m = 1000 → (∀ i, i < 1000 → hx_c (v 21 i)) → ∃ v' : hg_W, fX5_addsSort_86 n v (k : Int) = some (v', 0) ∧ (∀ i, v' 20 i = if k ≤ i ∧ i < 1000 then v 21 i else v 20 i) ∧ ∀ c, c ≠ 20 → v' c = v c := by
  intro m
  induction m with
  | zero =>
    intro n k v h1 h2 h3
    obtain ⟨n, rfl⟩ : ∃ z, n = z + 1 := ⟨n - 1, by omega⟩
    refine ⟨v, ?_, fun i => by rw [if_neg (by omega)], fun _ _ => rfl⟩
    simp only [fX5_addsSort_86]
    rw [wr_id (x := 1000) (by omega) (by omega), wr_id (x := (k : Int)) (by omega) (by omega), if_pos (by omega)]
  | succ m ih =>
    intro n k v h1 h2 h3
    obtain ⟨n, rfl⟩ : ∃ z, n = z + 1 := ⟨n - 1, by omega⟩
    have hk := h3 k (by omega)
    obtain ⟨v', g1, g2, g3⟩ := ih n (k + 1) (hg_up v 20 k (v 21 k)) (by omega) (by omega) (fun i hi => by rw [hp_up_c (by omega)]; exact h3 i hi)
    refine ⟨v', ?_, fun i => ?_, fun c hc => (g3 c hc).trans (hg_up_ne c hc)⟩
    · rw [← g1]
      simp only [fX5_addsSort_86]
      rw [wr_id (x := 1000) (by omega) (by omega), wr_id (x := (k : Int)) (by omega) (by omega), if_neg (by omega), ag_m21 (by omega) (by omega), hp_b, as_m20 (by omega) (by omega), hp_b, show (k : Int).toNat = k by omega, wr_id (x := v 21 k) hk.1 hk.2]
      rfl
    · rw [g2 i]
      by_cases q : i = k
      · subst q
        rw [if_neg (by omega), if_pos (by omega), hp_up_eq]
      · simp only [hp_up_k q]
        by_cases q2 : k ≤ i ∧ i < 1000
        · rw [if_pos q2, if_pos (by omega)]
        · rw [if_neg q2, if_neg (by omega)]
theorem hw_M2 {f : Nat → Int} {W c s : Nat} (hW : W ≤ 99) (hc : c ≤ 20) (hs : s < 6) (hfc : ∀ t, hx_c (f t)) : ∀ (m n t : Nat) (v : hg_W), m < n → t + m = 1000 → v 4 (2 * s) = (W : Int) → v 4 (2 * s + 1) = (c : Int) → (∀ i, i < 1000 → v 20 i = f i) → (∀ i, i < t → v 21 i = hw_f f W c i) → ∃ v' : hg_W, fX5_addsSort_2 n v (s : Int) (t : Int) = some (v', 0) ∧ (∀ i, i < 1000 → v' 20 i = hw_f f W c i) ∧ ∀ cc, cc ≠ 20 → cc ≠ 21 → v' cc = v cc := by
  intro m
  induction m with
  | zero =>
    intro n t v h1 h2 hw hcc hf hg
    obtain ⟨n, rfl⟩ : ∃ z, n = z + 1 := ⟨n - 1, by omega⟩
    obtain ⟨v', g1, g2, g3⟩ := hw_M86 1000 hg_F 0 v (by unfold hg_F; omega) (by omega) (fun i hi => by rw [hg i (by omega)]; exact hw_lc _ _ _ (hfc i))
    refine ⟨v', ?_, fun i hi => by rw [g2 i, if_pos (by omega), hg i (by omega)], fun cc h1 _ => g3 cc h1⟩
    simp only [fX5_addsSort_2]
    rw [wr_id (x := 1000) (by omega) (by omega), wr_id (x := (t : Int)) (by omega) (by omega), if_pos (by omega)]
    exact g1
  | succ m ih =>
    intro n t v h1 h2 hw hcc hf hg
    obtain ⟨n, rfl⟩ : ∃ z, n = z + 1 := ⟨n - 1, by omega⟩
    obtain ⟨v1, g1, g2, g3⟩ := hw_M18 (K := fX5_addsSort_2 n) (f := f) (t := t) hW hc (by omega) hs 22 hg_F 0 (hg_up v 21 t 0) (by unfold hg_F; omega) (by omega) (by rw [hp_up_c (by omega)]; exact hw) (by rw [hp_up_c (by omega)]; exact hcc) (fun i hi => by rw [hp_up_c (by omega)]; exact hf i hi)
    have ef : v1 21 t = hw_f f W c t := by
      rw [g2, hp_up_eq]
      simp only [hw_l]
      rw [if_neg (by omega), if_neg (by omega), Nat.zero_mul, Nat.sub_zero, Int.zero_add, wr_id (x := f t) (hfc t).1 (hfc t).2]
      rfl
    have e4 : ∀ cc k, cc ≠ 21 → v1 cc k = v cc k := fun cc k h => by rw [g3 cc k (Or.inl h), hp_up_c h]
    obtain ⟨v', l1, l2, l3⟩ := ih n (t + 1) v1 (by omega) (by omega) (by rw [e4 4 _ (by omega)]; exact hw) (by rw [e4 4 _ (by omega)]; exact hcc) (fun i hi => by rw [e4 20 _ (by omega)]; exact hf i hi) (fun i hi => by
      by_cases q : i = t
      · rw [q]; exact ef
      · rw [g3 21 i (Or.inr q), hp_up_k q]; exact hg i (by omega))
    refine ⟨v', ?_, l2, fun cc h20 h21 => (l3 cc h20 h21).trans (funext fun k => e4 cc k h21)⟩
    rw [← l1]
    have g1' : fX5_addsSort_18 (fX5_addsSort_2 n) hg_F (hg_up v 21 t 0) (s : Int) (t : Int) 0 = fX5_addsSort_2 n v1 (s : Int) ((t : Int) + 1) := g1
    simp only [fX5_addsSort_2]
    rw [wr_id (x := 1000) (by omega) (by omega), wr_id (x := (t : Int)) (by omega) (by omega), if_neg (by omega), as_m21 (by omega) (by omega), hp_b, show (t : Int).toNat = t by omega, hx_wr01.1, g1']
    rfl
theorem hx_A.way {w v w' v' : hg_W} (h : hx_A w v) (hw : ∀ c, c ≠ 54 → w' c = w c) (hv : ∀ c, c ≠ 20 → c ≠ 21 → v' c = v c) : hx_A w' v' :=
  h.pres (h.2.1.of (hw _ (by omega)) (hw _ (by omega)) (hw _ (by omega)) (hw _ (by omega)) (hw _ (by omega)) (hw _ (by omega)) (hw _ (by omega)) (hw _ (by omega)) (by rw [hw 1 (by omega)]) (hv 0 (by omega) (by omega)) (hv 1 (by omega) (by omega)) (hv 2 (by omega) (by omega)) (hv 3 (by omega) (by omega)) (hv 4 (by omega) (by omega))) (fun c hc => hw c (by omega)) (by rw [hw 19 (by omega)]) (fun c hc => hv c (by omega) (by omega)) (by rw [hv 0 (by omega) (by omega)]) (by rw [hv 0 (by omega) (by omega)]) (by rw [hv 0 (by omega) (by omega)])
theorem hw_sorts {a : Nat} (ha : a < 1000) : ∀ (m n1 n2 k : Nat) (w v : hg_W) (f : Nat → Int), m < n1 → m < n2 → k + m = 6 → hx_A w v → (∀ t, hx_c (f t)) → (∀ t, t ≤ a → w 54 t = f t) → (∀ t, t < 1000 → v 20 t = f t) → hx_ret (fX4_ways_43 n1 w (a : Int) (k : Int)) (fX5_ways_46 n2 v (a : Int) (k : Int)) := by
  intro m
  induction m with
  | zero =>
    intro n1 n2 k w v f h1 h2 hk h hfc hw hv
    obtain ⟨n1, rfl⟩ : ∃ z, n1 = z + 1 := ⟨n1 - 1, by omega⟩
    obtain ⟨n2, rfl⟩ : ∃ z, n2 = z + 1 := ⟨n2 - 1, by omega⟩
    simp only [fX4_ways_43, fX5_ways_46]
    rw [wr_id (x := 6) (by omega) (by omega), wr_id (x := (k : Int)) (by omega) (by omega), if_pos (by omega), if_pos (by omega), ag_h54 (by omega) (by omega), hp_b, ag_m20 (by omega) (by omega), hp_b, show (a : Int).toNat = a by omega, hw a (by omega), hv a ha]
    exact hx_ret.c h
  | succ m ih =>
    intro n1 n2 k w v f h1 h2 hk h hfc hw hv
    obtain ⟨n1, rfl⟩ : ∃ z, n1 = z + 1 := ⟨n1 - 1, by omega⟩
    obtain ⟨n2, rfl⟩ : ∃ z, n2 = z + 1 := ⟨n2 - 1, by omega⟩
    obtain ⟨kw, ki, -⟩ := h.2.1.1 k (by omega)
    obtain ⟨W, hW⟩ : ∃ W : Nat, (W : Int) = w (19 + 1) k := ⟨(w (19 + 1) k).toNat, by omega⟩
    obtain ⟨c, hc⟩ : ∃ c : Nat, (c : Int) = w (19 + 2) k := ⟨(w (19 + 2) k).toNat, by omega⟩
    obtain ⟨w', g1, g2, g3⟩ := hw_C3 (f := f) (W := W) (c := c) (by omega) (by omega) ha hfc (a + 1) hg_F w (by unfold hg_F; omega) (by omega) (fun i hi => hw i (by omega)) (fun i hi1 hi2 => absurd hi1 (by omega))
    obtain ⟨v', l1, l2, l3⟩ := hw_M2 (f := f) (W := W) (c := c) (s := k) (by omega) (by omega) (by omega) hfc 1000 hg_F 0 v (by unfold hg_F; omega) (by omega) (by omega) (by omega) hv (fun i hi => absurd hi (by omega))
    have l1' : fX5_addsSort v (k : Int) = some (v', 0) := l1
    have g1' : fX4_makeMoreWays w (W : Int) (c : Int) (a : Int) = some (w', 0) := by
      unfold fX4_makeMoreWays
      rw [show ((a + 1 : Nat) : Int) - 1 = (a : Int) by omega] at g1
      exact g1
    simp only [fX4_ways_43, fX5_ways_46]
    rw [wr_id (x := 6) (by omega) (by omega), wr_id (x := (k : Int)) (by omega) (by omega), if_neg (by omega), if_neg (by omega), show (20 : Nat) = 19 + 1 from rfl, ag_r1 hx_r19 (by omega) (by omega), hp_b, show (21 : Nat) = 19 + 2 from rfl, ag_r2 hx_r19 (by omega) (by omega), hp_b, show (k : Int).toNat = k by omega, ← hW, ← hc, g1', hp_bd, l1', hp_bd, show (k : Int) + 1 = ((k + 1 : Nat) : Int) by omega]
    exact ih n1 n2 (k + 1) w' v' (hw_f f W c) (by omega) (by omega) (by omega) (h.way g3 l3) (fun t => hw_lc _ _ _ (hfc t)) g2 l2
theorem hw_C16 {a : Nat} (ha : a < 1000) : ∀ (m n k : Nat) (w : hg_W), m < n → k + m = a + 1 → (∀ i, i < k → w 54 i = 0) → ∃ w' : hg_W, fX4_ways_16 n w (a : Int) (k : Int) = fX4_ways_43 hg_F w' (a : Int) 0 ∧ (∀ i, i ≤ a → w' 54 i = if i = 0 then 1 else 0) ∧ ∀ c, c ≠ 54 → w' c = w c := by
  intro m
  induction m with
  | zero =>
    intro n k w h1 h2 h3
    obtain ⟨n, rfl⟩ : ∃ z, n = z + 1 := ⟨n - 1, by omega⟩
    refine ⟨hg_up w 54 0 1, ?_, fun i hi => ?_, fun c hc => hg_up_ne c hc⟩
    · simp only [fX4_ways_16]
      rw [wr_id (x := (a : Int)) (by omega) (by omega), wr_id (x := (k : Int)) (by omega) (by omega), if_pos (by omega), as_h54 (by omega) (by omega), hp_b, hx_wr01.2.1]
      rfl
    · by_cases q : i = 0
      · rw [q, hp_up_eq, if_pos rfl]
      · rw [hp_up_k q, if_neg q, h3 i (by omega)]
  | succ m ih =>
    intro n k w h1 h2 h3
    obtain ⟨n, rfl⟩ : ∃ z, n = z + 1 := ⟨n - 1, by omega⟩
    obtain ⟨w', g1, g2, g3⟩ := ih n (k + 1) (hg_up w 54 k 0) (by omega) (by omega) (fun i hi => by
      by_cases q : i = k
      · rw [q, hp_up_eq]
      · rw [hp_up_k q]; exact h3 i (by omega))
    refine ⟨w', ?_, g2, fun c hc => (g3 c hc).trans (hg_up_ne c hc)⟩
    rw [← g1]
    simp only [fX4_ways_16]
    rw [wr_id (x := (a : Int)) (by omega) (by omega), wr_id (x := (k : Int)) (by omega) (by omega), if_neg (by omega), as_h54 (by omega) (by omega), hp_b, show (k : Int).toNat = k by omega, hx_wr01.1]
    rfl
theorem hw_M16 {a : Int} : ∀ (m n k : Nat) (v : hg_W), m < n → k + m = 1000 → (∀ i, i < k → v 20 i = if i = 0 then 1 else 0) → ∃ v' : hg_W, fX5_ways_16 n v a (k : Int) = fX5_ways_46 hg_F v' a 0 ∧ (∀ i, i < 1000 → v' 20 i = if i = 0 then 1 else 0) ∧ ∀ c, c ≠ 20 → v' c = v c := by
  intro m
  induction m with
  | zero =>
    intro n k v h1 h2 h3
    obtain ⟨n, rfl⟩ : ∃ z, n = z + 1 := ⟨n - 1, by omega⟩
    refine ⟨v, ?_, fun i hi => h3 i (by omega), fun _ _ => rfl⟩
    simp only [fX5_ways_16]
    rw [wr_id (x := 1000) (by omega) (by omega), wr_id (x := (k : Int)) (by omega) (by omega), if_pos (by omega)]
  | succ m ih =>
    intro n k v h1 h2 h3
    obtain ⟨n, rfl⟩ : ∃ z, n = z + 1 := ⟨n - 1, by omega⟩
    obtain ⟨v', g1, g2, g3⟩ := ih n (k + 1) (hg_up v 20 k (if k = 0 then 1 else 0)) (by omega) (by omega) (fun i hi => by
      by_cases q : i = k
      · rw [q, hp_up_eq]
      · rw [hp_up_k q]; exact h3 i (by omega))
    refine ⟨v', ?_, g2, fun c hc => (g3 c hc).trans (hg_up_ne c hc)⟩
    rw [← g1]
    simp only [fX5_ways_16]
    unfold fX5_ways_37
    rw [wr_id (x := 1000) (by omega) (by omega), wr_id (x := (k : Int)) (by omega) (by omega), if_neg (by omega), as_m20 (by omega) (by omega), as_m20 (by omega) (by omega), show (k : Int).toNat = k by omega, hx_wr01.1, hx_wr01.2.1]
    by_cases q : k = 0
    · rw [if_pos (by omega), if_pos q]; rfl
    · rw [if_neg (by omega), if_neg q]; rfl
theorem hc_ways {w v : hg_W} (h : hx_A w v) {a : Int} (ha : hx_c a) : hx_ret (fX4_ways w a) (fX5_ways v a) := by
  unfold fX4_ways fX5_ways
  rw [hx_in ha (by unfold hx_c; omega) (by unfold hx_c; omega), hp_bd, hx_bif, wr_id (x := a) ha.1 ha.2, wr_id (x := 999) (by omega) (by omega)]
  by_cases q : 0 ≤ a ∧ a ≤ 999
  · rw [if_neg (show ¬ a < 0 by omega), if_pos (show a ≤ 999 by omega), if_pos q]
    obtain ⟨k, rfl⟩ : ∃ k : Nat, a = (k : Int) := ⟨a.toNat, by omega⟩
    obtain ⟨w', g1, g2, g3⟩ := hw_C16 (a := k) (by omega) (k + 1) hg_F 0 w (by unfold hg_F; omega) (by omega) (fun i hi => absurd hi (by omega))
    obtain ⟨v', l1, l2, l3⟩ := hw_M16 (a := (k : Int)) 1000 hg_F 0 v (by unfold hg_F; omega) (by omega) (fun i hi => absurd hi (by omega))
    have g1' : fX4_ways_16 hg_F w (k : Int) 0 = _ := g1
    have l1' : fX5_ways_16 hg_F v (k : Int) 0 = _ := l1
    rw [g1', l1']
    exact hw_sorts (by omega) 6 hg_F hg_F 0 w' v' (fun i => if i = 0 then 1 else 0) (by unfold hg_F; omega) (by unfold hg_F; omega) (by omega) (h.way g3 (fun c h20 _ => l3 c h20)) (fun t => by
      show hx_c (if t = 0 then 1 else 0)
      split <;> unfold hx_c <;> omega) g2 l2
  · rw [if_neg q]
    by_cases q1 : a < 0
    · rw [if_pos q1]; exact hx_ret.c h
    · rw [if_neg q1, if_neg (by omega)]; exact hx_ret.c h
