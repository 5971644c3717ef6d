/-! ===== ways ===== -/
/-- from the j-th coin on, as many as fit, added to what is counted -/
def hw_l (f : Nat → Int) (W c t : Nat) : Nat → Nat → Int → Int
  | 0, _, acc => acc
  | m + 1, j, acc => if c < j then acc else if t < j * W then acc else hw_l f W c t m (j + 1) (wr (acc + f (t - j * W)))
def hw_f (f : Nat → Int) (W c t : Nat) : Int := hw_l f W c t 21 1 (f t)
theorem hw_lc {f : Nat → Int} {W c t : Nat} : ∀ (m j : Nat) (acc : Int), hx_c acc → hx_c (hw_l f W c t m j acc) := by
  intro m
  induction m with
  | zero => intro j acc h; exact h
  | succ m ih =>
    intro j acc h
    simp only [hw_l]
    split
    · exact h
    · split
      · exact h
      · exact ih _ _ ⟨wr_ge _, wr_lt _⟩
theorem hw_C20 {K : hg_W → Int → Int → Int → Option (hg_W × Int)} {f : Nat → Int} {W c t : Nat} (hW : W ≤ 99) (hc : c ≤ 20) (ht : t < 1000) : ∀ (m n j : Nat) (w : hg_W), m < n → j + m = 22 → 1 ≤ j → (∀ i, i < t → w 54 i = f i) → hx_c (w 54 t) → ∃ w' : hg_W, fX4_makeMoreWays_20 K n w (W : Int) (c : Int) (t : Int) (f t) (j : Int) = K w' (W : Int) (c : Int) ((t : Int) - 1) ∧ w' 54 t = hw_l f W c t m j (w 54 t) ∧ (∀ cc k, (cc ≠ 54 ∨ k ≠ t) → w' cc k = w cc k) := by
  intro m
  induction m with
  | zero =>
    intro n j w h1 h2 hj hf hx
    obtain ⟨n, rfl⟩ : ∃ z, n = z + 1 := ⟨n - 1, by omega⟩
    refine ⟨w, ?_, rfl, fun _ _ _ => rfl⟩
    simp only [fX4_makeMoreWays_20]
    unfold fX4_makeMoreWays_72
    rw [wr_id (x := (c : Int)) (by omega) (by omega), wr_id (x := (j : Int)) (by omega) (by omega), if_pos (by omega)]
    rfl
  | succ m ih =>
    intro n j w h1 h2 hj hf hx
    obtain ⟨n, rfl⟩ : ∃ z, n = z + 1 := ⟨n - 1, by omega⟩
    have hjW : j * W ≤ 22 * 99 := Nat.mul_le_mul (by omega) hW
    have ejW : (j : Int) * (W : Int) = ((j * W : Nat) : Int) := rfl
    obtain ⟨P, hP⟩ : ∃ P, P = j * W := ⟨_, rfl⟩
    rw [← hP] at hjW ejW
    simp only [fX4_makeMoreWays_20, hw_l]
    rw [wr_id (x := (c : Int)) (by omega) (by omega), wr_id (x := (j : Int)) (by omega) (by omega), ejW, wr_id (x := (t : Int)) (by omega) (by omega), wr_id (x := (P : Int)) (by omega) (by omega), ← hP]
    by_cases q1 : c < j
    · rw [if_pos (by omega), if_pos q1]
      exact ⟨w, rfl, rfl, fun _ _ _ => rfl⟩
    · rw [if_neg (by omega), if_neg q1]
      by_cases q2 : t < P
      · rw [if_pos (by omega), if_pos q2]
        exact ⟨w, rfl, rfl, fun _ _ _ => rfl⟩
      · rw [if_neg (by omega), if_neg q2]
        have tt : (t : Int).toNat = t := by omega
        have e1 : f (t - P) = if W = 0 then f t else w 54 (t - P) := by
          by_cases q : W = 0
          · rw [if_pos q]; rw [q, Nat.mul_zero] at hP; rw [hP]; rfl
          · rw [if_neg q]
            have : 1 ≤ j * W := Nat.mul_pos hj (by omega)
            rw [hf _ (by omega)]
        obtain ⟨w', g1, g2, g3⟩ := ih n (j + 1) (hg_up w 54 t (wr (w 54 t + f (t - P)))) (by omega) (by omega) (by omega) (fun i hi => by rw [hp_up_k (by omega)]; exact hf i hi) (by rw [hp_up_eq]; exact ⟨wr_ge _, wr_lt _⟩)
        rw [hp_up_eq] at g2
        refine ⟨w', ?_, g2, fun cc k hk => ?_⟩
        · rw [← g1]
          unfold fX4_makeMoreWays_64
          rw [ag_h54 (by omega) (by omega), hp_b, tt, wr_id (x := (W : Int)) (by omega) (by omega)]
          by_cases q : W = 0
          · rw [if_pos (by omega), as_h54 (by omega) (by omega), hp_b, tt, e1, if_pos q]
            rfl
          · rw [if_neg (by omega), ag_h54 (by omega) (by omega), hp_b, as_h54 (by omega) (by omega), hp_b, tt, show ((t : Int) - (P : Int)).toNat = t - P by omega, e1, if_neg q]
            rfl
        · rw [g3 cc k hk]
          rcases hk with hk | hk
          · exact hp_up_c hk
          · exact hp_up_k hk
theorem hw_C3 {f : Nat → Int} {W c a : Nat} (hW : W ≤ 99) (hc : c ≤ 20) (ha : a < 1000) (hfc : ∀ t, hx_c (f t)) : ∀ (m n : Nat) (w : hg_W), m < n → m ≤ a + 1 → (∀ i, i < m → w 54 i = f i) → (∀ i, m ≤ i → i ≤ a → w 54 i = hw_f f W c i) → ∃ w' : hg_W, fX4_makeMoreWays_3 n w (W : Int) (c : Int) ((m : Int) - 1) = some (w', 0) ∧ (∀ i, i ≤ a → w' 54 i = hw_f f W c i) ∧ ∀ cc, cc ≠ 54 → w' cc = w cc := by
  intro m
  induction m with
  | zero =>
    intro n w h1 h2 h3 h4
    obtain ⟨n, rfl⟩ : ∃ z, n = z + 1 := ⟨n - 1, by omega⟩
    refine ⟨w, ?_, fun i hi => h4 i (by omega) hi, fun _ _ => rfl⟩
    simp only [fX4_makeMoreWays_3]
    rw [wr_id (x := ((0 : Nat) : Int) - 1) (by omega) (by omega), if_pos (by omega)]
  | succ m ih =>
    intro n w h1 h2 h3 h4
    obtain ⟨n, rfl⟩ : ∃ z, n = z + 1 := ⟨n - 1, by omega⟩
    have em : w 54 m = f m := h3 m (by omega)
    obtain ⟨w1, g1, g2, g3⟩ := hw_C20 (K := fX4_makeMoreWays_3 n) (f := f) (t := m) hW hc (by omega) 21 hg_F 1 w (by unfold hg_F; omega) (by omega) (by omega) (fun i hi => h3 i (by omega)) (by rw [em]; exact hfc m)
    obtain ⟨w', l1, l2, l3⟩ := ih n w1 (by omega) (by omega) (fun i hi => by rw [g3 54 i (Or.inr (by omega))]; exact h3 i (by omega)) (fun i hi1 hi2 => by
      by_cases q : i = m
      · rw [q, g2, em]; rfl
      · rw [g3 54 i (Or.inr q)]; exact h4 i (by omega) hi2)
    refine ⟨w', ?_, l2, fun cc hcc => (l3 cc hcc).trans (funext fun k => g3 cc k (Or.inl hcc))⟩
    rw [← l1, ← g1]
    simp only [fX4_makeMoreWays_3]
    rw [show ((m + 1 : Nat) : Int) - 1 = (m : Int) by omega, wr_id (x := (m : Int)) (by omega) (by omega), if_neg (by omega), ag_h54 (by omega) (by omega), hp_b, show (m : Int).toNat = m by omega, em]
    rfl
theorem hw_M18 {K : hg_W → Int → Int → Option (hg_W × Int)} {f : Nat → Int} {W c t s : Nat} (hW : W ≤ 99) (hc : c ≤ 20) (ht : t < 1000) (hs : s < 6) : ∀ (m n j : Nat) (v : hg_W), m < n → j + m = 22 → v 4 (2 * s) = (W : Int) → v 4 (2 * s + 1) = (c : Int) → (∀ i, i < 1000 → v 20 i = f i) → ∃ v' : hg_W, fX5_addsSort_18 K n v (s : Int) (t : Int) (j : Int) = K v' (s : Int) ((t : Int) + 1) ∧ v' 21 t = hw_l f W c t m j (v 21 t) ∧ (∀ cc k, (cc ≠ 21 ∨ k ≠ t) → v' cc k = v cc k) := by
  intro m
  induction m with
  | zero =>
    intro n j v h1 h2 hw hcc hf
    obtain ⟨n, rfl⟩ : ∃ z, n = z + 1 := ⟨n - 1, by omega⟩
    refine ⟨v, ?_, rfl, fun _ _ _ => rfl⟩
    simp only [fX5_addsSort_18]
    unfold fX5_addsSort_78
    rw [ag_m4 (by omega) (by omega), hp_b, show (2 * (s : Int) + 1).toNat = 2 * s + 1 by omega, hcc, wr_id (x := (c : Int)) (by omega) (by omega), wr_id (x := (j : Int)) (by omega) (by omega), if_pos (by omega)]
  | succ m ih =>
    intro n j v h1 h2 hw hcc hf
    obtain ⟨n, rfl⟩ : ∃ z, n = z + 1 := ⟨n - 1, by omega⟩
    have hjW : j * W ≤ 22 * 99 := Nat.mul_le_mul (by omega) hW
    have ejW : (j : Int) * (W : Int) = ((j * W : Nat) : Int) := rfl
    obtain ⟨P, hP⟩ : ∃ P, P = j * W := ⟨_, rfl⟩
    rw [← hP] at hjW ejW
    have tt : (t : Int).toNat = t := by omega
    have t1 : (2 * (s : Int) + 1).toNat = 2 * s + 1 := by omega
    have t2 : (2 * (s : Int)).toNat = 2 * s := by omega
    simp only [fX5_addsSort_18, hw_l]
    rw [ag_m4 (k := 2 * (s : Int) + 1) (by omega) (by omega), hp_b, t1, hcc, ag_m4 (k := 2 * (s : Int)) (by omega) (by omega), hp_b, t2, hw, wr_id (x := (c : Int)) (by omega) (by omega), wr_id (x := (j : Int)) (by omega) (by omega), ejW, wr_id (x := (t : Int)) (by omega) (by omega), wr_id (x := (P : Int)) (by omega) (by omega), ← hP]
    unfold fX5_addsSort_78
    by_cases q1 : c < j
    · rw [if_pos (by omega), if_pos q1]
      exact ⟨v, rfl, rfl, fun _ _ _ => rfl⟩
    · rw [if_neg (by omega), if_neg q1]
      by_cases q2 : t < P
      · rw [if_pos (by omega), if_pos q2]
        exact ⟨v, rfl, rfl, fun _ _ _ => rfl⟩
      · rw [if_neg (by omega), if_neg q2]
        obtain ⟨v', g1, g2, g3⟩ := ih n (j + 1) (hg_up v 21 t (wr (v 21 t + f (t - P)))) (by omega) (by omega) (by rw [hp_up_c (by omega)]; exact hw) (by rw [hp_up_c (by omega)]; exact hcc) (fun i hi => by rw [hp_up_c (by omega)]; exact hf i hi)
        rw [hp_up_eq] at g2
        refine ⟨v', ?_, g2, fun cc k hk => ?_⟩
        · rw [← g1, ag_m21 (by omega) (by omega), hp_b, tt]
          simp only [hp_b]
          rw [ejW, ag_m20 (by omega) (by omega), hp_b, as_m21 (by omega) (by omega), hp_b, tt, show ((t : Int) - (P : Int)).toNat = t - P by omega, hf (t - P) (by omega)]
          rfl
        · rw [g3 cc k hk]
          rcases hk with hk | hk
          · exact hp_up_c hk
          · exact hp_up_k hk
