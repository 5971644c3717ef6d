/-! ===== sheets: judge, kinds, starts, laws ===== -/
def hx_Q (w v : hg_W) : Prop := ∃ vs : hg_W, hx_T w vs ∧ hx_R 28 w vs ∧ (v = vs ∨ ((w 28 9 = 0 ∨ w 28 10 = 0) ∧ ∃ w2 : hg_W, hx_R 28 w2 v ∧ (w2 28 9 = 0 ∨ w2 28 10 = 0)))
theorem hx_tt {w v : hg_W} (h : hx_Q w v) : ∃ (w1 v1 : hg_W) (r : Int), fX0_goOn 28 w = some (w1, r) ∧ fX5_toldTurn v = some (v1, r + 1) ∧ hx_Q w1 v1 ∧ hx_FC 28 w w1 ∧ hx_FM v v1 ∧ (-1 ≤ r ∧ r < 6) := by
  obtain ⟨vs, hT, hR, hv⟩ := h
  have r3 := hR.2.2.1
  have hO : fX5_isOver v = some (v, if w 28 9 = 0 ∨ w 28 10 = 0 then 1 else 0) := by
    rcases hv with rfl | ⟨h1, w2, h2, h3⟩
    · exact hx_over hR
    · rw [hx_over h2, if_pos h1, if_pos h3]
  by_cases q0 : w 28 9 = 0
  · refine ⟨w, v, -1, ?_, ?_, ⟨vs, hT, hR, hv⟩, hx_FC.rf, hx_FM.rf, by omega⟩
    · unfold fX0_goOn
      rw [if_pos (by rw [q0]; exact hx_wr01.1), hx_wr01.2.2]
    · unfold fX5_toldTurn
      rw [hO, hp_bd, hx_bif, if_pos (Or.inl q0), hx_wr01.1]
      rfl
  · obtain ⟨w1, v1, r, g1, g2, hR1, f1, m1, k1, hr⟩ := hx_go hx_r28 hT hR (by omega)
    have hT1 := hT.fr hx_r28 f1 m1
    by_cases q1 : w 28 10 = 0
    · have hv2 : ∃ w2 : hg_W, hx_R 28 w2 v ∧ (w2 28 9 = 0 ∨ w2 28 10 = 0) := by
        rcases hv with rfl | ⟨-, h2⟩
        · exact ⟨w, hR, Or.inr q1⟩
        · exact h2
      refine ⟨w1, v, -1, ?_, ?_, ⟨v1, hT1, hR1, Or.inr ⟨Or.inr (by omega), hv2⟩⟩, f1, hx_FM.rf, by omega⟩
      · rw [g1, show r = -1 by omega]
      · unfold fX5_toldTurn
        rw [hO, hp_bd, hx_bif, if_pos (Or.inr q1), hx_wr01.1]
        rfl
    · have e : v = vs := by
        rcases hv with h1 | ⟨h1, -⟩
        · exact h1
        · exact absurd h1 (by omega)
      subst e
      refine ⟨w1, v1, r, g1, ?_, ⟨v1, hT1, hR1, Or.inl rfl⟩, f1, m1, by omega⟩
      unfold fX5_toldTurn
      rw [hO, hp_bd, hx_bif, if_neg (by omega), g2, hp_bd, wr_id (x := r + 1) (by omega) (by omega)]
theorem hx_Sh.of {w v w' v' : hg_W} (h : hx_Sh w v) (hw : ∀ c, 47 ≤ c → c ≤ 53 → w' c = w c) (hv : ∀ c, 10 ≤ c → c ≤ 12 → v' c = v c) : hx_Sh w' v' := by
  intro s hs
  rw [hw 47 (by omega) (by omega), hw 48 (by omega) (by omega), hw (50 + s) (by omega) (by omega), hv 10 (by omega) (by omega), hv 11 (by omega) (by omega), hv 12 (by omega) (by omega)]
  exact h s hs
theorem hx_unlL {w0 v0 : hg_W} (hS : hx_Sh w0 v0) {s : Nat} (hs : s < 4) : ∀ (m n1 n2 k : Nat) (w v : hg_W), m < n1 → m + 1 < n2 → (k : Int) + m = w0 48 s → hx_Q w v → hx_FC 28 w0 w → hx_FM v0 v → ∃ (w' v' : hg_W) (r : Int), fX4_otherwise_2 n1 w (s : Int) (k : Int) = some (w', r) ∧ fX5_unlike_8 n2 v (s : Int) (-1) (k : Int) = fX5_unlike_53 v' r ∧ hx_FC 28 w0 w' ∧ hx_FM v0 v' ∧ (r = -1 ∨ 0 ≤ r ∧ r < w0 48 s) := by
  intro m
  induction m with
  | zero =>
    intro n1 n2 k w v h1 h2 hk hQ hw hv
    obtain ⟨n1, rfl⟩ : ∃ z, n1 = z + 1 := ⟨n1 - 1, by omega⟩
    obtain ⟨n2, rfl⟩ : ∃ z, n2 = z + 1 := ⟨n2 - 1, by omega⟩
    obtain ⟨-, z1, -⟩ := hS s hs
    have ts : (s : Int).toNat = s := by omega
    refine ⟨w, v, -1, ?_, ?_, hw, hv, Or.inl rfl⟩
    · simp only [fX4_otherwise_2]
      rw [ag_h48 (by omega) (by omega), hp_b, ts, hw 48 (by omega) (by omega), wr_id (x := w0 48 s) (by omega) (by omega), wr_id (x := (k : Int)) (by omega) (by omega), if_pos (by omega), hx_wr01.2.2]
    · simp only [fX5_unlike_8]
      rw [ag_m11 (by omega) (by omega), hp_b, ts, hv.1 11 (by omega) (by omega) (by omega) (by omega) (by omega), z1.2.2, wr_id (x := w0 48 s) (by omega) (by omega), wr_id (x := (k : Int)) (by omega) (by omega), if_pos (by omega)]
  | succ m ih =>
    intro n1 n2 k w v h1 h2 hk hQ hw hv
    obtain ⟨n1, rfl⟩ : ∃ z, n1 = z + 1 := ⟨n1 - 1, by omega⟩
    obtain ⟨n2, rfl⟩ : ∃ z, n2 = z + 1 := ⟨n2 - 1, by omega⟩
    obtain ⟨-, z1, z2⟩ := hS s hs
    obtain ⟨zc, zv⟩ := z2 k (by omega)
    unfold hx_c at zc
    have ts : (s : Int).toNat = s := by omega
    have tk : (k : Int).toNat = k := by omega
    have wk : wr (k : Int) = (k : Int) := wr_id (by omega) (by omega)
    obtain ⟨w1, v1, r, g1, g2, hQ1, f1, m1, hr⟩ := hx_tt hQ
    have hw1 := hw.tr f1
    have hv1 := hv.tr m1
    have eC : fX4_otherwise_2 (n1 + 1) w (s : Int) (k : Int) = if r + 1 = w0 (50 + s) k then fX4_otherwise_2 n1 w1 (s : Int) ((k : Int) + 1) else some (w1, (k : Int)) := by
      simp only [fX4_otherwise_2]
      rw [ag_h48 (by omega) (by omega), hp_b, ts, hw 48 (by omega) (by omega), wr_id (x := w0 48 s) (by omega) (by omega), wk, if_neg (by omega), g1, hp_bd, hp_ar49 (by omega) (by omega), hp_b, hp_sh (by omega) (by omega) (by omega), hp_b, ts, tk, hw1 (50 + s) (by omega) (by omega), wr_id (x := w0 (50 + s) k) (by omega) (by omega), wr_id (x := r + 1) (by omega) (by omega)]
    have eM : fX5_unlike_8 (n2 + 1) v (s : Int) (-1) (k : Int) = if w0 (50 + s) k = r + 1 then fX5_unlike_8 n2 v1 (s : Int) (-1) ((k : Int) + 1) else fX5_unlike_8 n2 v1 (s : Int) (k : Int) ((k : Int) + 1) := by
      simp only [fX5_unlike_8]
      rw [ag_m11 (by omega) (by omega), hp_b, ts, hv.1 11 (by omega) (by omega) (by omega) (by omega) (by omega), z1.2.2, wr_id (x := w0 48 s) (by omega) (by omega), wk, if_neg (by omega), if_true, ag_m12 (by omega) (by omega), hp_b, g2, hp_bd, show (40 * (s : Int) + (k : Int)).toNat = 40 * s + k by omega, hv.1 12 (by omega) (by omega) (by omega) (by omega) (by omega), zv, wr_id (x := w0 (50 + s) k) (by omega) (by omega), wr_id (x := r + 1) (by omega) (by omega)]
      rfl
    rw [eC, eM]
    by_cases q : r + 1 = w0 (50 + s) k
    · rw [if_pos q, if_pos q.symm, show (k : Int) + 1 = ((k + 1 : Nat) : Int) by omega]
      exact ih n1 n2 (k + 1) w1 v1 (by omega) (by omega) (by omega) hQ1 hw1 hv1
    · rw [if_neg q, if_neg (fun e => q e.symm)]
      refine ⟨w1, v1, (k : Int), rfl, ?_, hw1, hv1, Or.inr ⟨by omega, by omega⟩⟩
      obtain ⟨n2, rfl⟩ : ∃ z, n2 = z + 1 := ⟨n2 - 1, by omega⟩
      simp only [fX5_unlike_8]
      rw [ag_m11 (by omega) (by omega), hp_b, wk, hx_wr01.2.2, if_neg (show ¬ (k : Int) = -1 by omega), ite_self]
theorem hx_unl {w v : hg_W} (hT : hx_T w v) (hR : hx_R 28 w v) (hS : hx_Sh w v) {s : Nat} (hs : s < 4) : ∃ (w' v' : hg_W) (r : Int), fX4_otherwise w (s : Int) = some (w', r) ∧ fX5_unlike v (s : Int) = some (v', r) ∧ hx_FC 28 w w' ∧ hx_V v v' ∧ (r = -1 ∨ 0 ≤ r ∧ r < 40) := by
  obtain ⟨u, g1, g2, g3⟩ := hk_both hR
  have hK : hx_Kp v u := g3
  have hVu : hx_V v u := ⟨fun c _ _ _ _ h18 => g2 c h18, fun j _ => by rw [g2 3 (by omega)], fun j _ => by rw [g2 4 (by omega)]⟩
  have hSu : hx_Sh w u := hS.of (fun _ _ _ => rfl) (fun c _ _ => g2 c (by omega))
  obtain ⟨-, z1, -⟩ := hSu s hs
  obtain ⟨w', v', r, l1, l2, l3, l4, l5⟩ := hx_unlL hSu hs (w 48 s).toNat hg_F hg_F 0 w u (by unfold hg_F; omega) (by unfold hg_F; omega) (by omega) ⟨u, hVu.T hT, hVu.R hR, Or.inl rfl⟩ hx_FC.rf hx_FM.rf
  obtain ⟨v3, b1, b2, -⟩ := hK.back hVu rfl l4
  have l2b : fX5_unlike_8 hg_F u (s : Int) (-1) 0 = fX5_unlike_53 v' r := l2
  refine ⟨w', v3, r, l1, ?_, l3, b2, by omega⟩
  unfold fX5_unlike
  rw [g1, hp_bd, l2b]
  unfold fX5_unlike_53
  rw [b1, hp_bd, wr_id (x := r) (by omega) (by omega)]
theorem hx_wrong {w v : hg_W} (h : hx_A w v) {a : Int} (ha : hx_c a) : ∃ z : Int, fX1_refusalToTell w a = some (w, z) ∧ fX5_sheetWrong v a = some (v, z) ∧ wr z = z ∧ (z = 0 → 0 ≤ a ∧ a < 4 ∧ w 48 a.toNat ≤ 30) := by
  obtain ⟨hT, hR, hTp, hIm, hSh⟩ := id h
  have hac := ha
  unfold hx_c at ha
  have w2 : wr (-2) = -2 := wr_id (by omega) (by omega)
  have w11 : wr (-11) = -11 := wr_id (by omega) (by omega)
  have w30 : wr 30 = 30 := wr_id (by omega) (by omega)
  have w4 : wr 4 = 4 := wr_id (by omega) (by omega)
  have wa : wr a = a := wr_id ha.1 ha.2
  unfold fX1_refusalToTell fX5_sheetWrong fX4_isSheet fX1_isMissing
  rw [hx_in hac (by unfold hx_c; omega) (by unfold hx_c; omega), hp_bd, hx_bif, wa, w4, hx_wr01.1, hx_wr01.2.1, w2, w11, w30]
  simp only [true_or, or_true, if_true, Int.reduceEq]
  by_cases q : 0 ≤ a ∧ a ≤ 3
  · obtain ⟨s, rfl⟩ : ∃ s : Nat, a = (s : Int) := ⟨a.toNat, by omega⟩
    have ts : (s : Int).toNat = s := by omega
    obtain ⟨z0, z1, -⟩ := hSh s (by omega)
    rw [if_neg (show ¬ (s : Int) < 0 by omega), if_neg (show ¬ 4 ≤ (s : Int) by omega), if_pos q, hp_bd, hx_wr01.2.1, if_neg (by omega), ag_h47 (by omega) (by omega), hp_b, ag_m10 (by omega) (by omega), hp_b, ts, z0.2.2, wr_id (x := w 47 s) (by omega) (by omega), hx_wr01.2.2]
    by_cases q1 : w 47 s = -1
    · rw [if_neg (by omega), if_pos q1, hp_bd, hx_wr01.2.1, if_neg (by omega)]
      exact ⟨-11, rfl, rfl, w11, fun h => absurd h (by omega)⟩
    · rw [if_pos (by omega), if_neg q1, hp_bd, hx_wr01.1, if_pos rfl, ag_h48 (by omega) (by omega), hp_b, ag_m11 (by omega) (by omega), hp_b, ts, z1.2.2, wr_id (x := w 48 s) (by omega) (by omega)]
      by_cases q2 : w 48 s ≤ 30
      · rw [if_pos q2, if_pos q2]
        exact ⟨0, rfl, rfl, hx_wr01.1, fun _ => ⟨by omega, by omega, q2⟩⟩
      · rw [if_neg q2, if_neg q2]
        exact ⟨-2, rfl, rfl, w2, fun h => absurd h (by omega)⟩
  · rw [if_neg q]
    refine ⟨-2, ?_, rfl, w2, fun h => absurd h (by omega)⟩
    by_cases q1 : a < 0
    · rw [if_pos q1, hp_bd, hx_wr01.1, if_pos rfl]
    · rw [if_neg q1, if_pos (by omega), hp_bd, hx_wr01.1, if_pos rfl]
theorem hc_judge {w v : hg_W} (h : hx_A w v) {a : Int} (ha : hx_c a) : hx_ret (fX4_judge w a) (fX5_judge v a) := by
  obtain ⟨z, g1, g2, g3, g4⟩ := hx_wrong h ha
  unfold fX4_judge fX5_judge
  rw [g1, g2, hp_bd, hp_bd, g3]
  by_cases q : z = 0
  · rw [if_pos q, if_pos q]
    obtain ⟨a0, a4, -⟩ := g4 q
    obtain ⟨s, rfl⟩ : ∃ s : Nat, a = (s : Int) := ⟨a.toNat, by omega⟩
    obtain ⟨t1, t2, t3⟩ := hx_thR h
    have hS := h.2.2.2.2.of (w' := hk_beW w 28 19) (fun c h1 h2 => t3 c (by omega) (by omega)) (fun _ _ _ => rfl)
    obtain ⟨w', v', r, l1, l2, l3, l4, l5⟩ := hx_unl t2 t1 hS (s := s) (by omega)
    rw [hx_become28, hp_bd, l1, l2, hp_bd, hp_bd]
    exact ⟨_, _, _, rfl, rfl, h.th (t3.tr l3) l4⟩
  · rw [if_neg q, if_neg q]
    exact hx_ret.c h
/-! one place of the reference's set, looked at, and set back -/
theorem hx_V.up {x v : hg_W} {c k : Nat} {a b : Int} (h : hx_V (hg_up x c k a) v) : hx_V (hg_up x c k b) (hg_up v c k b) := by
  have key : ∀ c' k', v c' k' = hg_up x c k a c' k' → hg_up v c k b c' k' = hg_up x c k b c' k' := by
    intro c' k' e
    by_cases q : c' = c
    · subst q
      by_cases q2 : k' = k
      · subst q2; rw [hp_up_eq, hp_up_eq]
      · rw [hp_up_k q2, hp_up_k q2, e, hp_up_k q2]
    · rw [hp_up_c q, hp_up_c q, e, hp_up_c q]
  exact ⟨fun c' h3 h4 h16 h17 h18 => funext fun k' => key c' k' (congrFun (h.1 c' h3 h4 h16 h17 h18) k'), fun j hj => key 3 j (h.2.1 j hj), fun j hj => key 4 j (h.2.2 j hj)⟩
theorem hx_up_self {x : hg_W} {c k : Nat} : hg_up x c k (x c k) = x := by
  funext c' k'
  by_cases q : c' = c
  · subst q
    by_cases q2 : k' = k
    · subst q2; rw [hp_up_eq]
    · rw [hp_up_k q2]
  · rw [hp_up_c q]
theorem hx_up_comm {x : hg_W} {c k d l : Nat} {a b : Int} (h : c ≠ d) : hg_up (hg_up x c k a) d l b = hg_up (hg_up x d l b) c k a := by
  funext c' k'
  by_cases q : c' = d
  · subst q
    rw [hp_up_c (fun e => h e.symm)]
    by_cases q2 : k' = l
    · subst q2; rw [hp_up_eq, hp_up_eq]
    · rw [hp_up_k q2, hp_up_k q2, hp_up_c (fun e => h e.symm)]
  · rw [hp_up_c q]
    by_cases q2 : c' = c
    · subst q2
      by_cases q3 : k' = k
      · subst q3; rw [hp_up_eq, hp_up_eq]
      · rw [hp_up_k q3, hp_up_k q3, hp_up_c q]
    · rw [hp_up_c q2, hp_up_c q2, hp_up_c q]
theorem hx_or0 {x : Int} : hg_or x 0 = wr x := by
  unfold hg_or
  have : hg_I 0 = 0 := rfl
  rw [this, Int32.or_zero]
  rfl
theorem hx_orc {x y : Int} : hx_c (hg_or x y) := by
  unfold hg_or hx_c
  have h1 := Int32.le_toInt (hg_I x ||| hg_I y)
  have h2 := Int32.toInt_lt (hg_I x ||| hg_I y)
  omega
