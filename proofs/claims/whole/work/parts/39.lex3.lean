/-! ===== text: a token ===== -/
theorem hy_tkE {nu vm : Int} : hy_tk (-20) nu 0 vm := Or.inl ⟨rfl, rfl⟩
theorem hy_tkN {nu : Int} (h : 0 ≤ nu ∧ nu ≤ 9999) : hy_tk (-19) nu 1 nu := Or.inr (Or.inl ⟨rfl, rfl, rfl, h⟩)
theorem hy_tkW {tc nu vm : Int} (h : -6 ≤ tc ∧ tc ≤ -1) (e : vm = -1 - tc) : hy_tk tc nu 2 vm := Or.inr (Or.inr (Or.inl ⟨h.1, h.2, rfl, e⟩))
theorem hy_tkH {tc nu vm : Int} (h : -24 ≤ tc ∧ tc ≤ -22) (e : vm = -22 - tc) : hy_tk tc nu 3 vm := Or.inr (Or.inr (Or.inr (Or.inl ⟨h.1, h.2, rfl, e⟩)))
theorem hy_tkO {tc nu tm vm : Int} (h : -9 ≤ tc ∧ tc ≤ -7) (e : tm = -3 - tc) : hy_tk tc nu tm vm := Or.inr (Or.inr (Or.inr (Or.inr (Or.inl ⟨h.1, h.2, e⟩))))
theorem hy_tkS {tc nu tm vm : Int} (h : (tc = -16 ∧ tm = 40) ∨ (tc = -17 ∧ tm = 41) ∨ (tc = -18 ∧ tm = 59) ∨ (tc = -12 ∧ tm = 43) ∨ (tc = -13 ∧ tm = 45) ∨ (tc = -14 ∧ tm = 42) ∨ (tc = -10 ∧ tm = 60) ∨ (tc = -11 ∧ tm = 61) ∨ (tc = -21 ∧ tm = -1)) : hy_tk tc nu tm vm := Or.inr (Or.inr (Or.inr (Or.inr (Or.inr h))))
theorem hy_tkB {nu vm : Int} : hy_tk (-21) nu (-1) vm := hy_tkS (Or.inr (Or.inr (Or.inr (Or.inr (Or.inr (Or.inr (Or.inr (Or.inr ⟨rfl, rfl⟩))))))))
theorem hy_stW {n s : Nat} {W V : hg_W} (hB : hy_B n W V) (h4 : W 17 4 = (s : Int)) (h5 : W 17 5 = (s : Int)) (k20 : V 0 20 = (s : Int)) (k21 : V 0 21 = (s : Int)) (hs : s < n) (hl : 97 ≤ W 18 s ∧ W 18 s ≤ 122) : ∃ (W' V' : hg_W) (p' : Nat), (hg_bd (fX2_stepOverWord W) fun w27 v28 => (hg_pt w27 17 6 v28).bind fun w30 => some (w30, (0 : Int))) = some (W', 0) ∧ fX5_next_103 hg_F V = some (V', 0) ∧ hy_LC W W' ∧ hy_LM V V' ∧ W' 17 4 = (p' : Int) ∧ V' 0 20 = (p' : Int) ∧ W' 17 5 = (s : Int) ∧ V' 0 21 = (s : Int) ∧ s < p' ∧ p' ≤ n ∧ hy_tk (W' 17 6) (W' 17 7) (V' 0 22) (V' 0 23) := by
  have hn := hB.1.1
  obtain ⟨q1, i1, i2, i3, i4, i5, i6⟩ := hy_letL hB (b := s) (n - s) hg_F hg_F s (by unfold hg_F; omega) (by unfold hg_F; omega) (by omega) (fun k h1 h2 => absurd h1 (by omega))
  have hq : s < q1 := by
    rcases Nat.lt_or_ge s q1 with h | h
    · exact h
    · have e : q1 = s := by omega
      rw [e] at i4
      exact absurd hl (i4 hs)
  have eW : hg_up W 17 4 (s : Int) = W := by rw [← h4]; exact hx_up_self
  have eV : hg_up V 0 20 (s : Int) = V := by rw [← k20]; exact hx_up_self
  rw [eW] at i5
  rw [eV] at i6
  have e18 : hg_up W 17 4 (q1 : Int) 18 = W 18 := hg_up_ne 18 (by omega)
  have g1 := hy_41 (w := hg_up W 17 4 (q1 : Int)) (s := s) (L := q1 - s) (by rw [hp_up_k (by omega)]; exact h5) (by rw [hp_up_eq]; omega) (by omega) (by omega) (fun k h1 h2 => by
    have := i3 k h1 (by omega)
    rw [e18]
    omega) 24 hg_F 0 (by unfold hg_F; omega) (by omega)
  rw [e18] at g1
  have g2 := hy_wordM (v := hg_up V 0 20 (q1 : Int)) (s := s) (L := q1 - s) (T := W 18) (by omega) (fun j hj => by rw [hp_up_c (by omega)]; exact hB.2.2 j hj) (fun k h1 h2 => ⟨i3 k h1 (by omega), by rw [hp_up_c (by omega)]; exact (hB.2.1 k (by omega)).2.2⟩) 12 hg_F 0 (by unfold hg_F; omega) (by omega)
  rw [show s + (q1 - s) = q1 by omega] at g2
  obtain ⟨k, r, m1, m2, m3⟩ := hy_bothE (W 18) s (q1 - s)
  rw [m2] at g1
  rw [m1] at g2
  have g1' : fX2_stepOverWord W = some (hg_up W 17 4 (q1 : Int), r) := by
    unfold fX2_stepOverWord
    rw [i5]
    exact g1
  have g2' : fX5_wordFrom (hg_up V 0 20 (q1 : Int)) (hg_up V 0 20 (q1 : Int) 0 21) (hg_up V 0 20 (q1 : Int) 0 20) = some (hg_up V 0 20 (q1 : Int), (k : Int)) := by
    rw [hp_up_eq, hp_up_k (by omega), k21]
    exact g2
  have w3 : wr 3 = 3 := wr_id (by omega) (by omega)
  have w9 : wr 9 = 9 := wr_id (by omega) (by omega)
  have w12 : wr 12 = 12 := wr_id (by omega) (by omega)
  have wk : wr (k : Int) = (k : Int) := wr_id (by omega) (by omega)
  have fin : ∀ tm vm : Int, hy_tk r (W 17 7) tm vm → fX5_next_146 (hg_up V 0 20 (q1 : Int)) = some (hg_up (hg_up (hg_up V 0 20 (q1 : Int)) 0 22 tm) 0 23 vm, 0) → ∃ (W' V' : hg_W) (p' : Nat), (hg_bd (fX2_stepOverWord W) fun w27 v28 => (hg_pt w27 17 6 v28).bind fun w30 => some (w30, (0 : Int))) = some (W', 0) ∧ fX5_next_103 hg_F V = some (V', 0) ∧ hy_LC W W' ∧ hy_LM V V' ∧ W' 17 4 = (p' : Int) ∧ V' 0 20 = (p' : Int) ∧ W' 17 5 = (s : Int) ∧ V' 0 21 = (s : Int) ∧ s < p' ∧ p' ≤ n ∧ hy_tk (W' 17 6) (W' 17 7) (V' 0 22) (V' 0 23) := by
    intro tm vm t1 t2
    refine ⟨hg_up (hg_up W 17 4 (q1 : Int)) 17 6 r, hg_up (hg_up (hg_up V 0 20 (q1 : Int)) 0 22 tm) 0 23 vm, q1, ?_, i6.trans t2, (hy_LC.up (by omega)).tr (hy_LC.up (by omega)), ((hy_LM.up (by omega)).tr (hy_LM.up (by omega))).tr (hy_LM.up (by omega)), ?_, ?_, ?_, ?_, hq, i2, ?_⟩
    · rw [g1', hp_bd, hp_pt, hp_b, wr_id (x := r) (by omega) (by omega)]
    · rw [hp_up_k (by omega), hp_up_eq]
    · rw [hp_up_k (by omega), hp_up_k (by omega), hp_up_eq]
    · rw [hp_up_k (by omega), hp_up_k (by omega)]; exact h5
    · rw [hp_up_k (by omega), hp_up_k (by omega), hp_up_k (by omega)]; exact k21
    · rw [hp_up_eq, hp_up_eq, hp_up_k (show 7 ≠ 6 by omega), hp_up_k (show 7 ≠ 4 by omega), hp_up_k (show 22 ≠ 23 by omega), hp_up_eq]
      exact t1
  have e146 : fX5_next_146 (hg_up V 0 20 (q1 : Int)) = if 3 ≤ (k : Int) then (if 9 ≤ (k : Int) then (if (k : Int) = 12 then fX5_next_195 (hg_up V 0 20 (q1 : Int)) (k : Int) (-1) else fX5_next_195 (hg_up V 0 20 (q1 : Int)) (k : Int) (4 + (k : Int) - 9)) else fX5_next_195 (hg_up V 0 20 (q1 : Int)) (k : Int) 2) else fX5_next_195 (hg_up V 0 20 (q1 : Int)) (k : Int) 3 := by
    unfold fX5_next_146
    rw [g2', hp_bd, w3, w9, w12, wk]
  have e195 : ∀ tm : Int, wr tm = tm → fX5_next_195 (hg_up V 0 20 (q1 : Int)) (k : Int) tm = some (hg_up (hg_up (hg_up V 0 20 (q1 : Int)) 0 22 tm) 0 23 (if 3 ≤ (k : Int) then (k : Int) - 3 else (k : Int)), 0) := by
    intro tm ht
    unfold fX5_next_195 fX5_next_211
    rw [hp_pt, hp_b, w3, wk, ht]
    by_cases q : 3 ≤ (k : Int)
    · rw [if_pos q, if_pos q, hp_pt, hp_b, wr_id (x := (k : Int) - 3) (by omega) (by omega)]
    · rw [if_neg q, if_neg q, hp_pt, hp_b, wk]
  rcases m3 with ⟨e1, e2⟩ | ⟨e1, e2⟩ | ⟨e1, e2, e3⟩
  · rw [if_pos (show 3 ≤ (k : Int) by omega), if_pos (show 9 ≤ (k : Int) by omega), if_pos (show (k : Int) = 12 by omega), e195 (-1) hx_wr01.2.2] at e146
    rw [e2] at fin
    exact fin _ _ hy_tkB e146
  · rw [if_neg (show ¬ 3 ≤ (k : Int) by omega), e195 3 w3, if_neg (show ¬ 3 ≤ (k : Int) by omega)] at e146
    exact fin _ _ (hy_tkH (by omega) (by omega)) e146
  · rw [if_pos (show 3 ≤ (k : Int) by omega)] at e146
    by_cases q9 : 9 ≤ (k : Int)
    · rw [if_pos q9, if_neg (show ¬ (k : Int) = 12 by omega), e195 _ (wr_id (by omega) (by omega))] at e146
      exact fin _ _ (hy_tkO (by omega) (by omega)) e146
    · rw [if_neg q9, e195 2 (wr_id (by omega) (by omega)), if_pos (show 3 ≤ (k : Int) by omega)] at e146
      exact fin _ _ (hy_tkW (by omega) (by omega)) e146
theorem hy_stN {n s : Nat} {W V : hg_W} (hB : hy_B n W V) (h4 : W 17 4 = (s : Int)) (h5 : W 17 5 = (s : Int)) (k20 : V 0 20 = (s : Int)) (k21 : V 0 21 = (s : Int)) (k23 : V 0 23 = 0) (hs : s < n) (hl : 48 ≤ W 18 s ∧ W 18 s ≤ 57) : ∃ (W' V' : hg_W) (p' : Nat), (hg_bd (fX2_stepOverNumber W) fun w22 v23 => (hg_pt w22 17 6 v23).bind fun w25 => some (w25, (0 : Int))) = some (W', 0) ∧ fX5_next_230 hg_F V 0 = some (V', 0) ∧ hy_LC W W' ∧ hy_LM V V' ∧ W' 17 4 = (p' : Int) ∧ V' 0 20 = (p' : Int) ∧ W' 17 5 = (s : Int) ∧ V' 0 21 = (s : Int) ∧ s < p' ∧ p' ≤ n ∧ hy_tk (W' 17 6) (W' 17 7) (V' 0 22) (V' 0 23) := by
  have hn := hB.1.1
  obtain ⟨c, nu, vm, i1, i2, i3, i4, i5, i6⟩ := hy_digL hB (s := s) (n - s) hg_F hg_F 0 0 0 (by unfold hg_F; omega) (by unfold hg_F; omega) (by omega) (fun _ => ⟨rfl, Int.le_refl _, by decide⟩)
  have hc : 0 < c := by
    rcases Nat.eq_zero_or_pos c with h | h
    · rw [h, Nat.add_zero] at i4
      exact absurd hl (i4 hs)
    · exact h
  rw [Nat.add_zero] at i5 i6
  have eW : hg_up (hg_up W 17 7 0) 17 4 (s : Int) = hg_up W 17 7 0 := by
    have e : hg_up W 17 7 0 17 4 = (s : Int) := by rw [hp_up_k (by omega)]; exact h4
    rw [← e]; exact hx_up_self
  have eV : hg_up (hg_up V 0 23 0) 0 20 (s : Int) = V := by
    have e0 : hg_up V 0 23 0 = V := by
      have := hx_up_self (x := V) (c := 0) (k := 23)
      rw [k23] at this
      exact this
    rw [e0, ← k20]; exact hx_up_self
  rw [eW] at i5
  rw [eV] at i6
  have i6' : fX5_next_230 hg_F V 0 = fX5_next_309 (hg_up (hg_up V 0 23 vm) 0 20 ((s + c : Nat) : Int)) (c : Int) := i6
  have w4 : wr 4 = 4 := wr_id (by omega) (by omega)
  have fin : ∀ tc tm : Int, wr tc = tc → wr tm = tm → hy_tk tc nu tm vm → fX2_stepOverNumber_68 (hg_up (hg_up W 17 7 nu) 17 4 ((s + c : Nat) : Int)) = some (hg_up (hg_up W 17 7 nu) 17 4 ((s + c : Nat) : Int), tc) → fX5_next_309 (hg_up (hg_up V 0 23 vm) 0 20 ((s + c : Nat) : Int)) (c : Int) = fX5_next_320 (hg_up (hg_up V 0 23 vm) 0 20 ((s + c : Nat) : Int)) tm → ∃ (W' V' : hg_W) (p' : Nat), (hg_bd (fX2_stepOverNumber W) fun w22 v23 => (hg_pt w22 17 6 v23).bind fun w25 => some (w25, (0 : Int))) = some (W', 0) ∧ fX5_next_230 hg_F V 0 = some (V', 0) ∧ hy_LC W W' ∧ hy_LM V V' ∧ W' 17 4 = (p' : Int) ∧ V' 0 20 = (p' : Int) ∧ W' 17 5 = (s : Int) ∧ V' 0 21 = (s : Int) ∧ s < p' ∧ p' ≤ n ∧ hy_tk (W' 17 6) (W' 17 7) (V' 0 22) (V' 0 23) := by
    intro tc tm h1 h2 h3 h6 h7
    refine ⟨hg_up (hg_up (hg_up W 17 7 nu) 17 4 ((s + c : Nat) : Int)) 17 6 tc, hg_up (hg_up (hg_up V 0 23 vm) 0 20 ((s + c : Nat) : Int)) 0 22 tm, s + c, ?_, ?_, ((hy_LC.up (by omega)).tr (hy_LC.up (by omega))).tr (hy_LC.up (by omega)), ((hy_LM.up (by omega)).tr (hy_LM.up (by omega))).tr (hy_LM.up (by omega)), ?_, ?_, ?_, ?_, by omega, i2, ?_⟩
    · unfold fX2_stepOverNumber
      rw [hp_pt, hp_b, hx_wr01.1, i5, h6, hp_bd, hp_pt, hp_b, h1]
    · rw [i6', h7]
      unfold fX5_next_320
      rw [hp_pt, hp_b, h2]
    · rw [hp_up_k (by omega), hp_up_eq]
    · rw [hp_up_k (by omega), hp_up_eq]
    · rw [hp_up_k (by omega), hp_up_k (by omega), hp_up_k (by omega)]; exact h5
    · rw [hp_up_k (by omega), hp_up_k (by omega), hp_up_k (by omega)]; exact k21
    · rw [hp_up_eq, hp_up_eq, hp_up_k (show 7 ≠ 6 by omega), hp_up_k (show 7 ≠ 4 by omega), hp_up_eq, hp_up_k (show 23 ≠ 22 by omega), hp_up_k (show 23 ≠ 20 by omega), hp_up_eq]
      exact h3
  have e68 : fX2_stepOverNumber_68 (hg_up (hg_up W 17 7 nu) 17 4 ((s + c : Nat) : Int)) = if c ≤ 4 then some (hg_up (hg_up W 17 7 nu) 17 4 ((s + c : Nat) : Int), -19) else some (hg_up (hg_up W 17 7 nu) 17 4 ((s + c : Nat) : Int), -21) := by
    unfold fX2_stepOverNumber_68
    rw [show hg_up (hg_up W 17 7 nu) 17 4 ((s + c : Nat) : Int) 17 4 = ((s + c : Nat) : Int) from hp_up_eq, show hg_up (hg_up W 17 7 nu) 17 4 ((s + c : Nat) : Int) 17 5 = (s : Int) by rw [hp_up_k (by omega), hp_up_k (by omega)]; exact h5, w4, wr_id (x := ((s + c : Nat) : Int) - (s : Int)) (by omega) (by omega), wr_id (x := -19) (by omega) (by omega), wr_id (x := -21) (by omega) (by omega)]
    by_cases q : c ≤ 4
    · rw [if_pos q, if_pos (by omega)]
    · rw [if_neg q, if_neg (by omega)]
  have e309 : fX5_next_309 (hg_up (hg_up V 0 23 vm) 0 20 ((s + c : Nat) : Int)) (c : Int) = if c ≤ 4 then fX5_next_320 (hg_up (hg_up V 0 23 vm) 0 20 ((s + c : Nat) : Int)) 1 else fX5_next_320 (hg_up (hg_up V 0 23 vm) 0 20 ((s + c : Nat) : Int)) (-1) := by
    unfold fX5_next_309
    rw [w4, wr_id (x := (c : Int)) (by omega) (by omega)]
    by_cases q : c ≤ 4
    · rw [if_pos q, if_pos (by omega)]
    · rw [if_neg q, if_neg (by omega)]
  by_cases q : c ≤ 4
  · rw [if_pos q] at e68 e309
    obtain ⟨j1, j2, j3⟩ := i3 q
    have j4 : (10 : Int) ^ c ≤ 10000 := by
      rcases (by omega : c = 1 ∨ c = 2 ∨ c = 3 ∨ c = 4) with rfl | rfl | rfl | rfl <;> decide
    have j5 : hy_tk (-19) nu 1 vm := by rw [← j1]; exact hy_tkN (by omega)
    exact fin (-19) 1 (wr_id (by omega) (by omega)) hx_wr01.2.1 j5 e68 e309
  · rw [if_neg q] at e68 e309
    exact fin (-21) (-1) (wr_id (by omega) (by omega)) hx_wr01.2.2 hy_tkB e68 e309
theorem hy_sign {b : Int} (hb : 0 ≤ b ∧ b ≤ 255) : ∃ tc tm : Int, (∀ w, fX2_signOf w b = some (w, tc)) ∧ (∀ w, (if wr b = wr 40 then fX5_next_374 w b else if wr b = wr 41 then fX5_next_374 w b else if wr b = wr 59 then fX5_next_374 w b else if wr b = wr 43 then fX5_next_374 w b else if wr b = wr 45 then fX5_next_374 w b else if wr b = wr 42 then fX5_next_374 w b else if wr b = wr 60 then fX5_next_374 w b else if wr b = wr 61 then fX5_next_374 w b else fX5_next_379 w b 0) = fX5_next_390 w tm) ∧ wr tc = tc ∧ wr tm = tm ∧ tc ≠ -20 ∧ ∀ nu vm, hy_tk tc nu tm vm := by
  have h1 : ∀ w, fX5_next_374 w b = fX5_next_390 w b := fun w => by
    unfold fX5_next_374 fX5_next_379
    rw [hx_wr01.2.1, if_neg (by omega)]
  have h0 : ∀ w, fX5_next_379 w b 0 = fX5_next_390 w (-1) := fun w => by
    unfold fX5_next_379
    rw [hx_wr01.1, if_pos rfl]
  have wb : wr b = b := wr_id (by omega) (by omega)
  have e40 : wr 40 = 40 := wr_id (by omega) (by omega)
  have e41 : wr 41 = 41 := wr_id (by omega) (by omega)
  have e42 : wr 42 = 42 := wr_id (by omega) (by omega)
  have e43 : wr 43 = 43 := wr_id (by omega) (by omega)
  have e45 : wr 45 = 45 := wr_id (by omega) (by omega)
  have e59 : wr 59 = 59 := wr_id (by omega) (by omega)
  have e60 : wr 60 = 60 := wr_id (by omega) (by omega)
  have e61 : wr 61 = 61 := wr_id (by omega) (by omega)
  have m10 : wr (-10) = -10 := wr_id (by omega) (by omega)
  have m11 : wr (-11) = -11 := wr_id (by omega) (by omega)
  have m12 : wr (-12) = -12 := wr_id (by omega) (by omega)
  have m13 : wr (-13) = -13 := wr_id (by omega) (by omega)
  have m14 : wr (-14) = -14 := wr_id (by omega) (by omega)
  have m16 : wr (-16) = -16 := wr_id (by omega) (by omega)
  have m17 : wr (-17) = -17 := wr_id (by omega) (by omega)
  have m18 : wr (-18) = -18 := wr_id (by omega) (by omega)
  have m21 : wr (-21) = -21 := wr_id (by omega) (by omega)
  simp only [fX2_signOf, h1, h0, wb, e40, e41, e42, e43, e45, e59, e60, e61, m10, m11, m12, m13, m14, m16, m17, m18, m21]
  clear h1 h0
  rcases (by omega : b = 40 ∨ b = 41 ∨ b = 59 ∨ b = 43 ∨ b = 45 ∨ b = 42 ∨ b = 60 ∨ b = 61 ∨ (b ≠ 40 ∧ b ≠ 41 ∧ b ≠ 59 ∧ b ≠ 43 ∧ b ≠ 45 ∧ b ≠ 42 ∧ b ≠ 60 ∧ b ≠ 61)) with rfl | rfl | rfl | rfl | rfl | rfl | rfl | rfl | h
  · exact ⟨-16, 40, fun w => rfl, fun w => rfl, m16, e40, by omega, fun nu vm => hy_tkS (by omega)⟩
  · exact ⟨-17, 41, fun w => rfl, fun w => rfl, m17, e41, by omega, fun nu vm => hy_tkS (by omega)⟩
  · exact ⟨-18, 59, fun w => rfl, fun w => rfl, m18, e59, by omega, fun nu vm => hy_tkS (by omega)⟩
  · exact ⟨-12, 43, fun w => rfl, fun w => rfl, m12, e43, by omega, fun nu vm => hy_tkS (by omega)⟩
  · exact ⟨-13, 45, fun w => rfl, fun w => rfl, m13, e45, by omega, fun nu vm => hy_tkS (by omega)⟩
  · exact ⟨-14, 42, fun w => rfl, fun w => rfl, m14, e42, by omega, fun nu vm => hy_tkS (by omega)⟩
  · exact ⟨-10, 60, fun w => rfl, fun w => rfl, m10, e60, by omega, fun nu vm => hy_tkS (by omega)⟩
  · exact ⟨-11, 61, fun w => rfl, fun w => rfl, m11, e61, by omega, fun nu vm => hy_tkS (by omega)⟩
  · obtain ⟨a1, a2, a3, a4, a5, a6, a7, a8⟩ := h
    refine ⟨-21, -1, fun w => ?_, fun w => ?_, m21, hx_wr01.2.2, by omega, fun nu vm => hy_tkS (by omega)⟩
    · rw [if_neg a1, if_neg a2, if_neg a6, if_neg a4, if_neg a5, if_neg a3, if_neg a7, if_neg a8]
      simp only [ite_self]
    · rw [if_neg a1, if_neg a2, if_neg a3, if_neg a4, if_neg a5, if_neg a6, if_neg a7, if_neg a8]
/-- both read the next token: the same one -/
theorem hy_step {n p : Nat} {w v : hg_W} (hB : hy_B n w v) (hf : w 17 8 = -1) (hp : w 17 4 = (p : Int)) (hv : v 0 20 = (p : Int)) (hpn : p ≤ n) : ∃ (w' v' : hg_W) (b p' : Nat), fX2_step w = some (w', 0) ∧ fX5_next v = some (v', 0) ∧ hy_LC w w' ∧ hy_LM v v' ∧ w' 17 4 = (p' : Int) ∧ v' 0 20 = (p' : Int) ∧ w' 17 5 = (b : Int) ∧ v' 0 21 = (b : Int) ∧ p ≤ b ∧ b ≤ p' ∧ p' ≤ n ∧ hy_tk (w' 17 6) (w' 17 7) (v' 0 22) (v' 0 23) ∧ (w' 17 6 ≠ -20 → b < p') := by
  have hn := hB.1.1
  obtain ⟨p1, h1, h2, g1, g2⟩ := hy_blank hB (n - p) hg_F hg_F p (by unfold hg_F; omega) (by unfold hg_F; omega) (by omega)
  have eW : hg_up w 17 4 (p : Int) = w := by rw [← hp]; exact hx_up_self
  have eV : hg_up v 0 20 (p : Int) = v := by rw [← hv]; exact hx_up_self
  rw [eW] at g1
  rw [eV] at g2
  have s1 : fX2_step w = fX2_step_60 (hg_up w 17 4 (p1 : Int)) := by
    unfold fX2_step
    rw [hf, hx_wr01.2.2, if_pos (by omega), g1]
  have s2 : fX5_next v = fX5_next_52 (hg_up v 0 20 (p1 : Int)) := g2
  obtain ⟨W, hW⟩ : ∃ W, W = hg_up (hg_up w 17 4 (p1 : Int)) 17 5 (p1 : Int) := ⟨_, rfl⟩
  obtain ⟨V, hV⟩ : ∃ V, V = hg_up (hg_up (hg_up (hg_up v 0 20 (p1 : Int)) 0 21 (p1 : Int)) 0 22 0) 0 23 0 := ⟨_, rfl⟩
  have lC : hy_LC w W := by rw [hW]; exact (hy_LC.up (by omega)).tr (hy_LC.up (by omega))
  have lM : hy_LM v V := by rw [hV]; exact (((hy_LM.up (by omega)).tr (hy_LM.up (by omega))).tr (hy_LM.up (by omega))).tr (hy_LM.up (by omega))
  have hB1 := hB.fr lC lM
  have w4 : W 17 4 = (p1 : Int) := by rw [hW, hp_up_k (by omega), hp_up_eq]
  have w5 : W 17 5 = (p1 : Int) := by rw [hW, hp_up_eq]
  have v20 : V 0 20 = (p1 : Int) := by rw [hV, hp_up_k (by omega), hp_up_k (by omega), hp_up_k (by omega), hp_up_eq]
  have v21 : V 0 21 = (p1 : Int) := by rw [hV, hp_up_k (by omega), hp_up_k (by omega), hp_up_eq]
  have v22 : V 0 22 = 0 := by rw [hV, hp_up_k (by omega), hp_up_eq]
  have v23 : V 0 23 = 0 := by rw [hV, hp_up_eq]
  have wp : wr (p1 : Int) = (p1 : Int) := wr_id (by omega) (by omega)
  obtain ⟨⟨-, b2, b3⟩, b4, -⟩ := id hB1
  have wn : wr (n : Int) = (n : Int) := wr_id (by omega) (by omega)
  unfold fX2_step_60 at s1
  rw [hp_up_eq, hp_pt, hp_b, wp, ← hW, w4, b2, wp, wn] at s1
  unfold fX5_next_52 at s2
  rw [hp_up_eq, hp_pt, hp_b, wp, hp_pt, hp_b, hx_wr01.1, hp_pt, hp_b, hx_wr01.1, ← hV, v20, b3, wp, wn] at s2
  by_cases q : p1 = n
  · rw [if_neg (by omega), hp_pt, hp_b, wr_id (x := -20) (by omega) (by omega)] at s1
    rw [if_pos (by omega)] at s2
    refine ⟨_, _, p1, p1, s1, s2, lC.tr (hy_LC.up (by omega)), lM, ?_, v20, ?_, v21, h1, Nat.le_refl _, h2, ?_, fun h => absurd hp_up_eq h⟩
    · rw [hp_up_k (by omega)]; exact w4
    · rw [hp_up_k (by omega)]; exact w5
    · rw [hp_up_eq, v22]; exact hy_tkE
  · obtain ⟨t1, t2, t3⟩ := b4 p1 (by omega)
    have tn : (p1 : Int).toNat = p1 := by omega
    rw [if_pos (by omega), ag_h18 (by omega) (by omega), hp_b, tn, hy_let ⟨t1, t2⟩, hp_bd] at s1
    rw [if_neg (by omega), ag_m5 (by omega) (by omega), hp_b, tn, t3, hx_in (by unfold hx_c; omega) (by unfold hx_c; omega) (by unfold hx_c; omega), hp_bd] at s2
    by_cases c1 : 97 ≤ W 18 p1 ∧ W 18 p1 ≤ 122
    · rw [if_pos c1, hx_wr01.2.1, if_neg (show ¬ (1 : Int) = 0 by omega)] at s1 s2
      obtain ⟨W', V', p', i1, i2, i3, i4, i5, i6, i7, i8, i9, i10, i11⟩ := hy_stW hB1 w4 w5 v20 v21 (by omega) c1
      exact ⟨W', V', p1, p', s1.trans i1, s2.trans i2, lC.tr i3, lM.tr i4, i5, i6, i7, i8, h1, by omega, i10, i11, fun _ => i9⟩
    · rw [if_neg c1, hx_wr01.1, if_pos rfl] at s1 s2
      rw [w4, ag_h18 (by omega) (by omega), hp_b, tn, hy_dgt ⟨t1, t2⟩, hp_bd] at s1
      rw [hx_in (by unfold hx_c; omega) (by unfold hx_c; omega) (by unfold hx_c; omega), hp_bd] at s2
      by_cases c2 : 48 ≤ W 18 p1 ∧ W 18 p1 ≤ 57
      · rw [if_pos c2, hx_wr01.2.1, if_neg (show ¬ (1 : Int) = 0 by omega)] at s1 s2
        obtain ⟨W', V', p', i1, i2, i3, i4, i5, i6, i7, i8, i9, i10, i11⟩ := hy_stN hB1 w4 w5 v20 v21 v23 (by omega) c2
        exact ⟨W', V', p1, p', s1.trans i1, s2.trans i2, lC.tr i3, lM.tr i4, i5, i6, i7, i8, h1, by omega, i10, i11, fun _ => i9⟩
      · rw [if_neg c2, hx_wr01.1, if_pos rfl] at s1 s2
        obtain ⟨tc, tm, j1, j2, j3, j4, j5, j6⟩ := hy_sign (b := W 18 p1) ⟨t1, t2⟩
        rw [w4, ag_h18 (by omega) (by omega), hp_b, tn, j1, hp_bd, hp_pt, hp_b, j3, hp_up_k (by omega), w4, hp_pt, hp_b, wr_id (x := (p1 : Int) + 1) (by omega) (by omega)] at s1
        have e390 : fX5_next_390 V tm = some (hg_up (hg_up V 0 22 tm) 0 20 ((p1 : Int) + 1), 0) := by
          unfold fX5_next_390
          rw [hp_pt, hp_b, j4, hp_up_k (by omega), v20, hp_pt, hp_b, wr_id (x := (p1 : Int) + 1) (by omega) (by omega)]
        refine ⟨_, _, p1, p1 + 1, s1, (s2.trans (j2 V)).trans e390, (lC.tr (hy_LC.up (by omega))).tr (hy_LC.up (by omega)), (lM.tr (hy_LM.up (by omega))).tr (hy_LM.up (by omega)), ?_, ?_, ?_, ?_, h1, by omega, by omega, ?_, fun _ => by omega⟩
        · rw [hp_up_eq]; omega
        · rw [hp_up_eq]; omega
        · rw [hp_up_k (by omega), hp_up_k (by omega)]; exact w5
        · rw [hp_up_k (by omega), hp_up_k (by omega)]; exact v21
        · rw [hp_up_k (show 6 ≠ 4 by omega), hp_up_eq, hp_up_k (show 22 ≠ 20 by omega), hp_up_eq]
          exact j6 _ _
