/-! ===== text ===== -/
theorem hx_A.tx {t : Nat} {w v w' v' : hg_W} (h : hx_A w v) (hT : hx_T w' v') (hsz : w 1 3 ≤ w' 1 3) (hw : ∀ c, c ≠ 1 → c ≠ 17 → c ≠ 3 + t → c ≠ 10 + t → w' c = w c) (ht6 : t < 6) (h17 : w' 17 1 = 0) (h8 : v' 0 8 = 0) (hv : ∀ c, c ≠ 0 → c ≠ 6 → c ≠ 7 → c ≠ 15 → v' c = v c) (h0 : ∀ k, (k < 8 ∨ k = 12 ∨ k = 13) → v' 0 k = v 0 k) : hx_A w' v' := by
  obtain ⟨-, hR, hTp, hIm, hSh⟩ := h
  refine ⟨hT, ?_, ?_, ?_, hSh.of (fun c _ _ => hw c (by omega) (by omega) (by omega) (by omega)) (fun c _ _ => hv c (by omega) (by omega) (by omega) (by omega))⟩
  · have hR1 : hx_R 19 w' v := by
      obtain ⟨r1, r2, r3, r4, r5, r6, r7⟩ := hR
      refine ⟨fun k hk => ?_, fun k hk => ?_, ?_, ?_, ?_, ?_, ?_⟩
      · rw [hw _ (by omega) (by omega) (by omega) (by omega), hw _ (by omega) (by omega) (by omega) (by omega), hw _ (by omega) (by omega) (by omega) (by omega), hw _ (by omega) (by omega) (by omega) (by omega), hw _ (by omega) (by omega) (by omega) (by omega)]; exact r1 k hk
      · rw [hw 19 (by omega) (by omega) (by omega) (by omega)] at hk
        rw [hw _ (by omega) (by omega) (by omega) (by omega), hw _ (by omega) (by omega) (by omega) (by omega)]; exact r2 k hk
      · rw [hw 19 (by omega) (by omega) (by omega) (by omega)]; exact r3
      · rw [hw 19 (by omega) (by omega) (by omega) (by omega), hw _ (by omega) (by omega) (by omega) (by omega)]; exact r4
      · rw [hw 19 (by omega) (by omega) (by omega) (by omega)]; exact r5
      · rw [hw 19 (by omega) (by omega) (by omega) (by omega)]; exact r6
      · rw [hw 19 (by omega) (by omega) (by omega) (by omega)]; omega
    exact hR1.vals (fun j _ => by rw [hv 3 (by omega) (by omega) (by omega) (by omega)]) (fun j _ => by rw [hv 4 (by omega) (by omega) (by omega) (by omega)]) (fun j _ => by rw [hv 1 (by omega) (by omega) (by omega) (by omega)]) (fun j _ => by rw [hv 2 (by omega) (by omega) (by omega) (by omega)]) (h0 0 (by omega)) (h0 5 (by omega)) (h0 6 (by omega)) (h0 12 (by omega))
  · refine ⟨by omega, fun k hk => absurd hk (by omega), fun j hj => ?_⟩
    rw [hv 14 (by omega) (by omega) (by omega) (by omega)]
    exact hTp.2.2 j hj
  · unfold hx_Im at hIm ⊢
    rw [hw 0 (by omega) (by omega) (by omega) (by omega), h0 13 (by omega), hw 19 (by omega) (by omega) (by omega) (by omega), hw 37 (by omega) (by omega) (by omega) (by omega)]
    refine ⟨hIm.1, hIm.2.1, fun h1 => ⟨?_, (hIm.2.2 h1).2⟩⟩
    have hi := (hIm.2.2 h1).1
    have ev : hx_iv v' 0 = hx_iv v 0 := by funext k; unfold hx_iv; rw [hv 9 (by omega) (by omega) (by omega) (by omega)]; rfl
    have ev1 : hx_iv v' 1 = hx_iv v 1 := by funext k; unfold hx_iv; simp only [Nat.reduceEqDiff, if_false]; rw [hv 1 (by omega) (by omega) (by omega) (by omega)]
    have ev2 : hx_iv v' 2 = hx_iv v 2 := by funext k; unfold hx_iv; simp only [Nat.reduceEqDiff, if_false]; rw [hv 2 (by omega) (by omega) (by omega) (by omega)]
    have ev3 : hx_iv v' 3 = hx_iv v 3 := by funext k; unfold hx_iv; rw [hv 8 (by omega) (by omega) (by omega) (by omega)]; rfl
    have ev4 : hx_iv v' 4 = hx_iv v 4 := by funext k; unfold hx_iv; rw [hv 8 (by omega) (by omega) (by omega) (by omega)]; rfl
    obtain ⟨r1, r2, r3, r4, r5, r6, r7⟩ := hi
    refine ⟨fun k hk => ?_, fun k hk => ?_, ?_, ?_, ?_, ?_, ?_⟩
    · rw [hw _ (by omega) (by omega) (by omega) (by omega), hw _ (by omega) (by omega) (by omega) (by omega), hw _ (by omega) (by omega) (by omega) (by omega), hw _ (by omega) (by omega) (by omega) (by omega), hw _ (by omega) (by omega) (by omega) (by omega), ev3, ev4]; exact r1 k hk
    · rw [hw 37 (by omega) (by omega) (by omega) (by omega)] at hk
      rw [hw _ (by omega) (by omega) (by omega) (by omega), hw _ (by omega) (by omega) (by omega) (by omega), ev1, ev2]; exact r2 k hk
    · rw [hw 37 (by omega) (by omega) (by omega) (by omega), ev]; exact r3
    · rw [hw 37 (by omega) (by omega) (by omega) (by omega), hw _ (by omega) (by omega) (by omega) (by omega)]; exact r4
    · rw [hw 37 (by omega) (by omega) (by omega) (by omega), ev]; exact r5
    · rw [hw 37 (by omega) (by omega) (by omega) (by omega), ev]; exact r6
    · rw [hw 37 (by omega) (by omega) (by omega) (by omega), ev]; omega
theorem hy_dk {f : Nat → Int} : ∀ (C : List Int) (i a : Nat), (∀ j, j < C.length → f (i + j) = C.getD j 0) → hy_ex C a 1 → hs_dk f i C.length a := by
  intro C
  induction C with
  | nil => intro i a _ h; exact h
  | cons c C ih =>
    intro i a hf h
    have e : f i = c := hf 0 (by rw [List.length_cons]; omega)
    have hf' : ∀ j, j < C.length → f (i + 1 + j) = C.getD j 0 := fun j hj => by
      rw [show i + 1 + j = i + (j + 1) by omega]
      exact hf (j + 1) (by rw [List.length_cons]; omega)
    obtain ⟨h1, h2⟩ := h
    rw [List.length_cons]
    simp only [hs_dk]
    rw [e]
    refine ⟨h1, ?_⟩
    by_cases q1 : -6 ≤ c
    · rw [if_pos q1] at h2 ⊢
      exact ⟨h2.1, ih _ _ hf' h2.2⟩
    · rw [if_neg q1] at h2 ⊢
      by_cases q2 : c = -15 ∨ c = -9
      · rw [if_pos q2] at h2 ⊢
        exact ⟨h2.1, ih _ _ hf' h2.2⟩
      · rw [if_neg q2] at h2 ⊢
        exact ⟨h2.1, ih _ _ hf' h2.2⟩
/-- the class's three parts behind a fault -/
theorem hy_26F {t s : Nat} (ht6 : t < 6) : ∀ (m N q : Nat) (w : hg_W), m < N → q + m = 3 → hy_F t s w → ∃ w', fX2_read_26 N w (10 + t) (q : Int) = some (w', (s : Int)) ∧ (∀ c, c ≠ 17 → c ≠ 3 + t → c ≠ 10 + t → w' c = w c) := by
  have hl : hg_ln 0 (10 + t) = 3 := hp_ln_end (10 + t) (by omega) (by omega)
  intro m
  induction m with
  | zero =>
    intro N q w h1 h2 h
    obtain ⟨N, rfl⟩ : ∃ z, N = z + 1 := ⟨N - 1, by omega⟩
    obtain ⟨w', g1, g2, g3⟩ := hy_refF h
    refine ⟨w', ?_, fun c h1 h2 _ => g3.1 c h1 h2⟩
    have hs := g2.2.1
    simp only [fX2_read_26]
    unfold fX2_read_70 fX2_read_83
    rw [wr_id (x := 3) (by omega) (by omega), wr_id (x := (q : Int)) (by omega) (by omega), if_pos (by omega), h.2.2.1, wr_id (x := -21) (by omega) (by omega), wr_id (x := -20) (by omega) (by omega), if_neg (by omega), g1, hp_bd, g2.1, wr_id (x := (s : Int)) (by omega) (by omega)]
  | succ m ih =>
    intro N q w h1 h2 h
    obtain ⟨N, rfl⟩ : ∃ z, N = z + 1 := ⟨N - 1, by omega⟩
    obtain ⟨w1, g1, g2, g3⟩ := hy_mustF (x := -22 - (q : Int)) h (by unfold hx_c; omega) (by omega)
    obtain ⟨w2, g4, g5, g6⟩ := hy_readF 64 0 0 w1 (by omega) (by omega) g2
    obtain ⟨w3, g7, g8, g9⟩ := hy_mustF (x := -18) g5 (by unfold hx_c; omega) (by omega)
    have g4' : fX2_readPart 64 w1 0 0 = some (w2, 0) := g4
    have hF : hy_F t s (hg_up w3 (10 + t) q (wr (w3 17 3))) := by
      unfold hy_F at g8 ⊢
      rw [hp_up_c (by omega), hp_up_c (by omega), hp_up_c (by omega), hp_up_c (by omega)]
      exact g8
    obtain ⟨w', k1, k2⟩ := ih N (q + 1) _ (by omega) (by omega) hF
    have hPC := (g3.tr g6).tr g9
    refine ⟨w', ?_, fun c h1 h2 h3 => by rw [k2 c h1 h2 h3, hg_up_ne c h3, hPC.1 c h1 h2]⟩
    simp only [fX2_read_26]
    have hal : hg_al 0 (10 + t) = some 3 := by unfold hg_al; rw [hl]; rfl
    rw [wr_id (x := 3) (by omega) (by omega), wr_id (x := (q : Int)) (by omega) (by omega), if_neg (by omega), hal, hp_b, wr_id (x := 3) (by omega) (by omega), if_neg (by omega), g1, hp_bd, g4', hp_bd, g7, hp_bd, hp_endS (by omega) (by omega) (by omega), hp_b, show (q : Int).toNat = q by omega, show (q : Int) + 1 = ((q + 1 : Nat) : Int) by omega]
    exact k1
/-- the reference's end with a fault -/
theorem hy_122 {t s : Nat} {v : hg_W} (ht : v 0 11 = (t : Int)) (ht6 : t < 6) (hs : s ≤ 160) (h21 : v 0 21 = (s : Int)) : ∃ v', fX5_text_122 v 0 = some (v', -100 - (s : Int)) ∧ v' 0 8 = 0 ∧ (∀ c, c ≠ 0 → c ≠ 7 → v' c = v c) ∧ (∀ k, k ≠ 8 → v' 0 k = v 0 k) ∧ ∀ j, j ≠ 4 * t + 3 → v' 7 j = v 7 j := by
  refine ⟨hg_up (hg_up v 7 (4 * t + 3) (wr (v 0 28))) 0 8 0, ?_, hp_up_eq, fun c h1 h2 => by rw [hg_up_ne c h1, hg_up_ne c h2], fun k hk => by rw [hp_up_k hk, hp_up_c (by omega)], fun j hj => by rw [hp_up_c (by omega), hp_up_k hj]⟩
  unfold fX5_text_122
  rw [ht, as_m7 (by omega) (by omega), hp_b, hp_pt, hp_b, hx_wr01.1, if_pos rfl, show (4 * (t : Int) + 3).toNat = 4 * t + 3 by omega, hp_up_k (by omega), hp_up_c (by omega), h21, wr_id (x := -100 - (s : Int)) (by omega) (by omega)]
theorem hy_26M0 {t s : Nat} {v : hg_W} {q : Int} {N : Nat} (ht : v 0 11 = (t : Int)) (ht6 : t < 6) (hs : s ≤ 160) (h21 : v 0 21 = (s : Int)) : ∃ v', fX5_text_26 (N + 1) v 0 q = some (v', -100 - (s : Int)) ∧ v' 0 8 = 0 ∧ (∀ c, c ≠ 0 → c ≠ 7 → v' c = v c) ∧ (∀ k, k ≠ 8 → v' 0 k = v 0 k) ∧ ∀ j, j ≠ 4 * t + 3 → v' 7 j = v 7 j := by
  obtain ⟨v', g1, g2⟩ := hy_122 ht ht6 hs h21
  refine ⟨v', ?_, g2⟩
  simp only [fX5_text_26]
  unfold fX5_text_101
  rw [hx_wr01.1, if_pos rfl, if_pos rfl, ite_self]
  exact g1
