/-! ===== text: a part ===== -/
def hy_O (t : Nat) (O : List Int) (v : hg_W) : Prop := v 0 28 = (O.length : Int) ∧ ∀ j, j < O.length → v 6 (200 * t + j) = O.getD j 0
def hy_QM (t q : Nat) (v v' : hg_W) : Prop := (∀ c, c ≠ 0 → c ≠ 6 → c ≠ 7 → c ≠ 15 → v' c = v c) ∧ (∀ k, (k < 20 ∨ 28 < k) → v' 0 k = v 0 k) ∧ (∀ j, (j < 200 * t ∨ 200 * t + 200 ≤ j) → v' 6 j = v 6 j) ∧ ∀ j, j ≠ 4 * t + q → v' 7 j = v 7 j
theorem hy_X.fr2 {n t b p : Nat} {w v v' : hg_W} (h : hy_X n t b p w v) (h5 : v' 5 = v 5) (h14 : v' 14 = v 14) (h0 : ∀ k, k < 24 → v' 0 k = v 0 k) : hy_X n t b p w v' := by
  unfold hy_X hy_B at h ⊢
  rw [h5, h14, h0 8 (by omega), h0 11 (by omega), h0 20 (by omega), h0 21 (by omega), h0 22 (by omega), h0 23 (by omega)]
  exact h
set_option maxHeartbeats 8000000 in
theorem hy_part {n t b p q N : Nat} {w v : hg_W} {Oc : List Int} {K : hg_W → Int → Int → Option (hg_W × Int)} (hX : hy_X n t b p w v) (hK : hy_K t Oc w) (hO : hy_O t (Oc.map hs_enc) v) (hlen : Oc.length ≤ b) (hq : q < 3) :
    ∃ w', (hg_bd (fX2_must w (-22 - (q : Int))) fun w3 _ => hg_bd (fX2_readPart 64 w3 0 0) fun w6 _ => fX2_must w6 (-18)) = some (w', 0) ∧ hy_PC t w w' ∧
     ((∃ (s : Nat) (v' : hg_W), hy_F t s w' ∧ (if wr (v 0 22) = wr 3 then (if wr (v 0 23) = wr (q : Int) then fX5_text_60 K v (q : Int) 1 else fX5_text_59 K v (q : Int)) else fX5_text_59 K v (q : Int)) = K v' 0 ((q + 1 : Nat) : Int) ∧ v' 0 21 = (s : Int) ∧ hy_QM t q v v') ∨
      ∃ (v' v'' : hg_W) (b' p' : Nat) (C : List Int), (if wr (v 0 22) = wr 3 then (if wr (v 0 23) = wr (q : Int) then fX5_text_60 K v (q : Int) 1 else fX5_text_59 K v (q : Int)) else fX5_text_59 K v (q : Int)) = K v' 1 ((q + 1 : Nat) : Int) ∧ fX5_next v' = some (v'', 0) ∧ hy_LM v' v'' ∧ hy_X n t b' p' w' v'' ∧ hy_K t (Oc ++ C) w' ∧ hy_O t ((Oc ++ C).map hs_enc) v'' ∧ (Oc ++ C).length ≤ b' ∧ hy_ex C 0 1 ∧ v' 7 (4 * t + q) = (Oc.length : Int) ∧ hy_QM t q v v') := by
  obtain ⟨hB, h8, ⟨ht, ht6⟩, ⟨h4, h20, h5, h21⟩, ⟨hbp, hpn, hne⟩, htk⟩ := id hX
  have hn := hB.1.1
  obtain ⟨⟨tk1, tk2, tk3, tk4⟩, -, -, -, t3, -, -, -, -, -, -, -, -, -, -, -, -, -, tH⟩ := hy_tkI htk
  have w3 : wr 3 = 3 := wr_id (by omega) (by omega)
  have wv : wr (v 0 22) = v 0 22 := wr_id (by omega) (by omega)
  have wq : wr (q : Int) = (q : Int) := wr_id (by omega) (by omega)
  have wt : wr (w 17 6) = w 17 6 := wr_id (by omega) (by omega)
  have w28 : v 0 28 = (Oc.length : Int) := by rw [hO.1, List.length_map]
  obtain ⟨V, hV⟩ : ∃ V, V = hg_up v 7 (4 * t + q) (Oc.length : Int) := ⟨_, rfl⟩
  have as7 : hg_as 1 v 7 (4 * (v 0 11) + (q : Int)) (v 0 28) = some V := by
    rw [ht, w28, as_m7 (by omega) (by omega), wr_id (x := (Oc.length : Int)) (by omega) (by omega), show (4 * (t : Int) + (q : Int)).toNat = 4 * t + q by omega, ← hV]
  have hVc : ∀ c, c ≠ 7 → V c = v c := fun c hc => by rw [hV]; exact hg_up_ne c hc
  have hV7 : V 7 (4 * t + q) = (Oc.length : Int) := by rw [hV]; exact hp_up_eq
  have hV7' : ∀ j, j ≠ 4 * t + q → V 7 j = v 7 j := fun j hj => by rw [hV]; exact hp_up_k hj
  by_cases ctok : w 17 6 = -22 - (q : Int)
  · -- the word of the part
    have e22 : v 0 22 = 3 := t3.mpr (by omega)
    have e23 : v 0 23 = (q : Int) := by rw [tH (by omega), ctok]; omega
    clear t3 tH
    obtain ⟨U, hU⟩ : ∃ U, U = hg_up (hg_up V 0 26 0) 0 27 0 := ⟨_, rfl⟩
    have hUc : ∀ c, c ≠ 0 → U c = V c := fun c hc => by rw [hU, hg_up_ne c hc, hg_up_ne c hc]
    have hU0 : ∀ k, k ≠ 26 → k ≠ 27 → U 0 k = v 0 k := fun k h1 h2 => by rw [hU, hp_up_k h2, hp_up_k h1, hVc 0 (by omega)]
    have hXU : hy_X n t b p w U := hX.fr2 (by rw [hUc 5 (by omega), hVc 5 (by omega)]) (by rw [hUc 14 (by omega), hVc 14 (by omega)]) (fun k hk => hU0 k (by omega) (by omega))
    have hMU : hy_M t (Oc.map hs_enc) (List.replicate 0 19 ++ []) ((0 : Nat) : Int) U := by
      refine ⟨?_, fun j hj => absurd hj (by simp), ?_, ?_, fun j hj => ?_⟩
      · rw [hU, hp_up_k (by omega), hp_up_eq]; rfl
      · rw [hU, hp_up_eq]; rfl
      · rw [hU0 28 (by omega) (by omega)]; exact hO.1
      · rw [hUc 6 (by omega), hVc 6 (by omega)]; exact hO.2 j hj
    obtain ⟨w1, v1, b1, p1, k1, k2, k3, k4, k5, k6⟩ := hXU.next
    have hR := hy_main 64 0 0 w1 v1 Oc 0 [] b1 p1 99999 1 (by omega) (by omega) (by omega) k3 (hK.lc ht6 k5) (hMU.lm k6) (fun h => absurd rfl h) (by omega) (Or.inl rfl) (by rw [List.length_nil]; omega) (by omega) (fun _ => rfl) (fun h => absurd h (by omega)) (Or.inr rfl)
    have eR : fX5_eRead V = hy_b1 99999 v1 1 := by
      unfold fX5_eRead
      rw [hp_pt, hp_b, hp_pt, hp_b, hx_wr01.1, ← hU, hx_F, hy_e1, k2, hp_bd]
    have e60 : (if wr (v 0 22) = wr 3 then (if wr (v 0 23) = wr (q : Int) then fX5_text_60 K v (q : Int) 1 else fX5_text_59 K v (q : Int)) else fX5_text_59 K v (q : Int)) = hg_bd (hy_b1 99999 v1 1) fun w3 v4 => if wr v4 = 0 then fX5_text_93 K w3 (q : Int) else fX5_text_94 K w3 (q : Int) 1 := by
      rw [wv, w3, e22, if_pos rfl, e23, if_pos rfl]
      unfold fX5_text_60
      rw [as7, hp_b, hx_wr01.2.1, if_neg (show ¬ (1 : Int) = 0 by omega), eR]
    have e93 : ∀ x, fX5_text_93 K x (q : Int) = K x 0 ((q + 1 : Nat) : Int) := fun x => by
      unfold fX5_text_93 fX5_text_94
      rw [show (q : Int) + 1 = ((q + 1 : Nat) : Int) by omega]
    have e94 : ∀ x, fX5_text_94 K x (q : Int) 1 = K x 1 ((q + 1 : Nat) : Int) := fun x => by
      unfold fX5_text_94
      rw [show (q : Int) + 1 = ((q + 1 : Nat) : Int) by omega]
    have hQ : ∀ v' : hg_W, hy_PM t v1 v' → hy_QM t q v v' := fun v' hp => by
      refine ⟨fun c c0 c6 c7 c15 => ?_, fun k hk => ?_, fun j hj => ?_, fun j hj => ?_⟩
      · rw [hp.1 c c0 c6 c15, k6.1 c c0, hUc c c0, hVc c c7]
      · rw [hp.2.1 k hk, k6.2 k (by omega) (by omega) (by omega) (by omega), hU0 k (by omega) (by omega)]
      · rw [hp.2.2 j hj, k6.1 6 (by omega), hUc 6 (by omega), hVc 6 (by omega)]
      · rw [hp.1 7 (by omega) (by omega) (by omega), k6.1 7 (by omega), hUc 7 (by omega), hV7' j hj]
    rw [e60]
    unfold fX2_must
    rw [wt, wr_id (x := -22 - (q : Int)) (by omega) (by omega), if_pos ctok, k1, hp_bd, hp_bd]
    obtain ⟨w3', q1, q2, q3⟩ := hR
    have q1' : fX2_readPart 64 w1 0 0 = some (w3', 0) := q1
    rw [q1', hp_bd]
    rcases q3 with ⟨s, v3, f1, f2, f3, f4⟩ | ⟨v3, N3, b3, p3, P3, C3, Or3, m3, f1, f2, f3, f4, f5, f6, f7, f8, f9, f10, f11, f12, f13⟩
    · obtain ⟨w4, j1, j2, j3⟩ := hy_mustF (x := -18) f1 (by unfold hx_c; omega) (by omega)
      have j1' : fX2_must w3' (-18) = _ := j1
      unfold fX2_must at j1'
      refine ⟨w4, j1', ((hy_LC.pc k5).tr q2).tr j3, Or.inl ⟨s, v3, j2, ?_, f3, hQ v3 f4⟩⟩
      · rw [f2, hp_bd, hx_wr01.1, if_pos rfl, e93]
    · rw [List.replicate_zero, List.append_nil] at f6
      have elen3 : (Oc ++ C3).length = Or3.length + P3.length := by
        have := congrArg List.length f6
        rw [List.length_map, List.length_append (as := Or3)] at this
        exact this
      obtain ⟨hB3, h83, ⟨ht3, -⟩, ⟨h43, h203, h53, h213⟩, ⟨hbp3, hpn3, hne3⟩, htk3⟩ := id f3
      obtain ⟨⟨u1, u2, u3, u4⟩, -, -, -, -, -, -, -, -, u41, u59, -⟩ := hy_tkI htk3
      have hctP := hy_ctB P3
      rw [List.length_nil] at f10
      have hP31 : ∀ s, s ∈ P3 → (0 ≤ s ∧ s ≤ 19) ∧ 1 ≤ hy_rk s := fun s hs => f8 s hs
      rw [wr_id (x := w3' 17 6) (by omega) (by omega), wr_id (x := -18) (by omega) (by omega)]
      by_cases cC : w3' 17 6 = -18
      · have u59' := u59.mpr cC
        clear u41 u59
        obtain ⟨v4, m1, m2, m3'⟩ := hy_unwinds (least := 1) (P := P3) (H := []) ht6 (by omega) (Or.inl rfl) f5 ht3 hP31 (by rw [List.length_nil]; omega) (by omega)
        have hX4 := f3.fr (w' := w3') (v' := v4) hy_PC.rf (fun _ _ => rfl) m3'
        obtain ⟨w5, v5, b5, p5, y1, y2, y3, y4, y5, y6⟩ := hX4.next
        have m1' : fX5_unwinds v3 1 = some (v4, 0) := m1
        have eb0 : hy_b0 N3 v3 m3 = some (v4, 1) := by
          unfold hy_b0
          rw [wr_id (x := v3 0 22) (by omega) (by omega), wr_id (x := 59) (by omega) (by omega), if_pos u59', m1', hp_bd, m2.1, List.length_nil]
          exact if_pos hx_wr01.1
        refine ⟨w5, by rw [if_pos cC, y1, hp_bd], ((hy_LC.pc k5).tr q2).tr (hy_LC.pc y5), Or.inr ⟨v4, v5, b5, p5, C3, ?_, y2, y6, y3, f4.lc ht6 y5, ?_, by omega, f13 0 (by omega), ?_, hQ v4 (f2.tr m3'.pm)⟩⟩
        · rw [f1, eb0, hp_bd, hx_wr01.2.1, if_neg (show ¬ (1 : Int) = 0 by omega), e94]
        · rw [f6]
          refine ⟨?_, fun j hj => ?_⟩
          · rw [y6.2 28 (by omega) (by omega) (by omega) (by omega)]; exact m2.2.2.2.1
          · rw [y6.1 6 (by omega)]; exact m2.2.2.2.2 j hj
        · rw [m3'.1 7 (by omega) (by omega) (by omega), f2.1 7 (by omega) (by omega) (by omega), k6.1 7 (by omega), hUc 7 (by omega), hV7]
      · obtain ⟨w4, j1, j2, j3⟩ := hy_ref0 h83 h53 (by omega) f4.1 (by rw [f4.2.1]; omega)
        obtain ⟨v4, z1, z2⟩ := hy_fail (N := N3) (m := m3) f3 f5 hP31 (Or.inl rfl) (by rw [List.length_nil]; omega) (by omega) (by
          rcases f9 with h | h
          · left; omega
          · exact Or.inr h) (fun h => absurd h cC) (fun _ => rfl)
        refine ⟨w4, by rw [if_neg cC, j1, hp_bd], ((hy_LC.pc k5).tr q2).tr j3, Or.inl ⟨b3, v4, j2, ?_, ?_, hQ v4 (f2.tr z2.pm)⟩⟩
        · rw [f1, z1, hp_bd, hx_wr01.1, if_pos rfl, e93]
        · rw [z2.2.1 21 (by omega) (by omega) (by omega)]; exact h213
  · -- another token
    obtain ⟨w1, j1, j2, j3⟩ := hy_ref0 h8 h5 (by omega) hK.1 (by rw [hK.2.1]; omega)
    obtain ⟨w2, j4, j5, j6⟩ := hy_readF 64 0 0 w1 (by omega) (by omega) j2
    obtain ⟨w3', j7, j8, j9⟩ := hy_mustF (x := -18) j5 (by unfold hx_c; omega) (by omega)
    have j4' : fX2_readPart 64 w1 0 0 = some (w2, 0) := j4
    have e59 : fX5_text_59 K v (q : Int) = K V 0 ((q + 1 : Nat) : Int) := by
      unfold fX5_text_59 fX5_text_60 fX5_text_93 fX5_text_94
      rw [as7, hp_b, hx_wr01.1, if_pos rfl, show (q : Int) + 1 = ((q + 1 : Nat) : Int) by omega]
    refine ⟨w3', ?_, (j3.tr j6).tr j9, Or.inl ⟨b, V, j8, ?_, ?_, ⟨fun c _ _ c7 _ => hVc c c7, fun k _ => by rw [hVc 0 (by omega)], fun j _ => by rw [hVc 6 (by omega)], hV7'⟩⟩⟩
    · have e0 : fX2_must w (-22 - (q : Int)) = some (w1, 0) := by
        unfold fX2_must
        rw [wt, wr_id (x := -22 - (q : Int)) (by omega) (by omega), if_neg ctok, j1, hp_bd]
      rw [e0, hp_bd, j4', hp_bd, j7]
    · rw [wv, w3]
      by_cases c1 : v 0 22 = 3
      · have h1 : w 17 6 ≤ -22 := t3.mp c1
        have h2 := tH h1
        rw [if_pos c1, wr_id (x := v 0 23) (by omega) (by omega), wq, if_neg (by omega), e59]
      · rw [if_neg c1, e59]
    · rw [hVc 0 (by omega)]; exact h21
