/-! ===== text: all of it ===== -/
theorem hy_asc {x : Option (hg_W × Int)} {f : hg_W → Int → Option (hg_W × Int)} {g : hg_W → Int → Option (hg_W × Int)} : hg_bd (hg_bd x f) g = hg_bd x (fun w i => hg_bd (f w i) g) := by
  cases x <;> rfl
def hy_ref (N : Nat) (q : Nat) (v : hg_W) : Option (hg_W × Int) := if q = 3 then (if wr (v 0 22) = 0 then fX5_text_121 v 1 else fX5_text_121 v 0) else (if wr (v 0 22) = wr 3 then (if wr (v 0 23) = wr (q : Int) then fX5_text_60 (fX5_text_26 N) v (q : Int) 1 else fX5_text_59 (fX5_text_26 N) v (q : Int)) else fX5_text_59 (fX5_text_26 N) v (q : Int))
theorem hy_26M {N q : Nat} {v : hg_W} (hq : q ≤ 3) : fX5_text_26 (N + 1) v 1 (q : Int) = hg_bd (fX5_next v) fun w1 _ => hy_ref N q w1 := by
  simp only [fX5_text_26, hy_ref]
  rw [wr_id (x := (q : Int)) (by omega) (by omega), wr_id (x := 3) (by omega) (by omega), hx_wr01.2.1, if_neg (show ¬ (1 : Int) = 0 by omega)]
  by_cases q3 : q = 3
  · subst q3
    rw [if_pos (by omega)]
    unfold fX5_text_101
    rw [hx_wr01.2.1, if_neg (show ¬ (1 : Int) = 0 by omega)]
    simp only [if_true]
  · rw [if_neg (by omega)]
    simp only [if_neg q3]
theorem hy_26C {t N q : Nat} {w : hg_W} (ht6 : t < 6) (hq : q < 3) : fX2_read_26 (N + 1) w (10 + t) (q : Int) = hg_bd (hg_bd (fX2_must w (-22 - (q : Int))) fun w3 _ => hg_bd (fX2_readPart 64 w3 0 0) fun w6 _ => fX2_must w6 (-18)) fun w9 _ => (hg_as 0 w9 (10 + t) (q : Int) (w9 17 3)).bind fun w12 => fX2_read_26 N w12 (10 + t) ((q : Int) + 1) := by
  have hl : hg_ln 0 (10 + t) = 3 := hp_ln_end (10 + t) (by omega) (by omega)
  have hal : hg_al 0 (10 + t) = some 3 := by unfold hg_al; rw [hl]; rfl
  simp only [fX2_read_26]
  rw [wr_id (x := (q : Int)) (by omega) (by omega), wr_id (x := 3) (by omega) (by omega), if_neg (by omega), hal, hp_b, wr_id (x := 3) (by omega) (by omega), if_neg (by omega), hy_asc]
  simp only [hy_asc]
def hy_Rec (t q : Nat) (Oc : List Int) (w v : hg_W) : Prop := ∀ r, r < q → ∃ i m : Nat, (r = 0 → i = 0) ∧ (r ≠ 0 → w (10 + t) (r - 1) = (i : Int)) ∧ w (10 + t) r = ((i + m : Nat) : Int) ∧ v 7 (4 * t + r) = (i : Int) ∧ (r + 1 < q → v 7 (4 * t + r + 1) = ((i + m : Nat) : Int)) ∧ (r + 1 = q → Oc.length = i + m) ∧ i + m ≤ Oc.length ∧ hy_ex ((Oc.drop i).take m) 0 1
def hy_T3 (t : Nat) (w v : hg_W) : Prop := ∀ part, part < 3 → ∃ i m k : Nat, (part = 0 → i = 0) ∧ (part ≠ 0 → w (10 + t) (part - 1) = (i : Int)) ∧ w (10 + t) part = ((i + m : Nat) : Int) ∧ i + m ≤ 160 ∧ v 7 (4 * t + part) = (k : Int) ∧ v 7 (4 * t + part + 1) = ((k + m : Nat) : Int) ∧ k + m ≤ 200 ∧ (∀ j, j < m → v 6 (200 * t + (k + j)) = hs_enc (w (3 + t) (i + j))) ∧ hs_dk (w (3 + t)) i m 0
theorem hy_gM {C : List Int} {j : Nat} (h : j < C.length) : (C.map hs_enc).getD j 0 = hs_enc (C.getD j 0) := by
  rw [List.getD_eq_getElem?_getD, List.getD_eq_getElem?_getD, List.getElem?_map, List.getElem?_eq_getElem h]
  rfl
theorem hy_gDT {C : List Int} {i m j : Nat} (h : j < m) (him : i + m ≤ C.length) : ((C.drop i).take m).getD j 0 = C.getD (i + j) 0 := by
  rw [List.getD_eq_getElem?_getD, List.getD_eq_getElem?_getD, List.getElem?_take_of_lt h, List.getElem?_drop]
theorem hy_parts {n t : Nat} : ∀ (m N1 N2 q b p : Nat) (w v : hg_W) (Oc : List Int), m < N1 → m < N2 → q + m = 3 → hy_X n t b p w v → hy_K t Oc w → hy_O t (Oc.map hs_enc) v → Oc.length ≤ b → (q = 0 → Oc = []) → hy_Rec t q Oc w v →
    ∃ (w' v' : hg_W) (x r : Int), fX2_read_26 N1 w (10 + t) (q : Int) = some (w', x) ∧ hy_ref N2 q v = some (v', r) ∧ v' 0 8 = 0 ∧ (∀ c, c ≠ 17 → c ≠ 3 + t → c ≠ 10 + t → w' c = w c) ∧ (∀ c, c ≠ 0 → c ≠ 6 → c ≠ 7 → c ≠ 15 → v' c = v c) ∧ (∀ k, (k < 20 ∨ 28 < k) → k ≠ 8 → k ≠ 11 → v' 0 k = v 0 k) ∧ (∀ j, (j < 200 * t ∨ 200 * t + 200 ≤ j) → v' 6 j = v 6 j) ∧ (∀ j, j < 4 * t → v' 7 j = v 7 j) ∧ ((0 ≤ x ∧ x ≤ 160 ∧ r = -100 - x ∧ v' 0 11 = (t : Int)) ∨ (x = -1 ∧ r = (t : Int) ∧ v' 0 11 = ((t + 1 : Nat) : Int) ∧ hy_T3 t w' v')) := by
  intro m
  induction m with
  | zero =>
    intro N1 N2 q b p w v Oc h1 h2 h3 hX hK hO hlen hq0 hRec
    obtain ⟨N1, rfl⟩ : ∃ z, N1 = z + 1 := ⟨N1 - 1, by omega⟩
    have h3' : q = 3 := h3
    subst h3'
    obtain ⟨hB, h8, ⟨ht, ht6⟩, ⟨h4, h20, h5, h21⟩, ⟨hbp, hpn, hne⟩, htk⟩ := id hX
    have hn := hB.1.1
    obtain ⟨⟨tk1, tk2, tk3, tk4⟩, t0, -⟩ := hy_tkI htk
    have eC : fX2_read_26 (N1 + 1) w (10 + t) ((3 : Nat) : Int) = fX2_read_70 w := by
      simp only [fX2_read_26]
      exact if_pos (Int.le_refl _)
    have eR : hy_ref N2 3 v = if v 0 22 = 0 then fX5_text_122 v 1 else fX5_text_122 v 0 := by
      unfold hy_ref fX5_text_121
      rw [if_pos rfl, wr_id (x := v 0 22) (by omega) (by omega)]
    rw [eC, eR]
    unfold fX2_read_70 fX2_read_83
    rw [wr_id (x := w 17 6) (by omega) (by omega), wr_id (x := -20) (by omega) (by omega)]
    by_cases cE : w 17 6 = -20
    · rw [if_pos cE, if_pos (t0.mpr cE), h8, hx_wr01.2.2]
      have w28 : v 0 28 = (Oc.length : Int) := by rw [hO.1, List.length_map]
      have e122 : fX5_text_122 v 1 = some (hg_up (hg_up (hg_up v 7 (4 * t + 3) (Oc.length : Int)) 0 8 0) 0 11 ((t + 1 : Nat) : Int), (t : Int)) := by
        unfold fX5_text_122
        rw [ht, w28, as_m7 (by omega) (by omega), hp_b, hp_pt, hp_b, hx_wr01.1, hx_wr01.2.1, if_neg (show ¬ (1 : Int) = 0 by omega), hp_up_k (show 11 ≠ 8 by omega), hp_up_c (show 0 ≠ 7 by omega), ht, hp_pt, hp_b, wr_id (x := (Oc.length : Int)) (by omega) (by omega), wr_id (x := (t : Int) + 1) (by omega) (by omega), hp_up_eq, show (4 * (t : Int) + 3).toNat = 4 * t + 3 by omega, wr_id (x := (t : Int) + 1 - 1) (by omega) (by omega), show (t : Int) + 1 - 1 = (t : Int) by omega]
        rfl
      rw [e122]
      refine ⟨_, _, _, _, rfl, rfl, by rw [hp_up_k (by omega), hp_up_eq], fun c _ _ _ => rfl, fun c c0 _ c7 _ => by rw [hg_up_ne c c0, hg_up_ne c c0, hg_up_ne c c7], fun k _ k8 k11 => by rw [hp_up_k k11, hp_up_k k8, hp_up_c (by omega)], fun j _ => by rw [hp_up_c (by omega), hp_up_c (by omega), hp_up_c (by omega)], fun j hj => by rw [hp_up_c (by omega), hp_up_c (by omega), hp_up_k (by omega)], Or.inr ⟨rfl, rfl, hp_up_eq, fun part hp => ?_⟩⟩
      obtain ⟨i, m, r1, r2, r3, r4, r5, r6, r7, r8⟩ := hRec part hp
      have eI : ((Oc.drop i).take m).length = m := by rw [List.length_take, List.length_drop]; omega
      refine ⟨i, m, i, r1, r2, r3, by omega, ?_, ?_, by omega, fun j hj => ?_, ?_⟩
      · rw [hp_up_c (by omega), hp_up_c (by omega), hp_up_k (by omega)]; exact r4
      · rw [hp_up_c (by omega), hp_up_c (by omega)]
        by_cases e : part = 2
        · subst e
          rw [hp_up_eq, r6 rfl]
        · rw [hp_up_k (by omega)]; exact r5 (by omega)
      · rw [hp_up_c (by omega), hp_up_c (by omega), hp_up_c (by omega), hO.2 (i + j) (by rw [List.length_map]; omega), hy_gM (by omega), hK.2.2 (i + j) (by omega)]
      · have := hy_dk (f := w (3 + t)) ((Oc.drop i).take m) i 0 (fun j hj => by
          rw [eI] at hj
          rw [hy_gDT hj r7, hK.2.2 (i + j) (by omega)]) r8
        rw [eI] at this
        exact this
    · obtain ⟨w1, j1, j2, j3⟩ := hy_ref0 h8 h5 (by omega) hK.1 (by rw [hK.2.1]; omega)
      obtain ⟨v', g1, g2, g3, g4, g5⟩ := hy_122 ht ht6 (by omega) h21
      rw [if_neg cE, if_neg (fun h => cE (t0.mp h)), j1, hp_bd, g1, j2.1, wr_id (x := (b : Int)) (by omega) (by omega)]
      exact ⟨w1, v', b, -100 - (b : Int), rfl, rfl, g2, fun c c1 c2 _ => j3.1 c c1 c2, fun c c0 _ c7 _ => g3 c c0 c7, fun k _ k8 _ => g4 k k8, fun j _ => by rw [g3 6 (by omega) (by omega)], fun j hj => g5 j (by omega), Or.inl ⟨by omega, by omega, rfl, by rw [g4 11 (by omega)]; exact ht⟩⟩
  | succ m ih =>
    intro N1 N2 q b p w v Oc h1 h2 h3 hX hK hO hlen hq0 hRec
    obtain ⟨N1, rfl⟩ : ∃ z, N1 = z + 1 := ⟨N1 - 1, by omega⟩
    obtain ⟨N2, rfl⟩ : ∃ z, N2 = z + 1 := ⟨N2 - 1, by omega⟩
    have hn := hX.1.1.1
    have ht6 := hX.2.2.1.2
    have ht := hX.2.2.1.1
    obtain ⟨w1, g1, g2, g3⟩ := hy_part (N := 0) (K := fX5_text_26 (N2 + 1)) hX hK hO hlen (q := q) (by omega)
    have eR : hy_ref (N2 + 1) q v = (if wr (v 0 22) = wr 3 then (if wr (v 0 23) = wr (q : Int) then fX5_text_60 (fX5_text_26 (N2 + 1)) v (q : Int) 1 else fX5_text_59 (fX5_text_26 (N2 + 1)) v (q : Int)) else fX5_text_59 (fX5_text_26 (N2 + 1)) v (q : Int)) := by
      unfold hy_ref
      rw [if_neg (by omega)]
    rw [hy_26C ht6 (by omega), g1, hp_bd, eR, hp_endS (by omega) (by omega) (by omega), hp_b, show (q : Int).toNat = q by omega, show (q : Int) + 1 = ((q + 1 : Nat) : Int) by omega]
    rcases g3 with ⟨s, v1, f1, f2, f3, f4⟩ | ⟨v1, v2, b2, p2, C, f1, f2, f3, f4, f5, f6, f7, f8, f9, f10⟩
    · have hF : hy_F t s (hg_up w1 (10 + t) q (wr (w1 17 3))) := by
        unfold hy_F at f1 ⊢
        rw [hp_up_c (by omega), hp_up_c (by omega), hp_up_c (by omega), hp_up_c (by omega)]
        exact f1
      obtain ⟨w2, k1, k2⟩ := hy_26F ht6 m N1 (q + 1) _ (by omega) (by omega) hF
      obtain ⟨v2, y1, y2, y3, y4, y5⟩ := hy_26M0 (q := ((q + 1 : Nat) : Int)) (N := N2) (by rw [f4.2.1 11 (by omega)]; exact ht) ht6 f1.2.1 f3
      have hs := f1.2.1
      refine ⟨w2, v2, s, -100 - (s : Int), k1, f2.trans y1, y2, fun c c1 c2 c3 => by rw [k2 c c1 c2 c3, hg_up_ne c c3, g2.1 c c1 c2], fun c c0 c6 c7 c15 => by rw [y3 c c0 c7, f4.1 c c0 c6 c7 c15], fun k hk k8 _ => by rw [y4 k k8, f4.2.1 k hk], fun j hj => by rw [y3 6 (by omega) (by omega), f4.2.2.1 j hj], fun j hj => by rw [y5 j (by omega), f4.2.2.2 j (by omega)], Or.inl ⟨by omega, by omega, rfl, by rw [y4 11 (by omega), f4.2.1 11 (by omega)]; exact ht⟩⟩
    · -- on
      obtain ⟨W, hW⟩ : ∃ W, W = hg_up w1 (10 + t) q (((Oc ++ C).length : Nat) : Int) := ⟨_, rfl⟩
      have hlenC : (Oc ++ C).length = Oc.length + C.length := List.length_append
      have hb2 := f4.2.2.2.2.1
      have eW : hg_up w1 (10 + t) q (wr (w1 17 3)) = W := by
        rw [f5.2.1, wr_id (x := ((Oc ++ C).length : Int)) (by omega) (by omega), hW]
      have hWc : ∀ c, c ≠ 10 + t → W c = w1 c := fun c hc => by rw [hW]; exact hg_up_ne c hc
      have hWq : W (10 + t) q = (((Oc ++ C).length : Nat) : Int) := by rw [hW]; exact hp_up_eq
      have hWr : ∀ r, r ≠ q → W (10 + t) r = w (10 + t) r := fun r hr => by rw [hW, hp_up_k hr, g2.1 (10 + t) (by omega) (by omega)]
      have hXW : hy_X n t b2 p2 W v2 := by
        unfold hy_X hy_B at f4 ⊢
        rw [hWc 17 (by omega), hWc 18 (by omega)]
        exact f4
      have hKW : hy_K t (Oc ++ C) W := by
        unfold hy_K at f5 ⊢
        rw [hWc 17 (by omega), hWc (3 + t) (by omega)]
        exact f5
      have h7 : ∀ j, v2 7 j = v1 7 j := fun j => by rw [f3.1 7 (by omega)]
      have hRec2 : hy_Rec t (q + 1) (Oc ++ C) W v2 := by
        intro r hr
        by_cases e : r = q
        · subst e
          refine ⟨Oc.length, C.length, fun h => by rw [hq0 h]; rfl, fun h => ?_, by rw [hWq, hlenC], by rw [h7]; exact f9, fun h => absurd h (by omega), fun _ => hlenC, by omega, ?_⟩
          · obtain ⟨i, m', r1, r2, r3, r4, r5, r6, r7, r8⟩ := hRec (r - 1) (by omega)
            rw [hWr (r - 1) (by omega), r3, r6 (by omega)]
          · rw [List.drop_left, List.take_length]
            exact f8
        · obtain ⟨i, m', r1, r2, r3, r4, r5, r6, r7, r8⟩ := hRec r (by omega)
          refine ⟨i, m', r1, fun h => by rw [hWr (r - 1) (by omega)]; exact r2 h, by rw [hWr r e]; exact r3, by rw [h7, f10.2.2.2 _ (by omega)]; exact r4, fun h => ?_, fun h => absurd h (by omega), by omega, ?_⟩
          · rw [h7]
            by_cases e2 : r + 1 = q
            · rw [show 4 * t + r + 1 = 4 * t + q by omega, f9, r6 e2]
            · rw [f10.2.2.2 _ (by omega)]; exact r5 (by omega)
          · rw [List.drop_append_of_le_length (by omega), List.take_append_of_le_length (by rw [List.length_drop]; omega)]
            exact r8
      rw [eW]
      obtain ⟨w3, v3, x, r, y1, y2, y3, y4, y5, y6, y7, y8, y9⟩ := ih N1 N2 (q + 1) b2 p2 W v2 (Oc ++ C) (by omega) (by omega) (by omega) hXW hKW f6 f7 (fun h => absurd h (by omega)) hRec2
      refine ⟨w3, v3, x, r, y1, ?_, y3, fun c c1 c2 c3 => by rw [y4 c c1 c2 c3, hWc c c3, g2.1 c c1 c2], fun c c0 c6 c7 c15 => by rw [y5 c c0 c6 c7 c15, f3.1 c c0, f10.1 c c0 c6 c7 c15], fun k hk k8 k11 => by rw [y6 k hk k8 k11, f3.2 k (by omega) (by omega) (by omega) (by omega), f10.2.1 k hk], fun j hj => by rw [y7 j hj, f3.1 6 (by omega), f10.2.2.1 j hj], fun j hj => by rw [y8 j hj, h7, f10.2.2.2 j (by omega)], y9⟩
      rw [f1, hy_26M (by omega), f2, hp_bd]
      exact y2
theorem hc_text {w v : hg_W} (h : hx_A w v) : hx_ret (fX4_text w) (fX5_text v) := by
  obtain ⟨hT, hR, hTp, hIm, hSh⟩ := id h
  have h1 := hT.1
  obtain ⟨t, ht⟩ : ∃ t : Nat, w 1 3 = (t : Int) := ⟨(w 1 3).toNat, by omega⟩
  have hv11 : v 0 11 = (t : Int) := by rw [h1.2.2, ht]
  unfold fX4_text fX5_text
  rw [ht, hv11, wr_id (x := (t : Int)) (by omega) (by omega), wr_id (x := 6) (by omega) (by omega), if_neg (by omega)]
  by_cases q : t = 6
  · rw [if_neg (by omega), if_pos (by omega)]
    exact hx_ret.c h
  · have ht6 : t < 6 := by omega
    rw [if_pos (by omega), if_neg (by omega), hp_ar2 (by omega) (by omega), hp_b, hp_ar9 (by omega) (by omega), hp_b, hp_pt, hp_b, hp_pt, hp_b, hx_wr01.1, show (t : Int).toNat = t by omega]
    obtain ⟨n, hn⟩ : ∃ n : Nat, w 17 1 = (n : Int) := ⟨(w 17 1).toNat, by have := hTp.1; omega⟩
    have hn160 : n ≤ 160 := by have := hTp.1; omega
    obtain ⟨W, hW⟩ : ∃ W, W = hg_up (hg_up (hg_up (hg_up w 17 2 ((3 + t : Nat) : Int)) 17 3 0) 17 4 0) 17 8 (-1) := ⟨_, rfl⟩
    obtain ⟨V, hV⟩ : ∃ V, V = hg_up (hg_up v 0 20 0) 0 28 0 := ⟨_, rfl⟩
    have hWc : ∀ c, c ≠ 17 → W c = w c := fun c hc => by rw [hW, hg_up_ne c hc, hg_up_ne c hc, hg_up_ne c hc, hg_up_ne c hc]
    have hVc : ∀ c, c ≠ 0 → V c = v c := fun c hc => by rw [hV, hg_up_ne c hc, hg_up_ne c hc]
    have hV0 : ∀ k, k ≠ 20 → k ≠ 28 → V 0 k = v 0 k := fun k k1 k2 => by rw [hV, hp_up_k k2, hp_up_k k1]
    have hB : hy_B n W V := by
      refine ⟨⟨hn160, ?_, ?_⟩, fun k hk => ?_, fun j hj => ?_⟩
      · rw [hW, hp_up_k (by omega), hp_up_k (by omega), hp_up_k (by omega), hp_up_k (by omega)]; exact hn
      · rw [hV0 8 (by omega) (by omega), hTp.1.2.2]; exact hn
      · rw [hWc 18 (by omega), hVc 5 (by omega)]; exact hTp.2.1 k (by omega)
      · rw [hVc 14 (by omega)]; exact hTp.2.2 j hj
    have hW8 : W 17 8 = -1 := by rw [hW, hp_up_eq]
    obtain ⟨w1, v1, b, p, s1, s2, s3, s4, s5, s6, s7, s8, s9, s10, s11, s12, s13⟩ := hy_step (p := 0) hB hW8 (by rw [hW, hp_up_k (by omega), hp_up_eq]; rfl) (by rw [hV, hp_up_k (by omega), hp_up_eq]; rfl) (by omega)
    have hX : hy_X n t b p w1 v1 := ⟨hB.fr s3 s4, by rw [s3.2 8 (by omega) (by omega) (by omega) (by omega)]; exact hW8, ⟨by rw [s4.2 11 (by omega) (by omega) (by omega) (by omega), hV0 11 (by omega) (by omega)]; exact hv11, ht6⟩, ⟨s5, s6, s7, s8⟩, ⟨s10, s11, s13⟩, s12⟩
    have hK : hy_K t [] w1 := by
      refine ⟨?_, ?_, fun j hj => absurd hj (by simp)⟩
      · rw [s3.2 2 (by omega) (by omega) (by omega) (by omega), hW, hp_up_k (by omega), hp_up_k (by omega), hp_up_k (by omega), hp_up_eq]
      · rw [s3.2 3 (by omega) (by omega) (by omega) (by omega), hW, hp_up_k (by omega), hp_up_k (by omega), hp_up_eq]; rfl
    have hO : hy_O t (([] : List Int).map hs_enc) v1 := ⟨by rw [s4.2 28 (by omega) (by omega) (by omega) (by omega), hV, hp_up_eq]; rfl, fun j hj => absurd hj (by simp)⟩
    obtain ⟨w2, v2, x, r, y1, y2, y3, y4, y5, y6, y7, y8, y9⟩ := hy_parts 3 hg_F 99999 0 b p w1 v1 [] (by unfold hg_F; omega) (by omega) rfl hX hK hO (Nat.zero_le _) (fun _ => rfl) (fun r hr => absurd hr (by omega))
    have eC : fX2_read w (3 + t) (10 + t) = some (w2, x) := by
      unfold fX2_read hg_pr
      rw [hp_b, hp_pt, hp_b, hp_pt, hp_b, hp_pt, hp_b, hx_wr01.1, hx_wr01.2.2, ← hW, s1, hp_bd]
      exact y1
    have eM : fX5_text_26 hg_F V 1 0 = some (v2, r) := by
      have := hy_26M (N := 99999) (q := 0) (v := V) (by omega)
      rw [hx_F]
      rw [show ((0 : Nat) : Int) = 0 from rfl] at this
      rw [this, s2, hp_bd]
      exact y2
    have cW : ∀ c, c ≠ 17 → c ≠ 3 + t → c ≠ 10 + t → w2 c = w c := fun c c1 c2 c3 => by rw [y4 c c1 c2 c3, s3.1 c c1, hWc c c1]
    have cV : ∀ c, c ≠ 0 → c ≠ 6 → c ≠ 7 → c ≠ 15 → v2 c = v c := fun c c0 c6 c7 c15 => by rw [y5 c c0 c6 c7 c15, s4.1 c c0, hVc c c0]
    have cV0 : ∀ k, (k < 20 ∨ 28 < k) → k ≠ 8 → k ≠ 11 → v2 0 k = v 0 k := fun k hk k8 k11 => by rw [y6 k hk k8 k11, s4.2 k (by omega) (by omega) (by omega) (by omega), hV0 k (by omega) (by omega)]
    have c13 : w2 1 3 = (t : Int) := by rw [cW 1 (by omega) (by omega) (by omega)]; exact ht
    have old : ∀ (t' part : Nat), t' < t → part < 3 → ∃ i m k : Nat, (part = 0 → i = 0) ∧ (part ≠ 0 → w2 (10 + t') (part - 1) = (i : Int)) ∧ w2 (10 + t') part = ((i + m : Nat) : Int) ∧ i + m ≤ 160 ∧ v2 7 (4 * t' + part) = (k : Int) ∧ v2 7 (4 * t' + part + 1) = ((k + m : Nat) : Int) ∧ k + m ≤ 200 ∧ (∀ j, j < m → v2 6 (200 * t' + (k + j)) = hs_enc (w2 (3 + t') (i + j))) ∧ hs_dk (w2 (3 + t')) i m 0 := by
      intro t' part hlt hp
      obtain ⟨i, m, k, r1, r2, r3, r4, r5, r6, r7, r8, r9⟩ := hT.2 t' part (by omega) hp
      refine ⟨i, m, k, r1, fun hh => by rw [cW _ (by omega) (by omega) (by omega)]; exact r2 hh, by rw [cW _ (by omega) (by omega) (by omega)]; exact r3, r4, ?_, ?_, r7, fun j hj => ?_, by rw [cW _ (by omega) (by omega) (by omega)]; exact r9⟩
      · rw [y8 _ (by omega), s4.1 7 (by omega), hVc 7 (by omega)]; exact r5
      · rw [y8 _ (by omega), s4.1 7 (by omega), hVc 7 (by omega)]; exact r6
      · rw [y7 _ (by omega), s4.1 6 (by omega), hVc 6 (by omega), cW _ (by omega) (by omega) (by omega)]; exact r8 j hj
    rw [eC, hp_bd, ← hV, eM, hp_pt, hp_b, hx_wr01.1]
    obtain ⟨U, hU⟩ : ∃ U, U = hg_up w2 17 1 0 := ⟨_, rfl⟩
    have hUc : ∀ c, c ≠ 17 → U c = w2 c := fun c hc => by rw [hU]; exact hg_up_ne c hc
    have hU1 : U 17 1 = 0 := by rw [hU]; exact hp_up_eq
    rw [← hU]
    rcases y9 with ⟨x1, x2, x3, x4⟩ | ⟨x1, x2, x3, x4⟩
    · rw [wr_id (x := x) (by omega) (by omega), if_neg (by omega), wr_id (x := -100 - x) (by omega) (by omega), x3]
      refine ⟨_, _, _, rfl, rfl, h.tx (t := t) ?_ (by rw [hUc 1 (by omega), c13, ht]; exact Int.le_refl _) (fun c _ c17 c3 c10 => by rw [hUc c c17, cW c c17 c3 c10]) ht6 hU1 y3 cV (fun k hk => cV0 k (by omega) (by omega) (by omega))⟩
      refine ⟨⟨by rw [hUc 1 (by omega), c13]; omega, by rw [hUc 1 (by omega), c13]; omega, by rw [hUc 1 (by omega), c13, x4]⟩, fun t' part hlt hp => ?_⟩
      rw [hUc 1 (by omega), c13] at hlt
      rw [hUc (10 + t') (by omega), hUc (3 + t') (by omega)]
      exact old t' part (by omega) hp
    · have c13U : U 1 3 = (t : Int) := by rw [hUc 1 (by omega)]; exact c13
      rw [x1, hx_wr01.2.2, if_pos (by omega), hp_pt, hp_b, wr_id (x := (t : Int) + 1) (by omega) (by omega), x2]
      refine ⟨_, _, _, rfl, rfl, h.tx (t := t) ?_ (by rw [hp_up_eq]; omega) (fun c c1 c17 c3 c10 => by rw [hg_up_ne c c1, hUc c c17, cW c c17 c3 c10]) ht6 (by rw [hp_up_c (by omega)]; exact hU1) y3 cV (fun k hk => cV0 k (by omega) (by omega) (by omega))⟩
      refine ⟨⟨by rw [hp_up_eq]; omega, by rw [hp_up_eq]; omega, by rw [hp_up_eq, x3]; omega⟩, fun t' part hlt hp => ?_⟩
      rw [hp_up_eq] at hlt
      rw [hg_up_ne (10 + t') (by omega), hg_up_ne (3 + t') (by omega), hUc (10 + t') (by omega), hUc (3 + t') (by omega)]
      by_cases e : t' = t
      · rw [e]; exact x4 part hp
      · exact old t' part (by omega) hp
