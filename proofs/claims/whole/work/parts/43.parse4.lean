/-! ===== text: readPart and the reference's loop ===== -/
theorem hy_fail {n t b p N : Nat} {w v : hg_W} {m : Int} {P H O : List Int} {op : Int} (hX : hy_X n t b p w v) (hM : hy_M t O (P ++ H) op v) (hP : ∀ s, s ∈ P → (0 ≤ s ∧ s ≤ 19) ∧ 1 ≤ hy_rk s) (hH : hy_low H 1) (hlen : O.length + P.length + H.length ≤ 160) (ho : -800 < op ∧ op < 800) (hend : hy_lev (w 17 6) < 0 ∨ (hy_lev (w 17 6) = 2 ∧ hy_cmp P)) (h59 : w 17 6 = -18 → H ≠ []) (h41 : w 17 6 = -17 → H = []) : ∃ v', hy_b0 N v m = some (v', 0) ∧ hy_PS t v v' := by
  obtain ⟨hB, h8, ⟨ht, ht6⟩, h4s, ⟨hbp, hpn, hne⟩, htk⟩ := id hX
  obtain ⟨⟨tk1, tk2, tk3, tk4⟩, -, -, -, -, -, -, -, -, t41, t59, -⟩ := hy_tkI htk
  unfold hy_b0
  rw [wr_id (x := v 0 22) (by omega) (by omega), wr_id (x := 59) (by omega) (by omega), wr_id (x := 41) (by omega) (by omega)]
  by_cases q1 : v 0 22 = 59
  · obtain ⟨v1, g1, g2, g3⟩ := hy_unwinds (least := 1) ht6 (by omega) hH hM ht hP hlen ho
    have hne2 := h59 (by omega)
    have hl0 : 0 < H.length := by
      cases H with
      | nil => exact absurd rfl hne2
      | cons x H => rw [List.length_cons]; omega
    have g1' : fX5_unwinds v 1 = some (v1, 0) := g1
    rw [if_pos q1, g1', hp_bd, g2.1, wr_id (x := (H.length : Int)) (by omega) (by omega), if_neg (by omega)]
    exact ⟨v1, rfl, g3⟩
  · rw [if_neg q1]
    by_cases q2 : v 0 22 = 41
    · obtain ⟨v1, g1, g2, g3⟩ := hy_unwinds (least := 1) ht6 (by omega) hH hM ht hP hlen ho
      have g1' : fX5_unwinds v 1 = some (v1, 0) := g1
      have hl0 : H.length = 0 := by rw [h41 (by omega)]; rfl
      rw [if_pos q2, g1', hp_bd, g2.1, wr_id (x := (H.length : Int)) (by omega) (by omega), if_pos (by omega)]
      exact ⟨v1, rfl, g3⟩
    · rw [if_neg q2, hy_signOf htk, hp_bd]
      rcases hend with h | ⟨h, P2, R, c, e1, e2, e3, e4⟩
      · rw [if_neg (show ¬ 0 ≤ hy_lev (w 17 6) by omega), hx_wr01.2.2, if_pos rfl]
        exact ⟨v, rfl, hy_PS.rf⟩
      · obtain ⟨⟨s1, s2, s3⟩, s4, s5, s6, s7, s8, s9, s10⟩ := hy_sgn (l := 2) h
        have eP : P ++ H = P2 ++ c :: (R ++ H) := by rw [e1, List.append_assoc]; rfl
        have lP : P.length = P2.length + (R.length + 1) := by rw [e1, List.length_append, List.length_cons]
        rw [eP] at hM
        obtain ⟨v1, g1, g2⟩ := hy_betwF (s := 4 - w 17 6) (c := c) ht6 (by omega) s5 e2 e3 hM ht e4 (by rw [List.length_cons, List.length_append]; omega) ho
        rw [if_pos (show 0 ≤ hy_lev (w 17 6) by omega), wr_id (x := 4 - w 17 6) (by omega) (by omega), if_neg (show ¬ 4 - w 17 6 = -1 by omega), g1, hp_bd, hx_wr01.1, if_pos rfl]
        exact ⟨v1, rfl, g2⟩
theorem hy_opn {n t b p N o : Nat} {w v : hg_W} {Oc O S : List Int} {sg : Int} (hX : hy_X n t b p w v) (hK : hy_K t Oc w) (hKl : Oc.length ≤ 160) (hM : hy_M t O S (o : Int) v) (ho : o ≤ 5) (hb : b < p) (hS : S.length < 200) (hs : wr sg = sg) (hN : n ≤ b + N) :
    (o = 5 ∧ ∃ w', fX2_opens w (o : Int) = some (w', 0) ∧ hy_F t b w' ∧ hy_PC t w w' ∧ fX5_opensOne v sg = some (v, 0)) ∨ (o < 5 ∧ ∃ (w' v1 v2 : hg_W) (b' p' N1 : Nat), fX2_opens w (o : Int) = some (w', 1) ∧ fX5_opensOne v sg = some (v1, 1) ∧ (∀ x, fX5_eRead_14 N v1 1 x = hy_b1 N1 v2 x) ∧ hy_X n t b' p' w' v2 ∧ hy_K t Oc w' ∧ hy_M t O (sg :: S) ((o + 1 : Nat) : Int) v2 ∧ hy_PC t w w' ∧ hy_PM t v v2 ∧ b < b' ∧ n ≤ b' + N1) := by
  obtain ⟨hB, h8, ⟨ht, ht6⟩, ⟨h4, h20, h5, h21⟩, ⟨hbp, hpn, hne⟩, htk⟩ := id hX
  have hn := hB.1.1
  have w5 : wr 5 = 5 := wr_id (by omega) (by omega)
  rcases hy_opens hM hS hs (by omega) with ⟨h1, h2⟩ | ⟨h1, v1, h2, h3, h6⟩
  · left
    obtain ⟨w', r1, r2, r3⟩ := hy_ref0 h8 h5 (by omega) hK.1 (by rw [hK.2.1]; omega)
    refine ⟨by omega, w', ?_, r2, r3, h2⟩
    unfold fX2_opens
    rw [w5, wr_id (x := (o : Int)) (by omega) (by omega), if_neg (by omega), r1, hp_bd, hx_wr01.1, if_pos (Or.inl rfl)]
  · right
    have hX1 := hX.fr (w' := w) (v' := v1) hy_PC.rf (fun _ _ => rfl) h6
    obtain ⟨w2, v2, b2, p2, k1, k2, k3, k4, k5, k6⟩ := hX1.next
    obtain ⟨N, rfl⟩ : ∃ z, N = z + 1 := ⟨N - 1, by omega⟩
    refine ⟨by omega, w2, v1, v2, b2, p2, N, ?_, h2, fun x => ?_, k3, hK.lc ht6 k5, ?_, hy_LC.pc k5, h6.pm.tr k6.pm, by omega, by omega⟩
    · unfold fX2_opens
      rw [w5, wr_id (x := (o : Int)) (by omega) (by omega), if_pos (by omega), k1, hp_bd, hx_wr01.2.1, if_pos (Or.inr rfl)]
    · rw [hy_e1, k2, hp_bd]
    · have := h3.lm k6
      rw [show ((o + 1 : Nat) : Int) = (o : Int) + 1 by omega]
      exact this
theorem hy_pop {t : Nat} {O S : List Int} {op s : Int} {v : hg_W} (hM : hy_M t O (s :: S) op v) : hy_M t O S (op - 1) (hg_up (hg_up v 0 26 (S.length : Int)) 0 27 (op - 1)) ∧ hy_PS t v (hg_up (hg_up v 0 26 (S.length : Int)) 0 27 (op - 1)) := by
  obtain ⟨m1, m2, m3, m4, m5⟩ := hM
  refine ⟨⟨by rw [hp_up_k (by omega), hp_up_eq], fun j hj => ?_, hp_up_eq, by rw [hp_up_k (by omega), hp_up_k (by omega)]; exact m4, fun j hj => by rw [hp_up_c (by omega), hp_up_c (by omega)]; exact m5 j hj⟩, ⟨fun c h0 h6 h15 => by rw [hg_up_ne c h0, hg_up_ne c h0], fun k h26 h27 h28 => by rw [hp_up_k h27, hp_up_k h26], fun j hj => by rw [hp_up_c (by omega), hp_up_c (by omega)]⟩⟩
  rw [List.length_cons] at m2
  rw [hp_up_c (by omega), hp_up_c (by omega)]
  have := m2 (j + 1) (by omega)
  rw [show S.length + 1 - 1 - (j + 1) = S.length - 1 - j by omega, hy_gC] at this
  exact this
theorem hy_rep {k : Nat} : ∀ s, s ∈ List.replicate k (19 : Int) → (0 ≤ s ∧ s ≤ 19) ∧ 7 ≤ hy_rk s := fun s hs => by
  rw [List.mem_replicate] at hs
  rw [hs.2]
  decide
/-- an operand is there on both sides: the signs that wait for it alone go, too -/
theorem hy_operand {n t b p N k o : Nat} {w v : hg_W} {Oc H : List Int} {x2 c : Int} (hX : hy_X n t b p w v) (hK : hy_K t Oc w) (hM : hy_M t (Oc.map hs_enc) (List.replicate k 19 ++ H) (o : Int) v) (ho : o ≤ 5) (hko : k ≤ o) (hlow : hy_low H 7) (hb : b < p) (hlen : Oc.length + k + H.length ≤ b) (hN : n ≤ b + N) (hc : -6 ≤ c ∧ c ≤ 9999) (hY : hy_b1 N v x2 = hy_b61 N v x2 (hs_enc c)) :
    hy_Rs n t w v Oc k H 5 o 0 b (hg_bd (fX2_write w c) fun w1 _ => hg_bd (fX2_step w1) fun w4 _ => some (w4, 0)) (hy_b1 N v x2) := by
  obtain ⟨hB, h8, ⟨ht, ht6⟩, ⟨h4, h20, h5, h21⟩, ⟨hbp, hpn, hne⟩, htk⟩ := id hX
  have hn := hB.1.1
  have he : 0 ≤ hs_enc c ∧ hs_enc c ≤ 109999 := by
    unfold hs_enc
    split
    · omega
    · rw [if_pos (by omega)]; omega
  obtain ⟨w1, a1, a2, a3, a4⟩ := hy_write (c := c) hK ht6 (by omega) (wr_id (by omega) (by omega))
  obtain ⟨v1, b1, b2, b3⟩ := hy_puts (s := hs_enc c) hM ht ht6 (by rw [List.length_map]; omega) (wr_id (by omega) (by omega))
  obtain ⟨v2, c1, c2, c3⟩ := hy_unwinds (least := 7) (P := List.replicate k 19) (H := H) ht6 (by omega) hlow b2 (by rw [b3.2.1 11 (by omega) (by omega) (by omega)]; exact ht) hy_rep (by rw [List.length_append, List.length_map, List.length_replicate, List.length_singleton]; omega) (by omega)
  rw [hy_ctR] at c2
  have hX2 := hX.fr a3 a4 (b3.tr c3)
  obtain ⟨w3, v3, b', p', k1, k2, k3, k4, k5, k6⟩ := hX2.next
  obtain ⟨N, rfl⟩ : ∃ z, N = z + 1 := ⟨N - 1, by omega⟩
  refine ⟨w3, by rw [a1, hp_bd, k1, hp_bd], a3.tr (hy_LC.pc k5), Or.inr ⟨v3, N, b', p', [], [c], Oc.map hs_enc ++ [hs_enc c] ++ List.replicate k 19, x2, ?_, (b3.pm.tr c3.pm).tr k6.pm, k3, a2.lc ht6 k5, ?_, ?_, fun _ => rfl, fun s hs => by simp at hs, Or.inl ?_, ?_, by omega, by omega, fun a ha => ?_⟩⟩
  · rw [hY]
    unfold hy_b61
    have c1' : fX5_unwinds v1 7 = some (v2, 0) := c1
    rw [b1, hp_bd, c1', hp_bd, hy_e0, k2, hp_bd]
  · have := c2.lm k6
    rw [show (o : Int) + hy_ct [] - (k : Int) = (o : Int) - (k : Int) by simp only [hy_ct]; omega]
    exact this
  · rw [List.map_append, List.append_nil]; rfl
  · have := (hy_levR (w3 17 6)).2; omega
  · rw [List.length_append, List.length_append, List.length_map, List.length_singleton, List.length_replicate, List.length_nil]; omega
  · refine ⟨by omega, ?_⟩
    rw [if_pos hc.1]
    exact ⟨by omega, rfl⟩
set_option maxHeartbeats 8000000 in
theorem hy_main {n t : Nat} : ∀ M, hy_Sp n t M := by
  intro M
  induction M with
  | zero => intro l o w v Oc k H b p N x2 _ _ h; omega
  | succ M ih =>
    intro l o w v Oc k H b p N x2 hl ho hm hX hK hM hk hko hlow hlen hN hx1 hx2 hx01
    obtain ⟨hB, h8, ⟨ht, ht6⟩, ⟨h4, h20, h5, h21⟩, ⟨hbp, hpn, hne⟩, htk⟩ := id hX
    have hn := hB.1.1
    obtain ⟨⟨tk1, tk2, tk3, tk4⟩, t0, t1, t2, t3, t4, t5, t6, t40, t41, t59, t43, t45, t42, t60, t61, tN, tW, -⟩ := hy_tkI htk
    have wl : wr (l : Int) = (l : Int) := wr_id (by omega) (by omega)
    have wt : wr (w 17 6) = w 17 6 := wr_id (by omega) (by omega)
    have wv : wr (v 0 22) = v 0 22 := wr_id (by omega) (by omega)
    have a9 : wr (-9) = -9 := wr_id (by omega) (by omega)
    have a13 : wr (-13) = -13 := wr_id (by omega) (by omega)
    have a15 : wr (-15) = -15 := wr_id (by omega) (by omega)
    have a16 : wr (-16) = -16 := wr_id (by omega) (by omega)
    have a17 : wr (-17) = -17 := wr_id (by omega) (by omega)
    have a19 : wr (-19) = -19 := wr_id (by omega) (by omega)
    have a6 : wr (-6) = -6 := wr_id (by omega) (by omega)
    have w5 : wr 5 = 5 := wr_id (by omega) (by omega)
    have w2 : wr 2 = 2 := wr_id (by omega) (by omega)
    have w6 : wr 6 = 6 := wr_id (by omega) (by omega)
    have w45 : wr 45 = 45 := wr_id (by omega) (by omega)
    have w40 : wr 40 = 40 := wr_id (by omega) (by omega)
    have wx2 : wr x2 = x2 := wr_id (by omega) (by omega)
    have hKl : Oc.length ≤ 160 := by omega
    have hSl : (List.replicate k (19 : Int) ++ H).length < 200 := by rw [List.length_append, List.length_replicate]; omega
    simp only [fX2_readPart, hq_eE]
    unfold hq_E
    rw [wl, w2, wt, a9]
    by_cases cA : l = 2 ∧ w 17 6 = -9
    · -- not
      obtain ⟨rfl, ctok⟩ := cA
      have hv6 := t6.mpr ctok
      clear t0 t1 t2 t3 t4 t5 t6 t40 t41 t59 t43 t45 t42 t60 t61 tN tW
      have hk0 : k = 0 := by
        rcases Nat.eq_zero_or_pos k with h | h
        · exact h
        · exact absurd (hk (by omega)) (by omega)
      subst hk0
      have hx := hx1 (by omega)
      rw [if_pos (show ((2 : Nat) : Int) = 2 from rfl), if_pos ctok]
      unfold hq_28 hq_44 hq_66
      rw [wt, a9, if_pos ctok]
      have hb : b < p := hne (by omega)
      have eY : hy_b1 N v x2 = hg_bd (fX5_opensOne v 13) fun w23 v24 => if wr v24 = 0 then some (w23, 0) else fX5_eRead_14 N w23 1 x2 := by
        unfold hy_b1
        rw [wv, w2, w6, wx2, if_neg (by omega), if_neg (by omega), if_pos (by omega), if_neg (by omega)]
      rw [List.replicate_zero, List.nil_append] at hM hSl
      rcases hy_opn (sg := 13) hX hK hKl hM ho hb hSl (wr_id (by omega) (by omega)) hN with ⟨o5, w', r1, r2, r3, r4⟩ | ⟨o5, w1, v1, v2, b', p', N1, r1, r2, r3, r4, r5, r6, r7, r8, r9, r10⟩
      · rw [r1, hp_bd, hx_wr01.1, if_pos rfl, eY, r4, hp_bd, hx_wr01.1, if_pos rfl]
        exact ⟨w', rfl, r3, Or.inl ⟨b, v, r2, rfl, h21, hy_PM.rf⟩⟩
      · rw [r1, hp_bd, hx_wr01.2.1, if_neg (show ¬ (1 : Int) = 0 by omega), eY, r2, hp_bd, hx_wr01.2.1, if_neg (show ¬ (1 : Int) = 0 by omega), r3]
        have hR := ih 2 (o + 1) w1 v2 Oc 0 (13 :: H) b' p' N1 x2 (by omega) (by omega) (by omega) r4 r5 (by rw [List.replicate_zero, List.nil_append]; exact r6) (fun h => absurd rfl h) (by omega) (Or.inr ⟨(by decide : (0 : Int) ≤ 13 ∧ (13 : Int) ≤ 19), (by decide : hy_rk 13 < hy_li 2)⟩) (by rw [List.length_cons]; omega) r10 (fun _ => hx) (fun h => absurd h (by omega)) hx01
        obtain ⟨w3, q1, q2, q3⟩ := hR
        have q1' : fX2_readPart M w1 ((2 : Nat) : Int) ((o : Int) + 1) = some (w3, 0) := q1
        rw [q1', hp_bd]
        rcases q3 with ⟨s, v3, f1, f2, f3, f4⟩ | ⟨v3, N3, b3, p3, P3, C3, Or3, m3, f1, f2, f3, f4, f5, f6, f7, f8, f9, f10, f11, f12, f13⟩
        · obtain ⟨w4, j1, j2, j3⟩ := hy_writeF (c := -9) f1 ht6 a9
          rw [j1, hp_bd]
          exact ⟨w4, rfl, (r7.tr q2).tr j3, Or.inl ⟨s, v3, j2, f2, f3, r8.tr f4⟩⟩
        · have elen3 : (Oc ++ C3).length = Or3.length + P3.length := by
            have := congrArg List.length f6
            rw [List.replicate_zero, List.append_nil, List.length_map, List.length_append (as := Or3)] at this
            exact this
          rw [List.length_cons] at f10
          have hb3 := f3.2.2.2.2.1
          obtain ⟨w4, j1, j2, j3, j4⟩ := hy_write (c := -9) f4 ht6 (by omega) a9
          rw [j1, hp_bd]
          refine ⟨w4, rfl, (r7.tr q2).tr j3, Or.inr ⟨v3, N3, b3, p3, P3 ++ [13], C3 ++ [-9], Or3, m3, f1, r8.tr f2, f3.fr j3 j4 hy_PS.rf, by rw [← List.append_assoc]; exact j2, ?_, ?_, fun h => absurd rfl h, fun s hs => ?_, ?_, ?_, f11, by omega, fun a ha => ?_⟩⟩
          · rw [List.append_assoc, List.singleton_append, hy_ctA, show hy_ct [13] = 1 from rfl, show (o : Int) + (hy_ct P3 + 1) - ((0 : Nat) : Int) = ((o + 1 : Nat) : Int) + hy_ct P3 - ((0 : Nat) : Int) by omega]
            exact f5
          · rw [List.replicate_zero, List.append_nil] at f6 ⊢
            rw [← List.append_assoc, List.map_append, f6, List.append_assoc]
            rfl
          · rw [List.mem_append, List.mem_singleton] at hs
            rcases hs with h | h
            · exact f8 s h
            · rw [h]; decide
          · rw [j4 6 (by omega)]
            rcases f9 with h | ⟨h, h'⟩
            · exact Or.inl h
            · exact Or.inr ⟨h, h'.app⟩
          · rw [List.length_append, List.length_singleton]; omega
          · exact hy_exA _ _ (a + 1) (f13 a (by omega)) (hy_ex1 (Or.inr rfl) (by omega))
    · have e14 : (if (l : Int) = 2 then (if w 17 6 = -9 then hq_28 (fX2_readPart M) w (l : Int) (o : Int) else hq_14 (fX2_readPart M) w (l : Int) (o : Int)) else hq_14 (fX2_readPart M) w (l : Int) (o : Int)) = hq_14 (fX2_readPart M) w (l : Int) (o : Int) := by
        by_cases q : (l : Int) = 2
        · rw [if_pos q, if_neg (fun h => cA ⟨by omega, h⟩)]
        · rw [if_neg q]
      rw [e14]
      unfold hq_14
      rw [wl, w5, wt, a13]
      by_cases l5 : l = 5
      · subst l5
        rw [if_pos (show ((5 : Nat) : Int) = 5 from rfl)]
        have hlow7 : hy_low H 7 := hlow
        by_cases cB : w 17 6 = -13
        · -- minus
          have hv45 := t45.mpr cB
          clear t0 t1 t2 t3 t4 t5 t6 t40 t41 t59 t43 t45 t42 t60 t61 tN tW
          have hb : b < p := hne (by omega)
          rw [if_pos cB]
          unfold hq_28 hq_44 hq_66
          rw [wt, a9, if_neg (show ¬ w 17 6 = -9 by omega)]
          have eY : hy_b1 N v x2 = hg_bd (fX5_opensOne v 19) fun w23 v24 => if wr v24 = 0 then some (w23, 0) else fX5_eRead_14 N w23 1 0 := by
            unfold hy_b1 hy_b99
            rw [wv, w2, w6, w45, if_neg (by omega), if_neg (by omega), if_neg (by omega), if_pos (by omega)]
          rcases hy_opn (sg := 19) hX hK hKl hM ho hb hSl (wr_id (by omega) (by omega)) hN with ⟨o5, w', r1, r2, r3, r4⟩ | ⟨o5, w1, v1, v2, b', p', N1, r1, r2, r3, r4, r5, r6, r7, r8, r9, r10⟩
          · rw [r1, hp_bd, hx_wr01.1, if_pos rfl, eY, r4, hp_bd, hx_wr01.1, if_pos rfl]
            exact ⟨w', rfl, r3, Or.inl ⟨b, v, r2, rfl, h21, hy_PM.rf⟩⟩
          · rw [r1, hp_bd, hx_wr01.2.1, if_neg (show ¬ (1 : Int) = 0 by omega), eY, r2, hp_bd, hx_wr01.2.1, if_neg (show ¬ (1 : Int) = 0 by omega), r3]
            have hR := ih 5 (o + 1) w1 v2 Oc (k + 1) H b' p' N1 0 (by omega) (by omega) (by omega) r4 r5 (by rw [List.replicate_succ, List.cons_append]; exact r6) (fun _ => rfl) (by omega) hlow (by omega) r10 (fun h => absurd h (by omega)) (fun _ => Or.inl rfl) (Or.inl rfl)
            obtain ⟨w3, q1, q2, q3⟩ := hR
            have q1' : fX2_readPart M w1 ((5 : Nat) : Int) ((o : Int) + 1) = some (w3, 0) := q1
            rw [q1', hp_bd]
            rcases q3 with ⟨s, v3, f1, f2, f3, f4⟩ | ⟨v3, N3, b3, p3, P3, C3, Or3, m3, f1, f2, f3, f4, f5, f6, f7, f8, f9, f10, f11, f12, f13⟩
            · obtain ⟨w4, j1, j2, j3⟩ := hy_writeF (c := -15) f1 ht6 a15
              rw [j1, hp_bd]
              exact ⟨w4, rfl, (r7.tr q2).tr j3, Or.inl ⟨s, v3, j2, f2, f3, r8.tr f4⟩⟩
            · have hP3 : P3 = [] := f7 (by omega)
              subst hP3
              have elen3 : (Oc ++ C3).length + (k + 1) = Or3.length := by
                have := congrArg List.length f6
                rw [List.append_nil, List.length_append, List.length_map, List.length_replicate] at this
                exact this
              rw [List.length_nil] at f10
              have hb3 := f3.2.2.2.2.1
              obtain ⟨w4, j1, j2, j3, j4⟩ := hy_write (c := -15) f4 ht6 (by omega) a15
              rw [j1, hp_bd]
              refine ⟨w4, rfl, (r7.tr q2).tr j3, Or.inr ⟨v3, N3, b3, p3, [], C3 ++ [-15], Or3, m3, f1, r8.tr f2, f3.fr j3 j4 hy_PS.rf, by rw [← List.append_assoc]; exact j2, ?_, ?_, fun _ => rfl, fun s hs => by simp at hs, Or.inl ?_, by rw [List.length_nil]; omega, f11, by omega, fun a ha => ?_⟩⟩
              · rw [show (o : Int) + hy_ct [] - (k : Int) = ((o + 1 : Nat) : Int) + hy_ct [] - ((k + 1 : Nat) : Int) by omega]
                exact f5
              · rw [← f6, ← List.append_assoc, List.map_append, List.append_assoc, List.replicate_succ]
                rfl
              · have := (hy_levR (w4 17 6)).2; omega
              · exact hy_exA _ _ (a + 1) (f13 a (by omega)) (hy_ex1 (Or.inl rfl) (by omega))
        · rw [if_neg cB]
          unfold hq_69
          rw [wl, w5, if_pos (show (5 : Int) ≤ ((5 : Nat) : Int) by omega), wt, a16, a19, hx_wr01.2.2, a6]
          by_cases cO : w 17 6 = -16
          · -- (
            have hv40 := t40.mpr cO
            clear t0 t1 t2 t3 t4 t5 t6 t40 t41 t59 t43 t45 t42 t60 t61 tN tW
            have hb : b < p := hne (by omega)
            rw [if_pos cO]
            have eY : hy_b1 N v x2 = hg_bd (fX5_opensOne v 0) fun w23 v24 => if wr v24 = 0 then some (w23, 0) else fX5_eRead_14 N w23 1 1 := by
              unfold hy_b1 hy_b99
              rw [wv, w2, w6, w45, w40, if_neg (by omega), if_neg (by omega), if_neg (by omega), if_neg (by omega), if_pos (by omega)]
            rcases hy_opn (sg := 0) hX hK hKl hM ho hb hSl hx_wr01.1 hN with ⟨o5, w', r1, r2, r3, r4⟩ | ⟨o5, w1, v1, v2, b', p', N1, r1, r2, r3, r4, r5, r6, r7, r8, r9, r10⟩
            · rw [r1, hp_bd, hx_wr01.1, if_pos rfl, eY, r4, hp_bd, hx_wr01.1, if_pos rfl]
              exact ⟨w', rfl, r3, Or.inl ⟨b, v, r2, rfl, h21, hy_PM.rf⟩⟩
            · rw [r1, hp_bd, hx_wr01.2.1, if_neg (show ¬ (1 : Int) = 0 by omega), eY, r2, hp_bd, hx_wr01.2.1, if_neg (show ¬ (1 : Int) = 0 by omega), r3]
              have hlH : (List.replicate k (19 : Int) ++ H).length = k + H.length := by rw [List.length_append, List.length_replicate]
              have hR := ih 0 (o + 1) w1 v2 Oc 0 (0 :: (List.replicate k 19 ++ H)) b' p' N1 1 (by omega) (by omega) (by omega) r4 r5 (by rw [List.replicate_zero, List.nil_append]; exact r6) (fun h => absurd rfl h) (by omega) (Or.inr ⟨(by decide : (0 : Int) ≤ 0 ∧ (0 : Int) ≤ 19), (by decide : hy_rk 0 < hy_li 0)⟩) (by rw [List.length_cons, hlH]; omega) r10 (fun _ => rfl) (fun h => absurd h (by omega)) (Or.inr rfl)
              obtain ⟨w3, q1, q2, q3⟩ := hR
              have q1' : fX2_readPart M w1 0 ((o : Int) + 1) = some (w3, 0) := q1
              rw [q1', hp_bd]
              rcases q3 with ⟨s, v3, f1, f2, f3, f4⟩ | ⟨v3, N3, b3, p3, P3, C3, Or3, m3, f1, f2, f3, f4, f5, f6, f7, f8, f9, f10, f11, f12, f13⟩
              · obtain ⟨w4, j1, j2, j3⟩ := hy_mustF (x := -17) f1 (by unfold hx_c; omega) (by omega)
                rw [j1, hp_bd]
                exact ⟨w4, rfl, (r7.tr q2).tr j3, Or.inl ⟨s, v3, j2, f2, f3, r8.tr f4⟩⟩
              · have elen3 : (Oc ++ C3).length = Or3.length + P3.length := by
                  have := congrArg List.length f6
                  rw [List.replicate_zero, List.append_nil, List.length_map, List.length_append (as := Or3)] at this
                  exact this
                obtain ⟨hB3, h83, ⟨ht3, -⟩, ⟨h43, h203, h53, h213⟩, ⟨hbp3, hpn3, hne3⟩, htk3⟩ := id f3
                obtain ⟨⟨u1, u2, u3, u4⟩, -, -, -, -, -, -, -, -, u41, u59, -⟩ := hy_tkI htk3
                have hctP := hy_ctB P3
                rw [List.length_cons, hlH] at f10
                have hP31 : ∀ s, s ∈ P3 → (0 ≤ s ∧ s ≤ 19) ∧ 1 ≤ hy_rk s := fun s hs => f8 s hs
                unfold fX2_must
                rw [wr_id (x := w3 17 6) (by omega) (by omega), a17]
                by_cases cC : w3 17 6 = -17
                · rw [if_pos cC]
                  have hb3 : b3 < p3 := hne3 (by omega)
                  -- the reference: back to the (, and the signs before it
                  obtain ⟨v4, m1, m2, m3'⟩ := hy_unwinds (least := 1) (P := P3) (H := 0 :: (List.replicate k 19 ++ H)) ht6 (by omega) (Or.inr ⟨(by decide : (0 : Int) ≤ 0 ∧ (0 : Int) ≤ 19), (by decide : hy_rk 0 < 1)⟩) f5 ht3 hP31 (by rw [List.length_cons, hlH]; omega) (by omega)
                  rw [show ((o + 1 : Nat) : Int) + hy_ct P3 - ((0 : Nat) : Int) - hy_ct P3 = ((o + 1 : Nat) : Int) by omega] at m2
                  obtain ⟨m4, m5⟩ := hy_pop m2
                  rw [show ((o + 1 : Nat) : Int) - 1 = (o : Int) by omega] at m4 m5
                  obtain ⟨v5, m6, m7, m8⟩ := hy_unwinds (least := 7) (P := List.replicate k 19) (H := H) ht6 (by omega) hlow7 m4 (by rw [m5.2.1 11 (by omega) (by omega) (by omega), m3'.2.1 11 (by omega) (by omega) (by omega)]; exact ht3) hy_rep (by rw [List.length_append, List.length_replicate]; omega) (by omega)
                  rw [hy_ctR] at m7
                  have hPS := (m3'.tr m5).tr m8
                  have hX5 := f3.fr (w' := w3) (v' := v5) hy_PC.rf (fun _ _ => rfl) hPS
                  obtain ⟨w6', v6, b6, p6, k1, k2, k3, k4, k5, k6⟩ := hX5.next
                  obtain ⟨N3, rfl⟩ : ∃ z, N3 = z + 1 := ⟨N3 - 1, by omega⟩
                  have m1' : fX5_unwinds v3 1 = some (v4, 0) := m1
                  have e26 : v4 0 26 = ((k + H.length + 1 : Nat) : Int) := by rw [m2.1, List.length_cons, hlH]
                  have e27 : v4 0 27 = ((o + 1 : Nat) : Int) := m2.2.2.1
                  have eY3 : hy_b0 (N3 + 1) v3 m3 = hy_b0 N3 v6 m3 := by
                    have m6' : fX5_unwinds (hg_up (hg_up v4 0 26 ((List.replicate k (19 : Int) ++ H).length : Int)) 0 27 (o : Int)) 7 = some (v5, 0) := m6
                    rw [hlH] at m6'
                    show (if wr (v3 0 22) = wr 59 then _ else if wr (v3 0 22) = wr 41 then _ else _) = _
                    rw [wr_id (x := v3 0 22) (by omega) (by omega), wr_id (x := 59) (by omega) (by omega), wr_id (x := 41) (by omega) (by omega), if_neg (by omega), if_pos (by omega), m1', hp_bd, e26, wr_id (x := ((k + H.length + 1 : Nat) : Int)) (by omega) (by omega), if_neg (by omega), hp_pt, hp_b, hp_up_k (show 27 ≠ 26 by omega), e27, hp_pt, hp_b, show ((k + H.length + 1 : Nat) : Int) - 1 = ((k + H.length : Nat) : Int) by omega, show ((o + 1 : Nat) : Int) - 1 = (o : Int) by omega, wr_id (x := ((k + H.length : Nat) : Int)) (by omega) (by omega), wr_id (x := (o : Int)) (by omega) (by omega), m6', hp_bd, hy_e0, k2, hp_bd]
                  rw [k1, hp_bd]
                  refine ⟨w6', rfl, (r7.tr q2).tr (hy_LC.pc k5), Or.inr ⟨v6, N3, b6, p6, [], C3, Or3 ++ P3 ++ List.replicate k 19, m3, f1.trans eY3, ((r8.tr f2).tr hPS.pm).tr k6.pm, k3, f4.lc ht6 k5, ?_, ?_, fun _ => rfl, fun s hs => by simp at hs, Or.inl ?_, ?_, by omega, by omega, fun a ha => f13 a (by omega)⟩⟩
                  · have := m7.lm k6
                    rw [show (o : Int) + hy_ct [] - (k : Int) = (o : Int) - (k : Int) by simp only [hy_ct]; omega]
                    exact this
                  · rw [List.replicate_zero, List.append_nil] at f6
                    rw [f6, List.append_nil]
                  · have := (hy_levR (w6' 17 6)).2; omega
                  · rw [List.length_append, List.length_append, List.length_replicate, List.length_nil]; omega
                · rw [if_neg cC]
                  obtain ⟨w4, j1, j2, j3⟩ := hy_ref0 h83 h53 (by omega) f4.1 (by rw [f4.2.1]; omega)
                  obtain ⟨v4, z1, z2⟩ := hy_fail (N := N3) (m := m3) f3 f5 hP31 (Or.inr ⟨(by decide : (0 : Int) ≤ 0 ∧ (0 : Int) ≤ 19), (by decide : hy_rk 0 < 1)⟩) (by rw [List.length_cons, hlH]; omega) (by omega) (by
                    rcases f9 with h | h
                    · left; omega
                    · exact Or.inr h) (fun _ h => by simp at h) (fun h => absurd h cC)
                  rw [j1, hp_bd, hp_bd]
                  refine ⟨w4, rfl, (r7.tr q2).tr j3, Or.inl ⟨b3, v4, j2, f1.trans z1, ?_, (r8.tr f2).tr z2.pm⟩⟩
                  rw [z2.2.1 21 (by omega) (by omega) (by omega)]
                  exact h213
          · rw [if_neg cO]
            by_cases cN : w 17 6 = -19
            · -- a number
              have hb : b < p := hne (by omega)
              obtain ⟨n1, n2, n3⟩ := tN cN
              have hv1 := t1.mpr cN
              clear t0 t1 t2 t3 t4 t5 t6 t40 t41 t59 t43 t45 t42 t60 t61 tN tW
              rw [if_pos cN]
              unfold hq_208 fX2_readPart_207
              rw [wt, a19, if_pos cN]
              refine hy_operand hX hK hM ho hko hlow7 hb hlen hN (c := w 17 7) (by omega) ?_
              unfold hy_b1
              rw [wv, if_pos (by omega), n1]
              unfold hs_enc
              rw [if_pos n2]
            · rw [if_neg cN]
              by_cases cW : -6 ≤ w 17 6
              · -- a name
                have hb : b < p := hne (by omega)
                have n1 := tW cW
                have hv2 := t2.mpr cW
                clear t0 t1 t2 t3 t4 t5 t6 t40 t41 t59 t43 t45 t42 t60 t61 tN tW
                rw [if_neg (by omega), if_neg (by omega)]
                unfold hq_208 fX2_readPart_207
                rw [wt, a19, if_neg cN]
                refine hy_operand hX hK hM ho hko hlow7 hb hlen hN (c := w 17 6) (by omega) ?_
                unfold hy_b1
                rw [wv, w2, if_neg (by omega), if_pos (by omega), n1]
                unfold hs_enc
                rw [if_neg (by omega), if_pos cW]
              · -- nothing that may stand here
                rw [if_neg (show ¬ -1 < w 17 6 by omega), if_pos (show w 17 6 < -6 by omega)]
                have y1 : v 0 22 ≠ 1 := fun h => cN (t1.mp h)
                have y2 : v 0 22 ≠ 2 := fun h => cW (t2.mp h)
                have y45 : v 0 22 ≠ 45 := fun h => cB (t45.mp h)
                have y40 : v 0 22 ≠ 40 := fun h => cO (t40.mp h)
                have y6 := t6.mp
                clear t0 t1 t2 t3 t4 t5 t6 t40 t41 t59 t43 t45 t42 t60 t61 tN tW
                unfold fX2_readPart_217
                obtain ⟨w4, j1, j2, j3⟩ := hy_ref0 h8 h5 (by omega) hK.1 (by rw [hK.2.1]; omega)
                rw [j1, hp_bd]
                refine ⟨w4, rfl, j3, Or.inl ⟨b, v, j2, ?_, h21, hy_PM.rf⟩⟩
                have e99 : hy_b99 N v = some (v, 0) := by
                  unfold hy_b99
                  rw [wv, w45, w40, if_neg (by omega), if_neg (by omega)]
                unfold hy_b1
                rw [wv, w2, w6, wx2, if_neg (by omega), if_neg (by omega), e99]
                by_cases q6 : v 0 22 = 6
                · have hxx : x2 = 0 := by
                    rcases hx2 (by omega) with h | h
                    · exact h
                    · exact absurd (y6 q6) h
                  rw [if_pos q6, if_pos hxx]
                · rw [if_neg q6]
      · -- a level below
        clear t0 t1 t2 t3 t4 t5 t6 t40 t41 t59 t43 t45 t42 t60 t61 tN tW
        have hk0 : k = 0 := by
          rcases Nat.eq_zero_or_pos k with h | h
          · exact h
          · exact absurd (hk (by omega)) l5
        subst hk0
        rw [if_neg (show ¬ (l : Int) = 5 by omega)]
        unfold hq_69
        rw [wl, w5, if_neg (show ¬ (5 : Int) ≤ (l : Int) by omega), w2]
        have hR := ih (l + 1) o w v Oc 0 H b p N x2 (by omega) ho (by omega) hX hK hM (fun h => absurd rfl h) hko (hlow.up hy_liM) hlen hN (fun h => hx1 (by omega)) (fun h => by
          by_cases q : 3 ≤ l
          · exact hx2 q
          · exact Or.inr (fun h' => cA ⟨by omega, h'⟩)) hx01
        obtain ⟨w3, q1, q2, q3⟩ := hR
        have q1' : fX2_readPart M w ((l : Int) + 1) (o : Int) = some (w3, 0) := by
          rw [show (l : Int) + 1 = ((l + 1 : Nat) : Int) by omega]; exact q1
        rw [q1', hp_bd]
        have e94 : (if (l : Int) = 2 then fX2_readPart_88 (fX2_readPart M) w3 (l : Int) (o : Int) 1 else fX2_readPart_88 (fX2_readPart M) w3 (l : Int) (o : Int) 160) = fX2_readPart_93 (fX2_readPart M) hg_F w3 (l : Int) (o : Int) ((if l = 2 then 1 else 160 : Nat) : Int) ((0 : Nat) : Int) := by
          unfold fX2_readPart_88
          by_cases q : l = 2
          · rw [if_pos (by omega), if_pos q]; rfl
          · rw [if_neg (by omega), if_neg q]; rfl
        rw [e94]
        rcases q3 with ⟨s, v3, f1, f2, f3, f4⟩ | ⟨v3, N3, b3, p3, P3, C3, Or3, m3, f1, f2, f3, f4, f5, f6, f7, f8, f9, f10, f11, f12, f13⟩
        · rw [hy_98F f1 (by unfold hg_F; omega) (by omega)]
          exact ⟨w3, rfl, q2, Or.inl ⟨s, v3, f1, f2, f3, f4⟩⟩
        · have hL := hy_loop ih (l := l) (o := o) (by omega) ho (by omega) hlow (most := if l = 2 then 1 else 160) rfl n hg_F N3 0 b3 p3 w3 v3 (Oc ++ C3) P3 Or3 m3 (by unfold hg_F; omega) (by omega) f3 f4 (by rw [show (o : Int) + hy_ct P3 = (o : Int) + hy_ct P3 - ((0 : Nat) : Int) by omega]; exact f5) (by rw [List.replicate_zero, List.append_nil] at f6; exact f6) (fun s hs => ⟨(f8 s hs).1, Nat.le_trans hy_loM (f8 s hs).2⟩) (fun q _ s hs => by have := (f8 s hs).2; rw [q] at this; exact this) f9 f10 f11 (fun _ => by omega) (fun _ => by omega) (fun _ h => absurd h (by omega))
          obtain ⟨w5', y0, yP, y⟩ := hL
          refine ⟨w5', y0, q2.tr yP, ?_⟩
          rw [f1]
          rcases y with ⟨s, v5, y1, y2, y3, y4⟩ | ⟨v5, N5, b5, p5, P5, C5, Or5, m5, y1, y2, y3, y4, y5, y6, y7, y8, y9, y10, y11, y12, y13⟩
          · exact Or.inl ⟨s, v5, y1, y2, y3, f2.tr y4⟩
          · exact Or.inr ⟨v5, N5, b5, p5, P5, C3 ++ C5, Or5, m5, y1, f2.tr y2, y3, by rw [← List.append_assoc]; exact y4, y5, by rw [← List.append_assoc]; exact y6, y7, y8, y9, y10, y11, by omega, fun a ha => hy_exA _ _ (a + 1) (f13 a (by omega)) (y13 a ha)⟩
