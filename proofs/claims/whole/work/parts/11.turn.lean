/-! ===== a turn ===== -/
def hx_tkC (b : Nat) (w : hg_W) (p x : Nat) (P L D T : Int) : hg_W := hg_up (hg_up (hg_up (hg_up (hg_up (hg_up w b 10 (w b 10 - 1)) (b + 2) x (w (b + 2) x - 1)) (b + 6) p P) (b + 7) p L) (b + 5) p D) b 12 T
def hx_tkM (v : hg_W) (p x : Nat) (C P L D T : Int) : hg_W := hg_up (hg_up (hg_up (hg_up (hg_up v 4 (2 * x + 1) C) 3 (3 * p + 1) P) 3 (3 * p + 2) L) 3 (3 * p) D) 0 6 T
theorem hx_tkR {b : Nat} (hb : hg_rd b) {w v : hg_W} (hR : hx_R b w v) {p x : Nat} {P L D T : Int} (hp : p < 6) (hx : x < 6) (hc : 0 < w (b + 2) x) (hP : 0 ≤ P ∧ P ≤ 9999) (hL : 0 ≤ L ∧ L ≤ 999) (hD : 0 ≤ D ∧ D ≤ 99) (hT : 0 ≤ T ∧ T ≤ 999) :
    hx_R b (hx_tkC b w p x P L D T) (hx_tkM v p x (w (b + 2) x - 1) P L D T) := by
  have hb2 := hx_rd19 hb
  obtain ⟨r1, r2, r3, r4, r5, r6, r7⟩ := hR
  unfold hx_tkC hx_tkM
  refine ⟨fun k hk => ⟨?_, ?_, ?_, ?_, ?_⟩, fun k hk => ?_, ?_, ?_, ?_, ?_, ?_⟩
  · have h := (r1 k hk).1
    simp (disch := omega) only [hp_up_c, hp_up_k]
    exact h
  · have h := (r1 k hk).2.1
    by_cases q : k = x
    · subst q
      refine ⟨?_, ?_, ?_⟩ <;> simp (disch := omega) only [hp_up_c, hp_up_k, hp_up_eq] <;> omega
    · simp (disch := omega) only [hp_up_c, hp_up_k]
      exact h
  · have h := (r1 k hk).2.2.1
    by_cases q : k = p
    · subst q
      refine ⟨?_, ?_, ?_⟩ <;> simp (disch := omega) only [hp_up_c, hp_up_k, hp_up_eq] <;> omega
    · simp (disch := omega) only [hp_up_c, hp_up_k]
      exact h
  · have h := (r1 k hk).2.2.2.1
    by_cases q : k = p
    · subst q
      refine ⟨?_, ?_, ?_⟩ <;> simp (disch := omega) only [hp_up_c, hp_up_k, hp_up_eq] <;> omega
    · simp (disch := omega) only [hp_up_c, hp_up_k]
      exact h
  · have h := (r1 k hk).2.2.2.2
    by_cases q : k = p
    · subst q
      refine ⟨?_, ?_, ?_⟩ <;> simp (disch := omega) only [hp_up_c, hp_up_k, hp_up_eq] <;> omega
    · simp (disch := omega) only [hp_up_c, hp_up_k]
      exact h
  · simp (disch := omega) only [hp_up_c, hp_up_k] at hk ⊢
    exact r2 k hk
  · simp (disch := omega) only [hp_up_c, hp_up_k]
    exact r3
  · clear r1 r2 r3 r5 r6 r7
    rcases (by omega : x = 0 ∨ x = 1 ∨ x = 2 ∨ x = 3 ∨ x = 4 ∨ x = 5) with rfl | rfl | rfl | rfl | rfl | rfl <;> (simp (disch := omega) only [hp_up_c, hp_up_k, hp_up_eq]; omega)
  · simp (disch := omega) only [hp_up_c, hp_up_k]
    exact r5
  · refine ⟨?_, ?_, ?_⟩ <;> simp (disch := omega) only [hp_up_c, hp_up_k, hp_up_eq] <;> omega
  · simp (disch := omega) only [hp_up_c, hp_up_k]
    exact r7
theorem hx_mn {n x : Int} (hn : 0 ≤ n ∧ n < 100000) (hx : -100000 ≤ x ∧ x < 100000) : hg_mn n x = if x < n then x else n := by
  unfold hg_mn
  rw [wr_id (x := n) (by omega) (by omega), wr_id (x := x) (by omega) (by omega)]
theorem hx_mx {n x : Int} (hn : 0 ≤ n ∧ n < 100000) (hx : -100000 ≤ x ∧ x < 100000) : hg_mx n x = if n < x then x else n := by
  unfold hg_mx
  rw [wr_id (x := n) (by omega) (by omega), wr_id (x := x) (by omega) (by omega)]
/-- the turns one more, both ways -/
def hx_t1 (t : Int) : Int := if t + 1 < 999 then t + 1 else 999
theorem hx_107 {b : Nat} {w : hg_W} {x : Int} (h : 0 ≤ w b 12 ∧ w b 12 ≤ 999) (hx : -1 ≤ x ∧ x < 6) : fX0_take_107 b w x = some (hg_up w b 12 (hx_t1 (w b 12)), x) := by
  unfold fX0_take_107
  rw [hx_mn (by omega) (by omega), hp_pt, hp_b, wr_id (x := x) (by omega) (by omega)]
  unfold hx_t1
  rw [wr_id (by split <;> omega) (by split <;> omega)]
theorem hx_139 {v : hg_W} {x : Int} (h : 0 ≤ v 0 6 ∧ v 0 6 ≤ 999) (hx : -1 ≤ x ∧ x < 6) : fX5_takesOne_139 v x = some (hg_up v 0 6 (hx_t1 (v 0 6)), x) := by
  unfold fX5_takesOne_139
  rw [hx_within (by omega) (by omega) (by omega), hp_bd, hp_pt, hp_b, wr_id (x := x) (by omega) (by omega)]
  have e : (if (0 : Int) ≤ wr (v 0 6 + 1) then (if wr (v 0 6 + 1) ≤ 999 then wr (v 0 6 + 1) else 999) else 0) = hx_t1 (v 0 6) := by
    rw [wr_id (by omega) (by omega)]
    unfold hx_t1
    rw [if_pos (by omega)]
    split
    · split <;> omega
    · rw [if_neg (by omega)]
  rw [e]
  have : 0 ≤ hx_t1 (v 0 6) ∧ hx_t1 (v 0 6) ≤ 999 := by unfold hx_t1; split <;> omega
  rw [wr_id (by omega) (by omega)]
theorem hx_R.turns {b : Nat} (hb : hg_rd b) {w v : hg_W} (hR : hx_R b w v) {T : Int} (hT : 0 ≤ T ∧ T ≤ 999) : hx_R b (hg_up w b 12 T) (hg_up v 0 6 T) := by
  have hb2 := hx_rd19 hb
  obtain ⟨r1, r2, r3, r4, r5, r6, r7⟩ := hR
  refine ⟨fun k hk => ?_, fun k hk => ?_, ?_, ?_, ?_, ?_, ?_⟩
  · simp (disch := omega) only [hp_up_c]; exact r1 k hk
  · simp (disch := omega) only [hp_up_c, hp_up_k] at hk ⊢; exact r2 k hk
  · simp (disch := omega) only [hp_up_k]; exact r3
  · simp (disch := omega) only [hp_up_c, hp_up_k]; exact r4
  · simp (disch := omega) only [hp_up_k]; exact r5
  · refine ⟨?_, ?_, ?_⟩ <;> simp (disch := omega) only [hp_up_eq] <;> omega
  · simp (disch := omega) only [hp_up_c, hp_up_k]; exact r7
theorem hx_FC.up {b : Nat} {w : hg_W} {c k : Nat} {x : Int} (h : b ≤ c ∧ c ≤ b + 8) : hx_FC b w (hg_up w c k x) := fun c' _ h' => hg_up_ne c' (by omega)
theorem hx_tkFC {b : Nat} {w : hg_W} {p x : Nat} {P L D T : Int} : hx_FC b w (hx_tkC b w p x P L D T) := by
  unfold hx_tkC
  exact (((((hx_FC.up (by omega)).tr (hx_FC.up (by omega))).tr (hx_FC.up (by omega))).tr (hx_FC.up (by omega))).tr (hx_FC.up (by omega))).tr (hx_FC.up (by omega))
theorem hx_FM.up {v : hg_W} {c k : Nat} {x : Int} (h : c = 3 ∨ c = 4 ∨ c = 16 ∨ c = 17 ∨ (c = 0 ∧ (k = 5 ∨ k = 6))) : hx_FM v (hg_up v c k x) := by
  refine ⟨fun c' h1 h2 h3 h4 h5 => hg_up_ne c' (by omega), fun k' h1 h2 => ?_⟩
  rcases (by omega : c ≠ 0 ∨ c = 0) with q | q
  · rw [hp_up_c (by omega)]
  · subst q; rw [hp_up_k (by omega)]
theorem hx_tkFM {v : hg_W} {p x : Nat} {C P L D T : Int} : hx_FM v (hx_tkM v p x C P L D T) := by
  unfold hx_tkM
  exact ((((hx_FM.up (by omega)).tr (hx_FM.up (by omega))).tr (hx_FM.up (by omega))).tr (hx_FM.up (by omega))).tr (hx_FM.up (by omega))
/-- what a take leaves in the class's round: who there is, the law, whose turn -/
def hx_KC (b : Nat) (w w' : hg_W) : Prop := w' b 9 = w b 9 ∧ w' b 13 = w b 13 ∧ w' (b + 3) = w (b + 3) ∧ w' (b + 4) = w (b + 4) ∧ w' (b + 1) = w (b + 1)
theorem hx_KC.rf {b : Nat} {w : hg_W} : hx_KC b w w := ⟨rfl, rfl, rfl, rfl, rfl⟩
theorem hx_KC.tr {b : Nat} {w1 w2 w3 : hg_W} (h1 : hx_KC b w1 w2) (h2 : hx_KC b w2 w3) : hx_KC b w1 w3 := ⟨h2.1.trans h1.1, h2.2.1.trans h1.2.1, h2.2.2.1.trans h1.2.2.1, h2.2.2.2.1.trans h1.2.2.2.1, h2.2.2.2.2.trans h1.2.2.2.2⟩
theorem hx_sC.kc {b : Nat} (hb : hg_rd b) {w w' : hg_W} (h : hx_sC b w w') : hx_KC b w w' := by
  have hb2 := hx_rd19 hb
  exact ⟨by rw [h b (by omega) (by omega)], by rw [h b (by omega) (by omega)], h _ (by omega) (by omega), h _ (by omega) (by omega), h _ (by omega) (by omega)⟩
theorem hx_tkKC {b : Nat} {w : hg_W} {p x : Nat} {P L D T : Int} : hx_KC b w (hx_tkC b w p x P L D T) := by
  unfold hx_tkC
  refine ⟨?_, ?_, ?_, ?_, ?_⟩
  · simp (disch := omega) only [hp_up_c, hp_up_k]
  · simp (disch := omega) only [hp_up_c, hp_up_k]
  · funext k; simp (disch := omega) only [hp_up_c]
  · funext k; simp (disch := omega) only [hp_up_c]
  · funext k; simp (disch := omega) only [hp_up_c]
set_option maxHeartbeats 4000000 in
theorem hx_take {b : Nat} (hb : hg_rd b) {w v : hg_W} (hT : hx_T w v) (hR : hx_R b w v) {p : Nat} (hp : (p : Int) < w b 9) :
    ∃ (w' v' : hg_W) (r : Int), fX0_take b w (p : Int) = some (w', r) ∧ fX5_takesOne v (p : Int) = some (v', r) ∧ hx_R b w' v' ∧ hx_FC b w w' ∧ hx_FM v v' ∧ hx_KC b w w' ∧ w' b 11 = w b 11 ∧ ((r = -1 ∧ w b 10 = 0 ∧ w' b 10 = 0) ∨ (0 ≤ r ∧ r < 6 ∧ 0 < w b 10 ∧ w' b 10 = w b 10 - 1)) := by
  have hb2 := hx_rd19 hb
  obtain ⟨w1, v1, tk, g1, g2, s1, z1⟩ := hx_takes hb hT hR hp
  have hR1 := hR.sm hb s1 z1
  have hT1 := hx_sT hb hT s1 z1
  have hp1 : (p : Int) < w1 b 9 := by rw [s1 b (by omega) (by omega)]; exact hp
  obtain ⟨x0, g3, g4, hx0⟩ := hx_coinL hb (w := w1) (v := v1) (tk := tk) (fun k hk => ⟨(hR1.1 k hk).1, (hR1.1 k hk).2.1⟩) 6 hg_F hg_F 0 (-1) (-1) 0 0 (by unfold hg_F; omega) (by unfold hg_F; omega) rfl (Or.inl rfl) (Or.inl ⟨rfl, fun j hj => absurd hj (by omega)⟩) (fun _ => rfl)
  have hcoin : fX0_coinUpTo b w1 tk = some (w1, x0) := g3
  have hcoinM : fX5_theCoin v (p : Int) = some (v1, x0) := by
    unfold fX5_theCoin
    rw [g2, hp_bd]
    exact g4
  have hcs := hx_cs_eq hR1
  have hsum := hR1.2.2.2.1
  unfold fX0_take fX5_takesOne
  rw [g1, hp_bd, hcoin, hp_bd, hcoinM, hp_bd]
  rcases hx0 with ⟨rfl, hz⟩ | ⟨h0, h6, hpos⟩
  · have r6 := hR1.2.2.2.2.2.1
    have hT6 : 0 ≤ hx_t1 (w1 b 12) ∧ hx_t1 (w1 b 12) ≤ 999 := by unfold hx_t1; split <;> omega
    rw [if_pos (by rw [wr_id (by omega) (by omega)]; omega), if_pos rfl, hx_107 ⟨r6.1, r6.2.1⟩ (by omega), hx_139 (by rw [r6.2.2]; exact ⟨r6.1, r6.2.1⟩) (by omega), r6.2.2]
    have hz10 : w1 b 10 = 0 := by rw [hsum, hz 0 (by omega), hz 1 (by omega), hz 2 (by omega), hz 3 (by omega), hz 4 (by omega), hz 5 (by omega)]; rfl
    refine ⟨_, _, -1, rfl, rfl, hR1.turns hb hT6, s1.fc.tr (hx_FC.up (by omega)), (hx_sM.fm z1).tr (hx_FM.up (by omega)), (s1.kc hb).tr ⟨hp_up_k (by omega), hp_up_k (by omega), hg_up_ne _ (by omega), hg_up_ne _ (by omega), hg_up_ne _ (by omega)⟩, ?_, Or.inl ⟨rfl, ?_, ?_⟩⟩
    · rw [hp_up_k (by omega), s1 b (by omega) (by omega)]
    · rw [← s1 b (by omega) (by omega)]; exact hz10
    · rw [hp_up_k (by omega)]; exact hz10
  · rw [if_neg (by rw [wr_id (by omega) (by omega)]; omega), if_neg (by rw [wr_id (by omega) (by omega), wr_id (by omega) (by omega)]; omega)]
    obtain ⟨w2, v2, so, g5, g6, so0, so1, s2, z2⟩ := hx_sounds hb hT1 hR1 hp1 ⟨h0, h6⟩
    have hR2 := hR1.sm hb s2 z2
    have hT2 := hx_sT hb hT1 s2 z2
    have hp2 : (p : Int) < w2 b 9 := by rw [s2 b (by omega) (by omega)]; exact hp1
    obtain ⟨w3, v3, co, g7, g8, co0, co1, s3, z3⟩ := hx_costs hb hT2 hR2 hp2 ⟨h0, h6⟩
    have hR3 := hR2.sm hb s3 z3
    have hpos3 : 0 < w3 (b + 2) x0.toNat := by rw [s3 _ (by omega) (by omega), s2 _ (by omega) (by omega)]; exact hpos
    rw [g5, hp_bd, g7, hp_bd, g6, hp_bd, g8, hp_bd]
    obtain ⟨x, rfl⟩ : ∃ x : Nat, x0 = (x : Int) := ⟨x0.toNat, by omega⟩
    have hx : x < 6 := by omega
    have hp6 : p < 6 := by have := hR3.2.2.1; have e : w3 b 9 = w b 9 := by rw [s3 b (by omega) (by omega), s2 b (by omega) (by omega), s1 b (by omega) (by omega)]
                           omega
    have tx : (x : Int).toNat = x := by omega
    have tp : (p : Int).toNat = p := by omega
    have t1 : (2 * (x : Int) + 1).toNat = 2 * x + 1 := by omega
    have t2 : (3 * (p : Int) + 1).toNat = 3 * p + 1 := by omega
    have t3 : (2 * (x : Int)).toNat = 2 * x := by omega
    have t4 : (3 * (p : Int) + 2).toNat = 3 * p + 2 := by omega
    have t5 : (3 * (p : Int)).toNat = 3 * p := by omega
    rw [tx] at hpos3
    obtain ⟨kw, ki, -, -, -⟩ := hR3.1 x hx
    obtain ⟨-, -, kp, kq, kl⟩ := hR3.1 p hp6
    have r4 := hR3.2.2.2.1
    have r6 := hR3.2.2.2.2.2.1
    have hcs3 := hx_cs_eq hR3
    -- the numbers behind
    generalize hPd : (if w3 (b + 6) p + w3 (b + 1) x < 9999 then w3 (b + 6) p + w3 (b + 1) x else 9999) = PP
    generalize hLd : (if w3 (b + 7) p < so then so else w3 (b + 7) p) = LL
    generalize hDd : (if 0 < (if w3 (b + 5) p - co < 99 then w3 (b + 5) p - co else 99) then (if w3 (b + 5) p - co < 99 then w3 (b + 5) p - co else 99) else 0) = DD
    have hP : 0 ≤ PP ∧ PP ≤ 9999 := by rw [← hPd]; split <;> omega
    have hL : 0 ≤ LL ∧ LL ≤ 999 := by rw [← hLd]; split <;> omega
    have hD : 0 ≤ DD ∧ DD ≤ 99 := by rw [← hDd]; split <;> (split <;> omega)
    have hT6 : 0 ≤ hx_t1 (w3 b 12) ∧ hx_t1 (w3 b 12) ≤ 999 := by unfold hx_t1; split <;> omega
    have FC3 : hx_FC b w w3 := (s1.fc.tr s2.fc).tr s3.fc
    have FM3 : hx_FM v v3 := (z1.fm.tr z2.fm).tr z3.fm
    have KC3 : hx_KC b w w3 := ((s1.kc hb).tr (s2.kc hb)).tr (s3.kc hb)
    have e3 : w3 b = w b := by rw [s3 b (by omega) (by omega), s2 b (by omega) (by omega), s1 b (by omega) (by omega)]
    have hC : ((hg_ag 0 w3 (b + 2) (x : Int)).bind fun v13 => hg_bd (fX0_setInHat b w3 (x : Int) (v13 - 1)) fun w15 _ => (hg_ag 0 w15 (b + 6) (p : Int)).bind fun v18 => (hg_ag 0 w15 (b + 1) (x : Int)).bind fun v20 => (hg_as 0 w15 (b + 6) (p : Int) (hg_mn 9999 (v18 + v20))).bind fun w22 => (hg_ag 0 w22 (b + 7) (p : Int)).bind fun v24 => (hg_as 0 w22 (b + 7) (p : Int) (hg_mx v24 so)).bind fun w26 => (hg_ag 0 w26 (b + 5) (p : Int)).bind fun v28 => (hg_as 0 w26 (b + 5) (p : Int) (hg_mx 0 (hg_mn 99 (v28 - co)))).bind fun w30 => fX0_take_107 b w30 (x : Int)) = some (hx_tkC b w3 p x PP LL DD (hx_t1 (w3 b 12)), (x : Int)) := by
      unfold fX0_setInHat hx_tkC
      clear hR hR1 hR2 hR3 hT hT1 hT2 FC3 FM3 KC3 g1 g2 g3 g4 g5 g6 g7 g8 hcoin hcoinM hsum hcs s1 s2 s3 z1 z2 z3 hpos
      simp (disch := omega) only [ag_r1 hb, ag_r2 hb, ag_r5 hb, ag_r6 hb, ag_r7 hb, as_r2 hb, as_r5 hb, as_r6 hb, as_r7 hb, hp_b, hp_bd, hp_pt, tx, tp, hp_up_c, hp_up_k]
      rw [hx_mn (n := 9999) (by omega) (by omega), hPd, hx_mx (n := w3 (b + 7) p) (by omega) (by omega), hLd, hx_mn (n := 99) (by omega) (by omega)]
      have hq : -100000 ≤ (if w3 (b + 5) p - co < 99 then w3 (b + 5) p - co else 99) ∧ (if w3 (b + 5) p - co < 99 then w3 (b + 5) p - co else 99) < 100000 := by split <;> omega
      rw [hx_mx (n := 0) (by omega) hq, hDd, wr_id (x := PP) (by omega) (by omega), wr_id (x := LL) (by omega) (by omega), wr_id (x := DD) (by omega) (by omega), wr_id (x := w3 (b + 2) x - 1) (by omega) (by omega), wr_id (x := w3 b 10 + (w3 (b + 2) x - 1 - w3 (b + 2) x)) (by omega) (by omega), hx_107 (by simp (disch := omega) only [hp_up_c, hp_up_k]; omega) (by omega)]
      simp (disch := omega) only [hp_up_c, hp_up_k]
      rw [show w3 b 10 + (w3 (b + 2) x - 1 - w3 (b + 2) x) = w3 b 10 - 1 by omega]
    have hM : ((hg_ag 1 v3 4 (2 * (x : Int) + 1)).bind fun v10 => (hg_as 1 v3 4 (2 * (x : Int) + 1) (v10 - 1)).bind fun w12 => (hg_ag 1 w12 3 (3 * (p : Int) + 1)).bind fun v14 => (hg_ag 1 w12 4 (2 * (x : Int))).bind fun v16 => hg_bd (fX5_within w12 (v14 + v16) 0 9999) fun w18 v19 => (hg_as 1 w18 3 (3 * (p : Int) + 1) v19).bind fun w21 => (hg_ag 1 w21 3 (3 * (p : Int) + 2)).bind fun v23 => if wr so ≤ wr v23 then (hg_ag 1 w21 3 (3 * (p : Int) + 2)).bind fun v25 => fX5_takesOne_113 w21 (p : Int) (x : Int) co (3 * (p : Int) + 2) v25 else fX5_takesOne_113 w21 (p : Int) (x : Int) co (3 * (p : Int) + 2) so) = some (hx_tkM v3 p x (w3 (b + 2) x - 1) PP LL DD (hx_t1 (w3 b 12)), (x : Int)) := by
      have e113 : ∀ u : hg_W, u 3 (3 * p) = w3 (b + 5) p → u 0 6 = w3 b 12 → fX5_takesOne_113 u (p : Int) (x : Int) co (3 * (p : Int) + 2) LL = some (hg_up (hg_up (hg_up u 3 (3 * p + 2) LL) 3 (3 * p) DD) 0 6 (hx_t1 (w3 b 12)), (x : Int)) := by
        intro u hu hu6
        unfold fX5_takesOne_113
        clear hR hR1 hR2 hR3 hT hT1 hT2 FC3 FM3 KC3 g1 g2 g3 g4 g5 g6 g7 g8 hcoin hcoinM hsum hcs s1 s2 s3 z1 z2 z3 hpos
        simp (disch := omega) only [as_m3, ag_m3, hp_b, hp_bd, t4, t5, hx_within, hp_up_k, wr_id (x := LL)]
        rw [hu]
        have eD : (if (0 : Int) ≤ wr (w3 (b + 5) p - co) then (if wr (w3 (b + 5) p - co) ≤ 99 then wr (w3 (b + 5) p - co) else 99) else 0) = DD := by
          rw [wr_id (by omega) (by omega), ← hDd]
          by_cases q : w3 (b + 5) p - co < 99
          · rw [if_pos q]
            by_cases q2 : 0 < w3 (b + 5) p - co
            · rw [if_pos q2, if_pos (by omega), if_pos (by omega)]
            · rw [if_neg q2]
              by_cases q3 : 0 ≤ w3 (b + 5) p - co
              · rw [if_pos q3, if_pos (by omega)]; omega
              · rw [if_neg q3]
          · rw [if_neg q, if_pos (show (0 : Int) < 99 by omega), if_pos (show (0 : Int) ≤ w3 (b + 5) p - co by omega)]
            split <;> omega
        rw [eD, wr_id (x := DD) (by omega) (by omega), hx_139 (by simp (disch := omega) only [hp_up_c]; omega) (by omega)]
        simp (disch := omega) only [hp_up_c]
        rw [hu6]
      have eP : (if (0 : Int) ≤ wr (w3 (b + 6) p + w3 (b + 1) x) then (if wr (w3 (b + 6) p + w3 (b + 1) x) ≤ 9999 then wr (w3 (b + 6) p + w3 (b + 1) x) else 9999) else 0) = PP := by
        rw [wr_id (by omega) (by omega), ← hPd, if_pos (by omega)]
        split
        · split <;> omega
        · rw [if_neg (by omega)]
      have e3c := ki.2.2
      have e3w := kw.2.2
      have e3q := kq.2.2
      have e3l := kl.2.2
      have e3p := kp.2.2
      have e3t := r6.2.2
      have core : (if wr so ≤ wr (w3 (b + 7) p) then fX5_takesOne_113 (hg_up (hg_up v3 4 (2 * x + 1) (w3 (b + 2) x - 1)) 3 (3 * p + 1) PP) (p : Int) (x : Int) co (3 * (p : Int) + 2) (w3 (b + 7) p) else fX5_takesOne_113 (hg_up (hg_up v3 4 (2 * x + 1) (w3 (b + 2) x - 1)) 3 (3 * p + 1) PP) (p : Int) (x : Int) co (3 * (p : Int) + 2) so) = some (hx_tkM v3 p x (w3 (b + 2) x - 1) PP LL DD (hx_t1 (w3 b 12)), (x : Int)) := by
        have e9 := e113 (hg_up (hg_up v3 4 (2 * x + 1) (w3 (b + 2) x - 1)) 3 (3 * p + 1) PP) (by rw [hp_up_k (by omega), hp_up_c (by omega)]; exact e3p) (by rw [hp_up_c (by omega), hp_up_c (by omega)]; exact e3t)
        rw [wr_id (x := so) (by omega) (by omega), wr_id (x := w3 (b + 7) p) (by omega) (by omega)]
        unfold hx_tkM
        rw [← e9]
        by_cases q : so ≤ w3 (b + 7) p
        · rw [if_pos q, ← hLd, if_neg (by omega)]
        · rw [if_neg q, ← hLd, if_pos (by omega)]
      rw [← core]
      clear core e113
      clear hR hR1 hR2 hR3 hT hT1 hT2 FC3 FM3 KC3 g1 g2 g3 g4 g5 g6 g7 g8 hcoin hcoinM hsum hcs s1 s2 s3 z1 z2 z3 hpos
      simp (disch := omega) only [ag_m4, ag_m3, as_m4, as_m3, hp_b, hp_bd, t1, t2, t3, t4, hx_within, hp_up_k, hp_up_c, e3c, e3w, e3q, e3l, eP, wr_id (x := PP), wr_id (x := w3 (b + 2) x - 1)]
    rw [hC]
    refine ⟨_, _, (x : Int), rfl, hM, hx_tkR hb hR3 hp6 hx hpos3 hP hL hD hT6, FC3.tr hx_tkFC, FM3.tr hx_tkFM, KC3.tr hx_tkKC, ?_, Or.inr ⟨h0, h6, ?_, ?_⟩⟩
    · unfold hx_tkC; simp (disch := omega) only [hp_up_c, hp_up_k]; rw [e3]
    · rw [← e3, r4]
      have a0 := (hR3.1 0 (by omega)).2.1
      have a1 := (hR3.1 1 (by omega)).2.1
      have a2 := (hR3.1 2 (by omega)).2.1
      have a3 := (hR3.1 3 (by omega)).2.1
      have a4 := (hR3.1 4 (by omega)).2.1
      have a5 := (hR3.1 5 (by omega)).2.1
      rcases (by omega : x = 0 ∨ x = 1 ∨ x = 2 ∨ x = 3 ∨ x = 4 ∨ x = 5) with rfl | rfl | rfl | rfl | rfl | rfl <;> omega
    · unfold hx_tkC; simp (disch := omega) only [hp_up_c, hp_up_k, hp_up_eq]; rw [e3]
/-! ===== goOn and turnOf; by turns ===== -/
theorem hx_wr01 : wr 0 = 0 ∧ wr 1 = 1 ∧ wr (-1) = -1 := ⟨wr_id (by omega) (by omega), wr_id (by omega) (by omega), wr_id (by omega) (by omega)⟩
theorem hx_R.turn {b : Nat} (hb : hg_rd b) {w v : hg_W} (hR : hx_R b w v) {t : Int} (ht : 0 ≤ t ∧ t < 6 ∧ t < w b 9) : hx_R b (hg_up w b 11 t) (hg_up v 0 5 t) := by
  have hb2 := hx_rd19 hb
  obtain ⟨r1, r2, r3, r4, r5, r6, r7⟩ := hR
  refine ⟨fun k hk => ?_, fun k hk => ?_, ?_, ?_, ?_, ?_, ?_⟩
  · simp (disch := omega) only [hp_up_c]; exact r1 k hk
  · simp (disch := omega) only [hp_up_c, hp_up_k] at hk ⊢; exact r2 k hk
  · simp (disch := omega) only [hp_up_k]; exact r3
  · simp (disch := omega) only [hp_up_c, hp_up_k]; exact r4
  · refine ⟨?_, ?_, ?_, ?_⟩ <;> simp (disch := omega) only [hp_up_eq, hp_up_k] <;> omega
  · simp (disch := omega) only [hp_up_k]; exact r6
  · simp (disch := omega) only [hp_up_c, hp_up_k]; exact r7
/-- the next one by numbers -/
def hx_nx (n t : Int) : Int := if t + 1 < n then t + 1 else 0
/-- a TURN of both, somebody there -/
theorem hx_go {b : Nat} (hb : hg_rd b) {w v : hg_W} (hT : hx_T w v) (hR : hx_R b w v) (hn : 0 < w b 9) :
    ∃ (w' v' : hg_W) (r : Int), fX0_goOn b w = some (w', r) ∧ fX5_turnOf v = some (v', r) ∧ hx_R b w' v' ∧ hx_FC b w w' ∧ hx_FM v v' ∧ hx_KC b w w' ∧ ((r = -1 ∧ w b 10 = 0 ∧ w' b 10 = 0) ∨ (0 ≤ r ∧ r < 6 ∧ 0 < w b 10 ∧ w' b 10 = w b 10 - 1)) := by
  have hb2 := hx_rd19 hb
  have r3 := hR.2.2.1
  have r5 := hR.2.2.2.2.1
  obtain ⟨t, ht⟩ : ∃ t : Nat, (t : Int) = w b 11 := ⟨(w b 11).toNat, by omega⟩
  obtain ⟨w1, v1, r, g1, g2, hR1, f1, m1, k1, e11, hr⟩ := hx_take hb hT hR (p := t) (by omega)
  have q5 := hR1.2.2.2.2.1
  have q3 := hR1.2.2.1
  have e9 := k1.1
  have wr11 : wr r = r := wr_id (by omega) (by omega)
  have hnx : 0 ≤ hx_nx (w b 9) (w b 11) ∧ hx_nx (w b 9) (w b 11) < 6 ∧ hx_nx (w b 9) (w b 11) < w1 b 9 := by unfold hx_nx; split <;> omega
  refine ⟨hg_up w1 b 11 (hx_nx (w b 9) (w b 11)), hg_up v1 0 5 (hx_nx (w b 9) (w b 11)), r, ?_, ?_, hR1.turn hb hnx, f1.tr (hx_FC.up (by omega)), m1.tr (hx_FM.up (by omega)), k1.tr ⟨hp_up_k (by omega), hp_up_k (by omega), hg_up_ne _ (by omega), hg_up_ne _ (by omega), hg_up_ne _ (by omega)⟩, ?_⟩
  · unfold fX0_goOn fX0_goOn_42
    rw [if_neg (by rw [wr_id (by omega) (by omega)]; omega), ← ht, g1, hp_bd, e9, e11, wr_id (x := w b 9) (by omega) (by omega), wr_id (x := w b 11 + 1) (by omega) (by omega), wr11]
    unfold hx_nx
    rw [ht]
    by_cases q : w b 9 ≤ w b 11 + 1
    · rw [if_pos q, if_neg (by omega), hp_pt, hp_b, hx_wr01.1]
    · rw [if_neg q, if_pos (by omega), hp_pt, hp_b, wr_id (by omega) (by omega)]
  · unfold fX5_turnOf fX5_turnOf_33
    rw [r5.2.2.2, ← ht, g2, hp_bd, q5.2.2.2, q3.2.2, e9, e11, wr_id (x := w b 9) (by omega) (by omega), wr_id (x := w b 11 + 1) (by omega) (by omega), wr11]
    unfold hx_nx
    rw [ht]
    by_cases q : w b 11 + 1 = w b 9
    · rw [if_pos q, if_neg (by omega), hp_pt, hp_b, hx_wr01.1]
    · rw [if_neg q, if_pos (by omega), hp_pt, hp_b, wr_id (by omega) (by omega)]
  · rw [hp_up_k (by omega)]; exact hr
theorem hx_over {b : Nat} {w v : hg_W} (hR : hx_R b w v) : fX5_isOver v = some (v, if w b 9 = 0 ∨ w b 10 = 0 then 1 else 0) := by
  have r3 := hR.2.2.1
  have hcs := hx_cs_eq hR
  unfold fX5_isOver fX5_isOver_14
  rw [hx_wr01.1, hx_wr01.2.1, r3.2.2, wr_id (x := w b 9) (by omega) (by omega)]
  simp only [or_true, true_or, if_true, Int.reduceEq]
  by_cases q : w b 9 = 0
  · rw [if_pos q, if_pos (Or.inl q)]
  · rw [if_neg q, hx_coins, hp_bd, hcs.1, wr_wr, wr_id (x := w b 10) (by omega) (by omega)]
    by_cases q2 : w b 10 = 0
    · rw [if_pos q2, if_pos (Or.inr q2)]
    · rw [if_neg q2, if_neg (by rintro (h | h) <;> contradiction)]
/-- n TURNS at most, none from when the hat is empty: of both as many, or as many as there are coins -/
theorem hx_goes {b : Nat} (hb : hg_rd b) : ∀ (m n1 n2 : Nat) (w v : hg_W) (a c : Int) (l i : Int), hx_T w v → hx_R b w v → m < n1 → m < n2 → 0 ≤ i → i ≤ 2000 → a ≤ 2000 → c ≤ 2000 → 0 ≤ a → 0 ≤ c → ((a = c ∧ a - i ≤ m) ∨ (w b 10 ≤ a - i ∧ w b 10 ≤ c - i ∧ w b 10 ≤ m)) → (l = -1 ∨ 0 ≤ l ∧ l < w b 9) →
    ∃ (w' v' : hg_W) (r : Int), fX0_goWhileCoins_4 b n1 w a l i = some (w', r) ∧ fX5_goes_4 n2 v c l i = some (v', r) ∧ hx_R b w' v' ∧ hx_FC b w w' ∧ hx_FM v v' ∧ hx_KC b w w' ∧ (r = -1 ∨ 0 ≤ r ∧ r < w b 9) ∧ (w b 10 ≤ a - i → w' b 10 = 0 ∨ w b 9 = 0) := by
  intro m
  induction m with
  | zero =>
    intro n1 n2 w v a c l i hT hR h1 h2 h3 h4 h5 h6 h7 h8 h9 hl
    obtain ⟨n1, rfl⟩ : ∃ z, n1 = z + 1 := ⟨n1 - 1, by omega⟩
    obtain ⟨n2, rfl⟩ : ∃ z, n2 = z + 1 := ⟨n2 - 1, by omega⟩
    have r3 := hR.2.2.1
    have hcs := hx_cs_eq hR
    refine ⟨w, v, l, ?_, ?_, hR, hx_FC.rf, hx_FM.rf, hx_KC.rf, hl, by omega⟩
    · simp only [fX0_goWhileCoins_4]
      rw [wr_id (x := a) (by omega) (by omega), wr_id (x := i) (by omega) (by omega), wr_id (x := w b 9) (by omega) (by omega), wr_id (x := w b 10) (by omega) (by omega), wr_id (x := l) (by omega) (by omega)]
      split
      · rfl
      · split
        · rfl
        · rw [if_pos (by omega)]
    · simp only [fX5_goes_4]
      rw [hx_over hR, hp_bd, wr_id (x := c) (by omega) (by omega), wr_id (x := i) (by omega) (by omega), wr_id (x := l) (by omega) (by omega)]
      split
      · rfl
      · rw [if_pos (by omega : w b 9 = 0 ∨ w b 10 = 0), hx_wr01.2.1, if_neg (by omega)]
  | succ m ih =>
    intro n1 n2 w v a c l i hT hR h1 h2 h3 h4 h5 h6 h7 h8 h9 hl
    obtain ⟨n1, rfl⟩ : ∃ z, n1 = z + 1 := ⟨n1 - 1, by omega⟩
    obtain ⟨n2, rfl⟩ : ∃ z, n2 = z + 1 := ⟨n2 - 1, by omega⟩
    have r3 := hR.2.2.1
    have r5 := hR.2.2.2.2.1
    have hcs := hx_cs_eq hR
    have wa : wr a = a := wr_id (by omega) (by omega)
    have wc : wr c = c := wr_id (by omega) (by omega)
    have wi : wr i = i := wr_id (by omega) (by omega)
    have w9 : wr (w b 9) = w b 9 := wr_id (by omega) (by omega)
    have w10 : wr (w b 10) = w b 10 := wr_id (by omega) (by omega)
    have wl0 : wr l = l := wr_id (by omega) (by omega)
    by_cases hz : w b 9 = 0 ∨ w b 10 = 0
    · refine ⟨w, v, l, ?_, ?_, hR, hx_FC.rf, hx_FM.rf, hx_KC.rf, hl, by omega⟩
      · simp only [fX0_goWhileCoins_4]
        rw [wa, wi, w9, w10, wl0]
        split
        · rfl
        · split
          · rfl
          · rw [if_pos (by omega)]
      · simp only [fX5_goes_4]
        rw [hx_over hR, hp_bd, wc, wi, wl0, if_pos hz, hx_wr01.2.1]
        by_cases q : c ≤ i
        · rw [if_pos q]
        · rw [if_neg q, if_neg (by omega)]
    · by_cases hi : a ≤ i
      · refine ⟨w, v, l, ?_, ?_, hR, hx_FC.rf, hx_FM.rf, hx_KC.rf, hl, by omega⟩
        · simp only [fX0_goWhileCoins_4]
          rw [wa, wi, wl0, if_pos hi]
        · simp only [fX5_goes_4]
          rw [wc, wi, wl0, if_pos (by omega)]
      · obtain ⟨w1, v1, r1, g1, g2, hR1, f1, m1, k1, hr⟩ := hx_go hb hT hR (by omega)
        have hcs1 := hx_cs_eq hR1
        obtain ⟨w', v', r, g3, g4, hR2, f2, m2, k2, hr2, hr3⟩ := ih n1 n2 w1 v1 a c (w b 11) (i + 1) (hT.fr hb f1 m1) hR1 (by omega) (by omega) (by omega) (by omega) h5 h6 h7 h8 (by omega) (by rw [k1.1]; omega)
        refine ⟨w', v', r, ?_, ?_, hR2, f1.tr f2, m1.tr m2, k1.tr k2, by rw [k1.1] at hr2; exact hr2, by rw [k1.1] at hr3; omega⟩
        · simp only [fX0_goWhileCoins_4]
          rw [wa, wi, w9, w10, if_neg hi, if_neg (by omega), if_neg (by omega), g1, hp_bd]
          exact g3
        · simp only [fX5_goes_4]
          rw [wc, wi, if_neg (by omega), hx_over hR, hp_bd, if_neg hz, hx_wr01.1, if_pos rfl, g2, hp_bd, r5.2.2.2]
          exact g4
