/-! ===== the two objects alike; calls ===== -/
def hx_c (a : Int) : Prop := -2147483648 ≤ a ∧ a < 2147483648
def hx_jd (k : Nat) : Nat := if k < 3 then 9 + k else k - 3
/-- the words that the reference knows, each in eight places -/
def hx_wd (j : Nat) : Int := if j % 8 < hg_sle.getD (hx_jd (j / 8)) 0 then ((hg_sby.getD (hx_jd (j / 8)) []).getD (j % 8) 0).toInt else 32
def hx_Tp (w v : hg_W) : Prop := (0 ≤ w 17 1 ∧ w 17 1 ≤ 160 ∧ v 0 8 = w 17 1) ∧ (∀ k : Nat, (k : Int) < w 17 1 → (0 ≤ w 18 k ∧ w 18 k ≤ 255 ∧ v 5 k = w 18 k)) ∧ ∀ j : Nat, j < 96 → v 14 j = hx_wd j
def hx_iv (v : hg_W) : hg_W := fun c k => if c = 3 then v 8 k else if c = 4 then v 8 (18 + k) else if c = 0 then (if k = 0 then v 9 0 else if k = 5 then v 9 1 else if k = 6 then v 9 2 else if k = 12 then v 9 3 else 0) else v c k
def hx_Im (w v : hg_W) : Prop := (w 0 5 = 0 ∨ w 0 5 = 1) ∧ v 0 13 = w 0 5 ∧ (w 0 5 = 1 → hx_R 37 w (hx_iv v) ∧ w 37 9 ≤ w 19 9)
def hx_Sh (w v : hg_W) : Prop := ∀ s, s < 4 → (-1 ≤ w 47 s ∧ w 47 s ≤ 2 ∧ v 10 s = w 47 s) ∧ (0 ≤ w 48 s ∧ w 48 s ≤ 40 ∧ v 11 s = w 48 s) ∧ ∀ i, i < 40 → (hx_c (w (50 + s) i) ∧ v 12 (40 * s + i) = w (50 + s) i)
def hx_A (w v : hg_W) : Prop := hx_T w v ∧ hx_R 19 w v ∧ hx_Tp w v ∧ hx_Im w v ∧ hx_Sh w v
theorem hx_r19 : hg_rd 19 := Or.inl rfl
theorem hx_r28 : hg_rd 28 := Or.inr (Or.inl rfl)
theorem hx_r37 : hg_rd 37 := Or.inr (Or.inr rfl)
theorem hx_A.pres {w v w' v' : hg_W} (h : hx_A w v) (hR : hx_R 19 w' v') (hw : ∀ c, (c < 16 ∨ c = 17 ∨ c = 18 ∨ 37 ≤ c ∧ c ≤ 53) → w' c = w c) (h9 : w' 19 9 = w 19 9) (hv : ∀ c, (1 ≤ c ∧ c ≤ 2 ∨ 5 ≤ c ∧ c ≤ 12 ∨ c = 14) → v' c = v c) (h8 : v' 0 8 = v 0 8) (h11 : v' 0 11 = v 0 11) (h13 : v' 0 13 = v 0 13) : hx_A w' v' := by
  obtain ⟨hT, -, hTp, hIm, hSh⟩ := h
  refine ⟨hT.of (fun c h1 h2 => hw c (Or.inl h2)) h11 (hv 6 (by omega)) (hv 7 (by omega)), hR, ?_, ?_, ?_⟩
  · unfold hx_Tp at hTp ⊢
    rw [hw 17 (by omega), hw 18 (by omega), hv 5 (by omega), hv 14 (by omega), h8]
    exact hTp
  · unfold hx_Im at hIm ⊢
    rw [hw 0 (by omega), h13, h9, hw 37 (by omega)]
    refine ⟨hIm.1, hIm.2.1, fun h1 => ⟨?_, (hIm.2.2 h1).2⟩⟩
    refine (hIm.2.2 h1).1.of (hw _ (by omega)) (hw _ (by omega)) (hw _ (by omega)) (hw _ (by omega)) (hw _ (by omega)) (hw _ (by omega)) (hw _ (by omega)) (hw _ (by omega)) (by rw [hw 1 (by omega)]) ?_ ?_ ?_ ?_ ?_
    · funext k; unfold hx_iv; rw [hv 9 (by omega)]; rfl
    · funext k; unfold hx_iv; simp only [Nat.reduceEqDiff, if_false]; rw [hv 1 (by omega)]
    · funext k; unfold hx_iv; simp only [Nat.reduceEqDiff, if_false]; rw [hv 2 (by omega)]
    · funext k; unfold hx_iv; rw [hv 8 (by omega)]; rfl
    · funext k; unfold hx_iv; rw [hv 8 (by omega)]; rfl
  · intro s hs
    rw [hw 47 (by omega), hw 48 (by omega), hw (50 + s) (by omega), hv 10 (by omega), hv 11 (by omega), hv 12 (by omega)]
    exact hSh s hs
theorem hx_A.sm {w v w' v' : hg_W} (h : hx_A w v) (hw : hx_sC 19 w w') (hv : hx_sM v v') : hx_A w' v' :=
  h.pres (h.2.1.sm hx_r19 hw hv) (fun c hc => hw c (by omega) (by omega)) (by rw [hw 19 (by omega) (by omega)]) (fun c hc => hv c (by omega) (by omega)) (by rw [hv 0 (by omega) (by omega)]) (by rw [hv 0 (by omega) (by omega)]) (by rw [hv 0 (by omega) (by omega)])
theorem hx_A.go {w v w' v' : hg_W} (h : hx_A w v) (hR : hx_R 19 w' v') (hw : hx_FC 19 w w') (h9 : w' 19 9 = w 19 9) (hv : hx_FM v v') : hx_A w' v' :=
  h.pres hR (fun c hc => hw c (by omega) (by omega)) h9 (fun c hc => hv.1 c (by omega) (by omega) (by omega) (by omega) (by omega)) (hv.2 8 (by omega) (by omega)) (hv.2 11 (by omega) (by omega)) (hv.2 13 (by omega) (by omega))
/-- what was thought changes nothing -/
theorem hx_A.th {w v w' v' : hg_W} (h : hx_A w v) (hw : hx_FC 28 w w') (hv : hx_V v v') : hx_A w' v' := by
  have hc : ∀ c, c ≠ 16 → (c < 28 ∨ 36 < c) → w' c = w c := fun c h1 h2 => hw c h1 (by omega)
  have e : v' 0 = v 0 := hv.1 0 (by omega) (by omega) (by omega) (by omega) (by omega)
  refine h.pres ?_ (fun c h1 => hc c (by omega) (by omega)) (by rw [hc 19 (by omega) (by omega)]) (fun c h1 => hv.1 c (by omega) (by omega) (by omega) (by omega) (by omega)) (by rw [e]) (by rw [e]) (by rw [e])
  exact (hv.R h.2.1).of (hc _ (by omega) (by omega)) (hc _ (by omega) (by omega)) (hc _ (by omega) (by omega)) (hc _ (by omega) (by omega)) (hc _ (by omega) (by omega)) (hc _ (by omega) (by omega)) (hc _ (by omega) (by omega)) (hc _ (by omega) (by omega)) (by rw [hc 1 (by omega) (by omega)]) rfl rfl rfl rfl rfl
/-! yes and no -/
theorem hx_bif {α : Type} {P : Prop} [Decidable P] {X Y : α} : (if wr (if P then (1 : Int) else 0) = 0 then X else Y) = if P then Y else X := by
  by_cases q : P
  · rw [if_pos q, if_pos q, hx_wr01.2.1, if_neg (by omega)]
  · rw [if_neg q, if_neg q, hx_wr01.1, if_pos rfl]
theorem hx_b01 {P : Prop} [Decidable P] : (wr (if P then (1 : Int) else 0) = 0 ∨ wr (if P then (1 : Int) else 0) = 1) ∧ wr (if P then (1 : Int) else 0) = if P then (1 : Int) else 0 := by
  by_cases q : P
  · rw [if_pos q, hx_wr01.2.1]; exact ⟨Or.inr rfl, rfl⟩
  · rw [if_neg q, hx_wr01.1]; exact ⟨Or.inl rfl, rfl⟩
theorem hx_in {v : hg_W} {x lo hi : Int} (hx : hx_c x) (hl : hx_c lo) (hh : hx_c hi) : fX5_in v x lo hi = some (v, if lo ≤ x ∧ x ≤ hi then 1 else 0) := by
  unfold hx_c at hx hl hh
  unfold fX5_in
  rw [wr_id hx.1 hx.2, wr_id hl.1 hl.2, wr_id hh.1 hh.2, hx_wr01.1, hx_wr01.2.1]
  simp only [true_or, or_true, if_true, Int.reduceEq]
  by_cases q1 : x < lo
  · rw [if_pos q1, if_neg (by omega)]
  · rw [if_neg q1]
    by_cases q2 : hi < x
    · rw [if_pos q2, if_neg (by omega)]
    · rw [if_neg q2, if_pos (by omega)]
theorem hx_isOne {b : Nat} {w v : hg_W} {x : Int} (hR : hx_R b w v) (hx : hx_c x) : fX5_isOne v x = some (v, if 0 ≤ x ∧ x < w b 9 then 1 else 0) := by
  have r3 := hR.2.2.1
  unfold fX5_isOne
  rw [hx_in hx (by unfold hx_c; omega) (by unfold hx_c; omega), hp_bd, if_pos hx_b01.1, hx_b01.2, r3.2.2]
  congr 2
  by_cases q : 0 ≤ x ∧ x < w b 9
  · rw [if_pos q, if_pos (by omega)]
  · rw [if_neg q, if_neg (by omega)]
theorem hx_isCoin {v : hg_W} {x : Int} (hx : hx_c x) : fX5_isCoin v x = some (v, if 0 ≤ x ∧ x < 6 then 1 else 0) := by
  unfold fX5_isCoin
  rw [hx_in hx (by unfold hx_c; omega) (by unfold hx_c; omega), hp_bd, if_pos hx_b01.1, hx_b01.2]
  congr 2
  by_cases q : 0 ≤ x ∧ x < 6
  · rw [if_pos q, if_pos (by omega)]
  · rw [if_neg q, if_neg (by omega)]
theorem hx_isThere {w : hg_W} {x : Int} (hx : hx_c x) (hp : 0 ≤ w 19 9 ∧ w 19 9 ≤ 6) : fX4_isThere w x = some (w, if 0 ≤ x ∧ x < w 19 9 then 1 else 0) := by
  unfold hx_c at hx
  unfold fX4_isThere
  rw [wr_id hx.1 hx.2, wr_id (x := w 19 9) (by omega) (by omega), hx_wr01.1, hx_wr01.2.1]
  simp only [true_or, or_true, if_true, Int.reduceEq]
  by_cases q1 : x < 0
  · rw [if_pos q1, if_neg (by omega)]
  · rw [if_neg q1]
    by_cases q2 : w 19 9 ≤ x
    · rw [if_pos q2, if_neg (by omega)]
    · rw [if_neg q2, if_pos (by omega)]
theorem hx_isSort {w : hg_W} {x : Int} (hx : hx_c x) : fX4_isSort w x = some (w, if 0 ≤ x ∧ x < 6 then 1 else 0) := by
  unfold hx_c at hx
  unfold fX4_isSort
  rw [wr_id hx.1 hx.2, wr_id (x := 6) (by omega) (by omega), hx_wr01.1, hx_wr01.2.1]
  simp only [true_or, or_true, if_true, Int.reduceEq]
  by_cases q1 : x < 0
  · rw [if_pos q1, if_neg (by omega)]
  · rw [if_neg q1]
    by_cases q2 : 6 ≤ x
    · rw [if_pos q2, if_neg (by omega)]
    · rw [if_neg q2, if_pos (by omega)]
def hx_ret (X Y : Option (hg_W × Int)) : Prop := ∃ (w' v' : hg_W) (r : Int), X = some (w', r) ∧ Y = some (v', r) ∧ hx_A w' v'
theorem hx_ret.c {w v : hg_W} {r : Int} (h : hx_A w v) : hx_ret (some (w, r)) (some (v, r)) := ⟨w, v, r, rfl, rfl, h⟩
theorem hc_count {w v : hg_W} (h : hx_A w v) (a : Int) : hx_ret (fX4_count w a) (fX5_count v a) := by
  obtain ⟨hT, hR, hTp, hIm, hSh⟩ := id h
  have hcs := hx_cs_eq hR
  have e1 := hR.2.2.1.2.2
  have e2 := hR.2.2.2.2.2.1.2.2
  have e3 := hT.1.2.2
  have e4 := hR.2.2.2.2.2.2.2.2
  have e5 := hTp.1.2.2
  have e6 := hR.2.2.2.2.1.2.2.2
  unfold fX4_count fX5_count
  rw [hx_coins, hp_bd, hcs.1, wr_wr, e1, e2, e3, e4, e5, e6]
  split
  · exact hx_ret.c h
  · split
    · exact hx_ret.c h
    · split
      · exact hx_ret.c h
      · split
        · exact hx_ret.c h
        · split
          · exact hx_ret.c h
          · split
            · exact hx_ret.c h
            · split
              · exact hx_ret.c h
              · exact hx_ret.c h
theorem hc_force {w v : hg_W} (h : hx_A w v) {a : Int} (ha : hx_c a) : hx_ret (fX4_force w a) (fX5_force v a) := by
  obtain ⟨hT, hR, hTp, hIm, hSh⟩ := id h
  have e3 := hT.1
  have e4 := hR.2.2.2.2.2.2
  unfold fX4_force fX5_force
  rw [hx_in ha (by unfold hx_c; omega) (by unfold hx_c; omega), hp_bd, hx_bif, wr_id ha.1 ha.2, wr_id (x := w 1 3) (by omega) (by omega), e3.2.2, e4.2.2]
  by_cases q1 : a < 0
  · rw [if_pos q1, if_neg (by omega)]
    exact hx_ret.c h
  · rw [if_neg q1]
    by_cases q2 : a < w 1 3
    · rw [if_pos q2, if_pos (by omega), hp_pt, hp_b, hp_pt, hp_b, wr_id ha.1 ha.2]
      refine ⟨_, _, _, rfl, rfl, ?_⟩
      obtain ⟨r1, r2, r3, r4, r5, r6, r7⟩ := hR
      refine h.pres ⟨fun k hk => ?_, fun k hk => ?_, ?_, ?_, ?_, ?_, ?_⟩ (fun c hc => hg_up_ne c (by omega)) (hp_up_k (by omega)) (fun c hc => hg_up_ne c (by omega)) (hp_up_k (by omega)) (hp_up_k (by omega)) (hp_up_k (by omega))
      · simp (disch := omega) only [hp_up_c]; exact r1 k hk
      · simp (disch := omega) only [hp_up_c, hp_up_k] at hk ⊢; exact r2 k hk
      · simp (disch := omega) only [hp_up_k]; exact r3
      · simp (disch := omega) only [hp_up_c, hp_up_k]; exact r4
      · simp (disch := omega) only [hp_up_k]; exact r5
      · simp (disch := omega) only [hp_up_k]; exact r6
      · refine ⟨?_, ?_, ?_⟩ <;> simp (disch := omega) only [hp_up_eq, hp_up_c] <;> omega
    · rw [if_neg q2, if_neg (by omega)]
      exact hx_ret.c h
theorem hc_hand {w v : hg_W} (h : hx_A w v) {a : Int} (ha : hx_c a) : hx_ret (fX4_hand w a) (fX5_hand v a) := by
  obtain ⟨hT, hR, hTp, hIm, hSh⟩ := id h
  have r3 := hR.2.2.1
  have r5 := hR.2.2.2.2.1
  unfold fX4_hand fX5_hand
  rw [hx_isThere ha ⟨r3.1, r3.2.1⟩, hp_bd, hx_bif, hx_isOne hR ha, hp_bd, hx_bif, r5.2.2.2]
  by_cases q : 0 ≤ a ∧ a < w 19 9
  · rw [if_pos q, if_pos q, hp_pt, hp_b, hp_pt, hp_b, wr_id ha.1 ha.2]
    exact ⟨_, _, _, rfl, rfl, h.go (hR.turn hx_r19 (by omega)) (hx_FC.up (by omega)) (hp_up_k (by omega)) (hx_FM.up (by omega))⟩
  · rw [if_neg q, if_neg q]
    exact hx_ret.c h
theorem hc_pass {w v : hg_W} (h : hx_A w v) : hx_ret (fX4_pass w) (fX5_pass v) := by
  obtain ⟨hT, hR, hTp, hIm, hSh⟩ := id h
  have r3 := hR.2.2.1
  have hcs := hx_cs_eq hR
  unfold fX4_pass fX5_pass
  rw [hx_over hR, hp_bd, hx_bif, wr_id (x := w 19 9) (by omega) (by omega), wr_id (x := w 19 10) (by omega) (by omega)]
  by_cases q1 : w 19 9 = 0
  · rw [if_pos q1, if_pos (Or.inl q1)]
    exact hx_ret.c h
  · rw [if_neg q1]
    by_cases q2 : w 19 10 = 0
    · rw [if_pos q2, if_pos (Or.inr q2)]
      exact hx_ret.c h
    · rw [if_neg q2, if_neg (by rintro (q | q) <;> contradiction)]
      obtain ⟨w1, v1, r1, g1, g2, hR1, f1, m1, k1, hr⟩ := hx_go hx_r19 hT hR (by omega)
      rw [g1, g2, hp_bd, hp_bd]
      exact ⟨_, _, _, rfl, rfl, h.go hR1 f1 k1.1 m1⟩
theorem hc_asks {w v : hg_W} (h : hx_A w v) {a b x : Int} (ha : hx_c a) (hb : hx_c b) (hx : hx_c x) : hx_ret (fX4_asks w a b x) (fX5_asks v a b x) := by
  obtain ⟨hT, hR, hTp, hIm, hSh⟩ := id h
  have r3 := hR.2.2.1
  unfold fX4_asks fX5_asks
  rw [hx_in ha (by unfold hx_c; omega) (by unfold hx_c; omega), hp_bd, hx_bif, hx_isOne hR hb, hp_bd, hx_bif, hx_in hx (by unfold hx_c; omega) (by unfold hx_c; omega), hp_bd, hx_bif, hx_isThere hb ⟨r3.1, r3.2.1⟩, hp_bd, hx_bif, hx_isSort hx, hp_bd, hx_bif, wr_id ha.1 ha.2, wr_id hx.1 hx.2, wr_id (x := 3) (by omega) (by omega), wr_id (x := -1) (by omega) (by omega)]
  by_cases q1 : a < 0
  · rw [if_pos q1, if_neg (by omega)]
    exact hx_ret.c h
  · rw [if_neg q1]
    by_cases q2 : 3 ≤ a
    · rw [if_pos q2, if_neg (by omega)]
      exact hx_ret.c h
    · rw [if_neg q2, if_pos (show 0 ≤ a ∧ a ≤ 2 by omega)]
      by_cases q3 : 0 ≤ b ∧ b < w 19 9
      · rw [if_pos q3, if_pos q3]
        by_cases q4 : x = -1 ∨ 0 ≤ x ∧ x < 6
        · obtain ⟨w', v', r, g1, g2, -, -, g3, g4⟩ := hx_says hx_r19 hT hR (part := a.toNat) (p := b.toNat) (x := x) (by omega) q4 (by omega)
          rw [show ((a.toNat : Nat) : Int) = a by omega, show ((b.toNat : Nat) : Int) = b by omega] at g1 g2
          rw [if_pos (by omega : -1 ≤ x ∧ x ≤ 5), g2, hp_bd]
          unfold fX4_asks_33
          rw [g1, hp_bd]
          refine ⟨w', v', wr r, ?_, rfl, h.sm g3 g4⟩
          by_cases q5 : x = -1
          · rw [if_pos q5]
          · rw [if_neg q5, if_pos (by omega)]
        · rw [if_neg (by omega : ¬ x = -1), if_neg (by omega : ¬ (0 ≤ x ∧ x < 6)), if_neg (by omega)]
          exact hx_ret.c h
      · rw [if_neg q3, if_neg q3]
        exact hx_ret.c h
theorem hc_coin {w v : hg_W} (h : hx_A w v) {a b x : Int} (ha : hx_c a) (hb : hx_c b) (hx : hx_c x) : hx_ret (fX4_coin w a b x) (fX5_coin v a b x) := by
  obtain ⟨hT, hR, hTp, hIm, hSh⟩ := id h
  have r3 := hR.2.2.1
  unfold fX4_coin fX5_coin
  rw [hx_isOne hR ha, hp_bd, hx_bif, hx_isCoin hb, hp_bd, hx_bif, hx_isThere ha ⟨r3.1, r3.2.1⟩, hp_bd, hx_bif, hx_isSort hb, hp_bd, hx_bif, wr_id hx.1 hx.2, wr_id (x := 1) (by omega) (by omega)]
  by_cases q1 : 0 ≤ a ∧ a < w 19 9
  · rw [if_pos q1, if_pos q1]
    by_cases q2 : 0 ≤ b ∧ b < 6
    · rw [if_pos q2, if_pos q2]
      by_cases q3 : x = 0
      · obtain ⟨w', v', r, g1, g2, -, -, g3, g4⟩ := hx_sounds hx_r19 hT hR (p := a.toNat) (x := b) (by omega) q2
        rw [show ((a.toNat : Nat) : Int) = a by omega] at g1 g2
        rw [if_neg (by omega), if_pos (by omega), if_pos q3, if_pos q3, g1, g2, hp_bd, hp_bd]
        exact ⟨_, _, _, rfl, rfl, h.sm g3 g4⟩
      · by_cases q4 : x = 1
        · obtain ⟨w', v', r, g1, g2, -, -, g3, g4⟩ := hx_costs hx_r19 hT hR (p := a.toNat) (x := b) (by omega) q2
          rw [show ((a.toNat : Nat) : Int) = a by omega] at g1 g2
          rw [if_neg (by omega), if_pos (by omega), if_neg q3, if_neg q3, if_pos q4, g1, g2, hp_bd, hp_bd]
          exact ⟨_, _, _, rfl, rfl, h.sm g3 g4⟩
        · rw [if_neg q3, if_neg q4, if_neg q3]
          by_cases q5 : x < 0
          · rw [if_pos q5]; exact hx_ret.c h
          · rw [if_neg q5, if_neg (by omega)]; exact hx_ret.c h
    · rw [if_neg q2, if_neg q2]
      exact hx_ret.c h
  · rw [if_neg q1, if_neg q1]
    exact hx_ret.c h
theorem hc_told {w v : hg_W} (h : hx_A w v) {a x : Int} (ha : hx_c a) (hx : hx_c x) : hx_ret (fX4_told w a x) (fX5_told v a x) := by
  obtain ⟨hT, hR, hTp, hIm, hSh⟩ := id h
  have r3 := hR.2.2.1
  unfold fX4_told fX5_told fX5_told_56
  rw [hx_isOne hR ha, hp_bd, hx_bif, hx_isThere ha ⟨r3.1, r3.2.1⟩, hp_bd, hx_bif, wr_id hx.1 hx.2]
  by_cases q1 : 0 ≤ a ∧ a < w 19 9
  · rw [if_pos q1, if_pos q1]
    obtain ⟨p, rfl⟩ : ∃ p : Nat, a = (p : Int) := ⟨a.toNat, by omega⟩
    have tp : (p : Int).toNat = p := by omega
    obtain ⟨-, -, kp, kq, kl⟩ := hR.1 p (by omega)
    obtain ⟨kk, km⟩ := hR.2.1 p (by omega)
    obtain ⟨w1, v1, tk, g1, g2, s1, z1⟩ := hx_takes hx_r19 hT hR (p := p) (by omega)
    by_cases q : x = 0
    · subst q
      simp (disch := omega) only [if_true, ag_r5 hx_r19 (b := 19), ag_m3, hp_b]
      rw [tp, show (3 * (p : Int) + 0).toNat = 3 * p by omega, kp.2.2]
      exact hx_ret.c h
    · rw [if_neg q, if_neg q]
      by_cases q : x = 1
      · subst q
        rw [if_pos rfl, if_pos rfl, show (25 : Nat) = 19 + 6 from rfl, ag_r6 hx_r19 (by omega) (by omega), hp_b, ag_m3 (by omega) (by omega), hp_b, tp, show (3 * (p : Int) + 1).toNat = 3 * p + 1 by omega, kq.2.2]
        exact hx_ret.c h
      · rw [if_neg q, if_neg q]
        by_cases q : x = 2
        · subst q
          rw [if_pos rfl, if_pos rfl, show (26 : Nat) = 19 + 7 from rfl, ag_r7 hx_r19 (by omega) (by omega), hp_b, ag_m3 (by omega) (by omega), hp_b, tp, show (3 * (p : Int) + 2).toNat = 3 * p + 2 by omega, kl.2.2]
          exact hx_ret.c h
        · rw [if_neg q, if_neg q]
          by_cases q : x = 3
          · rw [if_pos q, if_pos q, show (22 : Nat) = 19 + 3 from rfl, ag_r3 hx_r19 (by omega) (by omega), hp_b, ag_m1 (by omega) (by omega), hp_b, tp, kk.2.2]
            exact hx_ret.c h
          · rw [if_neg q, if_neg q]
            by_cases q : x = 4
            · rw [if_pos q, if_pos q, show (23 : Nat) = 19 + 4 from rfl, ag_r4 hx_r19 (by omega) (by omega), hp_b, ag_m2 (by omega) (by omega), hp_b, tp, km.2.2]
              exact hx_ret.c h
            · rw [if_neg q, if_neg q]
              by_cases q : x = 5
              · rw [if_pos q, if_pos q, g1, g2, hp_bd, hp_bd]
                exact ⟨_, _, _, rfl, rfl, h.sm s1 z1⟩
              · rw [if_neg q, if_neg q]
                by_cases q : x = 6
                · rw [if_pos q, if_pos q, g1, hp_bd]
                  have hR1 := hR.sm hx_r19 s1 z1
                  obtain ⟨x0, g3, g4, hx0⟩ := hx_coinL hx_r19 (w := w1) (v := v1) (tk := tk) (fun k hk => ⟨(hR1.1 k hk).1, (hR1.1 k hk).2.1⟩) 6 hg_F hg_F 0 (-1) (-1) 0 0 (by unfold hg_F; omega) (by unfold hg_F; omega) rfl (Or.inl rfl) (Or.inl ⟨rfl, fun j hj => absurd hj (by omega)⟩) (fun _ => rfl)
                  have hcoin : fX0_coinUpTo 19 w1 tk = some (w1, x0) := g3
                  have hcoinM : fX5_theCoin v (p : Int) = some (v1, x0) := by
                    unfold fX5_theCoin
                    rw [g2, hp_bd]
                    exact g4
                  rw [hcoin, hcoinM, hp_bd, hp_bd]
                  exact ⟨_, _, _, rfl, rfl, h.sm s1 z1⟩
                · rw [if_neg q, if_neg q]
                  exact hx_ret.c h
  · rw [if_neg q1, if_neg q1]
    exact hx_ret.c h
