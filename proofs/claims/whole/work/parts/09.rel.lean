/-! ===== the two worlds alike ===== -/
/-- the TEXTS: the same codes, each in its own writing -/
def hx_T (w v : hg_W) : Prop := (1 ≤ w 1 3 ∧ w 1 3 ≤ 6 ∧ v 0 11 = w 1 3) ∧ ∀ t part : Nat, (t : Int) < w 1 3 → part < 3 → ∃ i m k : Nat, (part = 0 → i = 0) ∧ (part ≠ 0 → w (10 + t) (part - 1) = (i : Int)) ∧ w (10 + t) part = ((i + m : Nat) : Int) ∧ i + m ≤ 160 ∧ v 7 (4 * t + part) = (k : Int) ∧ v 7 (4 * t + part + 1) = ((k + m : Nat) : Int) ∧ k + m ≤ 200 ∧ (∀ j, j < m → v 6 (200 * t + (k + j)) = hs_enc (w (3 + t) (i + j))) ∧ hs_dk (w (3 + t)) i m 0
/-- a round of the class's at b, and the reference's own: hat, people, turn -/
def hx_R (b : Nat) (w v : hg_W) : Prop :=
  (∀ k, k < 6 → (0 ≤ w (b + 1) k ∧ w (b + 1) k ≤ 99 ∧ v 4 (2 * k) = w (b + 1) k) ∧ (0 ≤ w (b + 2) k ∧ w (b + 2) k ≤ 20 ∧ v 4 (2 * k + 1) = w (b + 2) k) ∧ (0 ≤ w (b + 5) k ∧ w (b + 5) k ≤ 99 ∧ v 3 (3 * k) = w (b + 5) k) ∧ (0 ≤ w (b + 6) k ∧ w (b + 6) k ≤ 9999 ∧ v 3 (3 * k + 1) = w (b + 6) k) ∧ (0 ≤ w (b + 7) k ∧ w (b + 7) k ≤ 999 ∧ v 3 (3 * k + 2) = w (b + 7) k)) ∧
  (∀ k : Nat, (k : Int) < w b 9 → (0 ≤ w (b + 3) k ∧ w (b + 3) k ≤ 5 ∧ v 1 k = w (b + 3) k) ∧ (0 ≤ w (b + 4) k ∧ w (b + 4) k ≤ 9 ∧ v 2 k = w (b + 4) k)) ∧
  (0 ≤ w b 9 ∧ w b 9 ≤ 6 ∧ v 0 0 = w b 9) ∧ (w b 10 = w (b + 2) 0 + w (b + 2) 1 + w (b + 2) 2 + w (b + 2) 3 + w (b + 2) 4 + w (b + 2) 5) ∧
  (0 ≤ w b 11 ∧ (w b 9 = 0 ∧ w b 11 = 0 ∨ w b 11 < w b 9) ∧ w b 11 < 6 ∧ v 0 5 = w b 11) ∧ (0 ≤ w b 12 ∧ w b 12 ≤ 999 ∧ v 0 6 = w b 12) ∧ (0 ≤ w b 13 ∧ w b 13 < w 1 3 ∧ v 0 12 = w b 13)
/-- what a call on the round at b may change in the class, on the current round in the reference -/
def hx_FC (b : Nat) (w w' : hg_W) : Prop := ∀ c, c ≠ 16 → (c < b ∨ b + 8 < c) → w' c = w c
def hx_FM (v v' : hg_W) : Prop := (∀ c, c ≠ 0 → c ≠ 3 → c ≠ 4 → c ≠ 16 → c ≠ 17 → v' c = v c) ∧ ∀ k, k ≠ 5 → k ≠ 6 → v' 0 k = v 0 k
theorem hx_FC.rf {b : Nat} {w : hg_W} : hx_FC b w w := fun _ _ _ => rfl
theorem hx_FM.rf {v : hg_W} : hx_FM v v := ⟨fun _ _ _ _ _ _ => rfl, fun _ _ _ => rfl⟩
theorem hx_FC.tr {b : Nat} {w1 w2 w3 : hg_W} (h1 : hx_FC b w1 w2) (h2 : hx_FC b w2 w3) : hx_FC b w1 w3 := fun c h h' => (h2 c h h').trans (h1 c h h')
theorem hx_FM.tr {v1 v2 v3 : hg_W} (h1 : hx_FM v1 v2) (h2 : hx_FM v2 v3) : hx_FM v1 v3 := ⟨fun c a b d e f => (h2.1 c a b d e f).trans (h1.1 c a b d e f), fun k a b => (h2.2 k a b).trans (h1.2 k a b)⟩
theorem hx_T.of {w v w' v' : hg_W} (h : hx_T w v) (hw : ∀ c, 1 ≤ c → c < 16 → w' c = w c) (h0 : v' 0 11 = v 0 11) (h6 : v' 6 = v 6) (h7 : v' 7 = v 7) : hx_T w' v' := by
  unfold hx_T at h ⊢
  rw [hw 1 (by omega) (by omega), h0, h6, h7]
  refine ⟨h.1, fun t part ht hp => ?_⟩
  have h1 := h.1
  rw [hw (10 + t) (by omega) (by omega), hw (3 + t) (by omega) (by omega)]
  exact h.2 t part ht hp
theorem hx_T.fr {b : Nat} {w v w' v' : hg_W} (hb : hg_rd b) (h : hx_T w v) (hw : hx_FC b w w') (hv : hx_FM v v') : hx_T w' v' := by
  have hb2 : 19 ≤ b := by rcases hb with rfl | rfl | rfl <;> omega
  exact h.of (fun c h1 h2 => hw c (by omega) (by omega)) (hv.2 11 (by omega) (by omega)) (hv.1 6 (by omega) (by omega) (by omega) (by omega) (by omega)) (hv.1 7 (by omega) (by omega) (by omega) (by omega) (by omega))
theorem hx_rd19 {b : Nat} (hb : hg_rd b) : 19 ≤ b ∧ b ≤ 37 := by rcases hb with rfl | rfl | rfl <;> omega
/-! ===== says, asksOf ===== -/
theorem hx_z : (0 : Int).toNat = 0 ∧ (1 : Int).toNat = 1 ∧ (2 : Int).toNat = 2 ∧ (3 : Int).toNat = 3 ∧ (4 : Int).toNat = 4 ∧ (5 : Int).toNat = 5 := ⟨rfl, rfl, rfl, rfl, rfl, rfl⟩
def hx_nmC (b : Nat) (w : hg_W) (p : Nat) (x : Int) : hg_W := hg_up (hg_up (hg_up (hg_up (hg_up w (b + 8) 1 (wr x)) (b + 8) 2 (wr (w b 10))) (b + 8) 3 (wr (hg_mn 99 (w (b + 6) p)))) (b + 8) 4 (wr (w b 12))) (b + 8) 5 (wr (w (b + 4) p))
theorem hx_says31 {b : Nat} (hb : hg_rd b) {w : hg_W} {part p x : Int} (hp0 : 0 ≤ p) (hp1 : p < 6) (hpt : 0 ≤ part ∧ part < 3) :
    fX0_says_31 b w part p 1 x = hg_bd (fX3_value (hx_nmC b w p.toNat x) (w b 13) part (b + 8)) fun w1 v2 => some (w1, wr (hg_mx (if part = 2 then -99 else 0) (hg_mn 99 v2))) := by
  unfold fX0_says_31 fX0_says_92 hx_nmC
  simp (disch := omega) only [as_r8 hb, ag_r6 hb, ag_r4 hb, hp_b, hp_up_c, hx_z, wr_id (x := part), wr_id (x := 2)]
  by_cases q : part = 2
  · simp only [if_pos q]
  · simp only [if_neg q]
theorem hx_saysC {b : Nat} (hb : hg_rd b) {w : hg_W} {part p x : Int} (hp0 : 0 ≤ p) (hp1 : p < 6) (hx : x = -1 ∨ 0 ≤ x ∧ x < 6) (hpt : 0 ≤ part ∧ part < 3) :
    fX0_says b w part p x = hg_bd (fX3_value (hx_nmC b (hg_up w (b + 8) 0 (wr (w (b + 5) p.toNat))) p.toNat (if x = -1 then 0 else w (b + 1) x.toNat)) (w b 13) part (b + 8)) fun w1 v2 => some (w1, wr (hg_mx (if part = 2 then -99 else 0) (hg_mn 99 v2))) := by
  have e0 : hg_up w (b + 8) 0 (wr (w (b + 5) p.toNat)) b 13 = w b 13 := hp_up_c (by omega)
  rcases hx with rfl | ⟨h1, h2⟩
  · rw [if_pos rfl, ← e0, ← hx_says31 hb hp0 hp1 hpt]
    unfold fX0_says
    simp (disch := omega) only [as_r8 hb, ag_r5 hb, hp_b, hx_z, wr_id (x := -1), if_neg]
  · rw [if_neg (by omega), ← e0, ← hx_says31 hb hp0 hp1 hpt]
    unfold fX0_says
    simp (disch := omega) only [as_r8 hb, ag_r5 hb, ag_r1 hb, hp_b, hx_z, wr_id (x := x), if_pos, hp_up_c]
theorem hx_within {w : hg_W} {x lo hi : Int} (h1 : -2147483648 ≤ lo) (h2 : hi < 2147483648) (h3 : lo ≤ hi) : fX5_within w x lo hi = some (w, if lo ≤ wr x then (if wr x ≤ hi then wr x else hi) else lo) := by
  unfold fX5_within
  rw [wr_id (x := lo) (by omega) (by omega), wr_id (x := hi) (by omega) (by omega)]
  split
  · split <;> rfl
  · rfl
theorem hx_mxmn {lo v : Int} (h : lo = -99 ∨ lo = 0) : wr (hg_mx lo (hg_mn 99 v)) = if lo ≤ wr v then (if wr v ≤ 99 then wr v else 99) else lo := by
  have w99 : wr 99 = 99 := wr_id (by omega) (by omega)
  have wlo : wr lo = lo := wr_id (by omega) (by omega)
  unfold hg_mx hg_mn
  rw [w99, wlo]
  by_cases q : wr v < 99
  · rw [if_pos q]
    by_cases q2 : lo < wr v
    · rw [if_pos q2, if_pos (by omega), if_pos (by omega)]
    · rw [if_neg q2, wlo]
      by_cases q3 : lo ≤ wr v
      · rw [if_pos q3, if_pos (by omega)]; omega
      · rw [if_neg q3]
  · rw [if_neg q, w99, if_pos (by omega), w99, if_pos (by omega)]
    by_cases q3 : wr v ≤ 99
    · rw [if_pos q3]; omega
    · rw [if_neg q3]
theorem hx_coins6 {v : hg_W} : ∀ (n : Nat), 6 < n → fX5_coinsAll_4 n v 0 0 = some (v, wr (0 + v 4 1 + v 4 3 + v 4 5 + v 4 7 + v 4 9 + v 4 11)) := by
  intro n hn
  obtain ⟨n, rfl⟩ : ∃ z, n = z + 7 := ⟨n - 7, by omega⟩
  simp (disch := omega) only [fX5_coinsAll_4, wr_id (x := 6), wr_id (x := 0), wr_id (x := 0 + 1), wr_id (x := 0 + 1 + 1), wr_id (x := 0 + 1 + 1 + 1), wr_id (x := 0 + 1 + 1 + 1 + 1), wr_id (x := 0 + 1 + 1 + 1 + 1 + 1), wr_id (x := 0 + 1 + 1 + 1 + 1 + 1 + 1), if_pos, if_neg, ag_m4, hp_b, show (2 * (0 : Int) + 1).toNat = 1 from rfl, show (2 * (0 + 1 : Int) + 1).toNat = 3 from rfl, show (2 * (0 + 1 + 1 : Int) + 1).toNat = 5 from rfl, show (2 * (0 + 1 + 1 + 1 : Int) + 1).toNat = 7 from rfl, show (2 * (0 + 1 + 1 + 1 + 1 : Int) + 1).toNat = 9 from rfl, show (2 * (0 + 1 + 1 + 1 + 1 + 1 : Int) + 1).toNat = 11 from rfl]
theorem hx_F : hg_F = 99999 + 1 := rfl
/-- the coins that the reference counts -/
def hx_cs (v : hg_W) : Int := 0 + v 4 1 + v 4 3 + v 4 5 + v 4 7 + v 4 9 + v 4 11
theorem hx_coins {v : hg_W} : fX5_coinsAll v = some (v, wr (hx_cs v)) := hx_coins6 hg_F (by unfold hg_F; omega)
theorem hx_cs_up {v : hg_W} {c k : Nat} {x : Int} (h : c ≠ 4) : hx_cs (hg_up v c k x) = hx_cs v := by
  unfold hx_cs
  rw [hp_up_c (by omega), hp_up_c (by omega), hp_up_c (by omega), hp_up_c (by omega), hp_up_c (by omega), hp_up_c (by omega)]
def hx_nmM (u : hg_W) (p : Nat) : hg_W := hg_up (hg_up (hg_up (hg_up u 17 2 (wr (wr (hx_cs u)))) 17 3 (wr (if 0 ≤ wr (u 3 (3 * p + 1)) then (if wr (u 3 (3 * p + 1)) ≤ 99 then wr (u 3 (3 * p + 1)) else 99) else 0))) 17 4 (wr (u 0 6))) 17 5 (wr (u 2 p))
theorem hx_says40 {u : hg_W} {part : Int} {p : Nat} (hp1 : p < 6) (hpt : 0 ≤ part ∧ part < 3) :
    fX5_asksOf_40 u part (p : Int) = hg_bd (fX5_says (hx_nmM u p) part) fun w1 v2 => some (w1, wr (if (if part = 2 then -99 else 0) ≤ wr v2 then (if wr v2 ≤ 99 then wr v2 else 99) else (if part = 2 then -99 else 0))) := by
  have t1 : (3 * (p : Int) + 1).toNat = 3 * p + 1 := by omega
  have t2 : (p : Int).toNat = p := by omega
  unfold fX5_asksOf_40 fX5_asksOf_110 hx_nmM
  rw [hx_coins]
  simp (disch := omega) only [hp_bd, as_m17, ag_m3, ag_m2, hp_b, hp_up_c, hx_z, hx_within, t1, t2, wr_id (x := part), wr_id (x := 2)]
  by_cases q : part = 2
  · simp only [if_pos q]
  · simp only [if_neg q]
theorem hx_saysM {v : hg_W} {part x : Int} {p : Nat} (hp1 : p < 6) (hx : x = -1 ∨ 0 ≤ x ∧ x < 6) (hpt : 0 ≤ part ∧ part < 3) :
    ∃ u : hg_W, (∀ c, c ≠ 17 → u c = v c) ∧ u 17 0 = wr (v 3 (3 * p)) ∧ u 17 1 = wr (if x = -1 then 0 else v 4 (2 * x.toNat)) ∧ fX5_asksOf v part (p : Int) x = fX5_asksOf_40 u part (p : Int) := by
  have t1 : (3 * (p : Int)).toNat = 3 * p := by omega
  have t2 : (2 * x).toNat = 2 * x.toNat := by omega
  rcases hx with rfl | ⟨h1, h2⟩
  · refine ⟨hg_up (hg_up v 17 0 (wr (v 3 (3 * p)))) 17 1 (wr 0), fun c h => by rw [hg_up_ne c h, hg_up_ne c h], by rw [hp_up_k (by omega), hp_up_eq], by rw [hp_up_eq, if_pos rfl], ?_⟩
    unfold fX5_asksOf
    simp (disch := omega) only [ag_m3, as_m17, hp_b, hx_z, t1, if_true]
  · refine ⟨hg_up (hg_up (hg_up v 17 0 (wr (v 3 (3 * p)))) 17 1 (wr 0)) 17 1 (wr (v 4 (2 * x.toNat))), fun c h => by rw [hg_up_ne c h, hg_up_ne c h, hg_up_ne c h], by rw [hp_up_k (by omega), hp_up_k (by omega), hp_up_eq], by rw [hp_up_eq, if_neg (by omega)], ?_⟩
    unfold fX5_asksOf
    simp (disch := omega) only [ag_m3, ag_m4, as_m17, hp_b, hx_z, t1, t2, wr_id (x := x), wr_id (x := -1), if_neg, hp_up_c]
theorem hx_cs_eq {b : Nat} {w v : hg_W} (h : hx_R b w v) : hx_cs v = w b 10 ∧ 0 ≤ w b 10 ∧ w b 10 ≤ 120 := by
  obtain ⟨h1, h2, h3, h4, -⟩ := h
  have k0 := (h1 0 (by omega)).2.1
  have k1 := (h1 1 (by omega)).2.1
  have k2 := (h1 2 (by omega)).2.1
  have k3 := (h1 3 (by omega)).2.1
  have k4 := (h1 4 (by omega)).2.1
  have k5 := (h1 5 (by omega)).2.1
  simp only [Nat.reduceMul, Nat.reduceAdd] at k0 k1 k2 k3 k4 k5
  unfold hx_cs
  omega
/-- says and asksOf answer alike -/
theorem hx_says {b : Nat} (hb : hg_rd b) {w v : hg_W} (hT : hx_T w v) (hR : hx_R b w v) {part p : Nat} {x : Int} (hp : (p : Int) < w b 9) (hx : x = -1 ∨ 0 ≤ x ∧ x < 6) (hpt : part < 3) :
    ∃ (w' v' : hg_W) (r : Int), fX0_says b w (part : Int) (p : Int) x = some (w', r) ∧ fX5_asksOf v (part : Int) (p : Int) x = some (v', r) ∧ (if part = 2 then -99 else 0) ≤ r ∧ r ≤ 99 ∧ (∀ c, c ≠ 16 → c ≠ b + 8 → w' c = w c) ∧ (∀ c, c ≠ 16 → c ≠ 17 → v' c = v c) := by
  have hb2 := hx_rd19 hb
  have hcs := hx_cs_eq hR
  obtain ⟨r1, r2, r3, r4, r5, r6, r7⟩ := id hR
  have hp6 : p < 6 := by omega
  obtain ⟨kw, ki, kp, kq, kl⟩ := r1 p hp6
  obtain ⟨kk, km⟩ := r2 p hp
  rw [hx_saysC hb (by omega) (by omega) hx (by omega)]
  obtain ⟨u, hu, hu0, hu1, hue⟩ := hx_saysM (v := v) (part := (part : Int)) hp6 hx (by omega)
  rw [hue, hx_says40 hp6 (by omega)]
  rw [show ((p : Int)).toNat = p by omega]
  -- the names
  generalize hW : hx_nmC b (hg_up w (b + 8) 0 (wr (w (b + 5) p))) p (if x = -1 then 0 else w (b + 1) x.toNat) = W
  generalize hV : hx_nmM u p = V
  have hWc : ∀ c, c ≠ b + 8 → W c = w c := fun c h => by rw [← hW]; unfold hx_nmC; rw [hg_up_ne c h, hg_up_ne c h, hg_up_ne c h, hg_up_ne c h, hg_up_ne c h, hg_up_ne c h]
  have hVc : ∀ c, c ≠ 17 → V c = v c := fun c h => by rw [← hV]; unfold hx_nmM; rw [hg_up_ne c h, hg_up_ne c h, hg_up_ne c h, hg_up_ne c h, hu c h]
  have hnames : ∀ j, j < 6 → W (b + 8) j = V 17 j := by
    intro j hj
    have e1 : (if x = -1 then 0 else w (b + 1) x.toNat) = (if x = -1 then 0 else v 4 (2 * x.toNat)) := by
      by_cases q : x = -1
      · rw [if_pos q, if_pos q]
      · rw [if_neg q, if_neg q, ((r1 x.toNat (by omega)).1).2.2]
    have e2 : hx_cs u = w b 10 := by
      rw [← hcs.1]; unfold hx_cs; rw [hu 4 (by omega)]
    have e3 : wr (hg_mn 99 (w (b + 6) p)) = wr (if 0 ≤ wr (u 3 (3 * p + 1)) then (if wr (u 3 (3 * p + 1)) ≤ 99 then wr (u 3 (3 * p + 1)) else 99) else 0) := by
      rw [hu 3 (by omega), kq.2.2]
      have hwq : wr (w (b + 6) p) = w (b + 6) p := wr_id (by omega) (by omega)
      unfold hg_mn
      rw [hwq, wr_id (x := 99) (by omega) (by omega), if_pos kq.1]
      by_cases q : w (b + 6) p < 99
      · rw [if_pos q, if_pos (by omega)]
      · rw [if_neg q]
        by_cases q2 : w (b + 6) p ≤ 99
        · rw [if_pos q2]; congr 1; omega
        · rw [if_neg q2]
    rw [← hW, ← hV]
    unfold hx_nmC hx_nmM
    rcases (by omega : j = 0 ∨ j = 1 ∨ j = 2 ∨ j = 3 ∨ j = 4 ∨ j = 5) with rfl | rfl | rfl | rfl | rfl | rfl
    · simp (disch := omega) only [hp_up_k, hp_up_eq]
      rw [hu0, kp.2.2]
    · simp (disch := omega) only [hp_up_k, hp_up_eq]
      rw [hu1, e1]
    · simp (disch := omega) only [hp_up_k, hp_up_eq, hp_up_c]
      rw [e2, wr_wr]
    · simp (disch := omega) only [hp_up_k, hp_up_eq, hp_up_c]
      exact e3
    · simp (disch := omega) only [hp_up_k, hp_up_eq, hp_up_c]
      rw [hu 0 (by omega), r6.2.2]
    · simp (disch := omega) only [hp_up_k, hp_up_eq, hp_up_c]
      rw [hu 2 (by omega), km.2.2]
  -- the text
  obtain ⟨t, ht⟩ : ∃ t : Nat, (t : Int) = w b 13 := ⟨(w b 13).toNat, by omega⟩
  have hT1 := hT.1
  obtain ⟨i, m, k, hi0, hi1, he, hle, hk1, hk2, hkl, hco, hdk⟩ := hT.2 t part (by omega) hpt
  have g := hs_loop (c := 3 + t) (x3 := b + 8) (t := t) (part := part) (e := i + m) (by omega) (hp_ln_rd hb).2.2.2.2.2.2.2 (by omega) (by omega) hpt hle m hg_F hg_F W V i k 0 (by unfold hg_F; omega) (by unfold hg_F; omega) rfl (by omega) (by rw [hVc 0 (by omega), r7.2.2, ht]) (by rw [hVc 7 (by omega)]; exact hk2) hkl hnames (fun j hj => absurd hj (by omega)) (fun j hj => by rw [hVc 6 (by omega), hWc (3 + t) (by omega)]; exact hco j hj) (by rw [hWc (3 + t) (by omega)]; exact hdk)
  obtain ⟨w', v', r, g1, g2, g3, g4, g5⟩ := g
  have hC : fX3_value W (w b 13) (part : Int) (b + 8) = some (w', r) := by
    rw [← ht, ← g1]
    unfold fX3_value fX3_value_39
    have a1 : ((t : Int)).toNat = t := by omega
    have a2 : ((part : Int)).toNat = part := by omega
    rw [hp_ar2 (by omega) (by omega), hp_b, hp_ar9 (by omega) (by omega), hp_b, a1, hp_end (by omega) (by omega) (by omega), hp_b, a2, hWc (10 + t) (by omega), he]
    by_cases q : part = 0
    · subst q
      rw [if_pos (by rw [wr_id (by omega) (by omega)]; omega), hi0 rfl]
      rfl
    · rw [if_neg (by rw [wr_id (by omega) (by omega)]; omega), hp_b, hp_end (by omega) (by omega) (by omega), hp_b, show ((part : Int) - 1).toNat = part - 1 by omega, hWc (10 + t) (by omega), hi1 q]
      rfl
  have hM : fX5_says V (part : Int) = some (v', r) := by
    unfold fX5_says
    rw [hVc 0 (by omega), r7.2.2, ← ht, ag_m7 (by omega) (by omega), hp_b, show (4 * (t : Int) + (part : Int)).toNat = 4 * t + part by omega, hVc 7 (by omega), hk1]
    exact g2
  rw [hC, hM, hp_bd, hp_bd]
  have hlp : (if part = 2 then (-99 : Int) else 0) = (if (part : Int) = 2 then (-99 : Int) else 0) := by
    by_cases q : part = 2
    · rw [if_pos q, if_pos (by omega)]
    · rw [if_neg q, if_neg (by omega)]
  have hlo : (if (part : Int) = 2 then (-99 : Int) else 0) = -99 ∨ (if (part : Int) = 2 then (-99 : Int) else 0) = 0 := by split <;> simp
  rw [hlp]
  generalize (if (part : Int) = 2 then (-99 : Int) else 0) = lo at hlo ⊢
  have hr0 : lo ≤ (if lo ≤ wr r then (if wr r ≤ 99 then wr r else 99) else lo) ∧ (if lo ≤ wr r then (if wr r ≤ 99 then wr r else 99) else lo) ≤ 99 := by
    split
    · split <;> omega
    · omega
  refine ⟨w', v', (if lo ≤ wr r then (if wr r ≤ 99 then wr r else 99) else lo), by rw [hx_mxmn hlo], ?_, hr0.1, hr0.2, fun c h1 h2 => (g4 c h1).trans (hWc c h2), fun c h1 h2 => (g5 c h1).trans (hVc c h2)⟩
  rw [wr_id (by omega) (by omega)]
