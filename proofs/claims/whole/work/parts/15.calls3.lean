/-! ===== person, put ===== -/
theorem hx_dv {x y : Int} (h1 : 0 ≤ x) (h2 : x < 2147483648) (h3 : 0 < y) (h4 : y < 2147483648) : hg_dv x y = x / y := by
  unfold hg_dv
  rw [Int32.toInt_div]
  show ((wr x).tdiv (wr y)).bmod (2 ^ 32) = x / y
  rw [wr_id (by omega) h2, wr_id (by omega) h4, Int.tdiv_eq_ediv_of_nonneg h1]
  have e := wr_bmod (x / y)
  rw [show ((2 : Nat) ^ 32) = 4294967296 from rfl, ← e]
  have a1 : 0 ≤ x / y := Int.ediv_nonneg h1 (by omega)
  have a2 : x / y ≤ x := Int.ediv_le_self y h1
  exact wr_id (by omega) (by omega)
theorem hx_rm {x y : Int} (h1 : 0 ≤ x) (h2 : x < 2147483648) (h3 : 0 < y) (h4 : y < 2147483648) : hg_rm x y = x % y := by
  have e : hg_rm x y = wr (x - hg_dv x y * y) := by
    unfold hg_rm wr
    rw [hg_I_sub, hg_I_mul]
    unfold hg_dv
    rw [hg_I_toInt]
  rw [e, hx_dv h1 h2 h3 h4]
  have a : x - x / y * y = x % y := by
    have := Int.mul_ediv_add_emod x y
    rw [Int.mul_comm] at this
    omega
  rw [a]
  have b1 := Int.emod_nonneg x (show y ≠ 0 by omega)
  have b2 := Int.emod_lt_of_pos x h3
  exact wr_id (by omega) (by omega)
def hc_peC (w : hg_W) (p : Nat) (k m d : Int) : hg_W := hg_up (hg_up (hg_up (hg_up (hg_up (hg_up w 22 p k) 23 p m) 24 p d) 25 p 0) 26 p 0) 19 9 (w 19 9 + 1)
def hc_peM (v : hg_W) (p : Nat) (k m d : Int) : hg_W := hg_up (hg_up (hg_up (hg_up (hg_up (hg_up v 1 p k) 2 p m) 3 (3 * p) d) 3 (3 * p + 1) 0) 3 (3 * p + 2) 0) 0 0 (v 0 0 + 1)
theorem hc_peA {w v : hg_W} (h : hx_A w v) {p : Nat} {k m d : Int} (hp : (p : Int) = w 19 9) (hp6 : p < 6) (hk : 0 ≤ k ∧ k ≤ 5) (hm : 0 ≤ m ∧ m ≤ 9) (hd : 0 ≤ d ∧ d ≤ 99) : hx_A (hc_peC w p k m d) (hc_peM v p k m d) := by
  obtain ⟨hT, hR, hTp, hIm, hSh⟩ := h
  obtain ⟨r1, r2, r3, r4, r5, r6, r7⟩ := hR
  unfold hc_peC hc_peM
  refine ⟨hT.of (fun c h1 h2 => by rw [hg_up_ne c (by omega), hg_up_ne c (by omega), hg_up_ne c (by omega), hg_up_ne c (by omega), hg_up_ne c (by omega), hg_up_ne c (by omega)]) (by simp (disch := omega) only [hp_up_c, hp_up_k]) (by rw [hg_up_ne _ (by omega), hg_up_ne _ (by omega), hg_up_ne _ (by omega), hg_up_ne _ (by omega), hg_up_ne _ (by omega), hg_up_ne _ (by omega)]) (by rw [hg_up_ne _ (by omega), hg_up_ne _ (by omega), hg_up_ne _ (by omega), hg_up_ne _ (by omega), hg_up_ne _ (by omega), hg_up_ne _ (by omega)]), ⟨fun j hj => ⟨?_, ?_, ?_, ?_, ?_⟩, fun j hj => ⟨?_, ?_⟩, ?_, ?_, ?_, ?_, ?_⟩, ?_, ?_, ?_⟩
  · have h := (r1 j hj).1
    simp (disch := omega) only [hp_up_c]; exact h
  · have h := (r1 j hj).2.1
    simp (disch := omega) only [hp_up_c]; exact h
  · have h := (r1 j hj).2.2.1
    by_cases q : j = p
    · subst q
      refine ⟨?_, ?_, ?_⟩ <;> simp (disch := omega) only [hp_up_c, hp_up_k, hp_up_eq] <;> omega
    · simp (disch := omega) only [hp_up_c, hp_up_k]; exact h
  · have h := (r1 j hj).2.2.2.1
    by_cases q : j = p
    · subst q
      refine ⟨?_, ?_, ?_⟩ <;> simp (disch := omega) only [hp_up_c, hp_up_k, hp_up_eq] <;> omega
    · simp (disch := omega) only [hp_up_c, hp_up_k]; exact h
  · have h := (r1 j hj).2.2.2.2
    by_cases q : j = p
    · subst q
      refine ⟨?_, ?_, ?_⟩ <;> simp (disch := omega) only [hp_up_c, hp_up_k, hp_up_eq] <;> omega
    · simp (disch := omega) only [hp_up_c, hp_up_k]; exact h
  · simp (disch := omega) only [hp_up_eq] at hj
    by_cases q : j = p
    · subst q
      refine ⟨?_, ?_, ?_⟩ <;> simp (disch := omega) only [hp_up_c, hp_up_k, hp_up_eq] <;> omega
    · have h := (r2 j (by omega)).1
      simp (disch := omega) only [hp_up_c, hp_up_k]; exact h
  · simp (disch := omega) only [hp_up_eq] at hj
    by_cases q : j = p
    · subst q
      refine ⟨?_, ?_, ?_⟩ <;> simp (disch := omega) only [hp_up_c, hp_up_k, hp_up_eq] <;> omega
    · have h := (r2 j (by omega)).2
      simp (disch := omega) only [hp_up_c, hp_up_k]; exact h
  · refine ⟨?_, ?_, ?_⟩ <;> simp (disch := omega) only [hp_up_eq] <;> omega
  · simp (disch := omega) only [hp_up_c, hp_up_k]; exact r4
  · refine ⟨?_, ?_, ?_, ?_⟩ <;> simp (disch := omega) only [hp_up_c, hp_up_k, hp_up_eq] <;> omega
  · simp (disch := omega) only [hp_up_c, hp_up_k]; exact r6
  · simp (disch := omega) only [hp_up_c, hp_up_k]; exact r7
  · unfold hx_Tp at hTp ⊢
    simp (disch := omega) only [hp_up_c, hp_up_k]
    exact hTp
  · unfold hx_Im at hIm ⊢
    simp (disch := omega) only [hp_up_c, hp_up_k, hp_up_eq]
    refine ⟨hIm.1, hIm.2.1, fun h1 => ?_⟩
    obtain ⟨⟨i1, i2, i3, i4, i5, i6, i7⟩, hle⟩ := hIm.2.2 h1
    refine ⟨⟨fun j hj => ?_, fun j hj => ?_, ?_, ?_, ?_, ?_, ?_⟩, by omega⟩
    · have h := i1 j hj
      unfold hx_iv at h ⊢
      simp (disch := omega) only [Nat.reduceEqDiff, if_true, if_false, hp_up_c] at h ⊢
      exact h
    · simp (disch := omega) only [hp_up_c] at hj
      have h := i2 j hj
      unfold hx_iv at h ⊢
      simp (disch := omega) only [Nat.reduceEqDiff, if_true, if_false, hp_up_c, hp_up_k] at h ⊢
      exact h
    · unfold hx_iv at i3 ⊢
      simp (disch := omega) only [Nat.reduceEqDiff, if_true, if_false, hp_up_c] at i3 ⊢
      exact i3
    · simp (disch := omega) only [hp_up_c]
      exact i4
    · unfold hx_iv at i5 ⊢
      simp (disch := omega) only [Nat.reduceEqDiff, if_true, if_false, hp_up_c] at i5 ⊢
      exact i5
    · unfold hx_iv at i6 ⊢
      simp (disch := omega) only [Nat.reduceEqDiff, if_true, if_false, hp_up_c] at i6 ⊢
      exact i6
    · unfold hx_iv at i7 ⊢
      simp (disch := omega) only [Nat.reduceEqDiff, if_true, if_false, hp_up_c] at i7 ⊢
      exact i7
  · intro s hs
    simp (disch := omega) only [hp_up_c]
    exact hSh s hs
/-- person(), with its effect: who came is told by the answer -/
theorem hc_person {w v : hg_W} (h : hx_A w v) {a d : Int} (ha : hx_c a) (hd : hx_c d) : ∃ (w' v' : hg_W) (r : Int), fX4_person w a d = some (w', r) ∧ fX5_person v a d = some (v', r) ∧ hx_A w' v' ∧ hx_c r ∧ (∀ c, 46 ≤ c → c ≤ 53 → w' c = w c) ∧ (∀ c, 10 ≤ c → c ≤ 12 → v' c = v c) := by
  have hr : ∀ x : Int, hx_c (wr x) := fun x => ⟨wr_ge x, wr_lt x⟩
  obtain ⟨hT, hR, hTp, hIm, hSh⟩ := id h
  have r3 := hR.2.2.1
  have hcc := ha
  have hcd := hd
  unfold hx_c at ha hd
  unfold fX4_person fX5_person fX0_comes
  rw [hx_in hcc (by unfold hx_c; omega) (by unfold hx_c; omega), hp_bd, hx_bif, hx_in hcd (by unfold hx_c; omega) (by unfold hx_c; omega), hp_bd, hx_bif, wr_id (x := a) ha.1 ha.2, wr_id (x := d) hd.1 hd.2, wr_id (x := 60) (by omega) (by omega), wr_id (x := 99) (by omega) (by omega), wr_id (x := w 19 9) (by omega) (by omega), r3.2.2, wr_id (x := 6) (by omega) (by omega), wr_id (x := w 19 9) (by omega) (by omega)]
  by_cases q1 : 0 ≤ a ∧ a ≤ 59
  · rw [if_pos q1, if_neg (show ¬ a < 0 by omega), if_neg (show ¬ 60 ≤ a by omega)]
    by_cases q2 : 0 ≤ d ∧ d ≤ 99
    · rw [if_pos q2, if_neg (show ¬ d < 0 by omega), if_pos (show d ≤ 99 by omega), if_neg (show ¬ w 19 9 < 0 by omega)]
      by_cases q3 : w 19 9 = 6
      · rw [if_pos q3, if_neg (by omega), hp_bd, wr_wr]
        exact ⟨w, v, wr (-4), rfl, rfl, h, hr _, fun _ _ _ => rfl, fun _ _ _ => rfl⟩
      · rw [if_neg q3, if_pos (by omega)]
        obtain ⟨p, hp⟩ : ∃ p : Nat, (p : Int) = w 19 9 := ⟨(w 19 9).toNat, by omega⟩
        have tp : (p : Int).toNat = p := by omega
        have t5 : (3 * (p : Int)).toNat = 3 * p := by omega
        have t2 : (3 * (p : Int) + 1).toNat = 3 * p + 1 := by omega
        have t4 : (3 * (p : Int) + 2).toNat = 3 * p + 2 := by omega
        have e1 := hx_dv q1.1 (by omega) (show (0 : Int) < 10 by omega) (by omega)
        have e2 := hx_rm q1.1 (by omega) (show (0 : Int) < 10 by omega) (by omega)
        have hC : ((hg_as 0 w (19 + 3) (w 19 9) (hg_dv a 10)).bind fun w1 => (hg_as 0 w1 (19 + 4) (w 19 9) (hg_rm a 10)).bind fun w3 => (hg_as 0 w3 (19 + 5) (w 19 9) d).bind fun w5 => (hg_as 0 w5 (19 + 6) (w 19 9) 0).bind fun w7 => (hg_as 0 w7 (19 + 7) (w 19 9) 0).bind fun w9 => (hg_pt w9 19 9 (w 19 9 + 1)).bind fun w11 => some (w11, w 19 9)) = some (hc_peC w p (a / 10) (a % 10) d, (p : Int)) := by
          rw [← hp, e1, e2]
          unfold hc_peC
          rw [← hp]
          clear h hT hR hTp hIm hSh
          simp (disch := omega) only [as_r3 hx_r19, as_r4 hx_r19, as_r5 hx_r19, as_r6 hx_r19, as_r7 hx_r19, hp_b, hp_pt, tp, wr_id (x := a / 10), wr_id (x := a % 10), wr_id (x := d), wr_id (x := 0), wr_id (x := (p : Int) + 1)]
        have hM : ((hg_as 1 v 1 (w 19 9) (hg_dv a 10)).bind fun w7 => (hg_as 1 w7 2 (w7 0 0) (hg_rm a 10)).bind fun w9 => (hg_as 1 w9 3 (3 * (w9 0 0)) d).bind fun w11 => (hg_as 1 w11 3 ((3 * (w11 0 0)) + 1) 0).bind fun w13 => (hg_as 1 w13 3 ((3 * (w13 0 0)) + 2) 0).bind fun w15 => (hg_pt w15 0 0 ((w15 0 0) + 1)).bind fun w17 => some (w17, wr ((w17 0 0) - 1))) = some (hc_peM v p (a / 10) (a % 10) d, (p : Int)) := by
          have e0 : v 0 0 = (p : Int) := by rw [r3.2.2, hp]
          rw [← hp, e1, e2]
          unfold hc_peM
          rw [e0]
          clear h hT hR hTp hIm hSh
          simp (disch := omega) only [as_m1, as_m2, as_m3, hp_b, hp_pt, tp, t5, t2, t4, hp_up_c, hp_up_eq, e0, wr_id (x := a / 10), wr_id (x := a % 10), wr_id (x := d), wr_id (x := 0), wr_id (x := (p : Int) + 1), wr_id (x := (p : Int) + 1 - 1)]
          rw [show (p : Int) + 1 - 1 = (p : Int) by omega]
        rw [hC, hM, hp_bd, wr_id (x := (p : Int)) (by omega) (by omega)]
        refine ⟨_, _, _, rfl, rfl, hc_peA h hp (by omega) (by omega) (by omega) q2, by unfold hx_c; omega, fun c h1 h2 => ?_, fun c h1 h2 => ?_⟩
        · unfold hc_peC
          rw [hg_up_ne _ (by omega), hg_up_ne _ (by omega), hg_up_ne _ (by omega), hg_up_ne _ (by omega), hg_up_ne _ (by omega), hg_up_ne _ (by omega)]
        · unfold hc_peM
          rw [hg_up_ne _ (by omega), hg_up_ne _ (by omega), hg_up_ne _ (by omega), hg_up_ne _ (by omega), hg_up_ne _ (by omega), hg_up_ne _ (by omega)]
    · rw [if_neg q2]
      by_cases q3 : d < 0
      · rw [if_pos q3]; exact ⟨w, v, _, rfl, rfl, h, hr _, fun _ _ _ => rfl, fun _ _ _ => rfl⟩
      · rw [if_neg q3, if_neg (by omega)]; exact ⟨w, v, _, rfl, rfl, h, hr _, fun _ _ _ => rfl, fun _ _ _ => rfl⟩
  · rw [if_neg q1]
    by_cases q3 : a < 0
    · rw [if_pos q3]; exact ⟨w, v, _, rfl, rfl, h, hr _, fun _ _ _ => rfl, fun _ _ _ => rfl⟩
    · rw [if_neg q3, if_pos (by omega)]; exact ⟨w, v, _, rfl, rfl, h, hr _, fun _ _ _ => rfl, fun _ _ _ => rfl⟩
theorem hc_put {w v : hg_W} (h : hx_A w v) {a y x : Int} (ha : hx_c a) (hy : hx_c y) (hx : hx_c x) : hx_ret (fX4_put w a y x) (fX5_put v a y x) := by
  obtain ⟨hT, hR, hTp, hIm, hSh⟩ := id h
  have r3 := hR.2.2.1
  unfold fX4_put fX5_put fX4_put_37 fX5_put_34
  rw [hx_isOne hR ha, hp_bd, hx_bif, hx_isThere ha ⟨r3.1, r3.2.1⟩, hp_bd, hx_bif, hx_in hy (by unfold hx_c; omega) (by unfold hx_c; omega), hp_bd, hx_bif, hx_in hx (by unfold hx_c; omega) (by unfold hx_c; omega), hp_bd, hx_bif, hx_in hx (by unfold hx_c; omega) (by unfold hx_c; omega), hp_bd, hx_bif, wr_id hy.1 hy.2, wr_id hx.1 hx.2, wr_id (x := 1) (by omega) (by omega), wr_id (x := 99) (by omega) (by omega), wr_id (x := 9999) (by omega) (by omega)]
  by_cases q1 : 0 ≤ a ∧ a < w 19 9
  · rw [if_pos q1, if_pos q1]
    obtain ⟨k, rfl⟩ : ∃ k : Nat, a = (k : Int) := ⟨a.toNat, by omega⟩
    have tk : (k : Int).toNat = k := by omega
    have hk : k < 6 := by omega
    obtain ⟨-, -, kp, kq, -⟩ := hR.1 k hk
    have one : ∀ (c i : Nat) (X : Int), (c = 24 ∧ i = 0 ∧ 0 ≤ X ∧ X ≤ 99) ∨ (c = 25 ∧ i = 1 ∧ 0 ≤ X ∧ X ≤ 9999) → hx_A (hg_up w c k X) (hg_up v 3 (3 * k + i) X) := by
      intro c i X hc
      refine h.go ?_ (hx_FC.up (by omega)) (hp_up_c (by omega)) (hx_FM.up (by omega))
      obtain ⟨r1, r2, r3, r4, r5, r6, r7⟩ := hR
      refine ⟨fun j hj => ⟨?_, ?_, ?_, ?_, ?_⟩, fun j hj => ?_, ?_, ?_, ?_, ?_, ?_⟩
      · have h := (r1 j hj).1
        simp (disch := omega) only [hp_up_c]; exact h
      · have h := (r1 j hj).2.1
        simp (disch := omega) only [hp_up_c]; exact h
      · have h := (r1 j hj).2.2.1
        rcases hc with ⟨rfl, rfl, h1, h2⟩ | ⟨rfl, rfl, h1, h2⟩
        · by_cases q : j = k
          · subst q
            simp only [Nat.add_zero, Nat.reduceAdd, hp_up_eq]
            exact ⟨h1, h2, trivial⟩
          · simp (disch := omega) only [hp_up_k]; exact h
        · simp (disch := omega) only [hp_up_c, hp_up_k]; exact h
      · have h := (r1 j hj).2.2.2.1
        rcases hc with ⟨rfl, rfl, h1, h2⟩ | ⟨rfl, rfl, h1, h2⟩
        · simp (disch := omega) only [hp_up_c, hp_up_k]; exact h
        · by_cases q : j = k
          · subst q
            simp only [Nat.reduceAdd, hp_up_eq]
            exact ⟨h1, h2, trivial⟩
          · simp (disch := omega) only [hp_up_k]; exact h
      · have h := (r1 j hj).2.2.2.2
        simp (disch := omega) only [hp_up_c, hp_up_k]; exact h
      · simp (disch := omega) only [hp_up_c] at hj ⊢; exact r2 j hj
      · simp (disch := omega) only [hp_up_c]; exact r3
      · simp (disch := omega) only [hp_up_c]; exact r4
      · simp (disch := omega) only [hp_up_c]; exact r5
      · simp (disch := omega) only [hp_up_c]; exact r6
      · simp (disch := omega) only [hp_up_c]; exact r7
    by_cases q2 : 0 ≤ y ∧ y ≤ 1
    · rw [if_neg (show ¬ y < 0 by omega), if_neg (show ¬ 1 < y by omega), if_pos q2]
      unfold fX4_put_64
      by_cases q3 : y = 0
      · subst q3
        simp only [if_true]
        by_cases q4 : x < 0
        · rw [if_pos q4, if_neg (by omega)]; exact hx_ret.c h
        · rw [if_neg q4]
          by_cases q5 : x ≤ 99
          · rw [if_pos q5, if_pos (show 0 ≤ x ∧ x ≤ 99 by omega), show (24 : Nat) = 19 + 5 from rfl, ag_r5 hx_r19 (by omega) (by omega), hp_b, as_r5 hx_r19 (by omega) (by omega), hp_b, ag_m3 (by omega) (by omega), hp_b, as_m3 (by omega) (by omega), hp_b, tk, show (3 * (k : Int) + 0).toNat = 3 * k by omega, kp.2.2, wr_id hx.1 hx.2]
            exact ⟨_, _, _, rfl, rfl, one 24 0 x (Or.inl ⟨rfl, rfl, by omega, q5⟩)⟩
          · rw [if_neg q5, if_neg (by omega)]; exact hx_ret.c h
      · have q3b : y = 1 := by omega
        subst q3b
        simp only [Int.reduceEq, if_false]
        by_cases q4 : x < 0
        · rw [if_pos q4, if_neg (by omega)]; exact hx_ret.c h
        · rw [if_neg q4]
          by_cases q5 : x ≤ 9999
          · rw [if_pos q5, if_pos (show 0 ≤ x ∧ x ≤ 9999 by omega), show (25 : Nat) = 19 + 6 from rfl, ag_r6 hx_r19 (by omega) (by omega), hp_b, as_r6 hx_r19 (by omega) (by omega), hp_b, ag_m3 (by omega) (by omega), hp_b, as_m3 (by omega) (by omega), hp_b, tk, show (3 * (k : Int) + 1).toNat = 3 * k + 1 by omega, kq.2.2, wr_id hx.1 hx.2]
            exact ⟨_, _, _, rfl, rfl, one 25 1 x (Or.inr ⟨rfl, rfl, by omega, q5⟩)⟩
          · rw [if_neg q5, if_neg (by omega)]; exact hx_ret.c h
    · rw [if_neg q2]
      by_cases q3 : y < 0
      · rw [if_pos q3]; exact hx_ret.c h
      · rw [if_neg q3, if_pos (by omega)]; exact hx_ret.c h
  · rw [if_neg q1, if_neg q1]; exact hx_ret.c h
