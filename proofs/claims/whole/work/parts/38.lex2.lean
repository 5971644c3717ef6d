/-! ===== text: the next token, on both sides ===== -/
theorem hy_uu {w : hg_W} {c k : Nat} {x y : Int} : hg_up (hg_up w c k x) c k y = hg_up w c k y := by
  funext c' k'
  by_cases h1 : c' = c
  · by_cases h2 : k' = k <;> simp [hg_up, h1, h2]
  · simp [hg_up, h1]
theorem hy_u2 {w : hg_W} {c a b : Nat} {x y x' y' : Int} (hab : a ≠ b) : hg_up (hg_up (hg_up (hg_up w c a x) c b y) c a x') c b y' = hg_up (hg_up w c a x') c b y' := by
  funext c' k'
  by_cases h1 : c' = c
  · by_cases h2 : k' = a
    · by_cases h3 : k' = b
      · exact absurd (h2.symm.trans h3) hab
      · simp [hg_up, h1, h2, h3]
    · by_cases h3 : k' = b <;> simp [hg_up, h1, h2, h3]
  · simp [hg_up, h1]
/-- the TAPE and the words -/
def hy_B (n : Nat) (w v : hg_W) : Prop := (n ≤ 160 ∧ w 17 1 = (n : Int) ∧ v 0 8 = (n : Int)) ∧ (∀ k, k < n → 0 ≤ w 18 k ∧ w 18 k ≤ 255 ∧ v 5 k = w 18 k) ∧ ∀ j, j < 96 → v 14 j = hx_wd j
def hy_LC (w w' : hg_W) : Prop := (∀ c, c ≠ 17 → w' c = w c) ∧ ∀ k, k ≠ 4 → k ≠ 5 → k ≠ 6 → k ≠ 7 → w' 17 k = w 17 k
def hy_LM (v v' : hg_W) : Prop := (∀ c, c ≠ 0 → v' c = v c) ∧ ∀ k, k ≠ 20 → k ≠ 21 → k ≠ 22 → k ≠ 23 → v' 0 k = v 0 k
theorem hy_LC.rf {w : hg_W} : hy_LC w w := ⟨fun _ _ => rfl, fun _ _ _ _ _ => rfl⟩
theorem hy_LM.rf {v : hg_W} : hy_LM v v := ⟨fun _ _ => rfl, fun _ _ _ _ _ => rfl⟩
theorem hy_LC.tr {a b c : hg_W} (h1 : hy_LC a b) (h2 : hy_LC b c) : hy_LC a c := ⟨fun x h => (h2.1 x h).trans (h1.1 x h), fun k a b c d => (h2.2 k a b c d).trans (h1.2 k a b c d)⟩
theorem hy_LM.tr {a b c : hg_W} (h1 : hy_LM a b) (h2 : hy_LM b c) : hy_LM a c := ⟨fun x h => (h2.1 x h).trans (h1.1 x h), fun k a b c d => (h2.2 k a b c d).trans (h1.2 k a b c d)⟩
theorem hy_LC.up {w : hg_W} {k : Nat} {x : Int} (h : 4 ≤ k ∧ k ≤ 7) : hy_LC w (hg_up w 17 k x) := ⟨fun c hc => hg_up_ne c hc, fun k' _ _ _ _ => hp_up_k (by omega)⟩
theorem hy_LM.up {v : hg_W} {k : Nat} {x : Int} (h : 20 ≤ k ∧ k ≤ 23) : hy_LM v (hg_up v 0 k x) := ⟨fun c hc => hg_up_ne c hc, fun k' _ _ _ _ => hp_up_k (by omega)⟩
theorem hy_B.fr {n : Nat} {w v w' v' : hg_W} (h : hy_B n w v) (h1 : hy_LC w w') (h2 : hy_LM v v') : hy_B n w' v' := by
  unfold hy_B at h ⊢
  rw [h1.2 1 (by omega) (by omega) (by omega) (by omega), h1.1 18 (by omega), h2.1 5 (by omega), h2.1 14 (by omega), h2.2 8 (by omega) (by omega) (by omega) (by omega)]
  exact h
/-- a token of the class's as the reference has it -/
def hy_tk (tc nu tm vm : Int) : Prop := (tc = -20 ∧ tm = 0) ∨ (tc = -19 ∧ tm = 1 ∧ vm = nu ∧ 0 ≤ nu ∧ nu ≤ 9999) ∨ (-6 ≤ tc ∧ tc ≤ -1 ∧ tm = 2 ∧ vm = -1 - tc) ∨ (-24 ≤ tc ∧ tc ≤ -22 ∧ tm = 3 ∧ vm = -22 - tc) ∨ (-9 ≤ tc ∧ tc ≤ -7 ∧ tm = -3 - tc) ∨ (tc = -16 ∧ tm = 40) ∨ (tc = -17 ∧ tm = 41) ∨ (tc = -18 ∧ tm = 59) ∨ (tc = -12 ∧ tm = 43) ∨ (tc = -13 ∧ tm = 45) ∨ (tc = -14 ∧ tm = 42) ∨ (tc = -10 ∧ tm = 60) ∨ (tc = -11 ∧ tm = 61) ∨ (tc = -21 ∧ tm = -1)
theorem hy_let {w : hg_W} {b : Int} (hb : 0 ≤ b ∧ b ≤ 255) : fX2_isLetter w b = some (w, if 97 ≤ b ∧ b ≤ 122 then 1 else 0) := by
  unfold fX2_isLetter
  rw [wr_id (x := b) (by omega) (by omega), wr_id (x := 97) (by omega) (by omega), wr_id (x := 122) (by omega) (by omega), hx_wr01.1, hx_wr01.2.1, if_pos (Or.inl rfl), if_pos (Or.inr rfl)]
  by_cases q1 : b < 97
  · rw [if_pos q1, if_neg (by omega)]
  · rw [if_neg q1]
    by_cases q2 : 122 < b
    · rw [if_pos q2, if_neg (by omega)]
    · rw [if_neg q2, if_pos (by omega)]
theorem hy_dgt {w : hg_W} {b : Int} (hb : 0 ≤ b ∧ b ≤ 255) : fX2_isDigit w b = some (w, if 48 ≤ b ∧ b ≤ 57 then 1 else 0) := by
  unfold fX2_isDigit
  rw [wr_id (x := b) (by omega) (by omega), wr_id (x := 48) (by omega) (by omega), wr_id (x := 57) (by omega) (by omega), hx_wr01.1, hx_wr01.2.1, if_pos (Or.inl rfl), if_pos (Or.inr rfl)]
  by_cases q1 : b < 48
  · rw [if_pos q1, if_neg (by omega)]
  · rw [if_neg q1]
    by_cases q2 : 57 < b
    · rw [if_pos q2, if_neg (by omega)]
    · rw [if_neg q2, if_pos (by omega)]
theorem hy_blank {n : Nat} {w v : hg_W} (hB : hy_B n w v) : ∀ (m N1 N2 q : Nat), m < N1 → m < N2 → q + m = n → ∃ p1 : Nat, q ≤ p1 ∧ p1 ≤ n ∧ fX2_step_8 N1 (hg_up w 17 4 (q : Int)) = fX2_step_60 (hg_up w 17 4 (p1 : Int)) ∧ fX5_next_0 N2 (hg_up v 0 20 (q : Int)) = fX5_next_52 (hg_up v 0 20 (p1 : Int)) := by
  obtain ⟨⟨b1, b2, b3⟩, b4, -⟩ := hB
  intro m
  induction m with
  | zero =>
    intro N1 N2 q h1 h2 h3
    obtain ⟨N1, rfl⟩ : ∃ z, N1 = z + 1 := ⟨N1 - 1, by omega⟩
    obtain ⟨N2, rfl⟩ : ∃ z, N2 = z + 1 := ⟨N2 - 1, by omega⟩
    refine ⟨q, Nat.le_refl _, by omega, ?_, ?_⟩
    · simp only [fX2_step_8]
      rw [hp_up_k (show 1 ≠ 4 by omega), hp_up_eq, b2, wr_id (x := (n : Int)) (by omega) (by omega), wr_id (x := (q : Int)) (by omega) (by omega), if_pos (by omega)]
    · simp only [fX5_next_0]
      rw [hp_up_k (show 8 ≠ 20 by omega), hp_up_eq, b3, wr_id (x := (n : Int)) (by omega) (by omega), wr_id (x := (q : Int)) (by omega) (by omega), if_pos (by omega)]
  | succ m ih =>
    intro N1 N2 q h1 h2 h3
    obtain ⟨N1, rfl⟩ : ∃ z, N1 = z + 1 := ⟨N1 - 1, by omega⟩
    obtain ⟨N2, rfl⟩ : ∃ z, N2 = z + 1 := ⟨N2 - 1, by omega⟩
    obtain ⟨t1, t2, t3⟩ := b4 q (by omega)
    have eq1 : wr ((q : Int) + 1) = ((q + 1 : Nat) : Int) := by rw [wr_id (by omega) (by omega)]; omega
    obtain ⟨p1, i1, i2, i3, i4⟩ := ih N1 N2 (q + 1) (by omega) (by omega) (by omega)
    simp only [fX2_step_8, fX5_next_0]
    rw [hp_up_k (show 1 ≠ 4 by omega), hp_up_eq, hp_up_k (show 8 ≠ 20 by omega), hp_up_eq, b2, b3, wr_id (x := (n : Int)) (by omega) (by omega), wr_id (x := (q : Int)) (by omega) (by omega), if_neg (show ¬ (n : Int) ≤ (q : Int) by omega), if_neg (show ¬ (n : Int) ≤ (q : Int) by omega), ag_h18 (by omega) (by omega), ag_m5 (by omega) (by omega), hp_b, hp_b, hp_b, hp_b, hp_up_c (show 18 ≠ 17 by omega), hp_up_c (show 5 ≠ 0 by omega), show (q : Int).toNat = q by omega, t3, wr_id (x := w 18 q) (by omega) (by omega), wr_id (x := 32) (by omega) (by omega), wr_id (x := 10) (by omega) (by omega)]
    unfold fX2_step_47 fX5_next_39
    rw [hp_up_eq, hp_up_eq, hp_pt, hp_b, hp_pt, hp_b, hy_uu, hy_uu, eq1]
    by_cases c1 : w 18 q = 32
    · rw [if_pos c1, if_pos c1]
      exact ⟨p1, by omega, i2, i3, i4⟩
    · rw [if_neg c1, if_neg c1]
      by_cases c2 : w 18 q = 10
      · rw [if_pos c2, if_pos c2]
        exact ⟨p1, by omega, i2, i3, i4⟩
      · rw [if_neg c2, if_neg c2]
        exact ⟨q, Nat.le_refl _, by omega, rfl, rfl⟩
theorem hy_letL {n b : Nat} {w v : hg_W} (hB : hy_B n w v) : ∀ (m N1 N2 q : Nat), m < N1 → m < N2 → q + m = n → (∀ k, b ≤ k → k < q → 97 ≤ w 18 k ∧ w 18 k ≤ 122) → ∃ q1 : Nat, q ≤ q1 ∧ q1 ≤ n ∧ (∀ k, b ≤ k → k < q1 → 97 ≤ w 18 k ∧ w 18 k ≤ 122) ∧ (q1 < n → ¬ (97 ≤ w 18 q1 ∧ w 18 q1 ≤ 122)) ∧ fX2_stepOverWord_0 N1 (hg_up w 17 4 (q : Int)) = fX2_stepOverWord_39 (hg_up w 17 4 (q1 : Int)) ∧ fX5_next_103 N2 (hg_up v 0 20 (q : Int)) = fX5_next_146 (hg_up v 0 20 (q1 : Int)) := by
  obtain ⟨⟨b1, b2, b3⟩, b4, -⟩ := hB
  intro m
  induction m with
  | zero =>
    intro N1 N2 q h1 h2 h3 h4
    obtain ⟨N1, rfl⟩ : ∃ z, N1 = z + 1 := ⟨N1 - 1, by omega⟩
    obtain ⟨N2, rfl⟩ : ∃ z, N2 = z + 1 := ⟨N2 - 1, by omega⟩
    refine ⟨q, Nat.le_refl _, by omega, h4, fun h => absurd h (by omega), ?_, ?_⟩
    · simp only [fX2_stepOverWord_0]
      rw [hp_up_k (show 1 ≠ 4 by omega), hp_up_eq, b2, wr_id (x := (n : Int)) (by omega) (by omega), wr_id (x := (q : Int)) (by omega) (by omega), if_pos (by omega)]
    · simp only [fX5_next_103]
      rw [hp_up_k (show 8 ≠ 20 by omega), hp_up_eq, b3, wr_id (x := (n : Int)) (by omega) (by omega), wr_id (x := (q : Int)) (by omega) (by omega), if_pos (by omega)]
  | succ m ih =>
    intro N1 N2 q h1 h2 h3 h4
    obtain ⟨N1, rfl⟩ : ∃ z, N1 = z + 1 := ⟨N1 - 1, by omega⟩
    obtain ⟨N2, rfl⟩ : ∃ z, N2 = z + 1 := ⟨N2 - 1, by omega⟩
    obtain ⟨t1, t2, t3⟩ := b4 q (by omega)
    have eq1 : wr ((q : Int) + 1) = ((q + 1 : Nat) : Int) := by rw [wr_id (by omega) (by omega)]; omega
    simp only [fX2_stepOverWord_0, fX5_next_103]
    rw [hp_up_k (show 1 ≠ 4 by omega), hp_up_eq, hp_up_k (show 8 ≠ 20 by omega), hp_up_eq, b2, b3, wr_id (x := (n : Int)) (by omega) (by omega), wr_id (x := (q : Int)) (by omega) (by omega), if_neg (show ¬ (n : Int) ≤ (q : Int) by omega), if_neg (show ¬ (n : Int) ≤ (q : Int) by omega), ag_h18 (by omega) (by omega), ag_m5 (by omega) (by omega), hp_b, hp_b, hp_up_c (show 18 ≠ 17 by omega), hp_up_c (show 5 ≠ 0 by omega), show (q : Int).toNat = q by omega, t3, hy_let ⟨t1, t2⟩, hp_bd, hx_in (by unfold hx_c; omega) (by unfold hx_c; omega) (by unfold hx_c; omega), hp_bd]
    by_cases c1 : 97 ≤ w 18 q ∧ w 18 q ≤ 122
    · obtain ⟨q1, i1, i2, i3, i4, i5, i6⟩ := ih N1 N2 (q + 1) (by omega) (by omega) (by omega) (fun k h5 h6 => by
        by_cases e : k = q
        · rw [e]; exact c1
        · exact h4 k h5 (by omega))
      rw [if_pos c1, hx_wr01.2.1, if_neg (show ¬ (1 : Int) = 0 by omega), if_neg (show ¬ (1 : Int) = 0 by omega), hp_up_eq, hp_up_eq, hp_pt, hp_b, hp_pt, hp_b, hy_uu, hy_uu, eq1]
      exact ⟨q1, by omega, i2, i3, i4, i5, i6⟩
    · rw [if_neg c1, hx_wr01.1, if_pos rfl, if_pos rfl]
      exact ⟨q, Nat.le_refl _, by omega, h4, fun _ => c1, rfl, rfl⟩
theorem hy_digL {n s : Nat} {w v : hg_W} (hB : hy_B n w v) : ∀ (m N1 N2 c : Nat) (nu vm : Int), m < N1 → m < N2 → s + c + m = n → (c ≤ 4 → nu = vm ∧ 0 ≤ nu ∧ nu < 10 ^ c) → ∃ (c' : Nat) (nu' vm' : Int), c ≤ c' ∧ s + c' ≤ n ∧ (c' ≤ 4 → nu' = vm' ∧ 0 ≤ nu' ∧ nu' < 10 ^ c') ∧ (s + c' < n → ¬ (48 ≤ w 18 (s + c') ∧ w 18 (s + c') ≤ 57)) ∧ fX2_stepOverNumber_5 N1 (hg_up (hg_up w 17 7 nu) 17 4 ((s + c : Nat) : Int)) = fX2_stepOverNumber_68 (hg_up (hg_up w 17 7 nu') 17 4 ((s + c' : Nat) : Int)) ∧ fX5_next_230 N2 (hg_up (hg_up v 0 23 vm) 0 20 ((s + c : Nat) : Int)) (c : Int) = fX5_next_309 (hg_up (hg_up v 0 23 vm') 0 20 ((s + c' : Nat) : Int)) (c' : Int) := by
  obtain ⟨⟨b1, b2, b3⟩, b4, -⟩ := hB
  intro m
  induction m with
  | zero =>
    intro N1 N2 c nu vm h1 h2 h3 h4
    obtain ⟨N1, rfl⟩ : ∃ z, N1 = z + 1 := ⟨N1 - 1, by omega⟩
    obtain ⟨N2, rfl⟩ : ∃ z, N2 = z + 1 := ⟨N2 - 1, by omega⟩
    refine ⟨c, nu, vm, Nat.le_refl _, by omega, h4, fun h => absurd h (by omega), ?_, ?_⟩
    · simp only [fX2_stepOverNumber_5]
      rw [hp_up_k (show 1 ≠ 4 by omega), hp_up_eq, hp_up_k (show 1 ≠ 7 by omega), b2, wr_id (x := (n : Int)) (by omega) (by omega), wr_id (x := ((s + c : Nat) : Int)) (by omega) (by omega), if_pos (by omega)]
    · simp only [fX5_next_230]
      rw [hp_up_k (show 8 ≠ 20 by omega), hp_up_eq, hp_up_k (show 8 ≠ 23 by omega), b3, wr_id (x := (n : Int)) (by omega) (by omega), wr_id (x := ((s + c : Nat) : Int)) (by omega) (by omega), if_pos (by omega)]
  | succ m ih =>
    intro N1 N2 c nu vm h1 h2 h3 h4
    obtain ⟨N1, rfl⟩ : ∃ z, N1 = z + 1 := ⟨N1 - 1, by omega⟩
    obtain ⟨N2, rfl⟩ : ∃ z, N2 = z + 1 := ⟨N2 - 1, by omega⟩
    obtain ⟨q, hq⟩ : ∃ q, q = s + c := ⟨_, rfl⟩
    rw [← hq]
    obtain ⟨t1, t2, t3⟩ := b4 q (by omega)
    have eq1 : wr ((q : Int) + 1) = ((s + (c + 1) : Nat) : Int) := by rw [wr_id (by omega) (by omega)]; omega
    simp only [fX2_stepOverNumber_5, fX5_next_230]
    rw [hp_up_k (show 1 ≠ 4 by omega), hp_up_eq, hp_up_k (show 1 ≠ 7 by omega), hp_up_k (show 8 ≠ 20 by omega), hp_up_eq, hp_up_k (show 8 ≠ 23 by omega), b2, b3, wr_id (x := (n : Int)) (by omega) (by omega), wr_id (x := (q : Int)) (by omega) (by omega), if_neg (show ¬ (n : Int) ≤ (q : Int) by omega), if_neg (show ¬ (n : Int) ≤ (q : Int) by omega), ag_h18 (by omega) (by omega), ag_m5 (by omega) (by omega), hp_b, hp_b, hp_up_c (show 18 ≠ 17 by omega), hp_up_c (show 18 ≠ 17 by omega), hp_up_c (show 5 ≠ 0 by omega), hp_up_c (show 5 ≠ 0 by omega), show (q : Int).toNat = q by omega, t3, hy_dgt ⟨t1, t2⟩, hp_bd, hx_in (by unfold hx_c; omega) (by unfold hx_c; omega) (by unfold hx_c; omega), hp_bd]
    by_cases c1 : 48 ≤ w 18 q ∧ w 18 q ≤ 57
    · rw [if_pos c1, hx_wr01.2.1, if_neg (show ¬ (1 : Int) = 0 by omega), if_neg (show ¬ (1 : Int) = 0 by omega), show hg_up (hg_up w 17 7 nu) 17 4 (q : Int) 17 4 = (q : Int) from hp_up_eq, ag_h18 (by omega) (by omega), hp_b, hp_up_c (show 18 ≠ 17 by omega), hp_up_c (show 18 ≠ 17 by omega), show (q : Int).toNat = q by omega, show hg_up (hg_up w 17 7 nu) 17 4 (q : Int) 17 7 = nu by rw [hp_up_k (by omega), hp_up_eq], hp_pt, hp_b, hp_up_k (show 4 ≠ 7 by omega), show hg_up (hg_up w 17 7 nu) 17 4 (q : Int) 17 4 = (q : Int) from hp_up_eq, hp_pt, hp_b, hy_u2 (by omega), eq1, show hg_up (hg_up v 0 23 vm) 0 20 (q : Int) 0 20 = (q : Int) from hp_up_eq, ag_m5 (by omega) (by omega), hp_b, hp_up_c (show 5 ≠ 0 by omega), hp_up_c (show 5 ≠ 0 by omega), show (q : Int).toNat = q by omega, t3, show hg_up (hg_up v 0 23 vm) 0 20 (q : Int) 0 23 = vm by rw [hp_up_k (by omega), hp_up_eq]]
      have nextM : ∀ y : Int, fX5_next_290 (fX5_next_230 N2) (hg_up (hg_up v 0 23 vm) 0 20 (q : Int)) (c : Int) y = fX5_next_230 N2 (hg_up (hg_up v 0 23 (wr y)) 0 20 ((s + (c + 1) : Nat) : Int)) ((c + 1 : Nat) : Int) := by
        intro y
        unfold fX5_next_290
        rw [hp_pt, hp_b, hp_up_k (show 20 ≠ 23 by omega), hp_up_eq, hp_pt, hp_b, hy_u2 (by omega), eq1, show (c : Int) + 1 = ((c + 1 : Nat) : Int) by omega]
      rw [wr_id (x := 4) (by omega) (by omega), wr_id (x := (c : Int)) (by omega) (by omega), nextM, nextM]
      by_cases c2 : 4 ≤ c
      · obtain ⟨c', nu', vm', i1, i2, i3, i4, i5, i6⟩ := ih N1 N2 (c + 1) (wr (nu * 10 + w 18 q - 48)) (wr 0) (by omega) (by omega) (by omega) (fun h => absurd h (by omega))
        rw [if_pos (by omega)]
        exact ⟨c', nu', vm', by omega, i2, i3, i4, i5, i6⟩
      · obtain ⟨h5, h6, h7⟩ := h4 (by omega)
        have hpw : (10 : Int) ^ (c + 1) = 10 ^ c * 10 := rfl
        have hpw2 : (10 : Int) ^ c ≤ 1000 := by
          rcases (by omega : c = 0 ∨ c = 1 ∨ c = 2 ∨ c = 3) with rfl | rfl | rfl | rfl <;> decide
        obtain ⟨c', nu', vm', i1, i2, i3, i4, i5, i6⟩ := ih N1 N2 (c + 1) (wr (nu * 10 + w 18 q - 48)) (wr (10 * vm + w 18 q - 48)) (by omega) (by omega) (by omega) (fun _ => by
          rw [wr_id (x := nu * 10 + w 18 q - 48) (by omega) (by omega), wr_id (x := 10 * vm + w 18 q - 48) (by omega) (by omega)]
          omega)
        rw [if_neg (by omega)]
        exact ⟨c', nu', vm', by omega, i2, i3, i4, i5, i6⟩
    · rw [if_neg c1, hx_wr01.1, if_pos rfl, if_pos rfl]
      refine ⟨c, nu, vm, Nat.le_refl _, by omega, h4, fun _ => ?_, ?_, ?_⟩
      · rw [← hq]; exact c1
      · rw [← hq]
      · rw [← hq]
