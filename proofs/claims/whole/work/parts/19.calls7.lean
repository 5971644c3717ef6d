/-! ===== sheets: kinds, starts, laws, prides, hats ===== -/
theorem hx_R.km {b : Nat} (hb : hg_rd b) {w v : hg_W} (hR : hx_R b w v) {p : Nat} {k m : Int} (hk : 0 ≤ k ∧ k ≤ 5) (hm : 0 ≤ m ∧ m ≤ 9) : hx_R b (hg_up (hg_up w (b + 3) p k) (b + 4) p m) (hg_up (hg_up v 1 p k) 2 p m) := by
  have hb2 := hx_rd19 hb
  obtain ⟨r1, r2, r3, r4, r5, r6, r7⟩ := hR
  refine ⟨fun j hj => ?_, fun j hj => ?_, ?_, ?_, ?_, ?_, ?_⟩
  · have h := r1 j hj
    simp (disch := omega) only [hp_up_c]; exact h
  · simp (disch := omega) only [hp_up_c] at hj
    have h := r2 j hj
    by_cases q : j = p
    · subst q
      simp (disch := omega) only [hp_up_eq, hp_up_c]
      exact ⟨⟨hk.1, hk.2, trivial⟩, hm.1, hm.2, trivial⟩
    · simp (disch := omega) only [hp_up_c, hp_up_k]; exact h
  · simp (disch := omega) only [hp_up_c]; exact r3
  · simp (disch := omega) only [hp_up_c]; exact r4
  · simp (disch := omega) only [hp_up_c]; exact r5
  · simp (disch := omega) only [hp_up_c]; exact r6
  · simp (disch := omega) only [hp_up_c]; exact r7
theorem hx_R.law {b : Nat} (hb : hg_rd b) {w v : hg_W} (hR : hx_R b w v) {k : Int} (hk : 0 ≤ k ∧ k < w 1 3) : hx_R b (hg_up w b 13 k) (hg_up v 0 12 k) := by
  have hb2 := hx_rd19 hb
  obtain ⟨r1, r2, r3, r4, r5, r6, r7⟩ := hR
  refine ⟨fun j hj => ?_, fun j hj => ?_, ?_, ?_, ?_, ?_, ?_⟩
  · have h := r1 j hj
    simp (disch := omega) only [hp_up_c]; exact h
  · simp (disch := omega) only [hp_up_c, hp_up_k] at hj ⊢
    exact r2 j hj
  · simp (disch := omega) only [hp_up_k]; exact r3
  · simp (disch := omega) only [hp_up_c, hp_up_k]; exact r4
  · simp (disch := omega) only [hp_up_k]; exact r5
  · simp (disch := omega) only [hp_up_k]; exact r6
  · refine ⟨?_, ?_, ?_⟩ <;> simp (disch := omega) only [hp_up_eq, hp_up_c] <;> omega
theorem hx_R.pr {b : Nat} (hb : hg_rd b) {w v : hg_W} (hR : hx_R b w v) {p : Nat} {d : Int} (hp : p < 6) (hd : 0 ≤ d ∧ d ≤ 99) : hx_R b (hg_up w (b + 5) p d) (hg_up v 3 (3 * p) d) := by
  have hb2 := hx_rd19 hb
  obtain ⟨r1, r2, r3, r4, r5, r6, r7⟩ := hR
  refine ⟨fun j hj => ?_, fun j hj => ?_, ?_, ?_, ?_, ?_, ?_⟩
  · have h := r1 j hj
    by_cases q : j = p
    · subst q
      simp (disch := omega) only [hp_up_eq, hp_up_c, hp_up_k]
      exact ⟨h.1, h.2.1, ⟨hd.1, hd.2, trivial⟩, h.2.2.2⟩
    · simp (disch := omega) only [hp_up_c, hp_up_k]; exact h
  · simp (disch := omega) only [hp_up_c] at hj ⊢
    exact r2 j hj
  · simp (disch := omega) only [hp_up_c]; exact r3
  · simp (disch := omega) only [hp_up_c]; exact r4
  · simp (disch := omega) only [hp_up_c]; exact r5
  · simp (disch := omega) only [hp_up_c]; exact r6
  · simp (disch := omega) only [hp_up_c]; exact r7
theorem hx_V.Sh {w v v' : hg_W} (h : hx_V v v') (hS : hx_Sh w v) : hx_Sh w v' := hS.of (fun _ _ _ => rfl) (fun c _ _ => h.1 c (by omega) (by omega) (by omega) (by omega) (by omega))
/-- the two hats thought of, one place set in both: what each looks like -/
theorem hx_starts1 {w0 v0 w v : hg_W} (h0 : hx_A w0 v0) {s : Nat} (hs : s < 4) (hw : hx_FC 28 w0 w) {t t' : Int} (ht : 0 ≤ t ∧ t < w0 19 9) (hv : hx_V (hg_up v0 0 5 t') v) :
    ∃ (w' v' : hg_W) (r : Int), fX4_otherwise (hg_up (hk_beW w 28 19) 28 11 t) (s : Int) = some (w', r) ∧ fX5_unlike (hg_up v 0 5 t) (s : Int) = some (v', r) ∧ hx_FC 28 w0 w' ∧ hx_V (hg_up v0 0 5 t) v' ∧ (r = -1 ∨ 0 ≤ r ∧ r < 40) := by
  have hA := h0.th (v' := v0) hw hx_V.rf
  have r3 := hA.2.1.2.2.1
  have e9 : w 19 9 = w0 19 9 := by rw [hw 19 (by omega) (by omega)]
  obtain ⟨t1, t2, t3⟩ := hx_thR hA
  have tR := t1.turn hx_r28 (t := t) (by rw [hx_be9 hA.2.1]; omega)
  have tT : hx_T (hg_up (hk_beW w 28 19) 28 11 t) (hg_up v0 0 5 t) := t2.fr hx_r28 (hx_FC.up (by omega)) (hx_FM.up (by omega))
  have tF : hx_FC 28 w0 (hg_up (hk_beW w 28 19) 28 11 t) := hw.tr (t3.tr (hx_FC.up (by omega)))
  have tV := hv.up (b := t)
  have tS : hx_Sh (hg_up (hk_beW w 28 19) 28 11 t) (hg_up v0 0 5 t) := h0.2.2.2.2.of (fun c _ _ => tF c (by omega) (by omega)) (fun c _ _ => hg_up_ne c (by omega))
  obtain ⟨w', v', r, g1, g2, g3, g4, g5⟩ := hx_unl (tV.T tT) (tV.R tR) (tV.Sh tS) hs
  exact ⟨w', v', r, g1, g2, tF.tr g3, tV.tr g4, g5⟩
theorem hx_startsL {w0 v0 : hg_W} (h0 : hx_A w0 v0) {s : Nat} (hs : s < 4) : ∀ (m n1 n2 k : Nat) (w v : hg_W) (x t' : Int), m < n1 → m < n2 → (k : Int) + m = w0 19 9 → hx_FC 28 w0 w → hx_V (hg_up v0 0 5 t') v → hx_c x → hx_ret (fX4_starts_20 n1 w (s : Int) x (k : Int)) (fX5_starts_23 n2 v (s : Int) (v0 0 5) x (k : Int)) := by
  intro m
  induction m with
  | zero =>
    intro n1 n2 k w v x t' h1 h2 hk hw hv hx
    obtain ⟨n1, rfl⟩ : ∃ z, n1 = z + 1 := ⟨n1 - 1, by omega⟩
    obtain ⟨n2, rfl⟩ : ∃ z, n2 = z + 1 := ⟨n2 - 1, by omega⟩
    have r3 := h0.2.1.2.2.1
    have r5 := h0.2.1.2.2.2.2.1
    have e9 : w 19 9 = w0 19 9 := by rw [hw 19 (by omega) (by omega)]
    have e0 : v 0 0 = w0 19 9 := by rw [hv.1 0 (by omega) (by omega) (by omega) (by omega) (by omega), hp_up_k (by omega)]; exact r3.2.2
    have tV := hv.up (b := v0 0 5)
    rw [hx_up_self] at tV
    simp only [fX4_starts_20, fX5_starts_23]
    rw [e9, e0, wr_id (x := w0 19 9) (by omega) (by omega), wr_id (x := (k : Int)) (by omega) (by omega), if_pos (by omega), if_pos (by omega), hp_pt, hp_b, wr_id (x := v0 0 5) (by omega) (by omega)]
    exact ⟨_, _, _, rfl, rfl, h0.th hw tV⟩
  | succ m ih =>
    intro n1 n2 k w v x t' h1 h2 hk hw hv hx
    obtain ⟨n1, rfl⟩ : ∃ z, n1 = z + 1 := ⟨n1 - 1, by omega⟩
    obtain ⟨n2, rfl⟩ : ∃ z, n2 = z + 1 := ⟨n2 - 1, by omega⟩
    have r3 := h0.2.1.2.2.1
    have e9 : w 19 9 = w0 19 9 := by rw [hw 19 (by omega) (by omega)]
    have e0 : v 0 0 = w0 19 9 := by rw [hv.1 0 (by omega) (by omega) (by omega) (by omega) (by omega), hp_up_k (by omega)]; exact r3.2.2
    obtain ⟨w', v', r, g1, g2, g3, g4, g5⟩ := hx_starts1 h0 hs hw (t := (k : Int)) (by omega) hv
    have wk : wr (k : Int) = (k : Int) := wr_id (by omega) (by omega)
    have wrr : wr r = r := wr_id (by omega) (by omega)
    simp only [fX4_starts_20, fX5_starts_23]
    rw [e9, e0, wr_id (x := w0 19 9) (by omega) (by omega), wk, if_neg (by omega), if_neg (by omega), hx_become28, hp_bd, hp_pt, hp_b, hp_pt, hp_b, wk, g1, g2, hp_bd, hp_bd, wrr, hx_wr01.2.2]
    unfold fX4_starts_67 fX5_starts_57
    rw [show (k : Int) + 1 = ((k + 1 : Nat) : Int) by omega]
    by_cases q : r = -1
    · rw [if_neg (by omega), if_pos q]
      exact ih n1 n2 (k + 1) w' v' _ _ (by omega) (by omega) (by omega) g3 g4 hx_orc
    · rw [if_pos (by omega), if_neg q, hx_or0, wr_id (x := x) hx.1 hx.2]
      exact ih n1 n2 (k + 1) w' v' _ _ (by omega) (by omega) (by omega) g3 g4 hx
theorem hc_starts {w v : hg_W} (h : hx_A w v) {a : Int} (ha : hx_c a) : hx_ret (fX4_starts w a) (fX5_starts v a) := by
  obtain ⟨z, g1, g2, g3, g4⟩ := hx_wrong h ha
  unfold fX4_starts fX5_starts
  rw [g1, g2, hp_bd, hp_bd, g3]
  by_cases q : z = 0
  · rw [if_pos q, if_pos q]
    obtain ⟨a0, a4, -⟩ := g4 q
    obtain ⟨s, rfl⟩ : ∃ s : Nat, a = (s : Int) := ⟨a.toNat, by omega⟩
    have r3 := h.2.1.2.2.1
    exact hx_startsL h (s := s) (by omega) (w 19 9).toNat hg_F hg_F 0 w v 0 (v 0 5) (by unfold hg_F; omega) (by unfold hg_F; omega) (by omega) hx_FC.rf (by rw [hx_up_self]; exact hx_V.rf) (by unfold hx_c; omega)
  · rw [if_neg q, if_neg q]
    exact hx_ret.c h
theorem hx_laws1 {w0 v0 w v : hg_W} (h0 : hx_A w0 v0) {s : Nat} (hs : s < 4) (hw : hx_FC 28 w0 w) {t t' : Int} (ht : 0 ≤ t ∧ t < w0 1 3) (hv : hx_V (hg_up v0 0 12 t') v) :
    ∃ (w' v' : hg_W) (r : Int), fX4_otherwise (hg_up (hk_beW w 28 19) 28 13 t) (s : Int) = some (w', r) ∧ fX5_unlike (hg_up v 0 12 t) (s : Int) = some (v', r) ∧ hx_FC 28 w0 w' ∧ hx_V (hg_up v0 0 12 t) v' ∧ (r = -1 ∨ 0 ≤ r ∧ r < 40) := by
  have hA := h0.th (v' := v0) hw hx_V.rf
  obtain ⟨t1, t2, t3⟩ := hx_thR hA
  have e1 : hk_beW w 28 19 1 3 = w0 1 3 := by rw [t3 1 (by omega) (by omega), hw 1 (by omega) (by omega)]
  have tR := t1.law hx_r28 (k := t) (by omega)
  have tT : hx_T (hg_up (hk_beW w 28 19) 28 13 t) (hg_up v0 0 12 t) := t2.of (fun c _ _ => hg_up_ne c (by omega)) (hp_up_k (by omega)) (hg_up_ne _ (by omega)) (hg_up_ne _ (by omega))
  have tF : hx_FC 28 w0 (hg_up (hk_beW w 28 19) 28 13 t) := hw.tr (t3.tr (hx_FC.up (by omega)))
  have tV := hv.up (b := t)
  have tS : hx_Sh (hg_up (hk_beW w 28 19) 28 13 t) (hg_up v0 0 12 t) := h0.2.2.2.2.of (fun c _ _ => tF c (by omega) (by omega)) (fun c _ _ => hg_up_ne c (by omega))
  obtain ⟨w', v', r, g1, g2, g3, g4, g5⟩ := hx_unl (tV.T tT) (tV.R tR) (tV.Sh tS) hs
  exact ⟨w', v', r, g1, g2, tF.tr g3, tV.tr g4, g5⟩
theorem hx_lawsL {w0 v0 : hg_W} (h0 : hx_A w0 v0) {s : Nat} (hs : s < 4) : ∀ (m n1 n2 k : Nat) (w v : hg_W) (x t' : Int), m < n1 → m < n2 → (k : Int) + m = w0 1 3 → hx_FC 28 w0 w → hx_V (hg_up v0 0 12 t') v → hx_c x → hx_ret (fX4_laws_20 n1 w (s : Int) x (k : Int)) (fX5_laws_23 n2 v (s : Int) (v0 0 12) x (k : Int)) := by
  intro m
  induction m with
  | zero =>
    intro n1 n2 k w v x t' h1 h2 hk hw hv hx
    obtain ⟨n1, rfl⟩ : ∃ z, n1 = z + 1 := ⟨n1 - 1, by omega⟩
    obtain ⟨n2, rfl⟩ : ∃ z, n2 = z + 1 := ⟨n2 - 1, by omega⟩
    have r3 := h0.1.1
    have r5 := h0.2.1.2.2.2.2.2.2
    have e9 : w 1 3 = w0 1 3 := by rw [hw 1 (by omega) (by omega)]
    have e0 : v 0 11 = w0 1 3 := by rw [hv.1 0 (by omega) (by omega) (by omega) (by omega) (by omega), hp_up_k (by omega)]; exact r3.2.2
    have tV := hv.up (b := v0 0 12)
    rw [hx_up_self] at tV
    simp only [fX4_laws_20, fX5_laws_23]
    rw [e9, e0, wr_id (x := w0 1 3) (by omega) (by omega), wr_id (x := (k : Int)) (by omega) (by omega), if_pos (by omega), if_pos (by omega), hp_pt, hp_b, wr_id (x := v0 0 12) (by omega) (by omega)]
    exact ⟨_, _, _, rfl, rfl, h0.th hw tV⟩
  | succ m ih =>
    intro n1 n2 k w v x t' h1 h2 hk hw hv hx
    obtain ⟨n1, rfl⟩ : ∃ z, n1 = z + 1 := ⟨n1 - 1, by omega⟩
    obtain ⟨n2, rfl⟩ : ∃ z, n2 = z + 1 := ⟨n2 - 1, by omega⟩
    have r3 := h0.1.1
    have e9 : w 1 3 = w0 1 3 := by rw [hw 1 (by omega) (by omega)]
    have e0 : v 0 11 = w0 1 3 := by rw [hv.1 0 (by omega) (by omega) (by omega) (by omega) (by omega), hp_up_k (by omega)]; exact r3.2.2
    obtain ⟨w', v', r, g1, g2, g3, g4, g5⟩ := hx_laws1 h0 hs hw (t := (k : Int)) (by omega) hv
    have wk : wr (k : Int) = (k : Int) := wr_id (by omega) (by omega)
    have wrr : wr r = r := wr_id (by omega) (by omega)
    simp only [fX4_laws_20, fX5_laws_23]
    rw [e9, e0, wr_id (x := w0 1 3) (by omega) (by omega), wk, if_neg (by omega), if_neg (by omega), hx_become28, hp_bd, hp_pt, hp_b, hp_pt, hp_b, wk, g1, g2, hp_bd, hp_bd, wrr, hx_wr01.2.2]
    unfold fX4_laws_67 fX5_laws_57
    rw [show (k : Int) + 1 = ((k + 1 : Nat) : Int) by omega]
    by_cases q : r = -1
    · rw [if_neg (by omega), if_pos q]
      exact ih n1 n2 (k + 1) w' v' _ _ (by omega) (by omega) (by omega) g3 g4 hx_orc
    · rw [if_pos (by omega), if_neg q, hx_or0, wr_id (x := x) hx.1 hx.2]
      exact ih n1 n2 (k + 1) w' v' _ _ (by omega) (by omega) (by omega) g3 g4 hx
theorem hc_laws {w v : hg_W} (h : hx_A w v) {a : Int} (ha : hx_c a) : hx_ret (fX4_laws w a) (fX5_laws v a) := by
  obtain ⟨z, g1, g2, g3, g4⟩ := hx_wrong h ha
  unfold fX4_laws fX5_laws
  rw [g1, g2, hp_bd, hp_bd, g3]
  by_cases q : z = 0
  · rw [if_pos q, if_pos q]
    obtain ⟨a0, a4, -⟩ := g4 q
    obtain ⟨s, rfl⟩ : ∃ s : Nat, a = (s : Int) := ⟨a.toNat, by omega⟩
    have r3 := h.1.1
    exact hx_lawsL h (s := s) (by omega) (w 1 3).toNat hg_F hg_F 0 w v 0 (v 0 12) (by unfold hg_F; omega) (by unfold hg_F; omega) (by omega) hx_FC.rf (by rw [hx_up_self]; exact hx_V.rf) (by unfold hx_c; omega)
  · rw [if_neg q, if_neg q]
    exact hx_ret.c h
theorem hx_kinds1 {w0 v0 w v : hg_W} (h0 : hx_A w0 v0) {s : Nat} (hs : s < 4) (hw : hx_FC 28 w0 w) {p : Nat} {a b a' b' : Int} (ha : 0 ≤ a ∧ a ≤ 5) (hb : 0 ≤ b ∧ b ≤ 9) (hv : hx_V (hg_up (hg_up v0 1 p a') 2 p b') v) :
    ∃ (w' v' : hg_W) (r : Int), fX4_otherwise (hg_up (hg_up (hk_beW w 28 19) 31 p a) 32 p b) (s : Int) = some (w', r) ∧ fX5_unlike (hg_up (hg_up v 1 p a) 2 p b) (s : Int) = some (v', r) ∧ hx_FC 28 w0 w' ∧ hx_V (hg_up (hg_up v0 1 p a) 2 p b) v' ∧ (r = -1 ∨ 0 ≤ r ∧ r < 40) := by
  have hA := h0.th (v' := v0) hw hx_V.rf
  obtain ⟨t1, t2, t3⟩ := hx_thR hA
  have tR := t1.km hx_r28 (p := p) ha hb
  have tF : hx_FC 28 w0 (hg_up (hg_up (hk_beW w 28 19) 31 p a) 32 p b) := hw.tr (t3.tr ((hx_FC.up (by omega)).tr (hx_FC.up (by omega))))
  have tT : hx_T (hg_up (hg_up (hk_beW w 28 19) 31 p a) 32 p b) (hg_up (hg_up v0 1 p a) 2 p b) := h0.1.of (fun c _ _ => tF c (by omega) (by omega)) (by rw [hg_up_ne _ (by omega), hg_up_ne _ (by omega)]) (by rw [hg_up_ne _ (by omega), hg_up_ne _ (by omega)]) (by rw [hg_up_ne _ (by omega), hg_up_ne _ (by omega)])
  have tV : hx_V (hg_up (hg_up v0 1 p a) 2 p b) (hg_up (hg_up v 1 p a) 2 p b) := by
    rw [hx_up_comm (by omega)] at hv
    have h1 := hv.up (b := a)
    rw [hx_up_comm (by omega)] at h1
    exact h1.up
  have tS : hx_Sh (hg_up (hg_up (hk_beW w 28 19) 31 p a) 32 p b) (hg_up (hg_up v0 1 p a) 2 p b) := h0.2.2.2.2.of (fun c _ _ => tF c (by omega) (by omega)) (fun c _ _ => by rw [hg_up_ne _ (by omega), hg_up_ne _ (by omega)])
  obtain ⟨w', v', r, g1, g2, g3, g4, g5⟩ := hx_unl (tV.T tT) (tV.R tR) (tV.Sh tS) hs
  exact ⟨w', v', r, g1, g2, tF.tr g3, tV.tr g4, g5⟩
theorem hx_kindsL {w0 v0 : hg_W} (h0 : hx_A w0 v0) {s p N : Nat} (hs : s < 4) (hp : (p : Int) < w0 19 9) {a : Int} (ha : a = 0 ∧ N = 6 ∨ a = 1 ∧ N = 10) : ∀ (m n1 n2 k : Nat) (w v : hg_W) (x a' b' : Int), m < n1 → m < n2 → k + m = N → hx_FC 28 w0 w → hx_V (hg_up (hg_up v0 1 p a') 2 p b') v → hx_c x → hx_ret (fX4_kinds_27 n1 w (s : Int) (p : Int) a x (k : Int)) (fX5_kinds_60 n2 v (s : Int) (p : Int) a (v0 1 p) (v0 2 p) x (k : Int)) := by
  have r3 := h0.2.1.2.2.1
  have hp6 : p < 6 := by omega
  have tp : (p : Int).toNat = p := by omega
  obtain ⟨kk, km⟩ := h0.2.1.2.1 p hp
  intro m
  induction m with
  | zero =>
    intro n1 n2 k w v x a' b' h1 h2 hk hw hv hx
    obtain ⟨n1, rfl⟩ : ∃ z, n1 = z + 1 := ⟨n1 - 1, by omega⟩
    obtain ⟨n2, rfl⟩ : ∃ z, n2 = z + 1 := ⟨n2 - 1, by omega⟩
    have wk : wr (k : Int) = (k : Int) := wr_id (by omega) (by omega)
    have wN : wr (N : Int) = (N : Int) := wr_id (by omega) (by omega)
    have tV : hx_V v0 (hg_up (hg_up v 1 p (v0 1 p)) 2 p (v0 2 p)) := by
      rw [hx_up_comm (by omega)] at hv
      have h1 := hv.up (b := v0 1 p)
      rw [hx_up_comm (by omega)] at h1
      have h2 := h1.up (b := v0 2 p)
      rw [hx_up_self, hx_up_self] at h2
      exact h2
    have fin : hx_ret (fX4_kinds_40 (fX4_kinds_27 n1) w (s : Int) (p : Int) a x (k : Int) (k : Int) (N : Int)) (fX5_kinds_73 (fX5_kinds_60 n2) v (s : Int) (p : Int) a (v0 1 p) (v0 2 p) x (k : Int) (k : Int) (N : Int)) := by
      unfold fX4_kinds_40 fX5_kinds_73
      rw [wk, wN, if_pos (by omega), if_pos (by omega), as_m1 (by omega) (by omega), hp_b, as_m2 (by omega) (by omega), hp_b, tp, wr_id (x := v0 1 p) (by omega) (by omega), wr_id (x := v0 2 p) (by omega) (by omega)]
      exact ⟨_, _, _, rfl, rfl, h0.th hw tV⟩
    simp only [fX4_kinds_27, fX5_kinds_60]
    rcases ha with ⟨rfl, rfl⟩ | ⟨rfl, rfl⟩
    · rw [hx_wr01.1, if_pos rfl, if_pos rfl]; exact fin
    · rw [hx_wr01.2.1, if_neg (by omega), if_neg (by omega)]; exact fin
  | succ m ih =>
    intro n1 n2 k w v x a' b' h1 h2 hk hw hv hx
    obtain ⟨n1, rfl⟩ : ∃ z, n1 = z + 1 := ⟨n1 - 1, by omega⟩
    obtain ⟨n2, rfl⟩ : ∃ z, n2 = z + 1 := ⟨n2 - 1, by omega⟩
    have wk : wr (k : Int) = (k : Int) := wr_id (by omega) (by omega)
    have step : ∀ (x1 x2 : Int), 0 ≤ x1 ∧ x1 ≤ 5 → 0 ≤ x2 ∧ x2 ≤ 9 → hx_ret (fX4_kinds_83 (fX4_kinds_27 n1) (hg_up (hg_up (hk_beW w 28 19) 31 p x1) 32 p x2) (s : Int) (p : Int) a x (k : Int)) (hg_bd (fX5_unlike (hg_up (hg_up v 1 p x1) 2 p x2) (s : Int)) fun w3 v4 => if wr v4 = wr (-1) then fX5_kinds_130 (fX5_kinds_60 n2) w3 (s : Int) (p : Int) a (v0 1 p) (v0 2 p) (k : Int) x (hg_shl 1 (k : Int)) else fX5_kinds_130 (fX5_kinds_60 n2) w3 (s : Int) (p : Int) a (v0 1 p) (v0 2 p) (k : Int) x 0) := by
      intro x1 x2 hx1 hx2
      obtain ⟨w', v', r, g1, g2, g3, g4, g5⟩ := hx_kinds1 h0 hs hw hx1 hx2 hv
      have wrr : wr r = r := wr_id (by omega) (by omega)
      unfold fX4_kinds_83
      rw [g1, g2, hp_bd, hp_bd, wrr, hx_wr01.2.2]
      unfold fX4_kinds_100 fX5_kinds_130
      rw [show (k : Int) + 1 = ((k + 1 : Nat) : Int) by omega]
      by_cases q : r = -1
      · rw [if_neg (by omega), if_pos q]
        exact ih n1 n2 (k + 1) w' v' _ _ _ (by omega) (by omega) (by omega) g3 g4 hx_orc
      · rw [if_pos (by omega), if_neg q, hx_or0, wr_id (x := x) hx.1 hx.2]
        exact ih n1 n2 (k + 1) w' v' _ _ _ (by omega) (by omega) (by omega) g3 g4 hx
    have hA := h0.th (v' := v0) hw hx_V.rf
    obtain ⟨t1, t2, t3⟩ := hx_thR hA
    have b9 : hk_beW w 28 19 28 9 = w0 19 9 := by rw [hx_be9 hA.2.1, hw 19 (by omega) (by omega)]
    obtain ⟨ck, cm⟩ := t1.2.1 p (by omega)
    simp only [fX4_kinds_27, fX5_kinds_60]
    unfold fX4_kinds_40 fX5_kinds_73 fX5_kinds_92 fX5_kinds_110
    rcases ha with ⟨rfl, rfl⟩ | ⟨rfl, rfl⟩
    · have st := step (k : Int) (v0 2 p) (by omega) (by omega)
      have e32 : hg_up (hg_up (hk_beW w 28 19) 31 p (k : Int)) 32 p (v0 2 p) = hg_up (hk_beW w 28 19) 31 p (k : Int) := by
        have e : v0 2 p = hg_up (hk_beW w 28 19) 31 p (k : Int) 32 p := by rw [hp_up_c (by omega)]; exact cm.2.2
        rw [e]; exact hx_up_self
      rw [e32] at st
      rw [hx_wr01.1, hx_wr01.2.1, if_pos rfl, if_pos rfl, wk, wr_id (x := 6) (by omega) (by omega), if_neg (by omega), if_neg (by omega), hx_become28, hp_bd, if_pos rfl, if_pos rfl, show (31 : Nat) = 28 + 3 from rfl, as_r3 hx_r28 (by omega) (by omega), hp_b, as_m1 (by omega) (by omega), hp_b, if_neg (show ¬ (0 : Int) = 1 by omega), as_m2 (by omega) (by omega), hp_b, tp, wk, wr_id (x := v0 2 p) (by omega) (by omega)]
      exact st
    · have st := step (v0 1 p) (k : Int) (by omega) (by omega)
      have e31 : hg_up (hg_up (hk_beW w 28 19) 31 p (v0 1 p)) 32 p (k : Int) = hg_up (hk_beW w 28 19) 32 p (k : Int) := by
        have e : v0 1 p = hk_beW w 28 19 31 p := ck.2.2
        rw [e, hx_up_self]
      rw [e31] at st
      rw [hx_wr01.2.1, wk, wr_id (x := 10) (by omega) (by omega)]
      simp only [if_neg (show ¬ (1 : Int) = 0 by omega), if_neg (show ¬ (10 : Int) ≤ (k : Int) by omega), if_pos (show (1 : Int) = 1 from rfl)]
      rw [hx_become28, hp_bd, show (32 : Nat) = 28 + 4 from rfl, as_r4 hx_r28 (by omega) (by omega), hp_b, as_m1 (by omega) (by omega), hp_b, as_m2 (by omega) (by omega), hp_b, tp, wk, wr_id (x := v0 1 p) (by omega) (by omega)]
      exact st
theorem hx_one {w : hg_W} {a z b x : Int} (hz : fX1_refusalToTell w a = some (w, z)) (hzz : wr z = z) (hx : hx_c x) {P : Prop} [Decidable P] (hb : b = if P then 1 else 0) : fX4_refusalOfOne w a b x = some (w, if z = 0 then (if P then (if 0 ≤ x ∧ x ≤ 1 then 0 else -7) else -5) else z) := by
  unfold hx_c at hx
  subst hb
  unfold fX4_refusalOfOne fX4_refusalOfOne_34
  rw [hz, hp_bd, hzz, hx_bif, wr_id (x := x) hx.1 hx.2, hx_wr01.1, hx_wr01.2.1, wr_id (x := -5) (by omega) (by omega), wr_id (x := -7) (by omega) (by omega)]
  by_cases q : z = 0
  · rw [if_pos q, if_pos q]
    by_cases q1 : P
    · rw [if_pos q1, if_pos q1]
      by_cases q2 : x < 0
      · rw [if_pos q2, if_neg (by omega)]
      · rw [if_neg q2]
        by_cases q3 : x ≤ 1
        · rw [if_pos q3, if_pos (by omega)]
        · rw [if_neg q3, if_neg (by omega)]
    · rw [if_neg q1, if_neg q1]
  · rw [if_neg q, if_neg q]
theorem hc_kinds {w v : hg_W} (h : hx_A w v) {a y x : Int} (ha : hx_c a) (hy : hx_c y) (hx : hx_c x) : hx_ret (fX4_kinds w a y x) (fX5_kinds v a y x) := by
  obtain ⟨z, g1, g2, g3, g4⟩ := hx_wrong h ha
  obtain ⟨hT, hR, hTp, hIm, hSh⟩ := id h
  have r3 := hR.2.2.1
  have w5 : wr (-5) = -5 := wr_id (by omega) (by omega)
  have w7 : wr (-7) = -7 := wr_id (by omega) (by omega)
  unfold fX4_kinds fX5_kinds
  rw [hx_isThere hy ⟨r3.1, r3.2.1⟩, hp_bd, hx_one g1 g3 hx rfl, hp_bd, g2, hp_bd, g3, hx_isOne hR hy, hp_bd, hx_bif, hx_in hx (by unfold hx_c; omega) (by unfold hx_c; omega), hp_bd, hx_bif, w5, w7]
  by_cases q : z = 0
  · rw [if_pos q, if_pos q]
    by_cases q1 : 0 ≤ y ∧ y < w 19 9
    · rw [if_pos q1, if_pos q1]
      by_cases q2 : 0 ≤ x ∧ x ≤ 1
      · rw [if_pos q2, if_pos q2, hx_wr01.1, if_pos rfl]
        obtain ⟨a0, a4, -⟩ := g4 q
        obtain ⟨s, rfl⟩ : ∃ s : Nat, a = (s : Int) := ⟨a.toNat, by omega⟩
        obtain ⟨p, rfl⟩ : ∃ p : Nat, y = (p : Int) := ⟨y.toNat, by omega⟩
        rw [ag_m1 (by omega) (by omega), hp_b, ag_m2 (by omega) (by omega), hp_b, show (p : Int).toNat = p by omega]
        have hself : hx_V (hg_up (hg_up v 1 p (v 1 p)) 2 p (v 2 p)) v := by
          rw [hx_up_self, hx_up_self]; exact hx_V.rf
        rcases (by omega : x = 0 ∨ x = 1) with rfl | rfl
        · exact hx_kindsL h (s := s) (p := p) (N := 6) (by omega) (by omega) (Or.inl ⟨rfl, rfl⟩) 6 hg_F hg_F 0 w v 0 _ _ (by unfold hg_F; omega) (by unfold hg_F; omega) (by omega) hx_FC.rf hself (by unfold hx_c; omega)
        · exact hx_kindsL h (s := s) (p := p) (N := 10) (by omega) (by omega) (Or.inr ⟨rfl, rfl⟩) 10 hg_F hg_F 0 w v 0 _ _ (by unfold hg_F; omega) (by unfold hg_F; omega) (by omega) hx_FC.rf hself (by unfold hx_c; omega)
      · rw [if_neg q2, if_neg q2, w7, if_neg (by omega)]; exact hx_ret.c h
    · rw [if_neg q1, if_neg q1, w5, if_neg (by omega)]; exact hx_ret.c h
  · rw [if_neg q, if_neg q, g3, if_neg q]; exact hx_ret.c h
