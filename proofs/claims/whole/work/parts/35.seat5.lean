/-! ===== seating: what one order gives, on both sides ===== -/
def hz_good (n : Nat) (L : List Nat) : Prop := L.length = n ∧ ∀ k, k < n → hz_g L k < n
def hz_f (f : List Nat → Int) : List (List Nat) → Int → Int → Int × Int
  | [], b, l => (b, l)
  | L :: r, b, l => if b = -1 ∨ f L < l then hz_f f r (hz_num L 0) (f L) else hz_f f r b l
def hz_C (w0 w : hg_W) : Prop := ∀ c, c ≠ 16 → c ≠ 55 → (c < 28 ∨ 36 < c) → w c = w0 c
def hz_V (v0 u v : hg_W) : Prop := (∀ c, c ≠ 0 → c ≠ 3 → c ≠ 4 → c ≠ 16 → c ≠ 17 → c ≠ 18 → c ≠ 19 → v c = v0 c) ∧ (∀ k, k ≠ 33 → v 0 k = v0 0 k) ∧ (∀ j, j < 18 → v 3 j = v0 3 j) ∧ (∀ j, j < 12 → v 4 j = v0 4 j) ∧ v 18 = u 18
theorem hz_R {w0 v0 u w v : hg_W} (h : hx_A w0 v0) (hw : hz_C w0 w) (hv : hz_V v0 u v) : hx_R 19 w v ∧ hx_T w v := by
  obtain ⟨h1, h2, h3, h4, -⟩ := hv
  have hR1 : hx_R 19 w v0 := h.2.1.of (hw _ (by omega) (by omega) (by omega)) (hw _ (by omega) (by omega) (by omega)) (hw _ (by omega) (by omega) (by omega)) (hw _ (by omega) (by omega) (by omega)) (hw _ (by omega) (by omega) (by omega)) (hw _ (by omega) (by omega) (by omega)) (hw _ (by omega) (by omega) (by omega)) (hw _ (by omega) (by omega) (by omega)) (by rw [hw 1 (by omega) (by omega) (by omega)]) rfl rfl rfl rfl rfl
  obtain ⟨r1, r2, r3, r4, r5, r6, r7⟩ := hR1
  refine ⟨⟨fun k hk => ?_, fun k hk => ?_, by rw [h2 0 (by omega)]; exact r3, r4, by rw [h2 5 (by omega)]; exact r5, by rw [h2 6 (by omega)]; exact r6, by rw [h2 12 (by omega)]; exact r7⟩, ?_⟩
  · rw [h3 (3 * k) (by omega), h3 (3 * k + 1) (by omega), h3 (3 * k + 2) (by omega), h4 (2 * k) (by omega), h4 (2 * k + 1) (by omega)]
    exact r1 k hk
  · rw [h1 1 (by omega) (by omega) (by omega) (by omega) (by omega) (by omega) (by omega), h1 2 (by omega) (by omega) (by omega) (by omega) (by omega) (by omega) (by omega)]
    exact r2 k hk
  · exact h.1.of (fun c q1 q2 => hw c (by omega) (by omega) (by omega)) (h2 11 (by omega)) (h1 6 (by omega) (by omega) (by omega) (by omega) (by omega) (by omega) (by omega)) (h1 7 (by omega) (by omega) (by omega) (by omega) (by omega) (by omega) (by omega))
theorem hz_pair {w0 v0 u w v : hg_W} {n : Nat} {L : List Nat} (h : hx_A w0 v0) (h9 : w0 19 9 = (n : Int)) (hn : 1 ≤ n ∧ n ≤ 6) (hL : hz_good n L) (hw : hz_C w0 w) (hv : hz_V v0 u v) (o1 : ∀ k, k < n → w 55 k = (hz_g L k : Int)) (o2 : ∀ k, k < n → v 19 k = (hz_g L k : Int)) :
    ∃ (w' v' : hg_W) (d : Int), fX4_differByOrder w = some (w', d) ∧ fX5_differBy v = some (v', d) ∧ hz_C w0 w' ∧ w' 55 = w 55 ∧ hx_FM v v' ∧ 0 ≤ d ∧ d ≤ 9999 := by
  obtain ⟨hR, hT⟩ := hz_R h hw hv
  have tR : hx_R 28 (hk_beW w 28 19) v := hk_beR hx_r28 hT.1.2.1 hR
  have tF : hx_FC 28 w (hk_beW w 28 19) := hk_beFC
  have tT : hx_T (hk_beW w 28 19) v := hT.fr hx_r28 tF hx_FM.rf
  have e9 : hk_beW w 28 19 28 9 = (n : Int) := by
    have e1 := tR.2.2.1.2.2
    have e2 := hR.2.2.1.2.2
    have e3 : w 19 9 = w0 19 9 := by rw [hw 19 (by omega) (by omega) (by omega)]
    omega
  have hcs := hx_cs_eq tR
  obtain ⟨w', v', d, g1, g2, g3, g4, g5, g6⟩ := hz_go (o := hz_g L) (hk_beW w 28 19 28 10).toNat hg_F hg_F 0 (hk_beW w 28 19) v 0 (by unfold hg_F; omega) (by unfold hg_F; omega) (by omega) (by omega) (by omega) tT tR (by omega) (fun k hk => by
    have hk2 : k < n := by omega
    have := hL.2 k hk2
    rw [tF 55 (by omega) (by omega)]
    exact ⟨o1 k hk2, o2 k hk2, by omega⟩)
  have g1' : fX4_differByOrder w = some (w', d) := by
    unfold fX4_differByOrder
    rw [hx_become28, hp_bd]
    exact g1
  refine ⟨w', v', d, g1', g2, fun c q1 q2 q3 => ?_, ?_, g4, g5, g6⟩
  · rw [g3 c q1 (by omega), tF c q1 (by omega), hw c q1 q2 q3]
  · rw [g3 55 (by omega) (by omega), tF 55 (by omega) (by omega)]
theorem hz_D {w0 v0 u : hg_W} {n : Nat} (h : hx_A w0 v0) (h9 : w0 19 9 = (n : Int)) (hn : 1 ≤ n ∧ n ≤ 6) (hu : ∀ c, c ≠ 18 → u c = v0 c) :
    ∃ f : List Nat → Int, ∀ L, hz_good n L → (0 ≤ f L ∧ f L ≤ 9999) ∧ (∀ w, hz_C w0 w → (∀ k, k < n → w 55 k = (hz_g L k : Int)) → ∃ w', fX4_differByOrder w = some (w', f L) ∧ hz_C w0 w' ∧ w' 55 = w 55) ∧ (∀ v, hz_V v0 u v → (∀ k, k < n → v 19 k = (hz_g L k : Int)) → ∃ v', fX5_differBy v = some (v', f L) ∧ hx_FM v v') := by
  refine ⟨fun L => ((fX4_differByOrder (fun c k => if c = 55 then (hz_g L k : Int) else w0 c k)).map Prod.snd).getD 0, fun L hL => ?_⟩
  have cw : hz_C w0 (fun c k => if c = 55 then (hz_g L k : Int) else w0 c k) := fun c h1 h2 h3 => by
    funext k
    exact if_neg h2
  have cv : hz_V v0 u (fun c k => if c = 19 then (hz_g L k : Int) else u c k) := by
    refine ⟨fun c q0 q3 q4 q16 q17 q18 q19 => ?_, fun k hk => ?_, fun j hj => ?_, fun j hj => ?_, ?_⟩
    · funext k
      exact (if_neg q19).trans (by rw [hu c q18])
    · exact (if_neg (by omega)).trans (by rw [hu 0 (by omega)])
    · exact (if_neg (by omega)).trans (by rw [hu 3 (by omega)])
    · exact (if_neg (by omega)).trans (by rw [hu 4 (by omega)])
    · funext k
      exact if_neg (by omega)
  obtain ⟨wc, vc, d, g1, g2, g3, g4, g5, g6, g7⟩ := hz_pair h h9 hn hL cw cv (fun k _ => if_pos rfl) (fun k _ => if_pos rfl)
  have e : ((fX4_differByOrder (fun c k => if c = 55 then (hz_g L k : Int) else w0 c k)).map Prod.snd).getD 0 = d := by rw [g1]; rfl
  simp only [e]
  refine ⟨⟨g6, g7⟩, fun w hw ho => ?_, fun v hv ho => ?_⟩
  · obtain ⟨w', v', d', l1, l2, l3, l4, l5, l6, l7⟩ := hz_pair h h9 hn hL hw cv ho (fun k _ => if_pos rfl)
    rw [g2] at l2
    injection l2 with l2
    injection l2 with _ l2
    subst l2
    exact ⟨w', l1, l3, l4⟩
  · obtain ⟨w', v', d', l1, l2, l3, l4, l5, l6, l7⟩ := hz_pair h h9 hn hL cw hv (fun k _ => if_pos rfl) ho
    rw [g1] at l1
    injection l1 with l1
    injection l1 with _ l1
    subst l1
    exact ⟨v', l2, l5⟩
/-! the class's fold -/
theorem hz_dig {n : Nat} (hn : n ≤ 6) {w : hg_W} (h9 : w 19 9 = (n : Int)) : ∀ (l : List Nat) (f i a : Nat), l.length < f → i + l.length = n → a < 10 ^ i → (∀ k, k < l.length → w 55 (i + k) = (hz_g l k : Int) ∧ hz_g l k < 6) → fX4_digitsOfOrder_4 f w (a : Int) (i : Int) = some (w, (hz_num l a : Int)) ∧ hz_num l a < 10 ^ n := by
  intro l
  induction l with
  | nil =>
    intro f i a h1 h2 h3 h4
    obtain ⟨f, rfl⟩ : ∃ z, f = z + 1 := ⟨f - 1, by have := h1; omega⟩
    have h2' : i = n := h2
    subst h2'
    have p1 : 10 ^ i ≤ 10 ^ 6 := Nat.pow_le_pow_right (by omega) hn
    refine ⟨?_, h3⟩
    simp only [fX4_digitsOfOrder_4, hz_num]
    rw [h9, if_pos (Int.le_refl _), wr_id (by omega) (by omega)]
  | cons d l ih =>
    intro f i a h1 h2 h3 h4
    rw [List.length_cons] at h1 h2
    obtain ⟨f, rfl⟩ : ∃ z, f = z + 1 := ⟨f - 1, by omega⟩
    obtain ⟨e1, e2⟩ := h4 0 (by rw [List.length_cons]; omega)
    have e1' : w 55 i = (d : Int) := e1
    have e2' : d < 6 := e2
    have p1 : 10 ^ i ≤ 10 ^ 5 := Nat.pow_le_pow_right (by omega) (by omega)
    have p2 : 10 ^ (i + 1) = 10 ^ i * 10 := rfl
    simp only [fX4_digitsOfOrder_4, hz_num]
    rw [h9, wr_id (x := (n : Int)) (by omega) (by omega), wr_id (x := (i : Int)) (by omega) (by omega), if_neg (by omega), ag_h55 (by omega) (by omega), hp_b, show (i : Int).toNat = i by omega, e1', show (a : Int) * 10 + (d : Int) + 1 = ((10 * a + d + 1 : Nat) : Int) by omega, show (i : Int) + 1 = ((i + 1 : Nat) : Int) by omega]
    exact ih f (i + 1) (10 * a + d + 1) (by omega) (by omega) (by omega) (fun k hk => by
      rw [show i + 1 + k = i + (k + 1) by omega]
      exact h4 (k + 1) (by rw [List.length_cons]; omega))
theorem hz_stop {f : List Nat → Int} : ∀ (r : List (List Nat)) (b l : Int), b ≠ -1 → l ≤ 0 → (∀ L, L ∈ r → 0 ≤ f L) → hz_f f r b l = (b, l) := by
  intro r
  induction r with
  | nil => intro b l _ _ _; rfl
  | cons L r ih =>
    intro b l hb hl hf
    have := hf L (List.mem_cons_self ..)
    unfold hz_f
    rw [if_neg (by omega)]
    exact ih b l hb hl (fun L' h' => hf L' (List.mem_cons_of_mem _ h'))
