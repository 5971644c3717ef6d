/-! ===== seating: the loops ===== -/
def hz_res (a : Int) (x : Int × Int) : Int := if a = 0 then x.1 else x.2
theorem hz_106 {w : hg_W} {a l b : Int} (ha : a = 0 ∨ a = 1) (hl : hx_c l) (hb : hx_c b) : fX4_seating_106 w a l b = some (w, hz_res a (b, l)) := by
  unfold fX4_seating_106 hz_res
  rw [wr_id (x := l) hl.1 hl.2, wr_id (x := b) hb.1 hb.2]
  rcases ha with rfl | rfl
  · rw [hx_wr01.1, if_pos rfl, if_pos rfl]
  · rw [hx_wr01.2.1, if_neg (by omega), if_neg (by omega)]
theorem hz_cl {w0 : hg_W} {n : Nat} {a : Int} (ha : a = 0 ∨ a = 1) (h9 : w0 19 9 = (n : Int)) (hn : 1 ≤ n ∧ n ≤ 6) {f : List Nat → Int} (hf : ∀ L, hz_good n L → (0 ≤ f L ∧ f L ≤ 9999) ∧ ∀ w, hz_C w0 w → (∀ k, k < n → w 55 k = (hz_g L k : Int)) → ∃ w', fX4_differByOrder w = some (w', f L) ∧ hz_C w0 w' ∧ w' 55 = w 55) :
    ∀ (r : List (List Nat)) (L : List Nat) (N i : Nat) (w : hg_W) (b l : Int), r.length + 1 < N → i + (r.length + 1) ≤ 720 → hz_chain n (L :: r) = true → (∀ L', L' ∈ L :: r → hz_good n L') → hz_C w0 w → (∀ k, k < n → w 55 k = (hz_g L k : Int)) → 0 ≤ l → l ≤ 10000 → 0 ≤ b → b ≤ 1000000 →
    ∃ w', fX4_seating_57 N w a l b 1 (i : Int) = some (w', hz_res a (hz_f f (L :: r) b l)) ∧ hz_C w0 w' := by
  intro r
  induction r with
  | nil =>
    intro L N i w b l hN hi hch hgd hw ho hl1 hl2 hb1 hb2
    have hi' : i < 720 := by have := hi; simp only [List.length_nil] at this; omega
    have hN' : 1 < N := by have := hN; simp only [List.length_nil] at this; omega
    obtain ⟨N, rfl⟩ : ∃ z, N = z + 1 := ⟨N - 1, by omega⟩
    have gL := hgd L (List.mem_cons_self ..)
    obtain ⟨⟨f1, f2⟩, f3⟩ := hf L gL
    simp only [fX4_seating_57]
    rw [wr_id (x := 720) (by omega) (by omega), wr_id (x := (i : Int)) (by omega) (by omega), if_neg (by omega), hx_wr01.2.1, if_neg (by omega), wr_id (x := l) (by omega) (by omega)]
    by_cases q : l ≤ 0
    · rw [if_pos q, hz_106 ha (by unfold hx_c; omega) (by unfold hx_c; omega), hz_stop (f := f) [L] b l (by omega) q (fun L' h' => ((hf L' (hgd L' h')).1).1)]
      exact ⟨w, rfl, hw⟩
    · rw [if_neg q]
      obtain ⟨w1, g1, g2, g3⟩ := f3 w hw ho
      rw [g1, hp_bd, wr_id (x := f L) (by omega) (by omega)]
      have hW1 : hz_W n w1 L := ⟨gL.1, fun k hk => ⟨by rw [g3]; exact ho k hk, by have := gL.2 k hk; omega⟩⟩
      have h91 : w1 19 9 = (n : Int) := by rw [g2 19 (by omega) (by omega) (by omega)]; exact h9
      have hnx : fX4_nextOrder w1 = some (w1, 0) := by
        rcases hz_nxW hn hW1 h91 with ⟨-, e⟩ | ⟨L', w', e, -⟩
        · exact e
        · have e2 : (hz_nx n L == none) = true := hch
          rw [e] at e2
          exact absurd e2 (by simp)
      unfold fX4_seating_94
      have stop : ∀ (l' b' : Int), hx_c l' → hx_c b' → fX4_seating_57 N w1 a l' b' 0 ((i : Int) + 1) = some (w1, hz_res a (b', l')) := by
        intro l' b' h1 h2
        obtain ⟨N2, hN2⟩ : ∃ z, N = z + 1 := ⟨N - 1, by omega⟩
        rw [hN2]
        simp only [fX4_seating_57]
        rw [hx_wr01.1, if_pos rfl, ite_self, hz_106 ha h1 h2]
      by_cases q2 : l ≤ f L
      · rw [if_pos q2, hnx, hp_bd, stop l b (by unfold hx_c; omega) (by unfold hx_c; omega)]
        simp only [hz_f]
        rw [if_neg (by omega)]
        exact ⟨w1, rfl, g2⟩
      · obtain ⟨d1, d2⟩ := hz_dig hn.2 h91 L hg_F 0 0 (by rw [gL.1]; unfold hg_F; omega) (by rw [gL.1]; omega) (by decide) (fun k hk => by rw [Nat.zero_add]; exact hW1.2 k (by rw [← gL.1]; exact hk))
        have p1 : 10 ^ n ≤ 10 ^ 6 := Nat.pow_le_pow_right (by omega) hn.2
        have d1' : fX4_digitsOfOrder w1 = some (w1, (hz_num L 0 : Int)) := d1
        rw [if_neg q2, d1', hp_bd, hnx, hp_bd, stop (f L) _ (by unfold hx_c; omega) (by unfold hx_c; omega)]
        simp only [hz_f]
        rw [if_pos (by omega)]
        exact ⟨w1, rfl, g2⟩
  | cons L2 r ih =>
    intro L N i w b l hN hi hch hgd hw ho hl1 hl2 hb1 hb2
    rw [List.length_cons] at hN hi
    obtain ⟨N, rfl⟩ : ∃ z, N = z + 1 := ⟨N - 1, by omega⟩
    have gL := hgd L (List.mem_cons_self ..)
    obtain ⟨⟨f1, f2⟩, f3⟩ := hf L gL
    simp only [fX4_seating_57]
    rw [wr_id (x := 720) (by omega) (by omega), wr_id (x := (i : Int)) (by omega) (by omega), if_neg (by omega), hx_wr01.2.1, if_neg (by omega), wr_id (x := l) (by omega) (by omega)]
    by_cases q : l ≤ 0
    · rw [if_pos q, hz_106 ha (by unfold hx_c; omega) (by unfold hx_c; omega), hz_stop (f := f) (L :: L2 :: r) b l (by omega) q (fun L' h' => ((hf L' (hgd L' h')).1).1)]
      exact ⟨w, rfl, hw⟩
    · rw [if_neg q]
      obtain ⟨w1, g1, g2, g3⟩ := f3 w hw ho
      rw [g1, hp_bd, wr_id (x := f L) (by omega) (by omega)]
      have hW1 : hz_W n w1 L := ⟨gL.1, fun k hk => ⟨by rw [g3]; exact ho k hk, by have := gL.2 k hk; omega⟩⟩
      have h91 : w1 19 9 = (n : Int) := by rw [g2 19 (by omega) (by omega) (by omega)]; exact h9
      have hch2 : ((hz_nx n L == some L2) && hz_chain n (L2 :: r)) = true := hch
      rw [Bool.and_eq_true] at hch2
      have e2 : hz_nx n L = some L2 := by simpa using hch2.1
      obtain ⟨w2, k1, k2, k3⟩ : ∃ w2, fX4_nextOrder w1 = some (w2, 1) ∧ hz_W n w2 L2 ∧ ∀ c, c ≠ 55 → w2 c = w1 c := by
        rcases hz_nxW hn hW1 h91 with ⟨e, -⟩ | ⟨L', w', e, e3, e4, e5⟩
        · rw [e2] at e
          exact absurd e (by simp)
        · rw [e2] at e
          injection e with e
          subst e
          exact ⟨w', e3, e4, e5⟩
      have hw2 : hz_C w0 w2 := fun c q1 q2 q3 => by rw [k3 c q2, g2 c q1 q2 q3]
      unfold fX4_seating_94
      by_cases q2 : l ≤ f L
      · obtain ⟨w', m1, m2⟩ := ih L2 N (i + 1) w2 b l (by omega) (by omega) hch2.2 (fun L' h' => hgd L' (List.mem_cons_of_mem _ h')) hw2 (fun k hk => (k2.2 k hk).1) hl1 hl2 hb1 hb2
        refine ⟨w', ?_, m2⟩
        rw [if_pos q2, k1, hp_bd, show (i : Int) + 1 = ((i + 1 : Nat) : Int) by omega, m1, hz_f.eq_2 f b l L (L2 :: r), if_neg (by omega)]
      · obtain ⟨d1, d2⟩ := hz_dig hn.2 h91 L hg_F 0 0 (by rw [gL.1]; unfold hg_F; omega) (by rw [gL.1]; omega) (by decide) (fun k hk => by rw [Nat.zero_add]; exact hW1.2 k (by rw [← gL.1]; exact hk))
        have p1 : 10 ^ n ≤ 10 ^ 6 := Nat.pow_le_pow_right (by omega) hn.2
        have d1' : fX4_digitsOfOrder w1 = some (w1, (hz_num L 0 : Int)) := d1
        obtain ⟨w', m1, m2⟩ := ih L2 N (i + 1) w2 (hz_num L 0 : Int) (f L) (by omega) (by omega) hch2.2 (fun L' h' => hgd L' (List.mem_cons_of_mem _ h')) hw2 (fun k hk => (k2.2 k hk).1) (by omega) (by omega) (by omega) (by omega)
        refine ⟨w', ?_, m2⟩
        rw [if_neg q2, d1', hp_bd, k1, hp_bd, show (i : Int) + 1 = ((i + 1 : Nat) : Int) by omega, m1, hz_f.eq_2 f b l L (L2 :: r), if_pos (by omega)]
theorem hz_26 {n : Nat} {a : Int} : ∀ (m N i : Nat) (w : hg_W), m < N → i + m = 6 → (∀ k, k < i → w 55 k = (k : Int)) → ∃ w', fX4_seating_26 N w a (i : Int) = fX4_seating_57 hg_F w' a 10000 0 1 0 ∧ (∀ k, k < 6 → w' 55 k = (k : Int)) ∧ ∀ c, c ≠ 55 → w' c = w c := by
  intro m
  induction m with
  | zero =>
    intro N i w h1 h2 h3
    obtain ⟨N, rfl⟩ : ∃ z, N = z + 1 := ⟨N - 1, by omega⟩
    refine ⟨w, ?_, fun k hk => h3 k (by omega), fun _ _ => rfl⟩
    simp only [fX4_seating_26]
    rw [wr_id (x := 6) (by omega) (by omega), wr_id (x := (i : Int)) (by omega) (by omega), if_pos (by omega)]
  | succ m ih =>
    intro N i w h1 h2 h3
    obtain ⟨N, rfl⟩ : ∃ z, N = z + 1 := ⟨N - 1, by omega⟩
    obtain ⟨w', g1, g2, g3⟩ := ih N (i + 1) (hg_up w 55 i (i : Int)) (by omega) (by omega) (fun k hk => by
      by_cases q : k = i
      · subst q; rw [hp_up_eq]
      · rw [hp_up_k q]; exact h3 k (by omega))
    refine ⟨w', ?_, g2, fun c hc => (g3 c hc).trans (hg_up_ne c hc)⟩
    rw [← g1]
    simp only [fX4_seating_26]
    rw [wr_id (x := 6) (by omega) (by omega), wr_id (x := (i : Int)) (by omega) (by omega), if_neg (by omega), as_h55 (by omega) (by omega), hp_b, wr_id (x := (i : Int)) (by omega) (by omega), show (i : Int).toNat = i by omega, show (i : Int) + 1 = ((i + 1 : Nat) : Int) by omega]
/-! the reference's fold -/
theorem hz_25 {n : Nat} (hn : 1 ≤ n ∧ n ≤ 6) {v : hg_W} {a : Int} (h0 : v 0 0 = (n : Int)) : ∀ (m N k : Nat), m < N → k + m = n → fX5_seating_25 N v a ((n ^ k : Nat) : Int) (k : Int) = hg_bd (fX5_keeps v) fun w1 _ => fX5_seating_58 hg_F w1 a ((n ^ n : Nat) : Int) (-1) 0 0 := by
  intro m
  induction m with
  | zero =>
    intro N k h1 h2
    obtain ⟨N, rfl⟩ : ∃ z, N = z + 1 := ⟨N - 1, by omega⟩
    have h2' : k = n := h2
    subst h2'
    simp only [fX5_seating_25]
    rw [h0, if_pos (Int.le_refl _)]
  | succ m ih =>
    intro N k h1 h2
    obtain ⟨N, rfl⟩ : ∃ z, N = z + 1 := ⟨N - 1, by omega⟩
    rw [← ih N (k + 1) (by omega) (by omega)]
    simp only [fX5_seating_25]
    rw [h0, wr_id (x := (n : Int)) (by omega) (by omega), wr_id (x := (k : Int)) (by omega) (by omega), if_neg (by omega), Nat.pow_succ, show (k : Int) + 1 = ((k + 1 : Nat) : Int) by omega, Int.natCast_mul]
theorem hz_pw : ∀ n, 1 ≤ n ∧ n ≤ 6 → n ^ n ≤ 46656 := by
  intro n hn
  rcases (by omega : n = 1 ∨ n = 2 ∨ n = 3 ∨ n = 4 ∨ n = 5 ∨ n = 6) with rfl | rfl | rfl | rfl | rfl | rfl <;> decide
theorem hz_ml {w0 v0 u : hg_W} {n : Nat} {a : Int} (hA : hx_A w0 v0) (ha : a = 0 ∨ a = 1) (h0 : v0 0 0 = (n : Int)) (hn : 1 ≤ n ∧ n ≤ 6) {M : Nat} (hM : M ≤ 46656) {f : List Nat → Int} (hf : ∀ L, hz_good n L → (0 ≤ f L ∧ f L ≤ 9999) ∧ ∀ v, hz_V v0 u v → (∀ k, k < n → v 19 k = (hz_g L k : Int)) → ∃ v', fX5_differBy v = some (v', f L) ∧ hx_FM v v')
    (hl : ∀ v2 : hg_W, v2 18 = u 18 → ∃ v3 : hg_W, fX5_lays v2 = some (v3, 0) ∧ (∀ c, c ≠ 0 → c ≠ 3 → c ≠ 4 → v3 c = v2 c) ∧ (∀ k, k ≠ 5 → k ≠ 6 → v3 0 k = v2 0 k) ∧ v3 0 5 = v0 0 5 ∧ v3 0 6 = v0 0 6 ∧ (∀ j, j < 18 → v3 3 j = v0 3 j) ∧ (∀ j, j < 12 → v3 4 j = v0 4 j)) :
    ∀ (m N c : Nat) (v : hg_W) (b l : Int), m < N → c + m = M → hz_V v0 u v → 0 ≤ l → l ≤ 10000 → -1 ≤ b → b ≤ 1000000 →
    ∃ v', fX5_seating_58 N v a (M : Int) b l (c : Int) = some (v', hz_res a (hz_f f (hz_ords n m c) b l)) ∧ hz_V v0 u v' := by
  intro m
  induction m with
  | zero =>
    intro N c v b l h1 h2 hv l1 l2 b1 b2
    obtain ⟨N, rfl⟩ : ∃ z, N = z + 1 := ⟨N - 1, by omega⟩
    refine ⟨v, ?_, hv⟩
    simp only [fX5_seating_58, hz_ords, hz_f]
    unfold hz_res
    rw [wr_id (x := (M : Int)) (by omega) (by omega), wr_id (x := (c : Int)) (by omega) (by omega), if_pos (by omega), wr_id (x := b) (by omega) (by omega), wr_id (x := l) (by omega) (by omega)]
    rcases ha with rfl | rfl
    · rw [hx_wr01.1, if_pos rfl, if_pos rfl]
    · rw [hx_wr01.2.1, if_neg (by omega), if_neg (by omega)]
  | succ m ih =>
    intro N c v b l h1 h2 hv l1 l2 b1 b2
    obtain ⟨N, rfl⟩ : ∃ z, N = z + 1 := ⟨N - 1, by omega⟩
    obtain ⟨i1, i2, v1, i3, i4, i5, i6, i7⟩ := hz_isO hn (c := c) (v := v) (by omega) (by rw [hv.2.1 0 (by omega)]; exact h0)
    have gL : hz_good n (hz_dg n n c []) := ⟨i1, i2⟩
    have hv1 : hz_V v0 u v1 := ⟨fun cc q0 q3 q4 q16 q17 q18 q19 => (i6 cc q0 q19).trans (hv.1 cc q0 q3 q4 q16 q17 q18 q19), fun k hk => (i7 k hk).trans (hv.2.1 k hk), fun j hj => by rw [i6 3 (by omega) (by omega)]; exact hv.2.2.1 j hj, fun j hj => by rw [i6 4 (by omega) (by omega)]; exact hv.2.2.2.1 j hj, by rw [i6 18 (by omega) (by omega)]; exact hv.2.2.2.2⟩
    simp only [fX5_seating_58, hz_ords]
    rw [wr_id (x := (M : Int)) (by omega) (by omega), wr_id (x := (c : Int)) (by omega) (by omega), if_neg (by omega), i3, hp_bd]
    by_cases q : hz_ok (hz_dg n n c []) 0 = true
    · rw [if_pos q, if_pos q, hx_wr01.2.1, if_neg (by omega)]
      obtain ⟨⟨f1, f2⟩, f3⟩ := hf _ gL
      obtain ⟨v2, g1, g2⟩ := f3 v1 hv1 i5
      obtain ⟨v3, k1, k2, k3, k4, k5, k6, k7⟩ := hl v2 (by rw [g2.1 18 (by omega) (by omega) (by omega) (by omega) (by omega)]; exact hv1.2.2.2.2)
      have hv3 : hz_V v0 u v3 := by
        refine ⟨fun cc q0 q3 q4 q16 q17 q18 q19 => ?_, fun k hk => ?_, k6, k7, ?_⟩
        · rw [k2 cc q0 q3 q4, g2.1 cc q0 q3 q4 q16 q17]; exact hv1.1 cc q0 q3 q4 q16 q17 q18 q19
        · by_cases e5 : k = 5
          · rw [e5]; exact k4
          · by_cases e6 : k = 6
            · rw [e6]; exact k5
            · rw [k3 k e5 e6, g2.2 k e5 e6]; exact hv1.2.1 k hk
        · rw [k2 18 (by omega) (by omega) (by omega), g2.1 18 (by omega) (by omega) (by omega) (by omega) (by omega)]; exact hv1.2.2.2.2
      have e33 : v3 0 33 = (hz_num (hz_dg n n c []) 0 : Int) := by rw [k3 33 (by omega) (by omega), g2.2 33 (by omega) (by omega)]; exact i4 q
      have hnum : hz_num (hz_dg n n c []) 0 < 10 ^ n := by
        obtain ⟨-, d2⟩ := hz_dig (w := fun cc k => if cc = 19 then (n : Int) else (hz_g (hz_dg n n c []) k : Int)) hn.2 (if_pos rfl) (hz_dg n n c []) hg_F 0 0 (by rw [i1]; unfold hg_F; omega) (by rw [i1]; omega) (by decide) (fun k hk => by
          rw [Nat.zero_add]
          have := i2 k (by rw [← i1]; exact hk)
          exact ⟨if_neg (by omega), by omega⟩)
        exact d2
      have p1 : 10 ^ n ≤ 10 ^ 6 := Nat.pow_le_pow_right (by omega) hn.2
      rw [g1, hp_bd, k1, hp_bd, wr_id (x := b) (by omega) (by omega), hx_wr01.2.2, wr_id (x := l) (by omega) (by omega), wr_id (x := f (hz_dg n n c [])) (by omega) (by omega)]
      unfold fX5_seating_95 fX5_seating_100 fX5_seating_115 fX5_seating_128 fX5_seating_130
      rw [hx_wr01.2.1, hx_wr01.1, if_neg (show ¬ (1 : Int) = 0 by omega), if_pos (show (0 : Int) = 0 from rfl), if_neg (show ¬ (1 : Int) = 0 by omega), if_pos (show (0 : Int) = 0 from rfl), show (c : Int) + 1 = ((c + 1 : Nat) : Int) by omega, e33]
      obtain ⟨v4, m1, m2⟩ := ih N (c + 1) v3 (hz_num (hz_dg n n c []) 0 : Int) (f (hz_dg n n c [])) (by omega) (by omega) hv3 (by omega) (by omega) (by omega) (by omega)
      obtain ⟨v5, m3, m4⟩ := ih N (c + 1) v3 b l (by omega) (by omega) hv3 l1 l2 b1 b2
      by_cases q1 : b = -1
      · rw [if_pos q1, m1, hz_f.eq_2, if_pos (Or.inl q1)]
        exact ⟨v4, rfl, m2⟩
      · rw [if_neg q1]
        by_cases q2 : l ≤ f (hz_dg n n c [])
        · rw [if_pos q2, m3, hz_f.eq_2, if_neg (by omega)]
          exact ⟨v5, rfl, m4⟩
        · rw [if_neg q2, m1, hz_f.eq_2, if_pos (by omega)]
          exact ⟨v4, rfl, m2⟩
    · rw [if_neg q, if_neg q, hx_wr01.1, if_pos rfl]
      unfold fX5_seating_130
      rw [show (c : Int) + 1 = ((c + 1 : Nat) : Int) by omega]
      exact ih N (c + 1) v1 b l (by omega) (by omega) hv1 l1 l2 b1 b2
theorem hz_ordsg {n : Nat} (hn : 1 ≤ n ∧ n ≤ 6) : ∀ (m c : Nat), c + m ≤ 100000 → ∀ L, L ∈ hz_ords n m c → hz_good n L := by
  intro m
  induction m with
  | zero => intro c _ L hL; simp [hz_ords] at hL
  | succ m ih =>
    intro c hc L hL
    obtain ⟨i1, i2, -⟩ := hz_isO hn (c := c) (v := fun _ _ => (n : Int)) (by omega) rfl
    simp only [hz_ords] at hL
    by_cases q : hz_ok (hz_dg n n c []) 0 = true
    · rw [if_pos q, List.mem_cons] at hL
      rcases hL with rfl | hL
      · exact ⟨i1, i2⟩
      · exact ih (c + 1) (by omega) L hL
    · rw [if_neg q] at hL
      exact ih (c + 1) (by omega) L hL
theorem hz_all {n : Nat} (hn : 1 ≤ n ∧ n ≤ 6) : hz_allok n = true := by
  rcases (by omega : n = 1 ∨ n = 2 ∨ n = 3 ∨ n = 4 ∨ n = 5 ∨ n = 6) with rfl | rfl | rfl | rfl | rfl | rfl
  · exact hz_all1.1
  · exact hz_all1.2.1
  · exact hz_all1.2.2.1
  · exact hz_all1.2.2.2
  · exact hz_all5
  · exact hz_all6
theorem hc_seating {w v : hg_W} (h : hx_A w v) {a : Int} (ha : hx_c a) : hx_ret (fX4_seating w a) (fX5_seating v a) := by
  obtain ⟨hT, hR, hTp, hIm, hSh⟩ := id h
  have r3 := hR.2.2.1
  unfold fX4_seating fX5_seating
  rw [hx_in ha (by unfold hx_c; omega) (by unfold hx_c; omega), hp_bd, hx_bif, wr_id ha.1 ha.2, hx_wr01.2.1]
  by_cases q0 : a < 0
  · rw [if_pos q0, if_neg (by omega)]; exact hx_ret.c h
  · rw [if_neg q0]
    by_cases q1 : a ≤ 1
    · rw [if_pos q1, if_pos (show 0 ≤ a ∧ a ≤ 1 by omega), wr_id (x := w 19 9) (by omega) (by omega), r3.2.2, wr_id (x := w 19 9) (by omega) (by omega)]
      by_cases q2 : w 19 9 = 0
      · rw [if_pos q2, if_pos q2]; exact hx_ret.c h
      · rw [if_neg q2, if_neg q2]
        obtain ⟨n, h9⟩ : ∃ n : Nat, w 19 9 = (n : Int) := ⟨(w 19 9).toNat, by omega⟩
        have hn : 1 ≤ n ∧ n ≤ 6 := by omega
        have h0 : v 0 0 = (n : Int) := by rw [r3.2.2, h9]
        obtain ⟨u, k1, k2, k3⟩ := hk_both hR
        obtain ⟨f, hf⟩ := hz_D (u := u) h h9 hn k2
        have hall := hz_all hn
        have hM := hz_pw n hn
        have hgd := hz_ordsg hn (n ^ n) 0 (by omega)
        unfold hz_allok at hall
        simp only [Bool.and_eq_true] at hall
        obtain ⟨⟨c1, c2⟩, c3⟩ := hall
        obtain ⟨u2, m1, m2⟩ := hz_ml (a := a) (u := u) h (by omega) h0 hn (M := n ^ n) hM (f := f) (fun L hL => ⟨(hf L hL).1, (hf L hL).2.2⟩) k3 (n ^ n) hg_F 0 u (-1) 0 (by unfold hg_F; omega) (by omega) ⟨fun c _ _ _ _ _ q18 _ => k2 c q18, fun k _ => by rw [k2 0 (by omega)], fun j _ => by rw [k2 3 (by omega)], fun j _ => by rw [k2 4 (by omega)], rfl⟩ (by omega) (by omega) (by omega) (by omega)
        have e25 := hz_25 hn (v := v) (a := a) h0 n hg_F 0 (by unfold hg_F; omega) (by omega)
        have e25' : fX5_seating_25 hg_F v a 1 0 = _ := e25
        rw [e25', k1, hp_bd]
        obtain ⟨w1, s1, s2, s3⟩ := hz_26 (n := n) (a := a) 6 hg_F 0 w (by unfold hg_F; omega) (by omega) (fun k hk => absurd hk (by omega))
        have s1' : fX4_seating_26 hg_F w a 0 = _ := s1
        rw [s1']
        generalize hlist : hz_ords n (n ^ n) 0 = lst at c1 c2 c3 hgd m1
        cases lst with
        | nil => exact absurd c2 (by simp)
        | cons L r =>
          have eL : L = List.range n := by simpa using c2
          have c3' : r.length + 1 ≤ 720 := by
            have := Nat.le_of_ble_eq_true c3
            rw [List.length_cons] at this
            exact this
          obtain ⟨w2, t1, t2⟩ := hz_cl (w0 := w) (n := n) (a := a) (by omega) h9 hn (f := f) (fun L hL => ⟨(hf L hL).1, (hf L hL).2.1⟩) r L hg_F 0 w1 0 10000 (by unfold hg_F; omega) (by omega) c1 hgd (fun c q1 q2 q3 => s3 c q2) (fun k hk => by
            rw [s2 k (by omega), eL]
            unfold hz_g
            rw [List.getD_eq_getElem?_getD, List.getElem?_range hk]
            rfl) (by omega) (by omega) (by omega) (by omega)
          have gL := hgd L (List.mem_cons_self ..)
          have fL := (hf L gL).1
          have ef : hz_f f (L :: r) 0 10000 = hz_f f (L :: r) (-1) 0 := by
            rw [hz_f.eq_2, hz_f.eq_2, if_pos (by omega), if_pos (Or.inl rfl)]
          have t1' : fX4_seating_57 hg_F w1 a 10000 0 1 0 = _ := t1
          have m1' : fX5_seating_58 hg_F u a ((n ^ n : Nat) : Int) (-1) 0 0 = _ := m1
          rw [t1', m1', ef]
          refine ⟨_, _, _, rfl, rfl, ?_⟩
          have e19 : w2 19 = w 19 := t2 19 (by omega) (by omega) (by omega)
          refine h.pres ?_ (fun c hc => t2 c (by omega) (by omega) (by omega)) (by rw [e19]) (fun c hc => m2.1 c (by omega) (by omega) (by omega) (by omega) (by omega) (by omega) (by omega)) (m2.2.1 8 (by omega)) (m2.2.1 11 (by omega)) (m2.2.1 13 (by omega))
          exact (hz_R h t2 m2).1
    · rw [if_neg q1, if_neg (by omega)]; exact hx_ret.c h
