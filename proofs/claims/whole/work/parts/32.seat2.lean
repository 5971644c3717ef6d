/-! ===== seating: the class's next order, on lists ===== -/
def hz_g (L : List Nat) (i : Nat) : Nat := L.getD i 0
def hz_sw (L : List Nat) (a b : Nat) : List Nat := (L.set a (hz_g L b)).set b (hz_g L a)
def hz_pv (L : List Nat) : Nat → Nat
  | 0 => 0
  | j + 1 => if hz_g L j ≤ hz_g L (j + 1) then j + 1 else hz_pv L j
def hz_sc (L : List Nat) (j : Nat) : Nat → Nat
  | 0 => 0
  | k + 1 => if k + 1 ≤ j + 1 then k + 1 else if hz_g L j ≤ hz_g L (k + 1) then k + 1 else hz_sc L j k
def hz_rv (n j : Nat) : Nat → List Nat → Nat → List Nat
  | 0, L, _ => L
  | m + 1, L, i => if n - i ≤ j + i then L else hz_rv n j m (hz_sw L (j + i) (n - i)) (i + 1)
def hz_nx (n : Nat) (L : List Nat) : Option (List Nat) :=
  match hz_pv L (n - 1) with
  | 0 => none
  | j + 1 => some (hz_rv n j 6 (hz_sw L j (hz_sc L j (n - 1))) 1)
def hz_W (n : Nat) (w : hg_W) (L : List Nat) : Prop := L.length = n ∧ ∀ i, i < n → w 55 i = (hz_g L i : Int) ∧ hz_g L i < 6
theorem hz_gs {L : List Nat} {a x i : Nat} (ha : a < L.length) : hz_g (L.set a x) i = if i = a then x else hz_g L i := by
  unfold hz_g
  rw [List.getD_eq_getElem?_getD, List.getD_eq_getElem?_getD, List.getElem?_set]
  by_cases q : a = i
  · subst q; simp [ha]
  · rw [if_neg q, if_neg (fun e => q e.symm)]
theorem hz_swW {n a b : Nat} {w : hg_W} {L : List Nat} (h : hz_W n w L) (hn : n ≤ 6) (ha : a < n) (hb : b < n) : ∃ w' : hg_W, fX4_swapInOrder w (a : Int) (b : Int) = some (w', 0) ∧ hz_W n w' (hz_sw L a b) ∧ ∀ c, c ≠ 55 → w' c = w c := by
  obtain ⟨h1, h2⟩ := h
  obtain ⟨a1, a2⟩ := h2 a ha
  obtain ⟨b1, b2⟩ := h2 b hb
  refine ⟨hg_up (hg_up w 55 a (hz_g L b : Int)) 55 b (hz_g L a : Int), ?_, ⟨by unfold hz_sw; rw [List.length_set, List.length_set, h1], fun i hi => ?_⟩, fun c hc => by rw [hg_up_ne c hc, hg_up_ne c hc]⟩
  · unfold fX4_swapInOrder
    rw [ag_h55 (by omega) (by omega), hp_b, ag_h55 (by omega) (by omega), hp_b, as_h55 (by omega) (by omega), hp_b, as_h55 (by omega) (by omega), hp_b, show (a : Int).toNat = a by omega, show (b : Int).toNat = b by omega, a1, b1, wr_id (x := (hz_g L a : Int)) (by omega) (by omega), wr_id (x := (hz_g L b : Int)) (by omega) (by omega)]
  · unfold hz_sw
    rw [hz_gs (by rw [List.length_set]; omega), hz_gs (by omega)]
    by_cases q1 : i = b
    · subst q1
      rw [if_pos rfl, hp_up_eq]; exact ⟨rfl, a2⟩
    · rw [if_neg q1, hp_up_k q1]
      by_cases q2 : i = a
      · subst q2
        rw [if_pos rfl, hp_up_eq]; exact ⟨rfl, b2⟩
      · rw [if_neg q2, hp_up_k q2]; exact h2 i hi
theorem hz_rvW {n j : Nat} (hn : n ≤ 6) : ∀ (m f i : Nat) (w : hg_W) (L : List Nat), m < f → 7 ≤ m + i → 1 ≤ i → i ≤ 7 → j ≤ 6 → hz_W n w L → ∃ w' : hg_W, fX4_nextOrder_110 f w (n : Int) (j : Int) (i : Int) = some (w', 1) ∧ hz_W n w' (hz_rv n j m L i) ∧ ∀ c, c ≠ 55 → w' c = w c := by
  intro m
  induction m with
  | zero =>
    intro f i w L h1 h2 h3 h4 hj h
    obtain ⟨f, rfl⟩ : ∃ z, f = z + 1 := ⟨f - 1, by omega⟩
    refine ⟨w, ?_, h, fun _ _ => rfl⟩
    simp only [fX4_nextOrder_110]
    rw [wr_id (x := (n : Int) - (i : Int)) (by omega) (by omega), wr_id (x := (j : Int) + (i : Int)) (by omega) (by omega), if_pos (by omega), hx_wr01.2.1, if_pos (Or.inr rfl)]
  | succ m ih =>
    intro f i w L h1 h2 h3 h4 hj h
    obtain ⟨f, rfl⟩ : ∃ z, f = z + 1 := ⟨f - 1, by omega⟩
    simp only [fX4_nextOrder_110, hz_rv]
    rw [wr_id (x := (n : Int) - (i : Int)) (by omega) (by omega), wr_id (x := (j : Int) + (i : Int)) (by omega) (by omega)]
    by_cases q : n - i ≤ j + i
    · rw [if_pos (by omega), if_pos q, hx_wr01.2.1, if_pos (Or.inr rfl)]
      exact ⟨w, rfl, h, fun _ _ => rfl⟩
    · rw [if_neg (by omega), if_neg q, show (n : Int) - (i : Int) = ((n - i : Nat) : Int) by omega, show (j : Int) + (i : Int) = ((j + i : Nat) : Int) by omega]
      obtain ⟨w1, g1, g2, g3⟩ := hz_swW h hn (a := j + i) (b := n - i) (by omega) (by omega)
      obtain ⟨w', l1, l2, l3⟩ := ih f (i + 1) w1 _ (by omega) (by omega) (by omega) (by omega) hj g2
      rw [g1, hp_bd, show (i : Int) + 1 = ((i + 1 : Nat) : Int) by omega]
      exact ⟨w', l1, l2, fun c hc => (l3 c hc).trans (g3 c hc)⟩
theorem hz_scW {n j : Nat} (hn : n ≤ 6) {w : hg_W} {L : List Nat} (h : hz_W n w L) : ∀ (k f i : Nat), k < f → k + i ≤ 5 → k < n → j < k → ∃ k' : Nat, fX4_nextOrder_63 f w (n : Int) (j : Int) (k : Int) (i : Int) = fX4_nextOrder_101 w (n : Int) (j : Int) (k' : Int) ∧ k' = hz_sc L j k ∧ k' < n := by
  intro k
  induction k with
  | zero => intro f i h1 h2 h3 h4; omega
  | succ k ih =>
    intro f i h1 h2 h3 h4
    obtain ⟨f, rfl⟩ : ∃ z, f = z + 1 := ⟨f - 1, by omega⟩
    obtain ⟨a1, a2⟩ := h.2 (k + 1) h3
    obtain ⟨b1, b2⟩ := h.2 j (by omega)
    simp only [fX4_nextOrder_63, hz_sc]
    rw [wr_id (x := 6) (by omega) (by omega), wr_id (x := (i : Int)) (by omega) (by omega), if_neg (by omega), wr_id (x := ((k + 1 : Nat) : Int)) (by omega) (by omega), wr_id (x := (j : Int) + 1) (by omega) (by omega), ag_h55 (by omega) (by omega), hp_b, ag_h55 (by omega) (by omega), hp_b, show ((k + 1 : Nat) : Int).toNat = k + 1 by omega, show (j : Int).toNat = j by omega, a1, b1, wr_id (x := (hz_g L (k + 1) : Int)) (by omega) (by omega), wr_id (x := (hz_g L j : Int)) (by omega) (by omega)]
    by_cases q : k + 1 ≤ j + 1
    · rw [if_pos (by omega), if_pos q]
      exact ⟨k + 1, rfl, rfl, h3⟩
    · rw [if_neg (by omega), if_neg q]
      by_cases q2 : hz_g L j ≤ hz_g L (k + 1)
      · rw [if_pos (by omega), if_pos q2]
        exact ⟨k + 1, rfl, rfl, h3⟩
      · rw [if_neg (by omega), if_neg q2, show ((k + 1 : Nat) : Int) + (-1) = (k : Int) by omega, show (i : Int) + 1 = ((i + 1 : Nat) : Int) by omega]
        exact ih f (i + 1) (by omega) (by omega) (by omega) (by omega)
theorem hz_pvW {n : Nat} (hn : n ≤ 6) {w : hg_W} {L : List Nat} (h : hz_W n w L) : ∀ (j f i : Nat), j < f → j + i ≤ 5 → (j = 0 ∨ j < n) → ∃ j' : Nat, fX4_nextOrder_14 f w (n : Int) ((j : Int) - 1) (i : Int) = fX4_nextOrder_50 w (n : Int) ((j' : Int) - 1) ∧ j' = hz_pv L j ∧ (j' = 0 ∨ j' < n) := by
  intro j
  induction j with
  | zero =>
    intro f i h1 h2 h3
    obtain ⟨f, rfl⟩ : ∃ z, f = z + 1 := ⟨f - 1, by omega⟩
    refine ⟨0, ?_, rfl, Or.inl rfl⟩
    simp only [fX4_nextOrder_14]
    rw [wr_id (x := 6) (by omega) (by omega), wr_id (x := (i : Int)) (by omega) (by omega), if_neg (by omega), wr_id (x := ((0 : Nat) : Int) - 1) (by omega) (by omega), if_pos (by omega)]
  | succ j ih =>
    intro f i h1 h2 h3
    obtain ⟨f, rfl⟩ : ∃ z, f = z + 1 := ⟨f - 1, by omega⟩
    obtain ⟨a1, a2⟩ := h.2 j (by omega)
    obtain ⟨b1, b2⟩ := h.2 (j + 1) (by omega)
    simp only [fX4_nextOrder_14, hz_pv]
    rw [wr_id (x := 6) (by omega) (by omega), wr_id (x := (i : Int)) (by omega) (by omega), if_neg (by omega), show ((j + 1 : Nat) : Int) - 1 = (j : Int) by omega, wr_id (x := (j : Int)) (by omega) (by omega), if_neg (by omega), ag_h55 (k := (j : Int)) (by omega) (by omega), hp_b, ag_h55 (by omega) (by omega), hp_b, show (j : Int).toNat = j by omega, show ((j : Int) + 1).toNat = j + 1 by omega, a1, b1, wr_id (x := (hz_g L j : Int)) (by omega) (by omega), wr_id (x := (hz_g L (j + 1) : Int)) (by omega) (by omega)]
    by_cases q : hz_g L j ≤ hz_g L (j + 1)
    · rw [if_pos (by omega), if_pos q]
      exact ⟨j + 1, by rw [show ((j + 1 : Nat) : Int) - 1 = (j : Int) by omega], rfl, h3⟩
    · rw [if_neg (by omega), if_neg q, show (j : Int) + (-1) = (j : Int) - 1 by omega, show (i : Int) + 1 = ((i + 1 : Nat) : Int) by omega]
      exact ih f (i + 1) (by omega) (by omega) (by omega)
theorem hz_nxW {n : Nat} (hn : 1 ≤ n ∧ n ≤ 6) {w : hg_W} {L : List Nat} (h : hz_W n w L) (h9 : w 19 9 = (n : Int)) : (hz_nx n L = none ∧ fX4_nextOrder w = some (w, 0)) ∨ (∃ L' w', hz_nx n L = some L' ∧ fX4_nextOrder w = some (w', 1) ∧ hz_W n w' L' ∧ ∀ c, c ≠ 55 → w' c = w c) := by
  obtain ⟨j, g1, g2, g3⟩ := hz_pvW hn.2 h (n - 1) hg_F 0 (by unfold hg_F; omega) (by omega) (by omega)
  have g1' : fX4_nextOrder w = fX4_nextOrder_50 w (n : Int) ((j : Int) - 1) := by
    unfold fX4_nextOrder
    rw [h9, show (n : Int) - 2 = ((n - 1 : Nat) : Int) - 1 by omega]
    exact g1
  rw [g1']
  unfold hz_nx fX4_nextOrder_50
  rw [← g2]
  cases j with
  | zero =>
    left
    refine ⟨rfl, ?_⟩
    rw [wr_id (x := ((0 : Nat) : Int) - 1) (by omega) (by omega), if_neg (by omega), hx_wr01.1, if_pos (Or.inl rfl)]
  | succ j =>
    right
    rw [show ((j + 1 : Nat) : Int) - 1 = (j : Int) by omega, wr_id (x := (j : Int)) (by omega) (by omega), if_pos (by omega), show (n : Int) - 1 = ((n - 1 : Nat) : Int) by omega]
    obtain ⟨k, k1, k2, k3⟩ := hz_scW hn.2 h (j := j) (n - 1) hg_F 0 (by unfold hg_F; omega) (by omega) (by omega) (by omega)
    have k1' : fX4_nextOrder_63 hg_F w (n : Int) (j : Int) ((n - 1 : Nat) : Int) 0 = _ := k1
    rw [k1']
    unfold fX4_nextOrder_101
    obtain ⟨w1, l1, l2, l3⟩ := hz_swW h hn.2 (a := j) (b := k) (by omega) k3
    obtain ⟨w2, m1, m2, m3⟩ := hz_rvW hn.2 (j := j) 6 hg_F 1 w1 _ (by unfold hg_F; omega) (by omega) (by omega) (by omega) (by omega) l2
    rw [l1, hp_bd]
    refine ⟨_, w2, rfl, m1, ?_, fun c hc => (m3 c hc).trans (l3 c hc)⟩
    rw [← k2]
    exact m2
