/-! ===== text: between, the body of the reference's loop, a fault in the class ===== -/
theorem hy_low.up {H : List Int} {a b : Nat} (h : hy_low H a) (hab : a ≤ b) : hy_low H b := by
  rcases h with h | ⟨h1, h2⟩
  · exact Or.inl h
  · exact Or.inr ⟨h1, by omega⟩
def hy_ls (s : Int) : Nat := if hy_rk s = 4 then 5 else hy_rk s
theorem hy_b17 {v : hg_W} {s : Int} (hs : 0 ≤ s ∧ s ≤ 19) : fX5_between v s = fX5_between_17 v s (hy_ls s : Int) := by
  unfold fX5_between hy_ls
  have := hy_rk7 s
  rw [hy_rank hs, hp_bd, hy_rank hs, hp_bd, wr_id (x := (hy_rk s : Int)) (by omega) (by omega), wr_id (x := 4) (by omega) (by omega)]
  by_cases q : hy_rk s = 4
  · rw [if_pos q, if_pos (by omega)]; rfl
  · rw [if_neg q, if_neg (by omega)]
theorem hy_ls7 (s : Int) : hy_ls s ≤ 7 := by
  have := hy_rk7 s
  unfold hy_ls
  split <;> omega
theorem hy_betw {t : Nat} {H P O : List Int} {op s : Int} {v : hg_W} (ht6 : t < 6) (hs : 0 ≤ s ∧ s ≤ 19) (hH : hy_low H (hy_rk s)) (hM : hy_M t O (P ++ H) op v) (ht : v 0 11 = (t : Int)) (hP : ∀ x, x ∈ P → (0 ≤ x ∧ x ≤ 19) ∧ hy_ls s ≤ hy_rk x) (hlen : O.length + P.length + H.length ≤ 160) (ho : -800 < op ∧ op < 800) : ∃ v', fX5_between v s = some (v', 1) ∧ hy_M t (O ++ P) (s :: H) (op - hy_ct P) v' ∧ hy_PS t v v' := by
  have hr7 := hy_rk7 s
  have hls : hy_rk s ≤ hy_ls s := by unfold hy_ls; split <;> omega
  obtain ⟨v1, g1, g2, g3⟩ := hy_unwinds ht6 (hy_ls7 s) (hH.up hls) hM ht hP hlen ho
  obtain ⟨v2, k1, k2, k3⟩ := hy_holds g2 (by omega) (wr_id (x := s) (by omega) (by omega))
  have e55 : fX5_between_55 v1 s = some (v2, 1) := by
    unfold fX5_between_55
    rw [k1, hp_bd, hx_wr01.2.1, if_pos (Or.inr rfl)]
  refine ⟨v2, ?_, k2, g3.tr k3⟩
  rw [hy_b17 hs]
  unfold fX5_between_17
  rw [g1, hp_bd, hy_rank hs, hp_bd, wr_id (x := (hy_rk s : Int)) (by omega) (by omega), wr_id (x := 4) (by omega) (by omega), e55, g2.1, wr_id (x := (H.length : Int)) (by omega) (by omega)]
  by_cases q : hy_rk s = 4
  · rw [if_pos (by omega)]
    rcases hH with h | ⟨h1, h2⟩
    · rw [h, if_pos (by show ((0 : Nat) : Int) ≤ 0; omega)]
    · cases H with
      | nil => rw [if_pos (by show ((0 : Nat) : Int) ≤ 0; omega)]
      | cons x H =>
        have e : v1 15 H.length = x := g2.2.1 0 (by show 0 < H.length + 1; omega)
        have h1' : 0 ≤ x ∧ x ≤ 19 := h1
        have h2' : hy_rk x < hy_rk s := h2
        rw [List.length_cons] at hlen ⊢
        rw [if_neg (by omega), ag_m15 (by omega) (by omega), hp_b, show (((H.length + 1 : Nat) : Int) - 1).toNat = H.length by omega, e, hy_rank h1', hp_bd, wr_id (x := (hy_rk x : Int)) (by omega) (by omega), if_neg (by omega)]
        exact e55
  · rw [if_neg (by omega)]
theorem hy_betwF {t : Nat} {H P O : List Int} {op s c : Int} {v : hg_W} (ht6 : t < 6) (hs : 0 ≤ s ∧ s ≤ 19) (hs4 : hy_rk s = 4) (hc : 0 ≤ c ∧ c ≤ 19) (hc4 : hy_rk c = 4) (hM : hy_M t O (P ++ c :: H) op v) (ht : v 0 11 = (t : Int)) (hP : ∀ x, x ∈ P → (0 ≤ x ∧ x ≤ 19) ∧ 5 ≤ hy_rk x) (hlen : O.length + P.length + (c :: H).length ≤ 160) (ho : -800 < op ∧ op < 800) : ∃ v', fX5_between v s = some (v', 0) ∧ hy_PS t v v' := by
  have hls : hy_ls s = 5 := by unfold hy_ls; rw [if_pos hs4]
  obtain ⟨v1, g1, g2, g3⟩ := hy_unwinds (least := 5) (H := c :: H) ht6 (by omega) (Or.inr ⟨hc, by show hy_rk c < 5; omega⟩) hM ht hP hlen ho
  refine ⟨v1, ?_, g3⟩
  rw [hy_b17 hs, hls]
  unfold fX5_between_17
  have e : v1 15 H.length = c := g2.2.1 0 (by show 0 < H.length + 1; omega)
  rw [List.length_cons] at hlen
  rw [g1, hp_bd, hy_rank hs, hp_bd, wr_id (x := (hy_rk s : Int)) (by omega) (by omega), wr_id (x := 4) (by omega) (by omega), if_pos (by omega), g2.1, List.length_cons, wr_id (x := ((H.length + 1 : Nat) : Int)) (by omega) (by omega), if_neg (by omega), ag_m15 (by omega) (by omega), hp_b, show (((H.length + 1 : Nat) : Int) - 1).toNat = H.length by omega, e, hy_rank hc, hp_bd, wr_id (x := (hy_rk c : Int)) (by omega) (by omega), if_pos (by omega), hx_wr01.1, if_pos (Or.inl rfl)]
/-! the loop's body, behind the next token: one is wanted, or none is -/
def hy_b0 (N : Nat) (w1 : hg_W) (x2 : Int) : Option (hg_W × Int) :=
  if wr (w1 0 22) = wr 59 then (hg_bd (fX5_unwinds w1 1) fun w20 _ => if wr (w20 0 26) = 0 then some (w20, 1) else some (w20, 0))
  else if wr (w1 0 22) = wr 41 then
    (hg_bd (fX5_unwinds w1 1) fun w10 _ => if wr (w10 0 26) = 0 then some (w10, 0) else (hg_pt w10 0 26 ((w10 0 26) - 1)).bind fun w13 => (hg_pt w13 0 27 ((w13 0 27) - 1)).bind fun w15 => hg_bd (fX5_unwinds w15 7) fun w17 _ => fX5_eRead_14 N w17 0 x2)
  else hg_bd (fX5_signOf w1) fun w4 v5 => if wr v5 = -1 then some (w4, 0) else hg_bd (fX5_between w4 v5) fun w7 v8 => if wr v8 = 0 then some (w7, 0) else if wr 12 < wr v5 then fX5_eRead_14 N w7 1 0 else fX5_eRead_14 N w7 1 1
def hy_b99 (N : Nat) (w : hg_W) : Option (hg_W × Int) :=
  if wr (w 0 22) = wr 45 then (hg_bd (fX5_opensOne w 19) fun w4 v5 => if wr v5 = 0 then some (w4, 0) else fX5_eRead_14 N w4 1 0)
  else if wr (w 0 22) = wr 40 then (hg_bd (fX5_opensOne w 0) fun w1 v2 => if wr v2 = 0 then some (w1, 0) else fX5_eRead_14 N w1 1 1)
  else some (w, 0)
def hy_b61 (N : Nat) (w : hg_W) (x2 s1 : Int) : Option (hg_W × Int) := hg_bd (fX5_puts w s1) fun w1 _ => hg_bd (fX5_unwinds w1 7) fun w4 _ => fX5_eRead_14 N w4 0 x2
def hy_b1 (N : Nat) (w1 : hg_W) (x2 : Int) : Option (hg_W × Int) :=
  if wr (w1 0 22) = 1 then hy_b61 N w1 x2 (100000 + (w1 0 23))
  else if wr (w1 0 22) = wr 2 then hy_b61 N w1 x2 (w1 0 23)
  else if wr (w1 0 22) = wr 6 then (if wr x2 = 0 then hy_b99 N w1 else hg_bd (fX5_opensOne w1 13) fun w23 v24 => if wr v24 = 0 then some (w23, 0) else fX5_eRead_14 N w23 1 x2)
  else hy_b99 N w1
theorem hy_e0 {N : Nat} {v : hg_W} {x2 : Int} : fX5_eRead_14 (N + 1) v 0 x2 = hg_bd (fX5_next v) fun w1 _ => hy_b0 N w1 x2 := by
  simp only [fX5_eRead_14, hy_b0, hx_wr01.1, hx_wr01.2.1, hx_wr01.2.2, true_or, or_true, if_true, fX5_eRead_262]
theorem hy_e1 {N : Nat} {v : hg_W} {x2 : Int} : fX5_eRead_14 (N + 1) v 1 x2 = hg_bd (fX5_next v) fun w1 _ => hy_b1 N w1 x2 := by
  have hw2 : wr 2 = 2 := wr_id (by omega) (by omega)
  have e38 : ∀ w1, (if wr (w1 0 22) = 1 then fX5_eRead_38 (fX5_eRead_14 N) w1 x2 else if wr (w1 0 22) = wr 2 then fX5_eRead_38 (fX5_eRead_14 N) w1 x2 else if wr (w1 0 22) = wr 6 then (if wr x2 = 0 then fX5_eRead_99 (fX5_eRead_14 N) w1 1 else hg_bd (fX5_opensOne w1 13) fun w23 v24 => if wr v24 = 0 then some (w23, 0) else fX5_eRead_14 N w23 1 x2) else fX5_eRead_99 (fX5_eRead_14 N) w1 1) = hy_b1 N w1 x2 := by
    intro w1
    have e99 : fX5_eRead_99 (fX5_eRead_14 N) w1 1 = hy_b99 N w1 := by
      unfold fX5_eRead_99 hy_b99
      simp only [hx_wr01.1, hx_wr01.2.1, true_or, or_true, if_true]
    unfold hy_b1 fX5_eRead_38 fX5_eRead_61 hy_b61
    rw [e99, hx_wr01.2.1, hw2]
    by_cases q1 : wr (w1 0 22) = 1
    · rw [if_pos q1, if_pos q1, if_pos q1]
    · rw [if_neg q1, if_neg q1, if_neg q1]
  simp only [fX5_eRead_14, hx_wr01.1, hx_wr01.2.1, true_or, or_true, if_true, Int.reduceEq, if_false, e38]
/-! a fault in the class -/
def hy_F (t s : Nat) (w : hg_W) : Prop := w 17 8 = (s : Int) ∧ s ≤ 160 ∧ w 17 6 = -21 ∧ w 17 2 = ((3 + t : Nat) : Int) ∧ 0 ≤ w 17 3 ∧ w 17 3 ≤ 160
theorem hy_ref0 {t s : Nat} {w : hg_W} (h8 : w 17 8 = -1) (h5 : w 17 5 = (s : Int)) (hs : s ≤ 160) (h2 : w 17 2 = ((3 + t : Nat) : Int)) (h3 : 0 ≤ w 17 3 ∧ w 17 3 ≤ 160) : ∃ w', fX2_refuse w = some (w', 0) ∧ hy_F t s w' ∧ hy_PC t w w' := by
  refine ⟨hg_up (hg_up w 17 8 (s : Int)) 17 6 (-21), ?_, ⟨?_, hs, hp_up_eq, ?_, ?_⟩, ⟨fun c h1 _ => by rw [hg_up_ne c h1, hg_up_ne c h1], fun k hk => by rw [hp_up_k (by omega), hp_up_k (by omega)]⟩⟩
  · unfold fX2_refuse fX2_refuse_15
    rw [h8, hx_wr01.2.2, if_neg (by omega), h5, hp_pt, hp_b, hp_pt, hp_b, wr_id (x := (s : Int)) (by omega) (by omega), wr_id (x := -21) (by omega) (by omega)]
  · rw [hp_up_k (by omega), hp_up_eq]
  · rw [hp_up_k (by omega), hp_up_k (by omega)]; exact h2
  · rw [hp_up_k (by omega), hp_up_k (by omega)]; exact h3
theorem hy_refF {t s : Nat} {w : hg_W} (h : hy_F t s w) : ∃ w', fX2_refuse w = some (w', 0) ∧ hy_F t s w' ∧ hy_PC t w w' := by
  obtain ⟨h8, hs, h6, h2, h3⟩ := h
  refine ⟨hg_up w 17 6 (-21), ?_, ⟨?_, hs, hp_up_eq, ?_, ?_⟩, ⟨fun c h1 _ => by rw [hg_up_ne c h1], fun k hk => by rw [hp_up_k (by omega)]⟩⟩
  · unfold fX2_refuse fX2_refuse_15
    rw [h8, wr_id (x := (s : Int)) (by omega) (by omega), if_pos (by omega), hp_pt, hp_b, wr_id (x := -21) (by omega) (by omega)]
  · rw [hp_up_k (by omega)]; exact h8
  · rw [hp_up_k (by omega)]; exact h2
  · rw [hp_up_k (by omega)]; exact h3
theorem hy_mustF {t s : Nat} {w : hg_W} {x : Int} (h : hy_F t s w) (hx : hx_c x) (hx2 : x ≠ -21) : ∃ w', fX2_must w x = some (w', 0) ∧ hy_F t s w' ∧ hy_PC t w w' := by
  obtain ⟨w', g1, g2, g3⟩ := hy_refF h
  refine ⟨w', ?_, g2, g3⟩
  unfold fX2_must
  rw [h.2.2.1, wr_id (x := -21) (by omega) (by omega), wr_id hx.1 hx.2, if_neg (by omega), g1, hp_bd]
theorem hy_writeF {t s : Nat} {w : hg_W} {c : Int} (h : hy_F t s w) (ht6 : t < 6) (hc : wr c = c) : ∃ w', fX2_write w c = some (w', 0) ∧ hy_F t s w' ∧ hy_PC t w w' := by
  obtain ⟨h8, hs, h6, h2, h3, h4⟩ := h
  unfold fX2_write
  rw [h2, show ((3 + t : Nat) : Int).toNat = 3 + t by omega, hy_al ht6, hp_b, wr_id (x := 160) (by omega) (by omega), wr_id (x := w 17 3) (by omega) (by omega)]
  by_cases q : 160 ≤ w 17 3
  · rw [if_pos q]
    exact ⟨w, rfl, ⟨h8, hs, h6, h2, h3, h4⟩, hy_PC.rf⟩
  · rw [if_neg q, hp_rowS (by omega) (by omega) (by omega), hp_b, hp_up_c (by omega), hp_pt, hp_b, wr_id (x := w 17 3 + 1) (by omega) (by omega)]
    refine ⟨_, rfl, ⟨?_, hs, ?_, ?_, ?_, ?_⟩, ⟨fun c' h1 h2 => by rw [hg_up_ne c' h1, hg_up_ne c' h2], fun k hk => by rw [hp_up_k (by omega), hp_up_c (by omega)]⟩⟩
    · rw [hp_up_k (by omega), hp_up_c (by omega)]; exact h8
    · rw [hp_up_k (by omega), hp_up_c (by omega)]; exact h6
    · rw [hp_up_k (by omega), hp_up_c (by omega)]; exact h2
    · rw [hp_up_eq]; omega
    · rw [hp_up_eq]; omega
theorem hy_98F {t s N : Nat} {rec : hg_W → Int → Int → Option (hg_W × Int)} {w : hg_W} {l o x3 x4 : Int} (h : hy_F t s w) (hN : 0 < N) (hl : 0 ≤ l ∧ l ≤ 5) : fX2_readPart_93 rec N w l o x3 x4 = some (w, 0) := by
  obtain ⟨N, rfl⟩ : ∃ z, N = z + 1 := ⟨N - 1, by omega⟩
  simp only [fX2_readPart_93]
  rw [h.2.2.1, hy_levelOf (by unfold hx_c; omega), hp_bd, show hy_lev (-21) = -1 from rfl, hx_wr01.2.2, wr_id (x := l) (by omega) (by omega), if_neg (show ¬ (-1 : Int) = l by omega)]
  unfold fX2_readPart_141
  rw [ite_self]
theorem hy_readF {t s : Nat} : ∀ (M l : Nat) (o : Int) (w : hg_W), l ≤ 5 → 5 - l < M → hy_F t s w → ∃ w', fX2_readPart M w (l : Int) o = some (w', 0) ∧ hy_F t s w' ∧ hy_PC t w w' := by
  intro M
  induction M with
  | zero => intro l o w h1 h2; omega
  | succ M ih =>
    intro l o w h1 h2 h
    have h6 : wr (w 17 6) = -21 := by rw [h.2.2.1, wr_id (by omega) (by omega)]
    have wl : wr (l : Int) = (l : Int) := wr_id (by omega) (by omega)
    have a9 : wr (-9) = -9 := wr_id (by omega) (by omega)
    have a13 : wr (-13) = -13 := wr_id (by omega) (by omega)
    have a16 : wr (-16) = -16 := wr_id (by omega) (by omega)
    have a19 : wr (-19) = -19 := wr_id (by omega) (by omega)
    have a6 : wr (-6) = -6 := wr_id (by omega) (by omega)
    have w5 : wr 5 = 5 := wr_id (by omega) (by omega)
    have w2 : wr 2 = 2 := wr_id (by omega) (by omega)
    simp only [fX2_readPart, hq_eE]
    unfold hq_E hq_14
    rw [h6, a9, a13, if_neg (show ¬ (-21 : Int) = -9 by omega), if_neg (show ¬ (-21 : Int) = -13 by omega), ite_self, ite_self]
    unfold hq_69 fX2_readPart_217 fX2_readPart_88
    rw [h6, a16, a19, hx_wr01.2.2, a6, wl, w5, w2]
    by_cases q : l = 5
    · rw [if_pos (by omega), if_neg (by omega), if_neg (by omega), if_neg (by omega), if_pos (by omega)]
      obtain ⟨w', g1, g2, g3⟩ := hy_refF h
      exact ⟨w', by rw [g1, hp_bd], g2, g3⟩
    · rw [if_neg (by omega), show (l : Int) + 1 = ((l + 1 : Nat) : Int) by omega]
      obtain ⟨w', g1, g2, g3⟩ := ih (l + 1) o w (by omega) (by omega) h
      refine ⟨w', ?_, g2, g3⟩
      rw [g1, hp_bd, hy_98F g2 (by unfold hg_F; omega) (by omega), hy_98F g2 (by unfold hg_F; omega) (by omega), ite_self]
