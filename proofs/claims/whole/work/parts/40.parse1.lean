/-! ===== text: what the reference holds back, and what the class writes ===== -/
def hy_rk (s : Int) : Nat := if s = 0 then 0 else if s = 11 then 1 else if s = 12 then 2 else if s = 13 then 3 else if 15 < s then (if 17 < s then (if s = 18 then 6 else 7) else 5) else 4
def hy_ct : List Int → Int
  | [] => 0
  | s :: P => (if s = 13 ∨ s = 19 then 1 else 0) + hy_ct P
theorem hy_ctA {Q : List Int} : ∀ P : List Int, hy_ct (P ++ Q) = hy_ct P + hy_ct Q := by
  intro P
  induction P with
  | nil => show hy_ct Q = 0 + hy_ct Q; omega
  | cons s P ih => show (if s = 13 ∨ s = 19 then 1 else 0) + hy_ct (P ++ Q) = ((if s = 13 ∨ s = 19 then 1 else 0) + hy_ct P) + hy_ct Q; rw [ih]; omega
theorem hy_ctB : ∀ P : List Int, 0 ≤ hy_ct P ∧ hy_ct P ≤ P.length := by
  intro P
  induction P with
  | nil => exact ⟨Int.le_refl _, Int.le_refl _⟩
  | cons s P ih =>
    rw [List.length_cons]
    simp only [hy_ct]
    split <;> omega
theorem hy_ctR : ∀ k : Nat, hy_ct (List.replicate k 19) = (k : Int) := by
  intro k
  induction k with
  | zero => rfl
  | succ k ih => rw [List.replicate_succ]; simp only [hy_ct]; rw [ih]; simp; omega
theorem hy_gA1 {O Q : List Int} {j : Nat} (h : j < O.length) : (O ++ Q).getD j 0 = O.getD j 0 := by
  rw [List.getD_eq_getElem?_getD, List.getD_eq_getElem?_getD, List.getElem?_append_left h]
theorem hy_gA2 {O Q : List Int} {j : Nat} : (O ++ Q).getD (O.length + j) 0 = Q.getD j 0 := by
  rw [List.getD_eq_getElem?_getD, List.getD_eq_getElem?_getD, List.getElem?_append_right (by omega), Nat.add_sub_cancel_left]
theorem hy_gC {s : Int} {S : List Int} {j : Nat} : (s :: S).getD (j + 1) 0 = S.getD j 0 := rfl
def hy_M (t : Nat) (O S : List Int) (op : Int) (v : hg_W) : Prop := v 0 26 = (S.length : Int) ∧ (∀ j, j < S.length → v 15 (S.length - 1 - j) = S.getD j 0) ∧ v 0 27 = op ∧ v 0 28 = (O.length : Int) ∧ ∀ j, j < O.length → v 6 (200 * t + j) = O.getD j 0
def hy_PS (t : Nat) (v v' : hg_W) : Prop := (∀ c, c ≠ 0 → c ≠ 6 → c ≠ 15 → v' c = v c) ∧ (∀ k, k ≠ 26 → k ≠ 27 → k ≠ 28 → v' 0 k = v 0 k) ∧ ∀ j, (j < 200 * t ∨ 200 * t + 200 ≤ j) → v' 6 j = v 6 j
theorem hy_PS.rf {t : Nat} {v : hg_W} : hy_PS t v v := ⟨fun _ _ _ _ => rfl, fun _ _ _ _ => rfl, fun _ _ => rfl⟩
theorem hy_PS.tr {t : Nat} {a b c : hg_W} (h1 : hy_PS t a b) (h2 : hy_PS t b c) : hy_PS t a c := ⟨fun x p q r => (h2.1 x p q r).trans (h1.1 x p q r), fun k p q r => (h2.2.1 k p q r).trans (h1.2.1 k p q r), fun j h => (h2.2.2 j h).trans (h1.2.2 j h)⟩
theorem hy_puts {t : Nat} {O S : List Int} {op s : Int} {v : hg_W} (hM : hy_M t O S op v) (ht : v 0 11 = (t : Int)) (ht6 : t < 6) (hO : O.length < 200) (hs : wr s = s) : ∃ v', fX5_puts v s = some (v', 0) ∧ hy_M t (O ++ [s]) S op v' ∧ hy_PS t v v' := by
  obtain ⟨m1, m2, m3, m4, m5⟩ := hM
  refine ⟨hg_up (hg_up v 6 (200 * t + O.length) s) 0 28 ((O.length + 1 : Nat) : Int), ?_, ⟨?_, fun j hj => ?_, ?_, ?_, fun j hj => ?_⟩, ⟨fun c h0 h6 h15 => by rw [hg_up_ne c h0, hg_up_ne c h6], fun k _ _ hk => by rw [hp_up_k hk, hp_up_c (by omega)], fun j hj => by rw [hp_up_c (by omega), hp_up_k (by omega)]⟩⟩
  · unfold fX5_puts
    rw [ht, m4, as_m6 (by omega) (by omega), hp_b, hp_up_c (by omega), m4, hp_pt, hp_b, hs, show (200 * (t : Int) + (O.length : Int)).toNat = 200 * t + O.length by omega, wr_id (x := (O.length : Int) + 1) (by omega) (by omega)]
    rfl
  · rw [hp_up_k (by omega), hp_up_c (by omega)]; exact m1
  · rw [hp_up_c (by omega), hp_up_c (by omega)]; exact m2 j hj
  · rw [hp_up_k (by omega), hp_up_c (by omega)]; exact m3
  · rw [hp_up_eq, List.length_append]; rfl
  · rw [List.length_append] at hj
    have hj' : j < O.length + 1 := hj
    rw [hp_up_c (by omega)]
    by_cases q : j = O.length
    · subst q
      rw [hp_up_eq]
      exact (hy_gA2 (O := O) (Q := [s]) (j := 0)).symm
    · rw [hp_up_k (by omega), hy_gA1 (by omega)]
      exact m5 j (by omega)
theorem hy_holds {t : Nat} {O S : List Int} {op s : Int} {v : hg_W} (hM : hy_M t O S op v) (hS : S.length < 200) (hs : wr s = s) : ∃ v', fX5_holds v s = some (v', 0) ∧ hy_M t O (s :: S) op v' ∧ hy_PS t v v' := by
  obtain ⟨m1, m2, m3, m4, m5⟩ := hM
  refine ⟨hg_up (hg_up v 15 S.length s) 0 26 ((S.length + 1 : Nat) : Int), ?_, ⟨hp_up_eq, fun j hj => ?_, ?_, ?_, fun j hj => ?_⟩, ⟨fun c h0 h6 h15 => by rw [hg_up_ne c h0, hg_up_ne c h15], fun k hk _ _ => by rw [hp_up_k hk, hp_up_c (by omega)], fun j hj => by rw [hp_up_c (by omega), hp_up_c (by omega)]⟩⟩
  · unfold fX5_holds
    rw [m1, as_m15 (by omega) (by omega), hp_b, hp_up_c (by omega), m1, hp_pt, hp_b, hs, show ((S.length : Int)).toNat = S.length by omega, wr_id (x := (S.length : Int) + 1) (by omega) (by omega)]
    rfl
  · rw [List.length_cons] at hj ⊢
    rw [hp_up_c (by omega)]
    cases j with
    | zero => exact hp_up_eq
    | succ j =>
      rw [hp_up_k (by omega), show S.length + 1 - 1 - (j + 1) = S.length - 1 - j by omega, hy_gC]
      exact m2 j (by omega)
  · rw [hp_up_k (by omega), hp_up_c (by omega)]; exact m3
  · rw [hp_up_k (by omega), hp_up_c (by omega)]; exact m4
  · rw [hp_up_c (by omega), hp_up_c (by omega)]; exact m5 j hj
theorem hy_rank {v : hg_W} {s : Int} (hs : 0 ≤ s ∧ s ≤ 19) : fX5_rank v s = some (v, (hy_rk s : Int)) := by
  unfold fX5_rank hy_rk
  rw [wr_id (x := s) (by omega) (by omega), hx_wr01.1, wr_id (x := 11) (by omega) (by omega), wr_id (x := 12) (by omega) (by omega), wr_id (x := 13) (by omega) (by omega), wr_id (x := 15) (by omega) (by omega), wr_id (x := 17) (by omega) (by omega), wr_id (x := 18) (by omega) (by omega), hx_wr01.2.1, wr_id (x := 2) (by omega) (by omega), wr_id (x := 3) (by omega) (by omega), wr_id (x := 4) (by omega) (by omega), wr_id (x := 5) (by omega) (by omega), wr_id (x := 6) (by omega) (by omega), wr_id (x := 7) (by omega) (by omega)]
  by_cases q : s = 0
  · rw [if_pos q, if_pos q]; rfl
  · rw [if_neg q, if_neg q]
    by_cases q : s = 11
    · rw [if_pos q, if_pos q]; rfl
    · rw [if_neg q, if_neg q]
      by_cases q : s = 12
      · rw [if_pos q, if_pos q]; rfl
      · rw [if_neg q, if_neg q]
        by_cases q : s = 13
        · rw [if_pos q, if_pos q]; rfl
        · rw [if_neg q, if_neg q]
          by_cases q : 15 < s
          · rw [if_pos q, if_pos q]
            by_cases q : 17 < s
            · rw [if_pos q, if_pos q]
              by_cases q : s = 18
              · rw [if_pos q, if_pos q]; rfl
              · rw [if_neg q, if_neg q]; rfl
            · rw [if_neg q, if_neg q]; rfl
          · rw [if_neg q, if_neg q]; rfl
theorem hy_rk7 (s : Int) : hy_rk s ≤ 7 := by
  unfold hy_rk
  repeat' split
  all_goals omega
def hy_low (H : List Int) (l : Nat) : Prop := H = [] ∨ (0 ≤ H.getD 0 0 ∧ H.getD 0 0 ≤ 19) ∧ hy_rk (H.getD 0 0) < l
theorem hy_unw {t : Nat} {H : List Int} {least : Nat} (ht6 : t < 6) (hl : least ≤ 7) (hH : hy_low H least) : ∀ (P O : List Int) (N : Nat) (op : Int) (v : hg_W), P.length < N → hy_M t O (P ++ H) op v → v 0 11 = (t : Int) → (∀ s, s ∈ P → (0 ≤ s ∧ s ≤ 19) ∧ least ≤ hy_rk s) → O.length + P.length + H.length ≤ 160 → -1000 < op - P.length → op < 1000 → ∃ v', fX5_unwinds_0 N v (least : Int) = some (v', 0) ∧ hy_M t (O ++ P) H (op - hy_ct P) v' ∧ hy_PS t v v' := by
  intro P
  induction P with
  | nil =>
    intro O N op v h1 hM ht hP hlen ho1 ho2
    obtain ⟨N, rfl⟩ : ∃ z, N = z + 1 := ⟨N - 1, by have := h1; omega⟩
    have hlen' : O.length + 0 + H.length ≤ 160 := hlen
    obtain ⟨m1, m2, m3, m4, m5⟩ := id hM
    refine ⟨v, ?_, ?_, hy_PS.rf⟩
    · have m1' : v 0 26 = (H.length : Int) := m1
      simp only [fX5_unwinds_0]
      rw [m1', wr_id (x := (H.length : Int)) (by omega) (by omega)]
      rcases hH with h | ⟨h2, h3⟩
      · rw [h, if_pos (by show ((0 : Nat) : Int) ≤ 0; omega)]
      · cases H with
        | nil => rfl
        | cons s H =>
          have e : v 15 H.length = s := m2 0 (by show 0 < H.length + 1; omega)
          have h2' : 0 ≤ s ∧ s ≤ 19 := h2
          have h3' : hy_rk s < least := h3
          rw [List.length_cons] at hlen'
          rw [List.length_cons, if_neg (by omega), ag_m15 (by omega) (by omega), hp_b, show (((H.length + 1 : Nat) : Int) - 1).toNat = H.length by omega, e, hy_rank h2', hp_bd, wr_id (x := (hy_rk s : Int)) (by omega) (by omega), wr_id (x := (least : Int)) (by omega) (by omega), if_pos (by omega)]
    · rw [List.append_nil]
      show hy_M t O H (op - 0) v
      rw [Int.sub_zero]
      exact hM
  | cons s P ih =>
    intro O N op v h1 hM ht hP hlen ho1 ho2
    rw [List.length_cons] at h1 hlen ho1
    obtain ⟨N, rfl⟩ : ∃ z, N = z + 1 := ⟨N - 1, by omega⟩
    obtain ⟨⟨s1, s2⟩, s3⟩ := hP s (List.mem_cons_self ..)
    obtain ⟨m1, m2, m3, m4, m5⟩ := id hM
    have eL : (s :: P ++ H).length = P.length + H.length + 1 := by rw [List.cons_append, List.length_cons, List.length_append]
    rw [eL] at m1 m2
    have e : v 15 (P.length + H.length) = s := m2 0 (by omega)
    have hr := hy_rk7 s
    have ws : wr s = s := wr_id (by omega) (by omega)
    -- without the top
    have hM1 : hy_M t O (P ++ H) op (hg_up v 0 26 ((P.length + H.length : Nat) : Int)) := by
      refine ⟨?_, fun j hj => ?_, ?_, ?_, fun j hj => ?_⟩
      · rw [hp_up_eq, List.length_append]
      · rw [List.length_append] at hj ⊢
        rw [hp_up_c (by omega)]
        have := m2 (j + 1) (by omega)
        rw [show P.length + H.length + 1 - 1 - (j + 1) = P.length + H.length - 1 - j by omega] at this
        exact this
      · rw [hp_up_k (by omega)]; exact m3
      · rw [hp_up_k (by omega)]; exact m4
      · rw [hp_up_c (by omega)]; exact m5 j hj
    have go : ∀ x : Int, x = (if s = 13 ∨ s = 19 then 1 else 0) → ∃ v', fX5_unwinds_67 (fX5_unwinds_0 N) (hg_up v 0 26 ((P.length + H.length : Nat) : Int)) (least : Int) s op x = some (v', 0) ∧ hy_M t (O ++ s :: P) H (op - hy_ct (s :: P)) v' ∧ hy_PS t v v' := by
      intro x hx
      have hx01 : x = 0 ∨ x = 1 := by
        rw [hx]
        split
        · exact Or.inr rfl
        · exact Or.inl rfl
      have hM2 : hy_M t O (P ++ H) (op - x) (hg_up (hg_up v 0 26 ((P.length + H.length : Nat) : Int)) 0 27 (op - x)) := by
        obtain ⟨n1, n2, n3, n4, n5⟩ := hM1
        refine ⟨by rw [hp_up_k (by omega)]; exact n1, fun j hj => by rw [hp_up_c (by omega)]; exact n2 j hj, hp_up_eq, by rw [hp_up_k (by omega)]; exact n4, fun j hj => by rw [hp_up_c (by omega)]; exact n5 j hj⟩
      have hPS0 : hy_PS t v (hg_up (hg_up v 0 26 ((P.length + H.length : Nat) : Int)) 0 27 (op - x)) := ⟨fun c h0 h6 h15 => by rw [hg_up_ne c h0, hg_up_ne c h0], fun k h26 h27 h28 => by rw [hp_up_k h27, hp_up_k h26], fun j hj => by rw [hp_up_c (by omega), hp_up_c (by omega)]⟩
      obtain ⟨v1, g1, g2, g3⟩ := hy_puts hM2 (by rw [hPS0.2.1 11 (by omega) (by omega) (by omega)]; exact ht) ht6 (by omega) ws
      obtain ⟨v2, k1, k2, k3⟩ := ih (O ++ [s]) N (op - x) v1 (by omega) g2 (by rw [g3.2.1 11 (by omega) (by omega) (by omega), hPS0.2.1 11 (by omega) (by omega) (by omega)]; exact ht) (fun s' h' => hP s' (List.mem_cons_of_mem _ h')) (by rw [List.length_append]; show O.length + 1 + P.length + H.length ≤ 160; omega) (by omega) (by omega)
      refine ⟨v2, ?_, ?_, (hPS0.tr g3).tr k3⟩
      · unfold fX5_unwinds_67
        rw [hp_pt, hp_b, wr_id (x := op - x) (by omega) (by omega), g1, hp_bd]
        exact k1
      · rw [List.append_assoc] at k2
        simp only [hy_ct]
        rw [← hx, show op - (x + hy_ct P) = op - x - hy_ct P by omega]
        exact k2
    simp only [fX5_unwinds_0]
    rw [m1, wr_id (x := ((P.length + H.length + 1 : Nat) : Int)) (by omega) (by omega), if_neg (by omega), ag_m15 (by omega) (by omega), hp_b, show (((P.length + H.length + 1 : Nat) : Int) - 1).toNat = P.length + H.length by omega, e, hy_rank ⟨s1, s2⟩, hp_bd, wr_id (x := (hy_rk s : Int)) (by omega) (by omega), wr_id (x := (least : Int)) (by omega) (by omega), if_neg (by omega), m1, hp_pt, hp_b, show ((P.length + H.length + 1 : Nat) : Int) - 1 = ((P.length + H.length : Nat) : Int) by omega, wr_id (x := ((P.length + H.length : Nat) : Int)) (by omega) (by omega), hp_up_eq, ag_m15 (by omega) (by omega), hp_b, hp_up_c (show 15 ≠ 0 by omega), show (((P.length + H.length : Nat) : Int)).toNat = P.length + H.length by omega, e, ws, wr_id (x := 13) (by omega) (by omega), wr_id (x := 19) (by omega) (by omega), hp_up_k (show 27 ≠ 26 by omega), m3]
    unfold fX5_unwinds_62
    by_cases q1 : s = 13
    · rw [if_pos q1]
      exact go 1 (by rw [if_pos (Or.inl q1)])
    · rw [if_neg q1]
      by_cases q2 : s = 19
      · rw [if_pos q2]
        exact go 1 (by rw [if_pos (Or.inr q2)])
      · rw [if_neg q2]
        exact go 0 (by rw [if_neg (by rintro (h | h) <;> contradiction)])
theorem hy_unwinds {t least : Nat} {H P O : List Int} {op : Int} {v : hg_W} (ht6 : t < 6) (hl : least ≤ 7) (hH : hy_low H least) (hM : hy_M t O (P ++ H) op v) (ht : v 0 11 = (t : Int)) (hP : ∀ s, s ∈ P → (0 ≤ s ∧ s ≤ 19) ∧ least ≤ hy_rk s) (hlen : O.length + P.length + H.length ≤ 160) (ho : -800 < op ∧ op < 800) : ∃ v', fX5_unwinds v (least : Int) = some (v', 0) ∧ hy_M t (O ++ P) H (op - hy_ct P) v' ∧ hy_PS t v v' :=
  hy_unw ht6 hl hH P O hg_F op v (by unfold hg_F; omega) hM ht hP hlen (by omega) (by omega)
theorem hy_opens {t : Nat} {O S : List Int} {op s : Int} {v : hg_W} (hM : hy_M t O S op v) (hS : S.length < 200) (hs : wr s = s) (ho : 0 ≤ op ∧ op ≤ 5) : (op = 5 ∧ fX5_opensOne v s = some (v, 0)) ∨ (op < 5 ∧ ∃ v', fX5_opensOne v s = some (v', 1) ∧ hy_M t O (s :: S) (op + 1) v' ∧ hy_PS t v v') := by
  obtain ⟨m1, m2, m3, m4, m5⟩ := id hM
  unfold fX5_opensOne
  rw [m3, wr_id (x := op) (by omega) (by omega), wr_id (x := 5) (by omega) (by omega), hx_wr01.1, hx_wr01.2.1, if_pos (Or.inl rfl)]
  by_cases q : op = 5
  · left
    rw [if_pos q]
    exact ⟨q, rfl⟩
  · right
    rw [if_neg q, hp_pt, hp_b, wr_id (x := op + 1) (by omega) (by omega)]
    have hM1 : hy_M t O S (op + 1) (hg_up v 0 27 (op + 1)) := ⟨by rw [hp_up_k (by omega)]; exact m1, fun j hj => by rw [hp_up_c (by omega)]; exact m2 j hj, hp_up_eq, by rw [hp_up_k (by omega)]; exact m4, fun j hj => by rw [hp_up_c (by omega)]; exact m5 j hj⟩
    have hPS0 : hy_PS t v (hg_up v 0 27 (op + 1)) := ⟨fun c h0 h6 h15 => hg_up_ne c h0, fun k h26 h27 h28 => hp_up_k h27, fun j hj => by rw [hp_up_c (by omega)]⟩
    obtain ⟨v', g1, g2, g3⟩ := hy_holds hM1 hS hs
    refine ⟨by omega, v', ?_, g2, hPS0.tr g3⟩
    rw [g1, hp_bd, if_pos (Or.inr rfl)]
/-! the class's -/
def hy_K (t : Nat) (C : List Int) (w : hg_W) : Prop := w 17 2 = ((3 + t : Nat) : Int) ∧ w 17 3 = (C.length : Int) ∧ ∀ j, j < C.length → w (3 + t) j = C.getD j 0
def hy_PC (t : Nat) (w w' : hg_W) : Prop := (∀ c, c ≠ 17 → c ≠ 3 + t → w' c = w c) ∧ ∀ k, (k < 3 ∨ 8 < k) → w' 17 k = w 17 k
theorem hy_PC.rf {t : Nat} {w : hg_W} : hy_PC t w w := ⟨fun _ _ _ => rfl, fun _ _ => rfl⟩
theorem hy_PC.tr {t : Nat} {a b c : hg_W} (h1 : hy_PC t a b) (h2 : hy_PC t b c) : hy_PC t a c := ⟨fun x p q => (h2.1 x p q).trans (h1.1 x p q), fun k h => (h2.2 k h).trans (h1.2 k h)⟩
theorem hy_LC.pc {t : Nat} {w w' : hg_W} (h : hy_LC w w') : hy_PC t w w' := ⟨fun c h1 _ => h.1 c h1, fun k hk => h.2 k (by omega) (by omega) (by omega) (by omega)⟩
theorem hy_al {t : Nat} (ht6 : t < 6) : hg_al 0 (3 + t) = some 160 := by
  have : ∀ t, t < 6 → hg_al 0 (3 + t) = some 160 := by decide +kernel
  exact this t ht6
theorem hy_write {t : Nat} {C : List Int} {c : Int} {w : hg_W} (hK : hy_K t C w) (ht6 : t < 6) (hC : C.length < 160) (hc : wr c = c) : ∃ w', fX2_write w c = some (w', 0) ∧ hy_K t (C ++ [c]) w' ∧ hy_PC t w w' ∧ ∀ k, k ≠ 3 → w' 17 k = w 17 k := by
  obtain ⟨k1, k2, k3⟩ := hK
  refine ⟨hg_up (hg_up w (3 + t) C.length c) 17 3 ((C.length + 1 : Nat) : Int), ?_, ⟨?_, ?_, fun j hj => ?_⟩, ⟨fun c' h1 h2 => by rw [hg_up_ne c' h1, hg_up_ne c' h2], fun k hk => by rw [hp_up_k (by omega), hp_up_c (by omega)]⟩, fun k hk => by rw [hp_up_k hk, hp_up_c (by omega)]⟩
  · unfold fX2_write
    rw [k1, show ((3 + t : Nat) : Int).toNat = 3 + t by omega, hy_al ht6, hp_b, k2, wr_id (x := 160) (by omega) (by omega), wr_id (x := (C.length : Int)) (by omega) (by omega), if_neg (by omega), hp_rowS (by omega) (by omega) (by omega), hp_b, hp_up_c (by omega), k2, hp_pt, hp_b, hc, show ((C.length : Int)).toNat = C.length by omega, wr_id (x := (C.length : Int) + 1) (by omega) (by omega)]
    rfl
  · rw [hp_up_k (by omega), hp_up_c (by omega)]; exact k1
  · rw [hp_up_eq, List.length_append]; rfl
  · rw [List.length_append] at hj
    have hj' : j < C.length + 1 := hj
    rw [hp_up_c (by omega)]
    by_cases q : j = C.length
    · subst q
      rw [hp_up_eq]
      exact (hy_gA2 (O := C) (Q := [c]) (j := 0)).symm
    · rw [hp_up_k q, hy_gA1 (by omega)]
      exact k3 j (by omega)
def hy_lev (c : Int) : Int := if c = -14 then 4 else if c = -13 then 3 else if c = -12 then 3 else if c = -11 then 2 else if c = -10 then 2 else if c = -9 then -1 else if c = -8 then 1 else if c = -7 then 0 else -1
theorem hy_levelOf {w : hg_W} {c : Int} (hc : hx_c c) : fX2_levelOf w c = some (w, hy_lev c) := by
  unfold fX2_levelOf hy_lev
  rw [wr_id hc.1 hc.2, hx_wr01.1, hx_wr01.2.1, hx_wr01.2.2, wr_id (x := 4) (by omega) (by omega), wr_id (x := 3) (by omega) (by omega), wr_id (x := 2) (by omega) (by omega)]
  repeat' split
  all_goals rfl
theorem hy_tkI {tc nu tm vm : Int} (h : hy_tk tc nu tm vm) : (-24 ≤ tc ∧ tc ≤ -1 ∧ -1 ≤ tm ∧ tm ≤ 61) ∧ (tm = 0 ↔ tc = -20) ∧ (tm = 1 ↔ tc = -19) ∧ (tm = 2 ↔ -6 ≤ tc) ∧ (tm = 3 ↔ tc ≤ -22) ∧ (tm = 4 ↔ tc = -7) ∧ (tm = 5 ↔ tc = -8) ∧ (tm = 6 ↔ tc = -9) ∧ (tm = 40 ↔ tc = -16) ∧ (tm = 41 ↔ tc = -17) ∧ (tm = 59 ↔ tc = -18) ∧ (tm = 43 ↔ tc = -12) ∧ (tm = 45 ↔ tc = -13) ∧ (tm = 42 ↔ tc = -14) ∧ (tm = 60 ↔ tc = -10) ∧ (tm = 61 ↔ tc = -11) ∧ (tc = -19 → vm = nu ∧ 0 ≤ nu ∧ nu ≤ 9999) ∧ (-6 ≤ tc → vm = -1 - tc) ∧ (tc ≤ -22 → vm = -22 - tc) := by
  unfold hy_tk at h
  rcases h with h | h | h | h | h | h | h | h | h | h | h | h | h | h <;> (refine ⟨?_, ?_, ?_, ?_, ?_, ?_, ?_, ?_, ?_, ?_, ?_, ?_, ?_, ?_, ?_, ?_, ?_, ?_, ?_⟩ <;> omega)
theorem hy_signOf {v : hg_W} {tc nu vm : Int} (h : hy_tk tc nu (v 0 22) vm) : fX5_signOf v = some (v, if 0 ≤ hy_lev tc then 4 - tc else -1) := by
  obtain ⟨i0, -, -, -, -, i4, i5, -, -, -, -, i43, i45, i42, i60, i61, -⟩ := hy_tkI h
  unfold fX5_signOf hy_lev
  rw [wr_id (x := v 0 22) (by omega) (by omega), wr_id (x := 4) (by omega) (by omega), wr_id (x := 5) (by omega) (by omega), wr_id (x := 60) (by omega) (by omega), wr_id (x := 61) (by omega) (by omega), wr_id (x := 43) (by omega) (by omega), wr_id (x := 45) (by omega) (by omega), wr_id (x := 42) (by omega) (by omega), wr_id (x := 11) (by omega) (by omega), wr_id (x := 12) (by omega) (by omega), wr_id (x := 14) (by omega) (by omega), wr_id (x := 15) (by omega) (by omega), wr_id (x := 16) (by omega) (by omega), wr_id (x := 17) (by omega) (by omega), wr_id (x := 18) (by omega) (by omega), hx_wr01.2.2]
  clear h
  rcases (by omega : tc = -7 ∨ tc = -8 ∨ tc = -10 ∨ tc = -11 ∨ tc = -12 ∨ tc = -13 ∨ tc = -14 ∨ (tc ≠ -7 ∧ tc ≠ -8 ∧ tc ≠ -10 ∧ tc ≠ -11 ∧ tc ≠ -12 ∧ tc ≠ -13 ∧ tc ≠ -14)) with rfl | rfl | rfl | rfl | rfl | rfl | rfl | hh
  · rw [if_pos (by omega)]; rfl
  · rw [if_neg (by omega), if_pos (by omega)]; rfl
  · rw [if_neg (by omega), if_neg (by omega), if_pos (by omega)]; rfl
  · rw [if_neg (by omega), if_neg (by omega), if_neg (by omega), if_pos (by omega)]; rfl
  · rw [if_neg (by omega), if_neg (by omega), if_neg (by omega), if_neg (by omega), if_pos (by omega)]; rfl
  · rw [if_neg (by omega), if_neg (by omega), if_neg (by omega), if_neg (by omega), if_neg (by omega), if_pos (by omega)]; rfl
  · rw [if_neg (by omega), if_neg (by omega), if_neg (by omega), if_neg (by omega), if_neg (by omega), if_neg (by omega), if_pos (by omega)]; rfl
  · obtain ⟨a1, a2, a3, a4, a5, a6, a7⟩ := hh
    rw [if_neg (show ¬ v 0 22 = 4 by omega), if_neg (show ¬ v 0 22 = 5 by omega), if_neg (show ¬ v 0 22 = 60 by omega), if_neg (show ¬ v 0 22 = 61 by omega), if_neg (show ¬ v 0 22 = 43 by omega), if_neg (show ¬ v 0 22 = 45 by omega), if_neg (show ¬ v 0 22 = 42 by omega), if_neg a7, if_neg a6, if_neg a5, if_neg a4, if_neg a3, if_neg a2, if_neg a1]
    simp
