/-! ===== seating: the class's next order, on lists ===== -/
def hz_g (L : List Nat) (i : Nat) : Nat := L.getD i 0
def hz_sw (L : List Nat) (a b : Nat) : List Nat := (L.set a (hz_g L b)).set b (hz_g L a)
def hz_pv (L : List Nat) : Nat → Nat
  | 0 => 0
  | j + 1 => if hz_g L j ≤ hz_g L (j + 1) then j + 1 else hz_pv L j
def hz_sc (L : List Nat) (j : Nat) : Nat → Nat
  | 0 => 0
  | k + 1 => if k + 1 ≤ j + 1 then k + 1 else if hz_g L j ≤ hz_g L (k + 1) then k + 1 else hz_sc L j k
def hz_rv (n j : Nat) : Nat → List Nat → Nat → List Nat
  | 0, L, _ => L
  | m + 1, L, i => if n - i ≤ j + i then L else hz_rv n j m (hz_sw L (j + i) (n - i)) (i + 1)
def hz_nx (n : Nat) (L : List Nat) : Option (List Nat) :=
  match hz_pv L (n - 1) with
  | 0 => none
  | j + 1 => some (hz_rv n j 6 (hz_sw L j (hz_sc L j (n - 1))) 1)
def hz_W (n : Nat) (w : hg_W) (L : List Nat) : Prop := L.length = n ∧ ∀ i, i < n → w 55 i = (hz_g L i : Int) ∧ hz_g L i < 6
theorem hz_gs {L : List Nat} {a x i : Nat} (ha : a < L.length) : hz_g (L.set a x) i = if i = a then x else hz_g L i := by
  unfold hz_g
  rw [List.getD_eq_getElem?_getD, List.getD_eq_getElem?_getD, List.getElem?_set]
  by_cases q : a = i
  · subst q; simp [ha]
  · rw [if_neg q, if_neg (fun e => q e.symm)]
theorem hz_swW {n a b : Nat} {w : hg_W} {L : List Nat} (h : hz_W n w L) (hn : n ≤ 6) (ha : a < n) (hb : b < n) : ∃ w' : hg_W, fX4_swapInOrder w (a : Int) (b : Int) = some (w', 0) ∧ hz_W n w' (hz_sw L a b) ∧ ∀ c, c ≠ 55 → w' c = w c := by
  obtain ⟨h1, h2⟩ := h
  obtain ⟨a1, a2⟩ := h2 a ha
  obtain ⟨b1, b2⟩ := h2 b hb
  refine ⟨hg_up (hg_up w 55 a (hz_g L b : Int)) 55 b (hz_g L a : Int), ?_, ⟨by unfold hz_sw; rw [List.length_set, List.length_set, h1], fun i hi => ?_⟩, fun c hc => by rw [hg_up_ne c hc, hg_up_ne c hc]⟩
  · unfold fX4_swapInOrder
    rw [ag_h55 (by omega) (by omega), hp_b, ag_h55 (by omega) (by omega), hp_b, as_h55 (by omega) (by omega), hp_b, as_h55 (by omega) (by omega), hp_b, show (a : Int).toNat = a by omega, show (b : Int).toNat = b by omega, a1, b1, wr_id (x := (hz_g L a : Int)) (by omega) (by omega), wr_id (x := (hz_g L b : Int)) (by omega) (by omega)]
  · unfold hz_sw
    rw [hz_gs (by rw [List.length_set]; omega), hz_gs (by omega)]
    by_cases q1 : i = b
    · subst q1
      rw [if_pos rfl, hp_up_eq]; exact ⟨rfl, a2⟩
    · rw [if_neg q1, hp_up_k q1]
      by_cases q2 : i = a
      · subst q2
        rw [if_pos rfl, hp_up_eq]; exact ⟨rfl, b2⟩
      · rw [if_neg q2, hp_up_k q2]; exact h2 i hi
