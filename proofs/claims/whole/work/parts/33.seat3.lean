/-! ===== seating: the reference's test of a code, on lists ===== -/
def hz_dg (n : Nat) : Nat → Nat → List Nat → List Nat
  | 0, _, acc => acc
  | m + 1, c, acc => hz_dg n m (c / n) (c % n :: acc)
def hz_ok : List Nat → Nat → Bool
  | [], _ => true
  | d :: l, mask => if mask / 2 ^ d % 2 = 1 then false else hz_ok l (mask + 2 ^ d)
def hz_num : List Nat → Nat → Nat
  | [], a => a
  | d :: l, a => hz_num l (10 * a + d + 1)
theorem hz_bits : ∀ m : Nat, m < 64 → ∀ d : Nat, d < 6 → hg_and (hg_shr (m : Int) (d : Int)) 1 = ((m / 2 ^ d % 2 : Nat) : Int) ∧ (m / 2 ^ d % 2 = 0 → hg_or (m : Int) (hg_shl 1 (d : Int)) = ((m + 2 ^ d : Nat) : Int) ∧ m + 2 ^ d < 64) := by decide +kernel
theorem hz_gc {d : Nat} {l : List Nat} {k : Nat} : hz_g (d :: l) (k + 1) = hz_g l k := rfl
theorem hz_51 {n : Nat} (hn : 1 ≤ n ∧ n ≤ 6) : ∀ (l : List Nat) (f i mask a : Nat) (v : hg_W), l.length < f → i + l.length = n → mask < 64 → a < 10 ^ i → v 0 0 = (n : Int) → v 0 33 = (a : Int) → (∀ k, k < l.length → v 19 (i + k) = (hz_g l k : Int) ∧ hz_g l k < 6) → ∃ v' : hg_W, fX5_isOrder_51 f v (mask : Int) (i : Int) = some (v', if hz_ok l mask then 1 else 0) ∧ (hz_ok l mask = true → v' 0 33 = (hz_num l a : Int)) ∧ (∀ c, c ≠ 0 → v' c = v c) ∧ ∀ k, k ≠ 33 → v' 0 k = v 0 k := by
  intro l
  induction l with
  | nil =>
    intro f i mask a v h1 h2 h3 h4 h5 h6 h7
    obtain ⟨f, rfl⟩ : ∃ z, f = z + 1 := ⟨f - 1, by have := h1; omega⟩
    have h2' : i = n := h2
    refine ⟨v, ?_, fun _ => h6, fun _ _ => rfl, fun _ _ => rfl⟩
    simp only [fX5_isOrder_51]
    rw [h5, wr_id (x := (n : Int)) (by omega) (by omega), wr_id (x := (i : Int)) (by omega) (by omega), if_pos (by omega), hx_wr01.2.1, if_pos (Or.inr rfl)]
    rfl
  | cons d l ih =>
    intro f i mask a v h1 h2 h3 h4 h5 h6 h7
    rw [List.length_cons] at h1 h2
    obtain ⟨f, rfl⟩ : ∃ z, f = z + 1 := ⟨f - 1, by omega⟩
    obtain ⟨e1, e2⟩ := h7 0 (by rw [List.length_cons]; omega)
    have e1' : v 19 i = (d : Int) := e1
    have e2' : d < 6 := e2
    obtain ⟨b1, b2⟩ := hz_bits mask h3 d e2'
    have p1 : 10 ^ i ≤ 10 ^ 5 := Nat.pow_le_pow_right (by omega) (by omega)
    have p2 : 10 ^ (i + 1) = 10 ^ i * 10 := rfl
    simp only [fX5_isOrder_51, hz_num]
    rw [h5, wr_id (x := (n : Int)) (by omega) (by omega), wr_id (x := (i : Int)) (by omega) (by omega), if_neg (by omega), ag_m19 (by omega) (by omega), show (i : Int).toNat = i by omega, e1']
    simp only [hp_b]
    rw [b1, hx_wr01.1, hx_wr01.2.1, wr_id (x := ((mask / 2 ^ d % 2 : Nat) : Int)) (by omega) (by omega), if_pos (Or.inl rfl)]
    by_cases q : mask / 2 ^ d % 2 = 1
    · have eo : hz_ok (d :: l) mask = false := by simp only [hz_ok]; rw [if_pos q]
      rw [if_pos (by omega), eo]
      exact ⟨v, rfl, fun h => absurd h (by simp), fun _ _ => rfl, fun _ _ => rfl⟩
    · obtain ⟨b3, b4⟩ := b2 (by omega)
      have eo : hz_ok (d :: l) mask = hz_ok l (mask + 2 ^ d) := by simp only [hz_ok]; rw [if_neg q]
      rw [if_neg (by omega), eo, hp_pt, hp_b, b3, h6, wr_id (x := 10 * (a : Int) + (d : Int) + 1) (by omega) (by omega), show 10 * (a : Int) + (d : Int) + 1 = ((10 * a + d + 1 : Nat) : Int) by omega, show (i : Int) + 1 = ((i + 1 : Nat) : Int) by omega]
      obtain ⟨v', g1, g2, g3, g4⟩ := ih f (i + 1) (mask + 2 ^ d) (10 * a + d + 1) (hg_up v 0 33 ((10 * a + d + 1 : Nat) : Int)) (by omega) (by omega) b4 (by omega) (by rw [hp_up_k (by omega)]; exact h5) hp_up_eq (fun k hk => by
        rw [hp_up_c (by omega), show i + 1 + k = i + (k + 1) by omega]
        exact h7 (k + 1) (by rw [List.length_cons]; omega))
      exact ⟨v', g1, g2, fun c hc => (g3 c hc).trans (hg_up_ne c hc), fun k hk => (g4 k hk).trans (hp_up_k hk)⟩
theorem hz_12 {n : Nat} (hn : 1 ≤ n ∧ n ≤ 6) : ∀ (m f c : Nat) (acc : List Nat) (v : hg_W), m < f → m + acc.length = n → c < 100000 → v 0 0 = (n : Int) → (∀ k, k < acc.length → v 19 (m + k) = (hz_g acc k : Int) ∧ hz_g acc k < n) → ∃ v' : hg_W, fX5_isOrder_12 f v (c : Int) 0 ((m : Int) - 1) = fX5_isOrder_51 hg_F (hg_up v' 0 33 0) 0 0 ∧ (hz_dg n m c acc).length = n ∧ (∀ k, k < n → v' 19 k = (hz_g (hz_dg n m c acc) k : Int) ∧ hz_g (hz_dg n m c acc) k < n) ∧ ∀ c, c ≠ 19 → v' c = v c := by
  intro m
  induction m with
  | zero =>
    intro f c acc v h1 h2 h3 h4 h5
    obtain ⟨f, rfl⟩ : ∃ z, f = z + 1 := ⟨f - 1, by omega⟩
    refine ⟨v, ?_, by unfold hz_dg; omega, fun k hk => ?_, fun _ _ => rfl⟩
    · simp only [fX5_isOrder_12]
      rw [wr_id (x := ((0 : Nat) : Int) - 1) (by omega) (by omega), if_pos (by omega), hp_pt, hp_b, hx_wr01.1]
    · have := h5 k (by omega)
      rw [Nat.zero_add] at this
      exact this
  | succ m ih =>
    intro f c acc v h1 h2 h3 h4 h5
    obtain ⟨f, rfl⟩ : ∃ z, f = z + 1 := ⟨f - 1, by omega⟩
    have m1 := Nat.mod_lt c (show n > 0 by omega)
    have m2 := Nat.div_le_self c n
    obtain ⟨v', g1, g2, g3, g4⟩ := ih f (c / n) (c % n :: acc) (hg_up v 19 m ((c % n : Nat) : Int)) (by omega) (by rw [List.length_cons]; omega) (by omega) (by rw [hp_up_c (by omega)]; exact h4) (fun k hk => by
      rw [List.length_cons] at hk
      cases k with
      | zero => rw [Nat.add_zero, hp_up_eq]; exact ⟨rfl, m1⟩
      | succ k =>
        rw [hp_up_k (by omega), hz_gc, show m + (k + 1) = m + 1 + k by omega]
        exact h5 k (by omega))
    refine ⟨v', ?_, g2, g3, fun c hc => (g4 c hc).trans (hg_up_ne c hc)⟩
    rw [← g1]
    have e1 : hg_rm (c : Int) (n : Int) = ((c % n : Nat) : Int) := (hx_rm (by omega) (by omega) (by omega) (by omega)).trans rfl
    have e2 : hg_dv (c : Int) (n : Int) = ((c / n : Nat) : Int) := (hx_dv (by omega) (by omega) (by omega) (by omega)).trans rfl
    have e3 : wr ((c % n : Nat) : Int) = ((c % n : Nat) : Int) := by
      obtain ⟨y, hy⟩ : ∃ y, y = c % n := ⟨_, rfl⟩
      rw [← hy] at m1 ⊢
      exact wr_id (by omega) (by omega)
    simp only [fX5_isOrder_12]
    rw [show ((m + 1 : Nat) : Int) - 1 = (m : Int) by omega, wr_id (x := (m : Int)) (by omega) (by omega), if_neg (by omega), h4, wr_id (x := (n : Int)) (by omega) (by omega), if_neg (by omega), as_m19 (by omega) (by omega), hp_b, e1, e3, show (m : Int).toNat = m by omega, hp_up_c (by omega), h4, wr_id (x := (n : Int)) (by omega) (by omega), if_neg (by omega), e2]
    rfl
theorem hz_isO {n : Nat} (hn : 1 ≤ n ∧ n ≤ 6) {c : Nat} {v : hg_W} (hc : c < 100000) (h0 : v 0 0 = (n : Int)) : (hz_dg n n c []).length = n ∧ (∀ k, k < n → hz_g (hz_dg n n c []) k < n) ∧ ∃ v' : hg_W, fX5_isOrder v (c : Int) = some (v', if hz_ok (hz_dg n n c []) 0 then 1 else 0) ∧ (hz_ok (hz_dg n n c []) 0 = true → v' 0 33 = (hz_num (hz_dg n n c []) 0 : Int)) ∧ (∀ k, k < n → v' 19 k = (hz_g (hz_dg n n c []) k : Int)) ∧ (∀ cc, cc ≠ 0 → cc ≠ 19 → v' cc = v cc) ∧ ∀ k, k ≠ 33 → v' 0 k = v 0 k := by
  obtain ⟨v1, g1, g2, g3, g4⟩ := hz_12 hn n hg_F c [] v (by unfold hg_F; omega) rfl hc h0 (fun k hk => absurd hk (by simp))
  obtain ⟨v2, l1, l2, l3, l4⟩ := hz_51 hn (hz_dg n n c []) hg_F 0 0 0 (hg_up v1 0 33 0) (by rw [g2]; unfold hg_F; omega) (by rw [g2]; omega) (by omega) (by decide) (by rw [hp_up_k (by omega), g4 0 (by omega)]; exact h0) hp_up_eq (fun k hk => by
    rw [g2] at hk
    rw [hp_up_c (by omega), Nat.zero_add]
    exact ⟨(g3 k hk).1, by have := (g3 k hk).2; omega⟩)
  refine ⟨g2, fun k hk => (g3 k hk).2, v2, ?_, l2, fun k hk => ?_, fun cc h1 h2 => ?_, fun k hk => ?_⟩
  · unfold fX5_isOrder
    rw [h0]
    have l1' : fX5_isOrder_51 hg_F (hg_up v1 0 33 0) 0 0 = _ := l1
    rw [g1, l1']
  · rw [l3 19 (by omega), hp_up_c (by omega)]; exact (g3 k hk).1
  · rw [l3 cc h1, hg_up_ne cc h1, g4 cc h2]
  · rw [l4 k hk, hp_up_k hk, g4 0 (by omega)]
