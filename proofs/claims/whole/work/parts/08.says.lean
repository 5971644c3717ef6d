/-! ===== what a TEXT says: the two stack machines in step ===== -/
/-- a code of the class's as the reference has it -/
def hs_enc (c : Int) : Int := if 0 ≤ c then 100000 + c else if -6 ≤ c then -1 - c else 4 - c
/-- a row of codes, from place i on, m of them, with n on the stack: it can be read, and one is left -/
def hs_dk (f : Nat → Int) : Nat → Nat → Nat → Prop
  | _, 0, n => n = 1
  | i, m + 1, n => (-15 ≤ f i ∧ f i ≤ 9999) ∧ (if -6 ≤ f i then n < 39 ∧ hs_dk f (i + 1) m (n + 1) else if f i = -15 ∨ f i = -9 then 1 ≤ n ∧ hs_dk f (i + 1) m n else 2 ≤ n ∧ hs_dk f (i + 1) m (n - 1))
theorem hs_two {c x y : Int} (h1 : -15 < c) (h2 : c < -6) (h3 : c ≠ -9) : ∃ r : Int, wr r = r ∧ ∀ w v : hg_W, fX3_joined w c x y = some (w, r) ∧ fX5_two v (4 - c) x y = some (v, r) := by
  have w0 : wr 0 = 0 := wr_id (by omega) (by omega)
  have w1 : wr 1 = 1 := wr_id (by omega) (by omega)
  have hc : c = -14 ∨ c = -13 ∨ c = -12 ∨ c = -11 ∨ c = -10 ∨ c = -8 ∨ c = -7 := by omega
  unfold fX3_joined fX5_two fX3_joined_52 fX5_two_52
  rcases hc with rfl | rfl | rfl | rfl | rfl | rfl | rfl
  · exact ⟨wr (x * y), wr_wr _, fun w v => by simp (disch := omega) only [wr_id, if_pos, if_neg, if_true, if_false, and_self]⟩
  · exact ⟨wr (x - y), wr_wr _, fun w v => by simp (disch := omega) only [wr_id, if_pos, if_neg, if_true, if_false, and_self]⟩
  · exact ⟨wr (x + y), wr_wr _, fun w v => by simp (disch := omega) only [wr_id, if_pos, if_neg, if_true, if_false, and_self]⟩
  · by_cases q : wr x = wr y
    · exact ⟨1, w1, fun w v => by simp (disch := omega) only [wr_id, if_pos, if_neg, if_true, if_false, q, and_self]⟩
    · exact ⟨0, w0, fun w v => by simp (disch := omega) only [wr_id, if_pos, if_neg, if_true, if_false, q, and_self]⟩
  · by_cases q : wr y ≤ wr x
    · exact ⟨0, w0, fun w v => by simp (disch := omega) only [wr_id, if_pos, if_neg, if_true, if_false, q, and_self]⟩
    · exact ⟨1, w1, fun w v => by simp (disch := omega) only [wr_id, if_pos, if_neg, if_true, if_false, q, and_self]⟩
  · by_cases q : wr x = 0
    · exact ⟨0, w0, fun w v => by simp (disch := omega) only [wr_id, if_pos, if_neg, if_true, if_false, q, and_self]⟩
    · by_cases q2 : wr y = 0
      · exact ⟨0, w0, fun w v => by simp (disch := omega) only [wr_id, if_pos, if_neg, if_true, if_false, q, q2, and_self]⟩
      · exact ⟨1, w1, fun w v => by simp (disch := omega) only [wr_id, if_pos, if_neg, if_true, if_false, q, q2, and_self]⟩
  · by_cases q : wr x = 0
    · by_cases q2 : wr y = 0
      · exact ⟨0, w0, fun w v => by simp (disch := omega) only [wr_id, if_pos, if_neg, if_true, if_false, q, q2, and_self]⟩
      · exact ⟨1, w1, fun w v => by simp (disch := omega) only [wr_id, if_pos, if_neg, if_true, if_false, q, q2, and_self]⟩
    · exact ⟨1, w1, fun w v => by simp (disch := omega) only [wr_id, if_pos, if_neg, if_true, if_false, q, and_self]⟩
set_option maxHeartbeats 16000000 in
theorem hs_loop {c x3 t part e : Nat} (hc : 3 ≤ c ∧ c < 9) (hx : hg_ln 0 x3 = 6) (hx16 : x3 ≠ 16) (ht : t < 6) (hp : part < 3) (he : e ≤ 160) :
    ∀ (m : Nat) (n1 n2 : Nat) (w v : hg_W) (i k n : Nat), m < n1 → m < n2 → e = i + m → n ≤ 39 → v 0 12 = (t : Int) → v 7 (4 * t + part + 1) = ((k + m : Nat) : Int) → k + m ≤ 200 → (∀ j, j < 6 → w x3 j = v 17 j) → (∀ j, j < n → w 16 j = v 16 j) → (∀ j, j < m → v 6 (200 * t + (k + j)) = hs_enc (w c (i + j))) → hs_dk (w c) i m n →
    ∃ (w' v' : hg_W) (r : Int), fX3_value_41 n1 w x3 c (e : Int) ((n : Int) - 1) (i : Int) = some (w', r) ∧ fX5_says_16 n2 v (part : Int) (n : Int) (k : Int) = some (v', r) ∧ wr r = r ∧ (∀ c', c' ≠ 16 → w' c' = w c') ∧ (∀ c', c' ≠ 16 → v' c' = v c') := by
  intro m
  induction m with
  | zero =>
    intro n1 n2 w v i k n h1 h2 hei hn hv0 hv7 hkm hnm hst hco hdk
    obtain ⟨n1, rfl⟩ : ∃ z, n1 = z + 1 := ⟨n1 - 1, by omega⟩
    obtain ⟨n2, rfl⟩ : ∃ z, n2 = z + 1 := ⟨n2 - 1, by omega⟩
    have hn1 : n = 1 := hdk
    subst hn1
    have e16 := hst 0 (by omega)
    have t1 : ((4 * (t : Int) + (part : Int)) + 1).toNat = 4 * t + part + 1 := by omega
    have t2 : (((1 : Nat) : Int) - 1).toNat = 0 := rfl
    have t3 : (0 : Int).toNat = 0 := rfl
    refine ⟨w, v, wr (w 16 0), ?_, ?_, wr_wr _, fun _ _ => rfl, fun _ _ => rfl⟩
    · simp (disch := omega) only [fX3_value_41, wr_id, if_pos, if_neg, if_true, if_false, ag_h16, hp_b, t2]
    · simp (disch := omega) only [fX5_says_16, hv0, ag_m7, hp_b, t1, hv7, wr_id, if_pos, if_true, ag_m16, t3, e16]
  | succ m ih =>
    intro n1 n2 w v i k n h1 h2 hei hn hv0 hv7 hkm hnm hst hco hdk
    obtain ⟨n1, rfl⟩ : ∃ z, n1 = z + 1 := ⟨n1 - 1, by omega⟩
    obtain ⟨n2, rfl⟩ : ∃ z, n2 = z + 1 := ⟨n2 - 1, by omega⟩
    obtain ⟨⟨hr1, hr2⟩, hdk⟩ := hdk
    have hc0 := hco 0 (by omega)
    rw [Nat.add_zero, Nat.add_zero] at hc0
    have hcc : c ≠ 16 := by omega
    have t1 : ((4 * (t : Int) + (part : Int)) + 1).toNat = 4 * t + part + 1 := by omega
    have t2 : (200 * (t : Int) + (k : Int)).toNat = 200 * t + k := by omega
    have t3 : (i : Int).toNat = i := Int.toNat_natCast i
    have t4 : (n : Int).toNat = n := Int.toNat_natCast n
    have t5 : ((n : Int) - 1).toNat = n - 1 := by omega
    have t6 : ((n : Int) - 1 + 1).toNat = n := by omega
    have t7 : ((n : Int) - 1 + (-1)).toNat = n - 2 := by omega
    have t8 : ((n : Int) - 1 + (-1) + 1).toNat = n - 1 := by omega
    have t9 : ((n : Int) + (-1) - 1).toNat = n - 2 := by omega
    have t10 : ((n : Int) + (-1)).toNat = n - 1 := by omega
    -- the steps behind: the same world but on the stack
    have next : ∀ (w2 v2 : hg_W) (n' : Nat) (a b : Int), a = (n' : Int) - 1 → b = (n' : Int) → (∀ c', c' ≠ 16 → w2 c' = w c') → (∀ c', c' ≠ 16 → v2 c' = v c') → (∀ j, j < n' → w2 16 j = v2 16 j) → n' ≤ 39 → hs_dk (w c) (i + 1) m n' → fX3_value_41 (n1 + 1) w x3 c (e : Int) ((n : Int) - 1) (i : Int) = fX3_value_41 n1 w2 x3 c (e : Int) a ((i : Int) + 1) → fX5_says_16 (n2 + 1) v (part : Int) (n : Int) (k : Int) = fX5_says_16 n2 v2 (part : Int) b ((k : Int) + 1) → ∃ (w' v' : hg_W) (r : Int), fX3_value_41 (n1 + 1) w x3 c (e : Int) ((n : Int) - 1) (i : Int) = some (w', r) ∧ fX5_says_16 (n2 + 1) v (part : Int) (n : Int) (k : Int) = some (v', r) ∧ wr r = r ∧ (∀ c', c' ≠ 16 → w' c' = w c') ∧ (∀ c', c' ≠ 16 → v' c' = v c') := by
      intro w2 v2 n' a b ha hb hw2 hv2 hst2 hn' hdk2 hC hM
      subst ha
      subst hb
      obtain ⟨w', v', r, g1, g2, g3, g4, g5⟩ := ih n1 n2 w2 v2 (i + 1) (k + 1) n' (by omega) (by omega) (by omega) hn' (by rw [hv2 0 (by omega)]; exact hv0) (by rw [hv2 7 (by omega), hv7]; congr 1; omega) (by omega) (fun j hj => by rw [hw2 _ hx16, hv2 17 (by omega)]; exact hnm j hj) hst2 (fun j hj => by rw [hv2 6 (by omega), hw2 c hcc]; have := hco (j + 1) (by omega); rw [show k + 1 + j = k + (j + 1) by omega, show i + 1 + j = i + (j + 1) by omega]; exact this) (by rw [hw2 c hcc]; exact hdk2)
      rw [hC, hM]
      refine ⟨w', v', r, ?_, ?_, g3, fun c' h => (g4 c' h).trans (hw2 c' h), fun c' h => (g5 c' h).trans (hv2 c' h)⟩
      · rw [show ((i + 1 : Nat) : Int) = (i : Int) + 1 by omega] at g1; exact g1
      · rw [show ((k + 1 : Nat) : Int) = (k : Int) + 1 by omega] at g2; exact g2
    -- what a store at place a of both stacks leaves alike
    have alike : ∀ (a n' : Nat) (x y : Int), x = y → n' ≤ n + 1 → (∀ j, j < n' → j ≠ a → j < n) → ∀ j, j < n' → hg_up w 16 a x 16 j = hg_up v 16 a y 16 j := by
      intro a n' x y hxy _ hj2 j hj
      by_cases hja : j = a
      · subst hja; rw [hp_up_eq, hp_up_eq, hxy]
      · rw [hp_up_k hja, hp_up_k hja]; exact hst j (hj2 j hj hja)
    have hcd : w c i = w c i := rfl
    generalize hcd2 : w c i = cd at hr1 hr2 hdk hc0 hcd
    by_cases hpush : -6 ≤ cd
    · rw [if_pos hpush] at hdk
      by_cases hneg : cd < 0
      · have he1 : hs_enc cd = -1 - cd := by unfold hs_enc; rw [if_neg (by omega), if_pos (by omega)]
        have hq := hnm ((-1 - cd).toNat) (by omega)
        refine next (hg_up w 16 n (wr (w x3 (-1 - cd).toNat))) (hg_up v 16 n (wr (v 17 (-1 - cd).toNat))) (n + 1) ((n : Int) - 1 + 1) ((n : Int) + 1) (by omega) (by omega) (fun c' h => hg_up_ne c' h) (fun c' h => hg_up_ne c' h) (alike n (n + 1) _ _ (by rw [hq]) (by omega) (by omega)) (by omega) hdk.2 ?_ ?_
        · simp (disch := omega) only [fX3_value_41, fX3_value_96, fX3_value_199, wr_id, if_pos, if_neg, if_true, if_false, hp_row hc, hp_b, t3, hcd2, hp_ag hx, as_h16, t6]
        · simp (disch := omega) only [fX5_says_16, fX5_says_66, fX5_says_93, fX5_says_191, wr_id, if_pos, if_neg, if_true, if_false, hv0, ag_m7, t1, hv7, ag_m6, t2, hc0, he1, hp_b, ag_m17, as_m16, t4]
      · have he1 : hs_enc cd = 100000 + cd := by unfold hs_enc; rw [if_pos (by omega)]
        refine next (hg_up w 16 n (wr cd)) (hg_up v 16 n (wr (100000 + cd - 100000))) (n + 1) ((n : Int) - 1 + 1) ((n : Int) + 1) (by omega) (by omega) (fun c' h => hg_up_ne c' h) (fun c' h => hg_up_ne c' h) (alike n (n + 1) _ _ (by rw [show 100000 + cd - 100000 = cd by omega]) (by omega) (by omega)) (by omega) hdk.2 ?_ ?_
        · simp (disch := omega) only [fX3_value_41, fX3_value_96, fX3_value_199, wr_id, if_pos, if_neg, if_true, if_false, hp_row hc, hp_b, t3, hcd2, as_h16, t6]
        · simp (disch := omega) only [fX5_says_16, fX5_says_66, fX5_says_93, fX5_says_191, wr_id, if_pos, if_neg, if_true, if_false, hv0, ag_m7, t1, hv7, ag_m6, t2, hc0, he1, hp_b, as_m16, t4]
    · rw [if_neg hpush] at hdk
      have he1 : hs_enc cd = 4 - cd := by unfold hs_enc; rw [if_neg (by omega), if_neg (by omega)]
      by_cases hneg : cd = -15
      · rw [if_pos (Or.inl hneg)] at hdk
        have hq := hst (n - 1) (by omega)
        refine next (hg_up w 16 (n - 1) (wr (-(w 16 (n - 1))))) (hg_up v 16 (n - 1) (wr (-(v 16 (n - 1))))) n ((n : Int) - 1) (n : Int) rfl rfl (fun c' h => hg_up_ne c' h) (fun c' h => hg_up_ne c' h) (alike (n - 1) n _ _ (by rw [hq]) (by omega) (by omega)) (by omega) hdk.2 ?_ ?_
        · simp (disch := omega) only [fX3_value_41, fX3_value_114, fX3_value_158, fX3_value_199, wr_id, if_pos, if_neg, if_true, if_false, hp_row hc, hp_b, t3, hcd2, ag_h16, as_h16, t5]
        · simp (disch := omega) only [fX5_says_16, fX5_says_191, wr_id, if_pos, if_neg, if_true, if_false, hv0, ag_m7, t1, hv7, ag_m6, t2, hc0, he1, hp_b, ag_m16, as_m16, t5]
      · by_cases hnot : cd = -9
        · rw [if_pos (Or.inr hnot)] at hdk
          have hq := hst (n - 1) (by omega)
          by_cases hz : wr (v 16 (n - 1)) = 0
          · refine next (hg_up w 16 (n - 1) (wr 1)) (hg_up v 16 (n - 1) (wr 1)) n ((n : Int) - 1) (n : Int) rfl rfl (fun c' h => hg_up_ne c' h) (fun c' h => hg_up_ne c' h) (alike (n - 1) n _ _ rfl (by omega) (by omega)) (by omega) hdk.2 ?_ ?_
            · simp (disch := omega) only [fX3_value_41, fX3_value_114, fX3_value_158, fX3_value_199, wr_id, if_pos, if_neg, if_true, if_false, hp_row hc, hp_b, t3, hcd2, ag_h16, as_h16, t5, hq, hz]
            · simp (disch := omega) only [fX5_says_16, fX5_says_130, fX5_says_191, wr_id, if_pos, if_neg, if_true, if_false, hv0, ag_m7, t1, hv7, ag_m6, t2, hc0, he1, hp_b, ag_m16, as_m16, t5, hz]
          · refine next (hg_up w 16 (n - 1) (wr 0)) (hg_up v 16 (n - 1) (wr 0)) n ((n : Int) - 1) (n : Int) rfl rfl (fun c' h => hg_up_ne c' h) (fun c' h => hg_up_ne c' h) (alike (n - 1) n _ _ rfl (by omega) (by omega)) (by omega) hdk.2 ?_ ?_
            · simp (disch := omega) only [fX3_value_41, fX3_value_114, fX3_value_158, fX3_value_199, wr_id, if_pos, if_neg, if_true, if_false, hp_row hc, hp_b, t3, hcd2, ag_h16, as_h16, t5, hq, hz]
            · simp (disch := omega) only [fX5_says_16, fX5_says_130, fX5_says_191, wr_id, if_pos, if_neg, if_true, if_false, hv0, ag_m7, t1, hv7, ag_m6, t2, hc0, he1, hp_b, ag_m16, as_m16, t5, hz]
        · rw [if_neg (by rintro (q | q) <;> contradiction)] at hdk
          have hq1 := hst (n - 1) (by omega)
          have hq2 := hst (n - 2) (by omega)
          obtain ⟨r0, hr0, hr⟩ := hs_two (c := cd) (x := v 16 (n - 2)) (y := v 16 (n - 1)) (by omega) (by omega) hnot
          have hrC := (hr w v).1
          have hrM := (hr w v).2
          refine next (hg_up w 16 (n - 2) (wr r0)) (hg_up v 16 (n - 2) (wr r0)) (n - 1) ((n : Int) - 1 + (-1)) ((n : Int) + (-1)) (by omega) (by omega) (fun c' h => hg_up_ne c' h) (fun c' h => hg_up_ne c' h) (alike (n - 2) (n - 1) _ _ rfl (by omega) (by omega)) (by omega) hdk.2 ?_ ?_
          · simp (disch := omega) only [fX3_value_41, fX3_value_199, wr_id, if_pos, if_neg, if_true, if_false, hp_row hc, hp_b, t3, hcd2, ag_h16, as_h16, t7, t8, hq1, hq2, hrC, hp_bd]
          · simp (disch := omega) only [fX5_says_16, fX5_says_191, wr_id, if_pos, if_neg, if_true, if_false, hv0, ag_m7, t1, hv7, ag_m6, t2, hc0, he1, hp_b, ag_m16, as_m16, t9, t10, hrM, hp_bd]
