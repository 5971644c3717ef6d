/-! ===== the reference's own law, read by its own reader; the two objects alike at the start ===== -/
def hn_chk (v : hg_W) : Bool :=
  decide (v 0 0 = 0 ∧ v 0 5 = 0 ∧ v 0 6 = 0 ∧ v 0 8 = 0 ∧ v 0 11 = 1 ∧ v 0 12 = 0 ∧ v 0 13 = 0)
  && decide (v 7 0 = 0 ∧ v 7 1 = 1 ∧ v 7 2 = 2 ∧ v 7 3 = 3 ∧ v 6 0 = 0 ∧ v 6 1 = 1 ∧ v 6 2 = 100001)
  && (List.range 18).all (fun j => decide (v 3 j = 0)) && (List.range 6).all (fun k => decide (v 4 (2 * k) = 2 ^ k ∧ v 4 (2 * k + 1) = 0))
  && (List.range 96).all (fun j => decide (v 14 j = hx_wd j)) && (List.range 4).all (fun s => decide (v 10 s = -1 ∧ v 11 s = 0)) && (List.range 160).all (fun i => decide (v 12 i = 0))
set_option maxRecDepth 1000000 in
theorem hn_ev1 : (match fX5_text hn_v0 with | some q => hn_chk q.1 | none => false) = true := by decide +kernel
theorem hn_ev : ∃ (v : hg_W) (r : Int), fX5_text hn_v0 = some (v, r) ∧ hn_chk v = true := by
  have h := hn_ev1
  cases e : fX5_text hn_v0 with
  | none => rw [e] at h; exact absurd h (by simp)
  | some q =>
    rw [e] at h
    exact ⟨q.1, q.2, rfl, h⟩
/-- the class at its start -/
def hn_w0 : hg_W := fun c k => match c with
  | 1 => if k = 3 then 1 else 0
  | 3 => ([-1, -2, 1] : List Int).getD k 0
  | 10 => ([1, 2, 3] : List Int).getD k 0
  | 17 => if k = 2 then 18 else 0
  | 20 => ([1, 2, 4, 8, 16, 32] : List Int).getD k 0
  | 29 => ([1, 2, 4, 8, 16, 32] : List Int).getD k 0
  | 38 => ([1, 2, 4, 8, 16, 32] : List Int).getD k 0
  | 47 => -1
  | _ => 0
theorem hn_start {v : hg_W} (h : hn_chk v = true) : hx_A hn_w0 v := by
  unfold hn_chk at h
  simp only [Bool.and_eq_true] at h
  obtain ⟨⟨⟨⟨⟨⟨h1, h2⟩, h3⟩, h4⟩, h5⟩, h6⟩, h7⟩ := h
  obtain ⟨a0, a5, a6, a8, a11, a12, a13⟩ := of_decide_eq_true h1
  obtain ⟨b0, b1, b2, b3, c0, c1, c2⟩ := of_decide_eq_true h2
  have e3 : ∀ j, j < 18 → v 3 j = 0 := fun j hj => of_decide_eq_true (List.all_eq_true.mp h3 j (List.mem_range.mpr hj))
  have e4 : ∀ k, k < 6 → v 4 (2 * k) = 2 ^ k ∧ v 4 (2 * k + 1) = 0 := fun j hj => of_decide_eq_true (List.all_eq_true.mp h4 j (List.mem_range.mpr hj))
  have e14 : ∀ j, j < 96 → v 14 j = hx_wd j := fun j hj => of_decide_eq_true (List.all_eq_true.mp h5 j (List.mem_range.mpr hj))
  have e10 : ∀ s, s < 4 → v 10 s = -1 ∧ v 11 s = 0 := fun j hj => of_decide_eq_true (List.all_eq_true.mp h6 j (List.mem_range.mpr hj))
  have e12 : ∀ i, i < 160 → v 12 i = 0 := fun j hj => of_decide_eq_true (List.all_eq_true.mp h7 j (List.mem_range.mpr hj))
  clear h1 h2 h3 h4 h5 h6 h7
  have hw : ∀ k, k < 6 → hn_w0 20 k = 2 ^ k ∧ 0 ≤ hn_w0 20 k ∧ hn_w0 20 k ≤ 99 := by decide +kernel
  refine ⟨⟨⟨by decide, by decide, a11⟩, fun t part ht hp => ?_⟩, ⟨fun k hk => ?_, fun k hk => ?_, ⟨by decide, by decide, a0⟩, by decide, ⟨by decide, Or.inl ⟨rfl, rfl⟩, by decide, a5⟩, ⟨by decide, by decide, a6⟩, ⟨by decide, by decide, a12⟩⟩, ⟨⟨by decide, by decide, a8⟩, fun k hk => ?_, e14⟩, ⟨Or.inl rfl, a13, fun h => absurd h (by decide)⟩, fun s hs => ⟨⟨?_, ?_, ?_⟩, ⟨?_, ?_, ?_⟩, fun i hi => ⟨?_, ?_⟩⟩⟩
  · have ht1 : (t : Int) < 1 := ht
    have ht0 : t = 0 := by omega
    subst ht0
    have hdk : ∀ i, i < 3 → hs_dk (hn_w0 (3 + 0)) i 1 0 := by
      intro i hi
      rcases (by omega : i = 0 ∨ i = 1 ∨ i = 2) with rfl | rfl | rfl
      · exact ⟨by decide, by rw [if_pos (by decide)]; exact ⟨by decide, rfl⟩⟩
      · exact ⟨by decide, by rw [if_pos (by decide)]; exact ⟨by decide, rfl⟩⟩
      · exact ⟨by decide, by rw [if_pos (by decide)]; exact ⟨by decide, rfl⟩⟩
    rcases (by omega : part = 0 ∨ part = 1 ∨ part = 2) with rfl | rfl | rfl
    · refine ⟨0, 1, 0, fun _ => rfl, fun h => absurd rfl h, rfl, by decide, b0, b1, by decide, fun j hj => ?_, hdk 0 (by omega)⟩
      obtain rfl : j = 0 := by omega
      exact c0.trans (by decide)
    · refine ⟨1, 1, 1, fun h => absurd h (by decide), fun _ => rfl, rfl, by decide, b1, b2, by decide, fun j hj => ?_, hdk 1 (by omega)⟩
      obtain rfl : j = 0 := by omega
      exact c1.trans (by decide)
    · refine ⟨2, 1, 2, fun h => absurd h (by decide), fun _ => rfl, rfl, by decide, b2, b3, by decide, fun j hj => ?_, hdk 2 (by omega)⟩
      obtain rfl : j = 0 := by omega
      exact c2.trans (by decide)
  · obtain ⟨w1, w2, w3⟩ := hw k hk
    obtain ⟨p1, p2⟩ := e4 k hk
    refine ⟨⟨w2, w3, by rw [p1]; exact w1.symm⟩, ⟨by show (0 : Int) ≤ 0; decide, by show (0 : Int) ≤ 20; decide, p2⟩, ⟨by show (0 : Int) ≤ 0; decide, by show (0 : Int) ≤ 99; decide, e3 _ (by omega)⟩, ⟨by show (0 : Int) ≤ 0; decide, by show (0 : Int) ≤ 9999; decide, e3 _ (by omega)⟩, ⟨by show (0 : Int) ≤ 0; decide, by show (0 : Int) ≤ 999; decide, e3 _ (by omega)⟩⟩
  · have hk' : (k : Int) < 0 := hk
    omega
  · have hk' : (k : Int) < 0 := hk
    omega
  · show (-1 : Int) ≤ -1; decide
  · show (-1 : Int) ≤ 2; decide
  · exact (e10 s hs).1
  · show (0 : Int) ≤ 0; decide
  · show (0 : Int) ≤ 40; decide
  · exact (e10 s hs).2
  · have hz : hn_w0 (50 + s) i = 0 := by
      rcases (by omega : s = 0 ∨ s = 1 ∨ s = 2 ∨ s = 3) with rfl | rfl | rfl | rfl <;> rfl
    rw [hz]
    unfold hx_c; omega
  · have hz : hn_w0 (50 + s) i = 0 := by
      rcases (by omega : s = 0 ∨ s = 1 ∨ s = 2 ∨ s = 3) with rfl | rfl | rfl | rfl <;> rfl
    rw [hz]
    exact e12 _ (by omega)
