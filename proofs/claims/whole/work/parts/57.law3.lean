/-! ===== the start: String constants, two statics; the class's cells ===== -/
def lw_tm (i : Nat) : Term := .string "HatGoesRound$Tape" (hg_six.getD i 0)
theorem lw_m1 : ∀ i, i < 13 → Cond.exactly (lw_tm i) "java/lang/String" ∈ flatC (Jvm.Cond.and given_1 narrow_1) := by decide +kernel
theorem lw_m2 : ∀ i, i < 13 → Cond.eq (.field (lw_tm i) "java/lang/String" "coder" "B") (.int 0) ∈ flatC (Jvm.Cond.and given_1 narrow_1) := by decide +kernel
theorem lw_m3 : ∀ i, i < 13 → Cond.arrayOf (.field (lw_tm i) "java/lang/String" "value" "[B") .byte ∈ flatC (Jvm.Cond.and given_1 narrow_1) := by decide +kernel
theorem lw_m4 : ∀ i, i < 13 → Cond.eq (.length (.field (lw_tm i) "java/lang/String" "value" "[B")) (.int (Int32.ofNat (hg_sle.getD i 0))) ∈ flatC (Jvm.Cond.and given_1 narrow_1) := by decide +kernel
theorem lw_m5 : ∀ i, i < 13 → ∀ j, j < hg_sle.getD i 0 → Cond.eq (.elem (.field (lw_tm i) "java/lang/String" "value" "[B") (.int (Int32.ofNat j))) (.int ((hg_sby.getD i []).getD j 0)) ∈ flatC (Jvm.Cond.and given_1 narrow_1) := by decide +kernel
def lw_px : List Nat := [0, 27, 37, 48, 60, 72, 83, 96, 110, 127, 146, 165, 180, 0, 0, 38, 49, 61, 73, 84, 97, 111, 128, 147, 166, 181, 0, 0, 0, 50, 62, 74, 85, 98, 112, 129, 148, 167, 182, 0, 0, 0, 0, 63, 75, 86, 99, 113, 130, 149, 168, 183, 0, 0, 0, 0, 0, 76, 87, 100, 114, 131, 150, 169, 184, 0, 0, 0, 0, 0, 0, 88, 101, 115, 132, 151, 170, 185, 0, 0, 0, 0, 0, 0, 0, 102, 116, 133, 152, 171, 186, 0, 0, 0, 0, 0, 0, 0, 0, 117, 134, 153, 172, 187, 0, 0, 0, 0, 0, 0, 0, 0, 0, 135, 154, 173, 188, 0, 0, 0, 0, 0, 0, 0, 0, 0, 0, 155, 174, 189, 0, 0, 0, 0, 0, 0, 0, 0, 0, 0, 0, 175, 190, 0, 0, 0, 0, 0, 0, 0, 0, 0, 0, 0, 0, 191, 0, 0, 0, 0, 0, 0, 0, 0, 0, 0, 0, 0, 0]
theorem lw_m6a : ∀ i, i < 13 → ∀ j, j < 13 → i < j → (flatC (Jvm.Cond.and given_1 narrow_1))[lw_px.getD (13 * i + j) 0]? = some (Cond.not (Cond.eq (lw_tm i) (lw_tm j))) := by decide +kernel
theorem lw_m6 {i j : Nat} (hi : i < 13) (hj : j < 13) (hij : i ≠ j) : Cond.not (Cond.eq (lw_tm i) (lw_tm j)) ∈ flatC (Jvm.Cond.and given_1 narrow_1) ∨ Cond.not (Cond.eq (lw_tm j) (lw_tm i)) ∈ flatC (Jvm.Cond.and given_1 narrow_1) := by
  rcases Nat.lt_or_gt_of_ne hij with h | h
  · exact Or.inl (List.mem_of_getElem? (lw_m6a i hi j hj h))
  · exact Or.inr (List.mem_of_getElem? (lw_m6a j hj i hi h))
theorem lw_m7 : ∀ i, i < 13 → Cond.stringRef RX2 (hg_six.getD i 0) (hg_stx.getD i "") ∈ lw_tbl := by decide +kernel
theorem lw_exs {s : State} {b : Nat} (hts : ∀ w ∈ lw_tbl, w.before #[Value.ref b] s = true) (hgv : (Jvm.Cond.and given_1 narrow_1).before #[Value.ref b] s = true) : ∃ adK adV : Nat → Nat, ∀ ad : Nat → Nat, (∀ i, i < 13 → ad (1000 + i) = adK i ∧ ad (2000 + i) = adV i) → hg_ex ad (fun q : Nat => s.heap.size ≤ q) s s.heap := by
  have hs := flat_of_before _ hgv
  have hA : ∀ a : Nat, a < s.heap.size → ¬ s.heap.size ≤ a := fun a h => Nat.not_le.mpr h
  obtain ⟨adK, adV, hZ, hEv⟩ := vk_Sof (A := fun q : Nat => s.heap.size ≤ q) (tm := lw_tm) (len := hg_sle) (byt := hg_sby) (N := 13) (fun i hi => by revert i hi; decide) (fun i hi => hs _ (lw_m1 i hi)) (fun i hi => hs _ (lw_m2 i hi)) (fun i hi => hs _ (lw_m3 i hi)) (fun i hi => hs _ (lw_m4 i hi)) (fun i hi j hj => hs _ (lw_m5 i hi j hj)) (fun i j hi hj hij => (lw_m6 hi hj hij).imp (hs _) (hs _)) hA
  refine ⟨adK, adV, fun ad had => ⟨va_Nw.of rfl (hts hg_nest (by decide +kernel)), fun i hi => ?_, ⟨fun i hi => ?_, fun i j hi hj h => ?_⟩, ?_, ?_⟩⟩
  · rw [(had i hi).1]
    exact vk_R.of (hts _ (lw_m7 i hi)) (hEv i hi)
  · have h := hZ.1 i hi
    have e1 : (fun i => ad (1000 + i)) i = adK i := (had i hi).1
    have e2 : (fun i => ad (2000 + i)) i = adV i := (had i hi).2
    rw [e1, e2]
    exact h
  · have h' : ad (1000 + i) = ad (1000 + j) := h
    rw [(had i hi).1, (had j hj).1] at h'
    exact hZ.2 i j hi hj h'
  · exact va_Zof (hts (.laysStatic "java/lang/String" "COMPACT_STRINGS" "Z") (by decide +kernel)) (hts (.initialized "java/lang/String") (by decide +kernel)) (va_eqi (hs _ (by decide +kernel))) hA
  · have hr : (Cond.isRef (.static "jdk/internal/util/Preconditions" "SIOOBE_FORMATTER" "Ljava/util/function/BiFunction;")).before #[Value.ref b] s = true := hs _ (by decide +kernel)
    obtain ⟨v, hv, hi⟩ := Cond.isRef_spec hr
    refine ⟨v, ?_, va_Zof (hts (.laysStatic "jdk/internal/util/Preconditions" "SIOOBE_FORMATTER" "Ljava/util/function/BiFunction;") (by decide +kernel)) (hts (.initialized "jdk/internal/util/Preconditions") (by decide +kernel)) hv hA⟩
    cases v <;> first | rfl | cases hi
theorem lw_cells {cI cA : ClassId} {a : Nat} {q1 q3 q5 q7 q9 q11 q13 q14 a2_1 a2_2 a2_3 b4 a6_1 a6_2 a6_3 a6_4 a6_5 a6_6 a6_7 a6_8 a8_1 a8_2 a8_3 a8_4 a8_5 a8_6 a8_7 a8_8 a10_1 a10_2 a10_3 a10_4 a10_5 a10_6 a10_7 a10_8 a12_1 a12_2 a12_3 : Nat} {r2 t2 r12 : Nat → Nat} {f2 g2 f6 f8 f10 f12 : Nat → Int32} (hh : (f2 = upd (upd (upd (fun _ => 0) 0 (hg_I (-1))) 1 (hg_I (-2))) 2 (hg_I 1)) ∧ (∀ j, j < 3 → g2 j = hg_I (j + 1)) ∧ (∀ j, j < 6 → f6 j = hg_I (2 ^ j)) ∧ (∀ j, j < 6 → f8 j = hg_I (2 ^ j)) ∧ (∀ j, j < 6 → f10 j = hg_I (2 ^ j)) ∧ (∀ j, j < 4 → f12 j = hg_I (-1))) {adK adV ad : Nat → Nat} (had : ad = fun k => if k < 1000 then ([a, q1, a2_1, (r2 0), (r2 1), (r2 2), (r2 3), (r2 4), (r2 5), a2_2, (t2 0), (t2 1), (t2 2), (t2 3), (t2 4), (t2 5), a2_3, q3, b4, q5, a6_1, a6_2, a6_3, a6_4, a6_5, a6_6, a6_7, a6_8, q7, a8_1, a8_2, a8_3, a8_4, a8_5, a8_6, a8_7, a8_8, q9, a10_1, a10_2, a10_3, a10_4, a10_5, a10_6, a10_7, a10_8, q11, a12_1, a12_2, a12_3, (r12 0), (r12 1), (r12 2), (r12 3), q13, q14] : List Nat).getD k 0 else if k < 2000 then adK (k - 1000) else adV (k - 2000)) : ∀ k, k < hg_N 0 → ∃ e, ([hn_o a 4 [.ref q1, .ref q3, .ref q5, .ref q7, .ref q9, .int (hg_I 0), .ref q11, .ref q13, .ref q14], hn_o q1 3 [.ref a2_1, .ref a2_2, .ref a2_3, .int (hg_I 1)], hn_aq cA a2_1 6 (fun i => if i < 6 then some (r2 i) else none), hn_ai cI (r2 0) 160 f2, hn_ai cI (r2 1) 160 (fun _ => 0), hn_ai cI (r2 2) 160 (fun _ => 0), hn_ai cI (r2 3) 160 (fun _ => 0), hn_ai cI (r2 4) 160 (fun _ => 0), hn_ai cI (r2 5) 160 (fun _ => 0), hn_aq cA a2_2 6 (fun i => if i < 6 then some (t2 i) else none), hn_ai cI (t2 0) 3 g2, hn_ai cI (t2 1) 3 (fun _ => 0), hn_ai cI (t2 2) 3 (fun _ => 0), hn_ai cI (t2 3) 3 (fun _ => 0), hn_ai cI (t2 4) 3 (fun _ => 0), hn_ai cI (t2 5) 3 (fun _ => 0), hn_ai cI a2_3 40 (fun _ => 0), hn_o q3 2 [.ref b4, .int 0, .ref b4, .int 0, .int 0, .int 0, .int 0, .int 0, .int 0], hn_ai cI b4 160 (fun _ => 0), hn_o q5 0 [.ref q1, .ref a6_1, .ref a6_2, .ref a6_3, .ref a6_4, .ref a6_5, .ref a6_6, .ref a6_7, .ref a6_8, .int 0, .int 0, .int 0, .int 0, .int 0], hn_ai cI a6_1 6 f6, hn_ai cI a6_2 6 (fun _ => 0), hn_ai cI a6_3 6 (fun _ => 0), hn_ai cI a6_4 6 (fun _ => 0), hn_ai cI a6_5 6 (fun _ => 0), hn_ai cI a6_6 6 (fun _ => 0), hn_ai cI a6_7 6 (fun _ => 0), hn_ai cI a6_8 6 (fun _ => 0), hn_o q7 0 [.ref q1, .ref a8_1, .ref a8_2, .ref a8_3, .ref a8_4, .ref a8_5, .ref a8_6, .ref a8_7, .ref a8_8, .int 0, .int 0, .int 0, .int 0, .int 0], hn_ai cI a8_1 6 f8, hn_ai cI a8_2 6 (fun _ => 0), hn_ai cI a8_3 6 (fun _ => 0), hn_ai cI a8_4 6 (fun _ => 0), hn_ai cI a8_5 6 (fun _ => 0), hn_ai cI a8_6 6 (fun _ => 0), hn_ai cI a8_7 6 (fun _ => 0), hn_ai cI a8_8 6 (fun _ => 0), hn_o q9 0 [.ref q1, .ref a10_1, .ref a10_2, .ref a10_3, .ref a10_4, .ref a10_5, .ref a10_6, .ref a10_7, .ref a10_8, .int 0, .int 0, .int 0, .int 0, .int 0], hn_ai cI a10_1 6 f10, hn_ai cI a10_2 6 (fun _ => 0), hn_ai cI a10_3 6 (fun _ => 0), hn_ai cI a10_4 6 (fun _ => 0), hn_ai cI a10_5 6 (fun _ => 0), hn_ai cI a10_6 6 (fun _ => 0), hn_ai cI a10_7 6 (fun _ => 0), hn_ai cI a10_8 6 (fun _ => 0), hn_o q11 1 [.ref a12_1, .ref a12_2, .ref a12_3], hn_ai cI a12_1 4 f12, hn_ai cI a12_2 4 (fun _ => 0), hn_aq cA a12_3 4 (fun i => if i < 4 then some (r12 i) else none), hn_ai cI (r12 0) 40 (fun _ => 0), hn_ai cI (r12 1) 40 (fun _ => 0), hn_ai cI (r12 2) 40 (fun _ => 0), hn_ai cI (r12 3) 40 (fun _ => 0), hn_ai cI q13 1000 (fun _ => 0), hn_ai cI q14 6 (fun _ => 0)] : va_W)[k]? = some (ad k, e) ∧ hn_same e (hg_CE cI cA ad 0 hn_w0 k) := by
  obtain ⟨hf2, hg2, hf6, hf8, hf10, hf12⟩ := hh
  subst had
  have hpw : ∀ j, j < 6 → hg_I (2 ^ j) = hg_I (hn_w0 20 j) ∧ hg_I (2 ^ j) = hg_I (hn_w0 29 j) ∧ hg_I (2 ^ j) = hg_I (hn_w0 38 j) := by decide +kernel
  have hen : ∀ j : Nat, j < 3 → hg_I ((j : Int) + 1) = hg_I (hn_w0 10 j) := by decide +kernel
  have hco : ∀ j, j < 160 → (upd (upd (upd (fun _ => (0 : Int32)) 0 (hg_I (-1))) 1 (hg_I (-2))) 2 (hg_I 1)) j = hg_I (hn_w0 3 j) := by decide +kernel
  intro k hk
  match k, hk with
  | 0, _ => exact ⟨_, rfl, Or.inl rfl⟩
  | 1, _ => exact ⟨_, rfl, Or.inl rfl⟩
  | 2, _ =>
    refine ⟨_, rfl, hn_qa (fun j hj => ?_)⟩
    rcases (by omega : j = 0 ∨ j = 1 ∨ j = 2 ∨ j = 3 ∨ j = 4 ∨ j = 5) with rfl | rfl | rfl | rfl | rfl | rfl <;> rfl
  | 3, _ => exact ⟨_, rfl, hn_ia (fun j hj => by rw [hf2]; exact hco j hj)⟩
  | 4, _ => exact ⟨_, rfl, hn_ia (fun j hj => rfl)⟩
  | 5, _ => exact ⟨_, rfl, hn_ia (fun j hj => rfl)⟩
  | 6, _ => exact ⟨_, rfl, hn_ia (fun j hj => rfl)⟩
  | 7, _ => exact ⟨_, rfl, hn_ia (fun j hj => rfl)⟩
  | 8, _ => exact ⟨_, rfl, hn_ia (fun j hj => rfl)⟩
  | 9, _ =>
    refine ⟨_, rfl, hn_qa (fun j hj => ?_)⟩
    rcases (by omega : j = 0 ∨ j = 1 ∨ j = 2 ∨ j = 3 ∨ j = 4 ∨ j = 5) with rfl | rfl | rfl | rfl | rfl | rfl <;> rfl
  | 10, _ => exact ⟨_, rfl, hn_ia (fun j hj => (hg2 j hj).trans (hen j hj))⟩
  | 11, _ => exact ⟨_, rfl, hn_ia (fun j hj => rfl)⟩
  | 12, _ => exact ⟨_, rfl, hn_ia (fun j hj => rfl)⟩
  | 13, _ => exact ⟨_, rfl, hn_ia (fun j hj => rfl)⟩
  | 14, _ => exact ⟨_, rfl, hn_ia (fun j hj => rfl)⟩
  | 15, _ => exact ⟨_, rfl, hn_ia (fun j hj => rfl)⟩
  | 16, _ => exact ⟨_, rfl, hn_ia (fun j hj => rfl)⟩
  | 17, _ => exact ⟨_, rfl, Or.inl rfl⟩
  | 18, _ => exact ⟨_, rfl, hn_ia (fun j hj => rfl)⟩
  | 19, _ => exact ⟨_, rfl, Or.inl rfl⟩
  | 20, _ => exact ⟨_, rfl, hn_ia (fun j hj => (hf6 j hj).trans (hpw j hj).1)⟩
  | 21, _ => exact ⟨_, rfl, hn_ia (fun j hj => rfl)⟩
  | 22, _ => exact ⟨_, rfl, hn_ia (fun j hj => rfl)⟩
  | 23, _ => exact ⟨_, rfl, hn_ia (fun j hj => rfl)⟩
  | 24, _ => exact ⟨_, rfl, hn_ia (fun j hj => rfl)⟩
  | 25, _ => exact ⟨_, rfl, hn_ia (fun j hj => rfl)⟩
  | 26, _ => exact ⟨_, rfl, hn_ia (fun j hj => rfl)⟩
  | 27, _ => exact ⟨_, rfl, hn_ia (fun j hj => rfl)⟩
  | 28, _ => exact ⟨_, rfl, Or.inl rfl⟩
  | 29, _ => exact ⟨_, rfl, hn_ia (fun j hj => (hf8 j hj).trans (hpw j hj).2.1)⟩
  | 30, _ => exact ⟨_, rfl, hn_ia (fun j hj => rfl)⟩
  | 31, _ => exact ⟨_, rfl, hn_ia (fun j hj => rfl)⟩
  | 32, _ => exact ⟨_, rfl, hn_ia (fun j hj => rfl)⟩
  | 33, _ => exact ⟨_, rfl, hn_ia (fun j hj => rfl)⟩
  | 34, _ => exact ⟨_, rfl, hn_ia (fun j hj => rfl)⟩
  | 35, _ => exact ⟨_, rfl, hn_ia (fun j hj => rfl)⟩
  | 36, _ => exact ⟨_, rfl, hn_ia (fun j hj => rfl)⟩
  | 37, _ => exact ⟨_, rfl, Or.inl rfl⟩
  | 38, _ => exact ⟨_, rfl, hn_ia (fun j hj => (hf10 j hj).trans (hpw j hj).2.2)⟩
  | 39, _ => exact ⟨_, rfl, hn_ia (fun j hj => rfl)⟩
  | 40, _ => exact ⟨_, rfl, hn_ia (fun j hj => rfl)⟩
  | 41, _ => exact ⟨_, rfl, hn_ia (fun j hj => rfl)⟩
  | 42, _ => exact ⟨_, rfl, hn_ia (fun j hj => rfl)⟩
  | 43, _ => exact ⟨_, rfl, hn_ia (fun j hj => rfl)⟩
  | 44, _ => exact ⟨_, rfl, hn_ia (fun j hj => rfl)⟩
  | 45, _ => exact ⟨_, rfl, hn_ia (fun j hj => rfl)⟩
  | 46, _ => exact ⟨_, rfl, Or.inl rfl⟩
  | 47, _ => exact ⟨_, rfl, hn_ia (fun j hj => hf12 j hj)⟩
  | 48, _ => exact ⟨_, rfl, hn_ia (fun j hj => rfl)⟩
  | 49, _ =>
    refine ⟨_, rfl, hn_qa (fun j hj => ?_)⟩
    rcases (by omega : j = 0 ∨ j = 1 ∨ j = 2 ∨ j = 3) with rfl | rfl | rfl | rfl <;> rfl
  | 50, _ => exact ⟨_, rfl, hn_ia (fun j hj => rfl)⟩
  | 51, _ => exact ⟨_, rfl, hn_ia (fun j hj => rfl)⟩
  | 52, _ => exact ⟨_, rfl, hn_ia (fun j hj => rfl)⟩
  | 53, _ => exact ⟨_, rfl, hn_ia (fun j hj => rfl)⟩
  | 54, _ => exact ⟨_, rfl, hn_ia (fun j hj => rfl)⟩
  | 55, _ => exact ⟨_, rfl, hn_ia (fun j hj => rfl)⟩
  | k + 56, hk => exact absurd hk (by unfold hg_N; simp)
