/-! ===== the law's loop ===== -/
theorem lw_loop {p : Program} {l : Launch} {e : Env} {s : State} {m : MethodId} {below : List Frame} {meth : Method} {c : Code} {D : va_G} {cI cA : ClassId} {ad1 ad2 : Nat → Nat} {A : Nat → Prop} {Q : State → Prop} {b L i : Nat} {xs : Nat → Int32} {w v : hg_W} (B : hg_B p s m #[.ref b] meth c code RL wsL_law 4 D cI cA ad1 0 A) (hE : hg_ex ad1 A s s.heap) (hX : va_X b L xs s s.heap) (hbl : b < s.heap.size) (hbA : ¬ A b) (hL : L ≤ 3584) (KE : ∀ (W1 : va_W) (lv : List (Nat × Value)), hn_At p l e room_1 s m #[.ref b] below meth c D A Q 4 W1 100 20000 lv 1430 []) : ∀ (d i : Nat) (w v : hg_W), L < i + d → i ≤ L + 7 → hx_A w v → hn_At p l e room_1 s m #[.ref b] below meth c D A Q 4 (lw_w cI cA ad1 ad2 w v) 100 20000 [(3, .int (hg_I (i : Int))), (2, .ref (ad2 0)), (1, .ref (ad1 0)), (0, .ref b)] 18 [] := by
  intro d
  induction d with
  | zero =>
    intro i w v hd hi hA
    refine hn_iload_n B 0 dL_law_18 rfl rfl ?_
    refine hn_aload_n B 3 dL_law_19 rfl rfl ?_
    refine hn_slen B hX hbl hbA dL_law_20 ?_
    refine hn_bipush B dL_law_21 rfl ?_
    refine hn_isub B dL_law_23 ?_
    exact hn_icmp_gt (α := Unit) (X := some ()) (Y := none) (r := ()) (tgt := 1430) B dL_law_24 (by decide) (by rw [wr_id (x := (L : Int) - 7) (by omega) (by omega), wr_id (x := (i : Int)) (by omega) (by omega), if_pos (by omega)]) (fun _ => KE _ _) (fun h => by cases h)
  | succ d ih =>
    intro i w v hd hi hA
    refine hn_iload_n B 0 dL_law_18 rfl rfl ?_
    refine hn_aload_n B 3 dL_law_19 rfl rfl ?_
    refine hn_slen B hX hbl hbA dL_law_20 ?_
    refine hn_bipush B dL_law_21 rfl ?_
    refine hn_isub B dL_law_23 ?_
    by_cases q : L < i + 7
    · exact hn_icmp_gt (α := Unit) (X := some ()) (Y := none) (r := ()) (tgt := 1430) B dL_law_24 (by decide) (by rw [wr_id (x := (L : Int) - 7) (by omega) (by omega), wr_id (x := (i : Int)) (by omega) (by omega), if_pos (by omega)]) (fun _ => KE _ _) (fun h => by cases h)
    · refine hn_icmp_gt (α := Unit) (X := none) (Y := some ()) (r := ()) (tgt := 1430) B dL_law_24 (by decide) (by rw [wr_id (x := (L : Int) - 7) (by omega) (by omega), wr_id (x := (i : Int)) (by omega) (by omega), if_neg (by omega)]) (fun h => by cases h) (fun _ => ?_)
      have hi7 : i + 7 ≤ L := by omega
      refine hn_aload_n B 3 dL_law_27 rfl rfl ?_
      refine hn_iload_n B 0 dL_law_28 rfl rfl ?_
      refine hn_sld B hX hbl hbA (by rw [wr_id (x := (i : Int)) (by omega) (by omega)]; omega) dL_law_29 ?_
      refine hn_bipush B dL_law_30 rfl ?_
      refine hn_iand B dL_law_32 ?_
      have K : ∀ w1 v1, hx_A w1 v1 → hn_At p l e room_1 s m #[.ref b] below meth c D A Q 4 (lw_w cI cA ad1 ad2 w1 v1) 100 20000 [(3, .int (hg_I (i : Int))), (2, .ref (ad2 0)), (1, .ref (ad1 0)), (0, .ref b)] 1424 [] := by
        intro w1 v1 hA1
        refine hn_iinc B 0 [(3, .int (hg_I ((i : Int) + 7))), (2, .ref (ad2 0)), (1, .ref (ad1 0)), (0, .ref b)] dL_law_1424 rfl (by decide) rfl ?_
        refine hn_goto B (tgt := 18) dL_law_1427 (by decide) ?_
        rw [show (i : Int) + 7 = ((i + 7 : Nat) : Int) by omega]
        exact ih (i + 7) w1 v1 (by omega) (by omega) hA1
      obtain ⟨x, hxv⟩ : ∃ x, x = wr (hg_and (xs (wr (i : Int)).toNat).toInt 63) := ⟨_, rfl⟩
      by_cases q0 : 0 ≤ x ∧ x ≤ 35
      · rcases (by omega : x = 0 ∨ x = 1 ∨ x = 2 ∨ x = 3 ∨ x = 4 ∨ x = 5 ∨ x = 6 ∨ x = 7 ∨ x = 8 ∨ x = 9 ∨ x = 10 ∨ x = 11 ∨ x = 12 ∨ x = 13 ∨ x = 14 ∨ x = 15 ∨ x = 16 ∨ x = 17 ∨ x = 18 ∨ x = 19 ∨ x = 20 ∨ x = 21 ∨ x = 22 ∨ x = 23 ∨ x = 24 ∨ x = 25 ∨ x = 26 ∨ x = 27 ∨ x = 28 ∨ x = 29 ∨ x = 30 ∨ x = 31 ∨ x = 32 ∨ x = 33 ∨ x = 34 ∨ x = 35) with h | h | h | h | h | h | h | h | h | h | h | h | h | h | h | h | h | h | h | h | h | h | h | h | h | h | h | h | h | h | h | h | h | h | h | h
        · exact hn_tabIn B dL_law_33 (hxv.symm.trans h) (by decide) rfl (tgt := 192) (by decide) (lw_k0 B hE hX hbl hbA hL hi7 hA K)
        · exact hn_tabIn B dL_law_33 (hxv.symm.trans h) (by decide) rfl (tgt := 215) (by decide) (lw_k1 B hE hX hbl hbA hL hi7 hA K)
        · exact hn_tabIn B dL_law_33 (hxv.symm.trans h) (by decide) rfl (tgt := 258) (by decide) (lw_k2 B hE hX hbl hbA hL hi7 hA K)
        · exact hn_tabIn B dL_law_33 (hxv.symm.trans h) (by decide) rfl (tgt := 291) (by decide) (lw_k3 B hE hX hbl hbA hL hi7 hA K)
        · exact hn_tabIn B dL_law_33 (hxv.symm.trans h) (by decide) rfl (tgt := 366) (by decide) (lw_k4 B hE hX hbl hbA hL hi7 hA K)
        · exact hn_tabIn B dL_law_33 (hxv.symm.trans h) (by decide) rfl (tgt := 379) (by decide) (lw_k5 B hE hX hbl hbA hL hi7 hA K)
        · exact hn_tabIn B dL_law_33 (hxv.symm.trans h) (by decide) rfl (tgt := 402) (by decide) (lw_k6 B hE hX hbl hbA hL hi7 hA K)
        · exact hn_tabIn B dL_law_33 (hxv.symm.trans h) (by decide) rfl (tgt := 445) (by decide) (lw_k7 B hE hX hbl hbA hL hi7 hA K)
        · exact hn_tabIn B dL_law_33 (hxv.symm.trans h) (by decide) rfl (tgt := 478) (by decide) (lw_k8 B hE hX hbl hbA hL hi7 hA K)
        · exact hn_tabIn B dL_law_33 (hxv.symm.trans h) (by decide) rfl (tgt := 521) (by decide) (lw_k9 B hE hX hbl hbA hL hi7 hA K)
        · exact hn_tabIn B dL_law_33 (hxv.symm.trans h) (by decide) rfl (tgt := 554) (by decide) (lw_k10 B hE hX hbl hbA hL hi7 hA K)
        · exact hn_tabIn B dL_law_33 (hxv.symm.trans h) (by decide) rfl (tgt := 597) (by decide) (lw_k11 B hE hX hbl hbA hL hi7 hA K)
        · exact hn_tabIn B dL_law_33 (hxv.symm.trans h) (by decide) rfl (tgt := 610) (by decide) (lw_k12 B hE hX hbl hbA hL hi7 hA K)
        · exact hn_tabIn B dL_law_33 (hxv.symm.trans h) (by decide) rfl (tgt := 633) (by decide) (lw_k13 B hE hX hbl hbA hL hi7 hA K)
        · exact hn_tabIn B dL_law_33 (hxv.symm.trans h) (by decide) rfl (tgt := 666) (by decide) (lw_k14 B hE hX hbl hbA hL hi7 hA K)
        · exact hn_tabIn B dL_law_33 (hxv.symm.trans h) (by decide) rfl (tgt := 689) (by decide) (lw_k15 B hE hX hbl hbA hL hi7 hA K)
        · exact hn_tabIn B dL_law_33 (hxv.symm.trans h) (by decide) rfl (tgt := 722) (by decide) (lw_k16 B hE hX hbl hbA hL hi7 hA K)
        · exact hn_tabIn B dL_law_33 (hxv.symm.trans h) (by decide) rfl (tgt := 755) (by decide) (lw_k17 B hE hX hbl hbA hL hi7 hA K)
        · exact hn_tabIn B dL_law_33 (hxv.symm.trans h) (by decide) rfl (tgt := 778) (by decide) (lw_k18 B hE hX hbl hbA hL hi7 hA K)
        · exact hn_tabIn B dL_law_33 (hxv.symm.trans h) (by decide) rfl (tgt := 801) (by decide) (lw_k19 B hE hX hbl hbA hL hi7 hA K)
        · exact hn_tabIn B dL_law_33 (hxv.symm.trans h) (by decide) rfl (tgt := 835) (by decide) (lw_k20 B hE hX hbl hbA hL hi7 hA K)
        · exact hn_tabIn B dL_law_33 (hxv.symm.trans h) (by decide) rfl (tgt := 858) (by decide) (lw_k21 B hE hX hbl hbA hL hi7 hA K)
        · exact hn_tabIn B dL_law_33 (hxv.symm.trans h) (by decide) rfl (tgt := 901) (by decide) (lw_k22 B hE hX hbl hbA hL hi7 hA K)
        · exact hn_tabIn B dL_law_33 (hxv.symm.trans h) (by decide) rfl (tgt := 944) (by decide) (lw_k23 B hE hX hbl hbA hL hi7 hA K)
        · exact hn_tabIn B dL_law_33 (hxv.symm.trans h) (by decide) rfl (tgt := 987) (by decide) (lw_k24 B hE hX hbl hbA hL hi7 hA K)
        · exact hn_tabIn B dL_law_33 (hxv.symm.trans h) (by decide) rfl (tgt := 1010) (by decide) (lw_k25 B hE hX hbl hbA hL hi7 hA K)
        · exact hn_tabIn B dL_law_33 (hxv.symm.trans h) (by decide) rfl (tgt := 1033) (by decide) (lw_k26 B hE hX hbl hbA hL hi7 hA K)
        · exact hn_tabIn B dL_law_33 (hxv.symm.trans h) (by decide) rfl (tgt := 1066) (by decide) (lw_k27 B hE hX hbl hbA hL hi7 hA K)
        · exact hn_tabIn B dL_law_33 (hxv.symm.trans h) (by decide) rfl (tgt := 1109) (by decide) (lw_k28 B hE hX hbl hbA hL hi7 hA K)
        · exact hn_tabIn B dL_law_33 (hxv.symm.trans h) (by decide) rfl (tgt := 1163) (by decide) (lw_k29 B hE hX hbl hbA hL hi7 hA K)
        · exact hn_tabIn B dL_law_33 (hxv.symm.trans h) (by decide) rfl (tgt := 1176) (by decide) (lw_k30 B hE hX hbl hbA hL hi7 hA K)
        · exact hn_tabIn B dL_law_33 (hxv.symm.trans h) (by decide) rfl (tgt := 1189) (by decide) (lw_k31 B hE hX hbl hbA hL hi7 hA K)
        · exact hn_tabIn B dL_law_33 (hxv.symm.trans h) (by decide) rfl (tgt := 1232) (by decide) (lw_k32 B hE hX hbl hbA hL hi7 hA K)
        · exact hn_tabIn B dL_law_33 (hxv.symm.trans h) (by decide) rfl (tgt := 1275) (by decide) (lw_k33 B hE hX hbl hbA hL hi7 hA K)
        · exact hn_tabIn B dL_law_33 (hxv.symm.trans h) (by decide) rfl (tgt := 1338) (by decide) (lw_k34 B hE hX hbl hbA hL hi7 hA K)
        · exact hn_tabIn B dL_law_33 (hxv.symm.trans h) (by decide) rfl (tgt := 1391) (by decide) (lw_k35 B hE hX hbl hbA hL hi7 hA K)
      · exact hn_tabOut B dL_law_33 (by omega) (tgt := 1424) (by decide) (K w v hA)
