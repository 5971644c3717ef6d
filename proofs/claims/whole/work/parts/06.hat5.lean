section G_06_hat5
variable {p : Program} {l : Launch} {e : Env} {s : State} {m : MethodId} {args : Array Value} {below : List Frame} {meth : Method} {c : Code} {D : va_G} {cI cA : ClassId} {ad : Nat → Nat} {A : Nat → Prop}
abbrev wxX4_putLots : List Cond := Cond.code yX4_putLots cX4_putLots 7 none :: wsL_law
def fX4_putLots_19   : Nat → hg_W → Int → Int → Int → Option (hg_W × Int)
  | 0, _, _, _, _ => none
  | n + 1, w, x2, x3, x5 =>
    if wr x2 ≤ wr x5 then
      (
        some (w, 0)
      )
    else
      (hg_ag 0 w 30 (hg_lrm (hg_lrm (x3 * 48271) 2147483647) 6)).bind fun v1 =>
      hg_bd (fX0_setInHat 28 w (hg_lrm (hg_lrm (x3 * 48271) 2147483647) 6) (hg_mn 20 (v1 + 1))) fun w3 _ =>
      fX4_putLots_19 n w3 x2 (hg_lrm (x3 * 48271) 2147483647) (x5 + 1)
def fX4_putLots (w : hg_W) (a1 : Int) (a2 : Int) : Option (hg_W × Int) :=
  hg_bd (fX0_become 28 w 19) fun w1 _ =>
  fX4_putLots_19 hg_F w1 a2 (wr (a1 + 1)) 0
set_option maxHeartbeats 4000000 in
set_option maxRecDepth 100000 in
abbrev rmX4_putLots : Room := { frames := 2, cells := 0, slots := 0, locals := 47 }
set_option maxHeartbeats 4000000 in
set_option maxRecDepth 100000 in
theorem rX4_putLots_19 (B : hg_B p s m args meth c cX4_putLots RX4 wsL_law 7 D cI cA ad 0 A) (hr : meth.sig.returnType = none) {w1 : hg_W} {r1 : Int} : ∀ (n : Nat), ∀ (w : hg_W) (x2 : Int) (x3 : Int) (x5 : Int), fX4_putLots_19 n w x2 x3 x5 = some (w1, r1) → hg_At p l e (rmX4_putLots) s m args below meth c D cI cA ad 0 A (MQ below (hg_Qv D cI cA ad 0 A w1) args s 0 0 A) 7 w [(0, .ref (ad 0)), (2, .int (hg_I x2)), (3, .long (hg_J x3)), (5, .int (hg_I x5))] 19 [] := by
  intro n
  induction n with
  | zero =>
    intro w x2 x3 x5 h
    cases h
  | succ n ih =>
    intro w x2 x3 x5 h
    simp only [fX4_putLots_19] at h
    refine z_iload B 3 dX4_putLots_19 rfl ?_
    refine z_iload_n B 1 dX4_putLots_21 rfl rfl ?_
    refine z_icmp_ge (tgt := 75) B dX4_putLots_22 (by decide) h (fun h => ?_) (fun h => ?_)
    · exact z_vret B hr dX4_putLots_75 h
    · refine z_lload_n B 2 dX4_putLots_25 rfl rfl ?_
      refine z_ldc2 (n := 48271) (v := 48271) B dX4_putLots_26 (wl_32 15 rfl) (by decide) ?_
      refine z_lmul B dX4_putLots_29 ?_
      refine z_ldc2 (n := 2147483647) (v := 2147483647) B dX4_putLots_30 (wl_32 16 rfl) (by decide) ?_
      refine z_lrem B dX4_putLots_33 (by decide) ?_
      refine z_lstore_n B [(3, .long (hg_J (hg_lrm (x3 * 48271) 2147483647))), (0, .ref (ad 0)), (2, .int (hg_I x2)), (5, .int (hg_I x5))] dX4_putLots_34 rfl (by decide) rfl ?_
      refine z_lload_n B 0 dX4_putLots_35 rfl rfl ?_
      refine z_ldc2 (n := 6) (v := 6) B dX4_putLots_36 (wl_32 17 rfl) (by decide) ?_
      refine z_lrem B dX4_putLots_39 (by decide) ?_
      refine z_l2i B dX4_putLots_40 ?_
      refine z_istore B [(6, .int (hg_I (hg_lrm (hg_lrm (x3 * 48271) 2147483647) 6))), (3, .long (hg_J (hg_lrm (x3 * 48271) 2147483647))), (0, .ref (ad 0)), (2, .int (hg_I x2)), (5, .int (hg_I x5))] dX4_putLots_41 (by decide) rfl ?_
      refine z_aload_n B 2 dX4_putLots_43 rfl rfl ?_
      refine z_get4 (v := .ref (ad 28)) B 3 dX4_putLots_44 inlX4 (by decide) rfl (by decide) (wl_2 0 rfl) rfl rfl ?_
      refine z_iload B 0 dX4_putLots_47 rfl ?_
      refine z_bipush B dX4_putLots_49 (by decide) ?_
      refine z_aload_n B 2 dX4_putLots_51 rfl rfl ?_
      refine z_get4 (v := .ref (ad 28)) B 3 dX4_putLots_52 inlX4 (by decide) rfl (by decide) (wl_2 0 rfl) rfl rfl ?_
      refine z_get0 (v := .ref (ad 30)) B 2 dX4_putLots_55 inlX0 (by decide) rfl (by decide) (wl_8 11 rfl) rfl rfl ?_
      refine z_iload B 0 dX4_putLots_58 rfl ?_
      obtain ⟨v1, q2, h⟩ := Option.bind_eq_some_iff.mp h
      refine z_iald (Or.inl rfl) B dX4_putLots_60 q2 ?_
      refine z_iconst B dX4_putLots_61 ?_
      refine z_iadd B dX4_putLots_62 ?_
      refine z_mmin B dX4_putLots_63 (wl_25 22 rfl) (wl_16 7 rfl) (wl_16 8 rfl) (wl_16 9 rfl) ⟨Nat.le_of_ble_eq_true rfl, Nat.le_of_ble_eq_true rfl⟩ ?_
      obtain ⟨w3, v4, q5, h⟩ := hg_bd_some h
      refine z_callvV (a := 28) (ci := 0) (N := 14) (T := TX0) (C := RX0) (As := [.int (hg_I (hg_lrm (hg_lrm (x3 * 48271) 2147483647) 6)), .int (hg_I (hg_mn 20 (v1 + 1)))]) (n := 2) B dX4_putLots_66 (c_X0_setInHat (by unfold hg_rd; decide) q5) (gl_V (wl_8 15 rfl) (wl_8 16 rfl) (wl_8 17 rfl) (wl_1 22 rfl) (wl_8 18 rfl)) rfl ⟨rfl, rfl⟩ (by decide +kernel) ⟨Nat.le_of_ble_eq_true rfl, Nat.le_of_ble_eq_true rfl⟩ (by decide) rfl (by decide) rfl rfl rfl (Nat.le_of_ble_eq_true rfl) ?_
      refine z_iinc B 4 [(5, .int (hg_I (x5 + 1))), (6, .int (hg_I (hg_lrm (hg_lrm (x3 * 48271) 2147483647) 6))), (3, .long (hg_J (hg_lrm (x3 * 48271) 2147483647))), (0, .ref (ad 0)), (2, .int (hg_I x2))] dX4_putLots_69 rfl (by decide) rfl ?_
      refine z_goto (tgt := 19) B dX4_putLots_72 (by decide) ?_
      refine z_lv (lv' := [(0, .ref (ad 0)), (2, .int (hg_I x2)), (3, .long (hg_J (hg_lrm (x3 * 48271) 2147483647))), (5, .int (hg_I (x5 + 1)))]) B [3, 4, 2, 0] rfl ?_
      exact ih _ _ _ _ h
set_option maxHeartbeats 4000000 in
set_option maxRecDepth 100000 in
theorem rX4_putLots_E (B : hg_B p s m args meth c cX4_putLots RX4 wsL_law 7 D cI cA ad 0 A) (hr : meth.sig.returnType = none) {a1 : Int} {a2 : Int} {w1 : hg_W} {r1 : Int} {w : hg_W} (h : fX4_putLots w a1 a2 = some (w1, r1)) : hg_At p l e (rmX4_putLots) s m args below meth c D cI cA ad 0 A (MQ below (hg_Qv D cI cA ad 0 A w1) args s 0 0 A) 7 w [(0, .ref (ad 0)), (1, .int (hg_I a1)), (2, .int (hg_I a2))] 0 [] := by
  unfold fX4_putLots at h
  refine z_aload_n B 0 dX4_putLots_0 rfl rfl ?_
  refine z_get4 (v := .ref (ad 28)) B 3 dX4_putLots_1 inlX4 (by decide) rfl (by decide) (wl_2 0 rfl) rfl rfl ?_
  refine z_aload_n B 0 dX4_putLots_4 rfl rfl ?_
  refine z_get4 (v := .ref (ad 19)) B 2 dX4_putLots_5 inlX4 (by decide) rfl (by decide) (wl_1 23 rfl) rfl rfl ?_
  obtain ⟨w1, v2, q3, h⟩ := hg_bd_some h
  refine z_callvV (a := 28) (ci := 0) (N := 14) (T := TX0) (C := RX0) (As := [.ref (ad 19)]) (n := 1) B dX4_putLots_8 (c_X0_become (by unfold hg_rd; decide) (by unfold hg_rd; decide) q3) (gl_V (wl_23 1 rfl) (wl_23 2 rfl) (wl_23 3 rfl) (wl_1 22 rfl) (wl_23 4 rfl)) rfl ⟨rfl, rfl⟩ (by decide +kernel) ⟨Nat.le_of_ble_eq_true rfl, Nat.le_of_ble_eq_true rfl⟩ (by decide) rfl (by decide) rfl rfl rfl (Nat.le_of_ble_eq_true rfl) ?_
  refine z_iload_n B 1 dX4_putLots_11 rfl rfl ?_
  refine z_iconst B dX4_putLots_12 ?_
  refine z_iadd B dX4_putLots_13 ?_
  refine z_i2l B dX4_putLots_14 ?_
  refine z_lstore_n B [(3, .long (hg_J (wr (a1 + 1)))), (0, .ref (ad 0)), (1, .int (hg_I a1)), (2, .int (hg_I a2))] dX4_putLots_15 rfl (by decide) rfl ?_
  refine z_iconst B dX4_putLots_16 ?_
  refine z_istore B [(5, .int (hg_I 0)), (3, .long (hg_J (wr (a1 + 1)))), (0, .ref (ad 0)), (1, .int (hg_I a1)), (2, .int (hg_I a2))] dX4_putLots_17 (by decide) rfl ?_
  refine z_lv (lv' := [(0, .ref (ad 0)), (2, .int (hg_I a2)), (3, .long (hg_J (wr (a1 + 1)))), (5, .int (hg_I 0))]) B [2, 4, 1, 0] rfl ?_
  exact rX4_putLots_19 B hr hg_F _ _ _ _ h
set_option maxHeartbeats 4000000 in
set_option maxRecDepth 100000 in
theorem c_X4_putLots {l : Launch} {D : va_G} {cI cA : ClassId} {ad : Nat → Nat} {a1 : Int} {a2 : Int} {w w1 : hg_W} {r1 : Int} (h : fX4_putLots w a1 a2 = some (w1, r1)) : hg_Mv l yX4_putLots wxX4_putLots rmX4_putLots D cI cA ad 0 w [.ref (ad 0), .int (hg_I a1), .int (hg_I a2)] w1 := by
  refine z_metv cX4_putLots 7 none (by decide) (Nat.le_of_ble_eq_true rfl) ?_
  intro p e s m args below meth c A B hr
  exact rX4_putLots_E B hr h
abbrev wxX4_drawn : List Cond := Cond.code yX4_drawn cX4_drawn 6 (some .int) :: wsL_law
def fX4_drawn (w : hg_W) (a1 : Int) (a2 : Int) (a3 : Int) : Option (hg_W × Int) :=
  if wr a1 < 0 then
    (
      some (w, wr (-2))
    )
  else
    if wr 99999 < wr a1 then
      (
        some (w, wr (-2))
      )
    else
      if wr a2 < 0 then
        (
          some (w, wr (-2))
        )
      else
        if wr 30 < wr a2 then
          (
            some (w, wr (-2))
          )
        else
          if wr a3 < 0 then
            (
              some (w, wr (-2))
            )
          else
            if wr a3 ≤ wr 1 then
              (
                hg_bd (fX4_putLots w a1 a2) fun w1 _ =>
                hg_bd (fX0_goWhileCoins 28 w1 120) fun w4 v5 =>
                if wr a3 = wr 1 then
                  (
                    some (w4, wr v5)
                  )
                else
                  hg_bd (fX4_firstMost w4 34 (w4 28 9)) fun w7 v8 =>
                  if 0 ≤ wr v8 then
                    (
                      (hg_ag 0 w7 34 v8).bind fun v10 =>
                      some (w7, wr v10)
                    )
                  else
                    some (w7, wr 0)
              )
            else
              some (w, wr (-2))
set_option maxHeartbeats 4000000 in
set_option maxRecDepth 100000 in
abbrev rmX4_drawn : Room := { frames := 7, cells := 0, slots := 0, locals := 164 }
set_option maxHeartbeats 4000000 in
set_option maxRecDepth 100000 in
theorem rX4_drawn_E (B : hg_B p s m args meth c cX4_drawn RX4 wsL_law 6 D cI cA ad 0 A) (hr : meth.sig.returnType = (some .int)) {a1 : Int} {a2 : Int} {a3 : Int} {w1 : hg_W} {r1 : Int} {w : hg_W} (h : fX4_drawn w a1 a2 a3 = some (w1, r1)) : hg_At p l e (rmX4_drawn) s m args below meth c D cI cA ad 0 A (MQ below (hg_Qi D cI cA ad 0 A w1 r1) args s 0 0 A) 6 w [(0, .ref (ad 0)), (1, .int (hg_I a1)), (2, .int (hg_I a2)), (3, .int (hg_I a3))] 0 [] := by
  unfold fX4_drawn at h
  refine z_iload_n B 1 dX4_drawn_0 rfl rfl ?_
  refine z_if_lt (tgt := 29) B dX4_drawn_1 (by decide) h (fun h => ?_) (fun h => ?_)
  · refine z_bipush B dX4_drawn_29 (by decide) ?_
    exact z_iret B hr dX4_drawn_31 h
  · refine z_iload_n B 1 dX4_drawn_4 rfl rfl ?_
    refine z_ldc (n := 99999) (v := 99999) B dX4_drawn_5 (wl_32 10 rfl) (by decide) ?_
    refine z_icmp_gt (tgt := 29) B dX4_drawn_7 (by decide) h (fun h => ?_) (fun h => ?_)
    · refine z_bipush B dX4_drawn_29 (by decide) ?_
      exact z_iret B hr dX4_drawn_31 h
    · refine z_iload_n B 2 dX4_drawn_10 rfl rfl ?_
      refine z_if_lt (tgt := 29) B dX4_drawn_11 (by decide) h (fun h => ?_) (fun h => ?_)
      · refine z_bipush B dX4_drawn_29 (by decide) ?_
        exact z_iret B hr dX4_drawn_31 h
      · refine z_iload_n B 2 dX4_drawn_14 rfl rfl ?_
        refine z_bipush B dX4_drawn_15 (by decide) ?_
        refine z_icmp_gt (tgt := 29) B dX4_drawn_17 (by decide) h (fun h => ?_) (fun h => ?_)
        · refine z_bipush B dX4_drawn_29 (by decide) ?_
          exact z_iret B hr dX4_drawn_31 h
        · refine z_iload_n B 3 dX4_drawn_20 rfl rfl ?_
          refine z_if_lt (tgt := 29) B dX4_drawn_21 (by decide) h (fun h => ?_) (fun h => ?_)
          · refine z_bipush B dX4_drawn_29 (by decide) ?_
            exact z_iret B hr dX4_drawn_31 h
          · refine z_iload_n B 3 dX4_drawn_24 rfl rfl ?_
            refine z_iconst B dX4_drawn_25 ?_
            refine z_icmp_le (tgt := 32) B dX4_drawn_26 (by decide) h (fun h => ?_) (fun h => ?_)
            · refine z_aload_n B 0 dX4_drawn_32 rfl rfl ?_
              refine z_iload_n B 1 dX4_drawn_33 rfl rfl ?_
              refine z_iload_n B 2 dX4_drawn_34 rfl rfl ?_
              obtain ⟨w1, v2, q3, h⟩ := hg_bd_some h
              refine z_callvV (a := 0) (ci := 4) (N := 9) (T := TX4) (C := RX4) (As := [.int (hg_I a1), .int (hg_I a2)]) (n := 2) B dX4_drawn_35 (c_X4_putLots q3) (gl_V (wl_32 11 rfl) (wl_32 12 rfl) (wl_32 13 rfl) (wl_1 2 rfl) (wl_32 14 rfl)) rfl ⟨rfl, rfl⟩ (by decide +kernel) ⟨Nat.le_of_ble_eq_true rfl, Nat.le_of_ble_eq_true rfl⟩ (by decide) rfl (by decide) rfl rfl rfl (Nat.le_of_ble_eq_true rfl) ?_
              refine z_aload_n B 0 dX4_drawn_38 rfl rfl ?_
              refine z_get4 (v := .ref (ad 28)) B 3 dX4_drawn_39 inlX4 (by decide) rfl (by decide) (wl_2 0 rfl) rfl rfl ?_
              refine z_bipush B dX4_drawn_42 (by decide) ?_
              obtain ⟨w4, v5, q6, h⟩ := hg_bd_some h
              refine z_calliV (a := 28) (ci := 0) (N := 14) (T := TX0) (C := RX0) (As := [.int (hg_I 120)]) (n := 1) B dX4_drawn_44 (c_X0_goWhileCoins (by unfold hg_rd; decide) q6) (gl_V (wl_23 9 rfl) (wl_23 10 rfl) (wl_23 11 rfl) (wl_1 22 rfl) (wl_23 12 rfl)) rfl ⟨rfl, rfl⟩ (by decide +kernel) ⟨Nat.le_of_ble_eq_true rfl, Nat.le_of_ble_eq_true rfl⟩ (by decide) rfl (by decide) rfl rfl rfl (Nat.le_of_ble_eq_true rfl) ?_
              refine z_istore B [(4, .int (hg_I v5)), (0, .ref (ad 0)), (1, .int (hg_I a1)), (2, .int (hg_I a2)), (3, .int (hg_I a3))] dX4_drawn_47 (by decide) rfl ?_
              refine z_iload_n B 4 dX4_drawn_49 rfl rfl ?_
              refine z_iconst B dX4_drawn_50 ?_
              refine z_icmp_ne (tgt := 57) B dX4_drawn_51 (by decide) h (fun h => ?_) (fun h => ?_)
              · refine z_aload_n B 1 dX4_drawn_57 rfl rfl ?_
                refine z_get4 (v := .ref (ad 28)) B 3 dX4_drawn_58 inlX4 (by decide) rfl (by decide) (wl_2 0 rfl) rfl rfl ?_
                refine z_get0 (v := .ref (ad 34)) B 6 dX4_drawn_61 inlX0 (by decide) rfl (by decide) (wl_18 14 rfl) rfl rfl ?_
                refine z_aload_n B 1 dX4_drawn_64 rfl rfl ?_
                refine z_get4 (v := .ref (ad 28)) B 3 dX4_drawn_65 inlX4 (by decide) rfl (by decide) (wl_2 0 rfl) rfl rfl ?_
                refine z_get0 (v := .int (hg_I (w4 28 9))) B 9 dX4_drawn_68 inlX0 (by decide) rfl (by decide) (wl_7 11 rfl) rfl rfl ?_
                obtain ⟨w7, v8, q9, h⟩ := hg_bd_some h
                refine z_calliS (As := [.ref (ad 34), .int (hg_I (w4 28 9))]) (n := 2) B dX4_drawn_71 (c_X4_firstMost q9) (gl_S (wl_24 10 rfl) (wl_24 11 rfl) (wl_1 2 rfl) (wl_24 12 rfl)) rfl ⟨rfl, rfl⟩ (by decide +kernel) ⟨Nat.le_of_ble_eq_true rfl, Nat.le_of_ble_eq_true rfl⟩ rfl rfl (Nat.le_of_ble_eq_true rfl) ?_
                refine z_istore B [(5, .int (hg_I v8)), (4, .int (hg_I v5)), (0, .ref (ad 0)), (1, .int (hg_I a1)), (2, .int (hg_I a2)), (3, .int (hg_I a3))] dX4_drawn_74 (by decide) rfl ?_
                refine z_iload B 0 dX4_drawn_76 rfl ?_
                refine z_if_ge (tgt := 85) B dX4_drawn_78 (by decide) h (fun h => ?_) (fun h => ?_)
                · refine z_aload_n B 2 dX4_drawn_85 rfl rfl ?_
                  refine z_get4 (v := .ref (ad 28)) B 3 dX4_drawn_86 inlX4 (by decide) rfl (by decide) (wl_2 0 rfl) rfl rfl ?_
                  refine z_get0 (v := .ref (ad 34)) B 6 dX4_drawn_89 inlX0 (by decide) rfl (by decide) (wl_18 14 rfl) rfl rfl ?_
                  refine z_iload B 0 dX4_drawn_92 rfl ?_
                  obtain ⟨v10, q11, h⟩ := Option.bind_eq_some_iff.mp h
                  refine z_iald (Or.inl rfl) B dX4_drawn_94 q11 ?_
                  exact z_iret B hr dX4_drawn_95 h
                · refine z_iconst B dX4_drawn_81 ?_
                  refine z_goto (tgt := 95) B dX4_drawn_82 (by decide) ?_
                  exact z_iret B hr dX4_drawn_95 h
              · refine z_iload B 0 dX4_drawn_54 rfl ?_
                exact z_iret B hr dX4_drawn_56 h
            · refine z_bipush B dX4_drawn_29 (by decide) ?_
              exact z_iret B hr dX4_drawn_31 h
set_option maxHeartbeats 4000000 in
set_option maxRecDepth 100000 in
theorem c_X4_drawn {l : Launch} {D : va_G} {cI cA : ClassId} {ad : Nat → Nat} {a1 : Int} {a2 : Int} {a3 : Int} {w w1 : hg_W} {r1 : Int} (h : fX4_drawn w a1 a2 a3 = some (w1, r1)) : hg_Mi l yX4_drawn wxX4_drawn rmX4_drawn D cI cA ad 0 w [.ref (ad 0), .int (hg_I a1), .int (hg_I a2), .int (hg_I a3)] w1 r1 := by
  refine z_meti cX4_drawn 6 (some .int) (by decide) (Nat.le_of_ble_eq_true rfl) ?_
  intro p e s m args below meth c A B hr
  exact rX4_drawn_E B hr h
abbrev wxX4_odds : List Cond := Cond.code yX4_odds cX4_odds 7 (some .long) :: wsL_law
def fX4_odds_82 (K50 : hg_W → Int → Int → Int → Int → Int → Int → Option (hg_W × Int))  (w : hg_W) (x1 : Int) (x2 : Int) (x3 : Int) (x4 : Int) (x5 : Int) (x6 : Int) : Option (hg_W × Int) :=
  K50 w x1 x2 x3 x4 x5 (x6 + 1)
def fX4_odds_50   : Nat → hg_W → Int → Int → Int → Int → Int → Int → Option (hg_W × Int)
  | 0, _, _, _, _, _, _, _ => none
  | n + 1, w, x1, x2, x3, x4, x5, x6 =>
    if wr x2 ≤ wr x6 then
      (
        hg_bd (fX4_inLowestTerms w x5 x2 x4) fun w1 v2 =>
        some (w1, wl v2)
      )
    else
      hg_bd (fX4_putLots w (x1 + x6) 10) fun w4 _ =>
      hg_bd (fX0_goWhileCoins 28 w4 120) fun w7 v8 =>
      if wr v8 = wr x3 then
        (
          fX4_odds_82 (fX4_odds_50 n) w7 x1 x2 x3 x4 (x5 + 1) x6
        )
      else
        fX4_odds_82 (fX4_odds_50 n) w7 x1 x2 x3 x4 x5 x6
def fX4_odds (w : hg_W) (a1 : Int) (a2 : Int) (a3 : Int) (a4 : Int) : Option (hg_W × Int) :=
  if wr a1 < 0 then
    (
      some (w, wl (-4611686018427387904))
    )
  else
    if wr 99999 < wr a1 then
      (
        some (w, wl (-4611686018427387904))
      )
    else
      if wr a2 < wr 1 then
        (
          some (w, wl (-4611686018427387904))
        )
      else
        if wr 40 < wr a2 then
          (
            some (w, wl (-4611686018427387904))
          )
        else
          hg_bd (fX4_isThere w a3) fun w1 v2 =>
          if wr v2 = 0 then
            (
              some (w1, wl (-4611686018427387904))
            )
          else
            if wr a4 < 0 then
              (
                some (w1, wl (-4611686018427387904))
              )
            else
              if wr a4 ≤ wr 1 then
                (
                  fX4_odds_50 hg_F w1 a1 a2 a3 a4 0 0
                )
              else
                some (w1, wl (-4611686018427387904))
set_option maxHeartbeats 4000000 in
set_option maxRecDepth 100000 in
abbrev rmX4_odds : Room := { frames := 7, cells := 0, slots := 0, locals := 164 }
set_option maxHeartbeats 4000000 in
set_option maxRecDepth 100000 in
theorem rX4_odds_82 (B : hg_B p s m args meth c cX4_odds RX4 wsL_law 7 D cI cA ad 0 A) (hr : meth.sig.returnType = (some .long)) {w1 : hg_W} {r1 : Int} {K50 : hg_W → Int → Int → Int → Int → Int → Int → Option (hg_W × Int)} (hK50 : ∀ (w : hg_W) (x1 : Int) (x2 : Int) (x3 : Int) (x4 : Int) (x5 : Int) (x6 : Int), K50 w x1 x2 x3 x4 x5 x6 = some (w1, r1) → hg_At p l e (rmX4_odds) s m args below meth c D cI cA ad 0 A (MQ below (hg_Ql D cI cA ad 0 A w1 r1) args s 0 0 A) 7 w [(0, .ref (ad 0)), (1, .int (hg_I x1)), (2, .int (hg_I x2)), (3, .int (hg_I x3)), (4, .int (hg_I x4)), (5, .int (hg_I x5)), (6, .int (hg_I x6))] 50 []) : ∀ (w : hg_W) (x1 : Int) (x2 : Int) (x3 : Int) (x4 : Int) (x5 : Int) (x6 : Int), fX4_odds_82 K50 w x1 x2 x3 x4 x5 x6 = some (w1, r1) → hg_At p l e (rmX4_odds) s m args below meth c D cI cA ad 0 A (MQ below (hg_Ql D cI cA ad 0 A w1 r1) args s 0 0 A) 7 w [(0, .ref (ad 0)), (1, .int (hg_I x1)), (2, .int (hg_I x2)), (3, .int (hg_I x3)), (4, .int (hg_I x4)), (5, .int (hg_I x5)), (6, .int (hg_I x6))] 82 [] := by
  intro w x1 x2 x3 x4 x5 x6 h
  unfold fX4_odds_82 at h
  refine z_iinc B 6 [(6, .int (hg_I (x6 + 1))), (0, .ref (ad 0)), (1, .int (hg_I x1)), (2, .int (hg_I x2)), (3, .int (hg_I x3)), (4, .int (hg_I x4)), (5, .int (hg_I x5))] dX4_odds_82 rfl (by decide) rfl ?_
  refine z_goto (tgt := 50) B dX4_odds_85 (by decide) ?_
  refine z_lv (lv' := [(0, .ref (ad 0)), (1, .int (hg_I x1)), (2, .int (hg_I x2)), (3, .int (hg_I x3)), (4, .int (hg_I x4)), (5, .int (hg_I x5)), (6, .int (hg_I (x6 + 1)))]) B [1, 2, 3, 4, 5, 6, 0] rfl ?_
  exact hK50 _ _ _ _ _ _ _ h
set_option maxHeartbeats 4000000 in
set_option maxRecDepth 100000 in
theorem rX4_odds_50 (B : hg_B p s m args meth c cX4_odds RX4 wsL_law 7 D cI cA ad 0 A) (hr : meth.sig.returnType = (some .long)) {w1 : hg_W} {r1 : Int} : ∀ (n : Nat), ∀ (w : hg_W) (x1 : Int) (x2 : Int) (x3 : Int) (x4 : Int) (x5 : Int) (x6 : Int), fX4_odds_50 n w x1 x2 x3 x4 x5 x6 = some (w1, r1) → hg_At p l e (rmX4_odds) s m args below meth c D cI cA ad 0 A (MQ below (hg_Ql D cI cA ad 0 A w1 r1) args s 0 0 A) 7 w [(0, .ref (ad 0)), (1, .int (hg_I x1)), (2, .int (hg_I x2)), (3, .int (hg_I x3)), (4, .int (hg_I x4)), (5, .int (hg_I x5)), (6, .int (hg_I x6))] 50 [] := by
  intro n
  induction n with
  | zero =>
    intro w x1 x2 x3 x4 x5 x6 h
    cases h
  | succ n ih =>
    intro w x1 x2 x3 x4 x5 x6 h
    simp only [fX4_odds_50] at h
    refine z_iload B 6 dX4_odds_50 rfl ?_
    refine z_iload_n B 2 dX4_odds_52 rfl rfl ?_
    refine z_icmp_ge (tgt := 88) B dX4_odds_53 (by decide) h (fun h => ?_) (fun h => ?_)
    · refine z_iload B 5 dX4_odds_88 rfl ?_
      refine z_iload_n B 2 dX4_odds_90 rfl rfl ?_
      refine z_iload B 4 dX4_odds_91 rfl ?_
      obtain ⟨w1, v2, q3, h⟩ := hg_bd_some h
      refine z_calllS (As := [.int (hg_I x5), .int (hg_I x2), .int (hg_I x4)]) (n := 3) B dX4_odds_93 (c_X4_inLowestTerms q3) (gl_S (wl_27 22 rfl) (wl_27 23 rfl) (wl_1 2 rfl) (wl_28 0 rfl)) rfl ⟨rfl, rfl⟩ (by decide +kernel) ⟨Nat.le_of_ble_eq_true rfl, Nat.le_of_ble_eq_true rfl⟩ rfl rfl (Nat.le_of_ble_eq_true rfl) ?_
      exact z_lret B hr dX4_odds_96 h
    · refine z_aload_n B 0 dX4_odds_56 rfl rfl ?_
      refine z_iload_n B 1 dX4_odds_57 rfl rfl ?_
      refine z_iload B 6 dX4_odds_58 rfl ?_
      refine z_iadd B dX4_odds_60 ?_
      refine z_bipush B dX4_odds_61 (by decide) ?_
      obtain ⟨w4, v5, q6, h⟩ := hg_bd_some h
      refine z_callvV (a := 0) (ci := 4) (N := 9) (T := TX4) (C := RX4) (As := [.int (hg_I (x1 + x6)), .int (hg_I 10)]) (n := 2) B dX4_odds_63 (c_X4_putLots q6) (gl_V (wl_32 11 rfl) (wl_32 12 rfl) (wl_32 13 rfl) (wl_1 2 rfl) (wl_32 14 rfl)) rfl ⟨rfl, rfl⟩ (by decide +kernel) ⟨Nat.le_of_ble_eq_true rfl, Nat.le_of_ble_eq_true rfl⟩ (by decide) rfl (by decide) rfl rfl rfl (Nat.le_of_ble_eq_true rfl) ?_
      refine z_aload_n B 0 dX4_odds_66 rfl rfl ?_
      refine z_get4 (v := .ref (ad 28)) B 3 dX4_odds_67 inlX4 (by decide) rfl (by decide) (wl_2 0 rfl) rfl rfl ?_
      refine z_bipush B dX4_odds_70 (by decide) ?_
      obtain ⟨w7, v8, q9, h⟩ := hg_bd_some h
      refine z_calliV (a := 28) (ci := 0) (N := 14) (T := TX0) (C := RX0) (As := [.int (hg_I 120)]) (n := 1) B dX4_odds_72 (c_X0_goWhileCoins (by unfold hg_rd; decide) q9) (gl_V (wl_23 9 rfl) (wl_23 10 rfl) (wl_23 11 rfl) (wl_1 22 rfl) (wl_23 12 rfl)) rfl ⟨rfl, rfl⟩ (by decide +kernel) ⟨Nat.le_of_ble_eq_true rfl, Nat.le_of_ble_eq_true rfl⟩ (by decide) rfl (by decide) rfl rfl rfl (Nat.le_of_ble_eq_true rfl) ?_
      refine z_iload_n B 3 dX4_odds_75 rfl rfl ?_
      refine z_icmp_ne (tgt := 82) B dX4_odds_76 (by decide) h (fun h => ?_) (fun h => ?_)
      · exact rX4_odds_82 B hr ih _ _ _ _ _ _ _ h
      · refine z_iinc B 5 [(5, .int (hg_I (x5 + 1))), (0, .ref (ad 0)), (1, .int (hg_I x1)), (2, .int (hg_I x2)), (3, .int (hg_I x3)), (4, .int (hg_I x4)), (6, .int (hg_I x6))] dX4_odds_79 rfl (by decide) rfl ?_
        refine z_lv (lv' := [(0, .ref (ad 0)), (1, .int (hg_I x1)), (2, .int (hg_I x2)), (3, .int (hg_I x3)), (4, .int (hg_I x4)), (5, .int (hg_I (x5 + 1))), (6, .int (hg_I x6))]) B [1, 2, 3, 4, 5, 0, 6] rfl ?_
        exact rX4_odds_82 B hr ih _ _ _ _ _ _ _ h
set_option maxHeartbeats 4000000 in
set_option maxRecDepth 100000 in
theorem rX4_odds_E (B : hg_B p s m args meth c cX4_odds RX4 wsL_law 7 D cI cA ad 0 A) (hr : meth.sig.returnType = (some .long)) {a1 : Int} {a2 : Int} {a3 : Int} {a4 : Int} {w1 : hg_W} {r1 : Int} {w : hg_W} (h : fX4_odds w a1 a2 a3 a4 = some (w1, r1)) : hg_At p l e (rmX4_odds) s m args below meth c D cI cA ad 0 A (MQ below (hg_Ql D cI cA ad 0 A w1 r1) args s 0 0 A) 7 w [(0, .ref (ad 0)), (1, .int (hg_I a1)), (2, .int (hg_I a2)), (3, .int (hg_I a3)), (4, .int (hg_I a4))] 0 [] := by
  unfold fX4_odds at h
  refine z_iload_n B 1 dX4_odds_0 rfl rfl ?_
  refine z_if_lt (tgt := 40) B dX4_odds_1 (by decide) h (fun h => ?_) (fun h => ?_)
  · refine z_ldc2 (n := -4611686018427387904) (v := -4611686018427387904) B dX4_odds_40 (wl_27 21 rfl) (by decide) ?_
    exact z_lret B hr dX4_odds_43 h
  · refine z_iload_n B 1 dX4_odds_4 rfl rfl ?_
    refine z_ldc (n := 99999) (v := 99999) B dX4_odds_5 (wl_32 10 rfl) (by decide) ?_
    refine z_icmp_gt (tgt := 40) B dX4_odds_7 (by decide) h (fun h => ?_) (fun h => ?_)
    · refine z_ldc2 (n := -4611686018427387904) (v := -4611686018427387904) B dX4_odds_40 (wl_27 21 rfl) (by decide) ?_
      exact z_lret B hr dX4_odds_43 h
    · refine z_iload_n B 2 dX4_odds_10 rfl rfl ?_
      refine z_iconst B dX4_odds_11 ?_
      refine z_icmp_lt (tgt := 40) B dX4_odds_12 (by decide) h (fun h => ?_) (fun h => ?_)
      · refine z_ldc2 (n := -4611686018427387904) (v := -4611686018427387904) B dX4_odds_40 (wl_27 21 rfl) (by decide) ?_
        exact z_lret B hr dX4_odds_43 h
      · refine z_iload_n B 2 dX4_odds_15 rfl rfl ?_
        refine z_bipush B dX4_odds_16 (by decide) ?_
        refine z_icmp_gt (tgt := 40) B dX4_odds_18 (by decide) h (fun h => ?_) (fun h => ?_)
        · refine z_ldc2 (n := -4611686018427387904) (v := -4611686018427387904) B dX4_odds_40 (wl_27 21 rfl) (by decide) ?_
          exact z_lret B hr dX4_odds_43 h
        · refine z_aload_n B 0 dX4_odds_21 rfl rfl ?_
          refine z_iload_n B 3 dX4_odds_22 rfl rfl ?_
          obtain ⟨w1, v2, q3, h⟩ := hg_bd_some h
          refine z_calliV (a := 0) (ci := 4) (N := 9) (T := TX4) (C := RX4) (As := [.int (hg_I a3)]) (n := 1) B dX4_odds_23 (c_X4_isThere q3) (gl_V (wl_15 22 rfl) (wl_15 23 rfl) (wl_16 0 rfl) (wl_1 2 rfl) (wl_16 1 rfl)) rfl ⟨rfl, rfl⟩ (by decide +kernel) ⟨Nat.le_of_ble_eq_true rfl, Nat.le_of_ble_eq_true rfl⟩ (by decide) rfl (by decide) rfl rfl rfl (Nat.le_of_ble_eq_true rfl) ?_
          refine z_if_eq (tgt := 40) B dX4_odds_26 (by decide) h (fun h => ?_) (fun h => ?_)
          · refine z_ldc2 (n := -4611686018427387904) (v := -4611686018427387904) B dX4_odds_40 (wl_27 21 rfl) (by decide) ?_
            exact z_lret B hr dX4_odds_43 h
          · refine z_iload B 4 dX4_odds_29 rfl ?_
            refine z_if_lt (tgt := 40) B dX4_odds_31 (by decide) h (fun h => ?_) (fun h => ?_)
            · refine z_ldc2 (n := -4611686018427387904) (v := -4611686018427387904) B dX4_odds_40 (wl_27 21 rfl) (by decide) ?_
              exact z_lret B hr dX4_odds_43 h
            · refine z_iload B 4 dX4_odds_34 rfl ?_
              refine z_iconst B dX4_odds_36 ?_
              refine z_icmp_le (tgt := 44) B dX4_odds_37 (by decide) h (fun h => ?_) (fun h => ?_)
              · refine z_iconst B dX4_odds_44 ?_
                refine z_istore B [(5, .int (hg_I 0)), (0, .ref (ad 0)), (1, .int (hg_I a1)), (2, .int (hg_I a2)), (3, .int (hg_I a3)), (4, .int (hg_I a4))] dX4_odds_45 (by decide) rfl ?_
                refine z_iconst B dX4_odds_47 ?_
                refine z_istore B [(6, .int (hg_I 0)), (5, .int (hg_I 0)), (0, .ref (ad 0)), (1, .int (hg_I a1)), (2, .int (hg_I a2)), (3, .int (hg_I a3)), (4, .int (hg_I a4))] dX4_odds_48 (by decide) rfl ?_
                refine z_lv (lv' := [(0, .ref (ad 0)), (1, .int (hg_I a1)), (2, .int (hg_I a2)), (3, .int (hg_I a3)), (4, .int (hg_I a4)), (5, .int (hg_I 0)), (6, .int (hg_I 0))]) B [2, 3, 4, 5, 6, 1, 0] rfl ?_
                exact rX4_odds_50 B hr hg_F _ _ _ _ _ _ _ h
              · refine z_ldc2 (n := -4611686018427387904) (v := -4611686018427387904) B dX4_odds_40 (wl_27 21 rfl) (by decide) ?_
                exact z_lret B hr dX4_odds_43 h
set_option maxHeartbeats 4000000 in
set_option maxRecDepth 100000 in
theorem c_X4_odds {l : Launch} {D : va_G} {cI cA : ClassId} {ad : Nat → Nat} {a1 : Int} {a2 : Int} {a3 : Int} {a4 : Int} {w w1 : hg_W} {r1 : Int} (h : fX4_odds w a1 a2 a3 a4 = some (w1, r1)) : hg_Ml l yX4_odds wxX4_odds rmX4_odds D cI cA ad 0 w [.ref (ad 0), .int (hg_I a1), .int (hg_I a2), .int (hg_I a3), .int (hg_I a4)] w1 r1 := by
  refine z_metl cX4_odds 7 (some .long) (by decide) (Nat.le_of_ble_eq_true rfl) ?_
  intro p e s m args below meth c A B hr
  exact rX4_odds_E B hr h
abbrev wxX4_image : List Cond := Cond.code yX4_image cX4_image 1 (some .int) :: wsL_law
def fX4_image (w : hg_W) : Option (hg_W × Int) :=
  hg_bd (fX0_become 37 w 19) fun w1 _ =>
  (hg_pt w1 0 5 1).bind fun w4 =>
  some (w4, wr (w4 37 9))
set_option maxHeartbeats 4000000 in
set_option maxRecDepth 100000 in
abbrev rmX4_image : Room := { frames := 2, cells := 0, slots := 0, locals := 47 }
set_option maxHeartbeats 4000000 in
set_option maxRecDepth 100000 in
theorem rX4_image_E (B : hg_B p s m args meth c cX4_image RX4 wsL_law 1 D cI cA ad 0 A) (hr : meth.sig.returnType = (some .int)) {w1 : hg_W} {r1 : Int} {w : hg_W} (h : fX4_image w = some (w1, r1)) : hg_At p l e (rmX4_image) s m args below meth c D cI cA ad 0 A (MQ below (hg_Qi D cI cA ad 0 A w1 r1) args s 0 0 A) 1 w [(0, .ref (ad 0))] 0 [] := by
  unfold fX4_image at h
  refine z_aload_n B 0 dX4_image_0 rfl rfl ?_
  refine z_get4 (v := .ref (ad 37)) B 4 dX4_image_1 inlX4 (by decide) rfl (by decide) (wl_2 1 rfl) rfl rfl ?_
  refine z_aload_n B 0 dX4_image_4 rfl rfl ?_
  refine z_get4 (v := .ref (ad 19)) B 2 dX4_image_5 inlX4 (by decide) rfl (by decide) (wl_1 23 rfl) rfl rfl ?_
  obtain ⟨w1, v2, q3, h⟩ := hg_bd_some h
  refine z_callvV (a := 37) (ci := 0) (N := 14) (T := TX0) (C := RX0) (As := [.ref (ad 19)]) (n := 1) B dX4_image_8 (c_X0_become (by unfold hg_rd; decide) (by unfold hg_rd; decide) q3) (gl_V (wl_23 1 rfl) (wl_23 2 rfl) (wl_23 3 rfl) (wl_1 22 rfl) (wl_23 4 rfl)) rfl ⟨rfl, rfl⟩ (by decide +kernel) ⟨Nat.le_of_ble_eq_true rfl, Nat.le_of_ble_eq_true rfl⟩ (by decide) rfl (by decide) rfl rfl rfl (Nat.le_of_ble_eq_true rfl) ?_
  refine z_aload_n B 0 dX4_image_11 rfl rfl ?_
  refine z_iconst B dX4_image_12 ?_
  obtain ⟨w4, q5, h⟩ := Option.bind_eq_some_iff.mp h
  refine z_put4 B 5 dX4_image_13 inlX4 (by decide) rfl (by decide) (wl_2 2 rfl) rfl rfl .boolean (by decide +kernel) rfl rfl hg_fs4_5 q5 ?_
  refine z_aload_n B 0 dX4_image_16 rfl rfl ?_
  refine z_get4 (v := .ref (ad 37)) B 4 dX4_image_17 inlX4 (by decide) rfl (by decide) (wl_2 1 rfl) rfl rfl ?_
  refine z_get0 (v := .int (hg_I (w4 37 9))) B 9 dX4_image_20 inlX0 (by decide) rfl (by decide) (wl_7 11 rfl) rfl rfl ?_
  exact z_iret B hr dX4_image_23 h
set_option maxHeartbeats 4000000 in
set_option maxRecDepth 100000 in
theorem c_X4_image {l : Launch} {D : va_G} {cI cA : ClassId} {ad : Nat → Nat} {w w1 : hg_W} {r1 : Int} (h : fX4_image w = some (w1, r1)) : hg_Mi l yX4_image wxX4_image rmX4_image D cI cA ad 0 w [.ref (ad 0)] w1 r1 := by
  refine z_meti cX4_image 1 (some .int) (by decide) (Nat.le_of_ble_eq_true rfl) ?_
  intro p e s m args below meth c A B hr
  exact rX4_image_E B hr h
abbrev wxX4_back : List Cond := Cond.code yX4_back cX4_back 1 (some .int) :: wsL_law
def fX4_back (w : hg_W) : Option (hg_W × Int) :=
  if wr (w 0 5) = 0 then
    (
      some (w, wr (-3))
    )
  else
    hg_bd (fX0_become 19 w 37) fun w1 _ =>
    some (w1, wr (w1 19 9))
set_option maxHeartbeats 4000000 in
set_option maxRecDepth 100000 in
abbrev rmX4_back : Room := { frames := 2, cells := 0, slots := 0, locals := 47 }
set_option maxHeartbeats 4000000 in
set_option maxRecDepth 100000 in
theorem rX4_back_E (B : hg_B p s m args meth c cX4_back RX4 wsL_law 1 D cI cA ad 0 A) (hr : meth.sig.returnType = (some .int)) {w1 : hg_W} {r1 : Int} {w : hg_W} (h : fX4_back w = some (w1, r1)) : hg_At p l e (rmX4_back) s m args below meth c D cI cA ad 0 A (MQ below (hg_Qi D cI cA ad 0 A w1 r1) args s 0 0 A) 1 w [(0, .ref (ad 0))] 0 [] := by
  unfold fX4_back at h
  refine z_aload_n B 0 dX4_back_0 rfl rfl ?_
  refine z_get4 (v := .int (hg_I (w 0 5))) B 5 dX4_back_1 inlX4 (by decide) rfl (by decide) (wl_2 2 rfl) rfl rfl ?_
  refine z_if_ne (tgt := 10) B dX4_back_4 (by decide) h (fun h => ?_) (fun h => ?_)
  · refine z_aload_n B 0 dX4_back_10 rfl rfl ?_
    refine z_get4 (v := .ref (ad 19)) B 2 dX4_back_11 inlX4 (by decide) rfl (by decide) (wl_1 23 rfl) rfl rfl ?_
    refine z_aload_n B 0 dX4_back_14 rfl rfl ?_
    refine z_get4 (v := .ref (ad 37)) B 4 dX4_back_15 inlX4 (by decide) rfl (by decide) (wl_2 1 rfl) rfl rfl ?_
    obtain ⟨w1, v2, q3, h⟩ := hg_bd_some h
    refine z_callvV (a := 19) (ci := 0) (N := 14) (T := TX0) (C := RX0) (As := [.ref (ad 37)]) (n := 1) B dX4_back_18 (c_X0_become (by unfold hg_rd; decide) (by unfold hg_rd; decide) q3) (gl_V (wl_23 1 rfl) (wl_23 2 rfl) (wl_23 3 rfl) (wl_1 22 rfl) (wl_23 4 rfl)) rfl ⟨rfl, rfl⟩ (by decide +kernel) ⟨Nat.le_of_ble_eq_true rfl, Nat.le_of_ble_eq_true rfl⟩ (by decide) rfl (by decide) rfl rfl rfl (Nat.le_of_ble_eq_true rfl) ?_
    refine z_aload_n B 0 dX4_back_21 rfl rfl ?_
    refine z_get4 (v := .ref (ad 19)) B 2 dX4_back_22 inlX4 (by decide) rfl (by decide) (wl_1 23 rfl) rfl rfl ?_
    refine z_get0 (v := .int (hg_I (w1 19 9))) B 9 dX4_back_25 inlX0 (by decide) rfl (by decide) (wl_7 11 rfl) rfl rfl ?_
    exact z_iret B hr dX4_back_28 h
  · refine z_bipush B dX4_back_7 (by decide) ?_
    exact z_iret B hr dX4_back_9 h
set_option maxHeartbeats 4000000 in
set_option maxRecDepth 100000 in
theorem c_X4_back {l : Launch} {D : va_G} {cI cA : ClassId} {ad : Nat → Nat} {w w1 : hg_W} {r1 : Int} (h : fX4_back w = some (w1, r1)) : hg_Mi l yX4_back wxX4_back rmX4_back D cI cA ad 0 w [.ref (ad 0)] w1 r1 := by
  refine z_meti cX4_back 1 (some .int) (by decide) (Nat.le_of_ble_eq_true rfl) ?_
  intro p e s m args below meth c A B hr
  exact rX4_back_E B hr h
abbrev wxX4_sheet : List Cond := Cond.code yX4_sheet cX4_sheet 4 (some .int) :: wsL_law
def fX4_sheet_59   (w : hg_W) (s1 : Int) (s2 : Int) (s3 : Int) : Option (hg_W × Int) :=
  hg_bd (fX1_become w s1 s2 s3) fun w1 _ =>
  some (w1, wr 1)
def fX4_sheet_43   (w : hg_W) (x1 : Int) (x2 : Int) (x3 : Int) : Option (hg_W × Int) :=
  if wr x2 = wr (-1) then
    (
      fX4_sheet_59 w x1 x2 0
    )
  else
    fX4_sheet_59 w x1 x2 x3
def fX4_sheet_31   (w : hg_W) (x1 : Int) (x2 : Int) (x3 : Int) : Option (hg_W × Int) :=
  if wr x2 = wr (-1) then
    (
      fX4_sheet_43 w x1 x2 x3
    )
  else
    if 0 ≤ wr x3 then
      (
        fX4_sheet_43 w x1 x2 x3
      )
    else
      some (w, wr (-14))
def fX4_sheet (w : hg_W) (a1 : Int) (a2 : Int) (a3 : Int) : Option (hg_W × Int) :=
  hg_bd (fX4_isSheet w a1) fun w1 v2 =>
  if wr v2 = 0 then
    (
      some (w1, wr (-2))
    )
  else
    if wr a2 < wr (-1) then
      (
        some (w1, wr (-2))
      )
    else
      if wr 2 < wr a2 then
        (
          some (w1, wr (-2))
        )
      else
        if wr a2 = wr (-1) then
          (
            fX4_sheet_31 w1 a1 a2 a3
          )
        else
          if wr a3 ≤ wr 40 then
            (
              fX4_sheet_31 w1 a1 a2 a3
            )
          else
            some (w1, wr (-2))
set_option maxHeartbeats 4000000 in
set_option maxRecDepth 100000 in
abbrev rmX4_sheet : Room := { frames := 1, cells := 0, slots := 0, locals := 24 }
set_option maxHeartbeats 4000000 in
set_option maxRecDepth 100000 in
theorem rX4_sheet_59 (B : hg_B p s m args meth c cX4_sheet RX4 wsL_law 4 D cI cA ad 0 A) (hr : meth.sig.returnType = (some .int)) {w1 : hg_W} {r1 : Int} : ∀ (w : hg_W) (s1 : Int) (s2 : Int) (s3 : Int), fX4_sheet_59 w s1 s2 s3 = some (w1, r1) → hg_At p l e (rmX4_sheet) s m args below meth c D cI cA ad 0 A (MQ below (hg_Qi D cI cA ad 0 A w1 r1) args s 0 0 A) 4 w [] 59 [.int (hg_I s3), .int (hg_I s2), .int (hg_I s1), .ref (ad 46)] := by
  intro w s1 s2 s3 h
  unfold fX4_sheet_59 at h
  obtain ⟨w1, v2, q3, h⟩ := hg_bd_some h
  refine z_callvV (a := 46) (ci := 1) (N := 3) (T := TX1) (C := RX1) (As := [.int (hg_I s1), .int (hg_I s2), .int (hg_I s3)]) (n := 3) B dX4_sheet_59 (c_X1_become q3) (gl_V (wl_31 22 rfl) (wl_31 23 rfl) (wl_32 0 rfl) (wl_2 5 rfl) (wl_32 1 rfl)) rfl ⟨rfl, rfl⟩ (by decide +kernel) ⟨Nat.le_of_ble_eq_true rfl, Nat.le_of_ble_eq_true rfl⟩ (by decide) rfl (by decide) rfl rfl rfl (Nat.le_of_ble_eq_true rfl) ?_
  refine z_iconst B dX4_sheet_62 ?_
  exact z_iret B hr dX4_sheet_63 h
set_option maxHeartbeats 4000000 in
set_option maxRecDepth 100000 in
theorem rX4_sheet_43 (B : hg_B p s m args meth c cX4_sheet RX4 wsL_law 4 D cI cA ad 0 A) (hr : meth.sig.returnType = (some .int)) {w1 : hg_W} {r1 : Int} : ∀ (w : hg_W) (x1 : Int) (x2 : Int) (x3 : Int), fX4_sheet_43 w x1 x2 x3 = some (w1, r1) → hg_At p l e (rmX4_sheet) s m args below meth c D cI cA ad 0 A (MQ below (hg_Qi D cI cA ad 0 A w1 r1) args s 0 0 A) 4 w [(0, .ref (ad 0)), (1, .int (hg_I x1)), (2, .int (hg_I x2)), (3, .int (hg_I x3))] 43 [] := by
  intro w x1 x2 x3 h
  unfold fX4_sheet_43 at h
  refine z_aload_n B 0 dX4_sheet_43 rfl rfl ?_
  refine z_get4 (v := .ref (ad 46)) B 6 dX4_sheet_44 inlX4 (by decide) rfl (by decide) (wl_2 6 rfl) rfl rfl ?_
  refine z_iload_n B 1 dX4_sheet_47 rfl rfl ?_
  refine z_iload_n B 2 dX4_sheet_48 rfl rfl ?_
  refine z_iload_n B 2 dX4_sheet_49 rfl rfl ?_
  refine z_iconst B dX4_sheet_50 ?_
  refine z_icmp_ne (tgt := 58) B dX4_sheet_51 (by decide) h (fun h => ?_) (fun h => ?_)
  · refine z_iload_n B 3 dX4_sheet_58 rfl rfl ?_
    refine z_lv (lv' := []) B [] rfl ?_
    exact rX4_sheet_59 B hr _ _ _ _ h
  · refine z_iconst B dX4_sheet_54 ?_
    refine z_goto (tgt := 59) B dX4_sheet_55 (by decide) ?_
    refine z_lv (lv' := []) B [] rfl ?_
    exact rX4_sheet_59 B hr _ _ _ _ h
set_option maxHeartbeats 4000000 in
set_option maxRecDepth 100000 in
theorem rX4_sheet_31 (B : hg_B p s m args meth c cX4_sheet RX4 wsL_law 4 D cI cA ad 0 A) (hr : meth.sig.returnType = (some .int)) {w1 : hg_W} {r1 : Int} : ∀ (w : hg_W) (x1 : Int) (x2 : Int) (x3 : Int), fX4_sheet_31 w x1 x2 x3 = some (w1, r1) → hg_At p l e (rmX4_sheet) s m args below meth c D cI cA ad 0 A (MQ below (hg_Qi D cI cA ad 0 A w1 r1) args s 0 0 A) 4 w [(0, .ref (ad 0)), (1, .int (hg_I x1)), (2, .int (hg_I x2)), (3, .int (hg_I x3))] 31 [] := by
  intro w x1 x2 x3 h
  unfold fX4_sheet_31 at h
  refine z_iload_n B 2 dX4_sheet_31 rfl rfl ?_
  refine z_iconst B dX4_sheet_32 ?_
  refine z_icmp_eq (tgt := 43) B dX4_sheet_33 (by decide) h (fun h => ?_) (fun h => ?_)
  · exact rX4_sheet_43 B hr _ _ _ _ h
  · refine z_iload_n B 3 dX4_sheet_36 rfl rfl ?_
    refine z_if_ge (tgt := 43) B dX4_sheet_37 (by decide) h (fun h => ?_) (fun h => ?_)
    · exact rX4_sheet_43 B hr _ _ _ _ h
    · refine z_bipush B dX4_sheet_40 (by decide) ?_
      exact z_iret B hr dX4_sheet_42 h
set_option maxHeartbeats 4000000 in
set_option maxRecDepth 100000 in
theorem rX4_sheet_E (B : hg_B p s m args meth c cX4_sheet RX4 wsL_law 4 D cI cA ad 0 A) (hr : meth.sig.returnType = (some .int)) {a1 : Int} {a2 : Int} {a3 : Int} {w1 : hg_W} {r1 : Int} {w : hg_W} (h : fX4_sheet w a1 a2 a3 = some (w1, r1)) : hg_At p l e (rmX4_sheet) s m args below meth c D cI cA ad 0 A (MQ below (hg_Qi D cI cA ad 0 A w1 r1) args s 0 0 A) 4 w [(0, .ref (ad 0)), (1, .int (hg_I a1)), (2, .int (hg_I a2)), (3, .int (hg_I a3))] 0 [] := by
  unfold fX4_sheet at h
  refine z_iload_n B 1 dX4_sheet_0 rfl rfl ?_
  obtain ⟨w1, v2, q3, h⟩ := hg_bd_some h
  refine z_calliS (As := [.int (hg_I a1)]) (n := 1) B dX4_sheet_1 (c_X4_isSheet q3) (gl_S (wl_31 21 rfl) (wl_28 17 rfl) (wl_1 2 rfl) (wl_28 18 rfl)) rfl ⟨rfl, rfl⟩ (by decide +kernel) ⟨Nat.le_of_ble_eq_true rfl, Nat.le_of_ble_eq_true rfl⟩ rfl rfl (Nat.le_of_ble_eq_true rfl) ?_
  refine z_if_eq (tgt := 28) B dX4_sheet_4 (by decide) h (fun h => ?_) (fun h => ?_)
  · refine z_bipush B dX4_sheet_28 (by decide) ?_
    exact z_iret B hr dX4_sheet_30 h
  · refine z_iload_n B 2 dX4_sheet_7 rfl rfl ?_
    refine z_iconst B dX4_sheet_8 ?_
    refine z_icmp_lt (tgt := 28) B dX4_sheet_9 (by decide) h (fun h => ?_) (fun h => ?_)
    · refine z_bipush B dX4_sheet_28 (by decide) ?_
      exact z_iret B hr dX4_sheet_30 h
    · refine z_iload_n B 2 dX4_sheet_12 rfl rfl ?_
      refine z_iconst B dX4_sheet_13 ?_
      refine z_icmp_gt (tgt := 28) B dX4_sheet_14 (by decide) h (fun h => ?_) (fun h => ?_)
      · refine z_bipush B dX4_sheet_28 (by decide) ?_
        exact z_iret B hr dX4_sheet_30 h
      · refine z_iload_n B 2 dX4_sheet_17 rfl rfl ?_
        refine z_iconst B dX4_sheet_18 ?_
        refine z_icmp_eq (tgt := 31) B dX4_sheet_19 (by decide) h (fun h => ?_) (fun h => ?_)
        · exact rX4_sheet_31 B hr _ _ _ _ h
        · refine z_iload_n B 3 dX4_sheet_22 rfl rfl ?_
          refine z_bipush B dX4_sheet_23 (by decide) ?_
          refine z_icmp_le (tgt := 31) B dX4_sheet_25 (by decide) h (fun h => ?_) (fun h => ?_)
          · exact rX4_sheet_31 B hr _ _ _ _ h
          · refine z_bipush B dX4_sheet_28 (by decide) ?_
            exact z_iret B hr dX4_sheet_30 h
set_option maxHeartbeats 4000000 in
set_option maxRecDepth 100000 in
theorem c_X4_sheet {l : Launch} {D : va_G} {cI cA : ClassId} {ad : Nat → Nat} {a1 : Int} {a2 : Int} {a3 : Int} {w w1 : hg_W} {r1 : Int} (h : fX4_sheet w a1 a2 a3 = some (w1, r1)) : hg_Mi l yX4_sheet wxX4_sheet rmX4_sheet D cI cA ad 0 w [.ref (ad 0), .int (hg_I a1), .int (hg_I a2), .int (hg_I a3)] w1 r1 := by
  refine z_meti cX4_sheet 4 (some .int) (by decide) (Nat.le_of_ble_eq_true rfl) ?_
  intro p e s m args below meth c A B hr
  exact rX4_sheet_E B hr h
abbrev wxX4_cell : List Cond := Cond.code yX4_cell cX4_cell 4 (some .int) :: wsL_law
def fX4_cell (w : hg_W) (a1 : Int) (a2 : Int) (a3 : Int) : Option (hg_W × Int) :=
  hg_bd (fX4_isSheet w a1) fun w1 v2 =>
  if wr v2 = 0 then
    (
      some (w1, wr (-2))
    )
  else
    hg_bd (fX1_isMissing w1 a1) fun w4 v5 =>
    if wr v5 = 0 then
      (
        if wr a2 < 0 then
          (
            some (w4, wr (-12))
          )
        else
          (hg_ag 0 w4 48 a1).bind fun v7 =>
          if wr a2 < wr v7 then
            (
              hg_bd (fX1_store w4 a1 a2 a3) fun w9 _ =>
              some (w9, wr 1)
            )
          else
            some (w4, wr (-12))
      )
    else
      some (w4, wr (-11))
set_option maxHeartbeats 4000000 in
set_option maxRecDepth 100000 in
abbrev rmX4_cell : Room := { frames := 1, cells := 0, slots := 0, locals := 23 }
set_option maxHeartbeats 4000000 in
set_option maxRecDepth 100000 in
theorem rX4_cell_E (B : hg_B p s m args meth c cX4_cell RX4 wsL_law 4 D cI cA ad 0 A) (hr : meth.sig.returnType = (some .int)) {a1 : Int} {a2 : Int} {a3 : Int} {w1 : hg_W} {r1 : Int} {w : hg_W} (h : fX4_cell w a1 a2 a3 = some (w1, r1)) : hg_At p l e (rmX4_cell) s m args below meth c D cI cA ad 0 A (MQ below (hg_Qi D cI cA ad 0 A w1 r1) args s 0 0 A) 4 w [(0, .ref (ad 0)), (1, .int (hg_I a1)), (2, .int (hg_I a2)), (3, .int (hg_I a3))] 0 [] := by
  unfold fX4_cell at h
  refine z_iload_n B 1 dX4_cell_0 rfl rfl ?_
  obtain ⟨w1, v2, q3, h⟩ := hg_bd_some h
  refine z_calliS (As := [.int (hg_I a1)]) (n := 1) B dX4_cell_1 (c_X4_isSheet q3) (gl_S (wl_31 21 rfl) (wl_28 17 rfl) (wl_1 2 rfl) (wl_28 18 rfl)) rfl ⟨rfl, rfl⟩ (by decide +kernel) ⟨Nat.le_of_ble_eq_true rfl, Nat.le_of_ble_eq_true rfl⟩ rfl rfl (Nat.le_of_ble_eq_true rfl) ?_
  refine z_if_ne (tgt := 10) B dX4_cell_4 (by decide) h (fun h => ?_) (fun h => ?_)
  · refine z_aload_n B 0 dX4_cell_10 rfl rfl ?_
    refine z_get4 (v := .ref (ad 46)) B 6 dX4_cell_11 inlX4 (by decide) rfl (by decide) (wl_2 6 rfl) rfl rfl ?_
    refine z_iload_n B 1 dX4_cell_14 rfl rfl ?_
    obtain ⟨w4, v5, q6, h⟩ := hg_bd_some h
    refine z_calliV (a := 46) (ci := 1) (N := 3) (T := TX1) (C := RX1) (As := [.int (hg_I a1)]) (n := 1) B dX4_cell_15 (c_X1_isMissing q6) (gl_V (wl_34 20 rfl) (wl_28 20 rfl) (wl_28 21 rfl) (wl_2 5 rfl) (wl_28 22 rfl)) rfl ⟨rfl, rfl⟩ (by decide +kernel) ⟨Nat.le_of_ble_eq_true rfl, Nat.le_of_ble_eq_true rfl⟩ (by decide) rfl (by decide) rfl rfl rfl (Nat.le_of_ble_eq_true rfl) ?_
    refine z_if_eq (tgt := 24) B dX4_cell_18 (by decide) h (fun h => ?_) (fun h => ?_)
    · refine z_iload_n B 2 dX4_cell_24 rfl rfl ?_
      refine z_if_lt (tgt := 41) B dX4_cell_25 (by decide) h (fun h => ?_) (fun h => ?_)
      · refine z_bipush B dX4_cell_41 (by decide) ?_
        exact z_iret B hr dX4_cell_43 h
      · refine z_iload_n B 2 dX4_cell_28 rfl rfl ?_
        refine z_aload_n B 0 dX4_cell_29 rfl rfl ?_
        refine z_get4 (v := .ref (ad 46)) B 6 dX4_cell_30 inlX4 (by decide) rfl (by decide) (wl_2 6 rfl) rfl rfl ?_
        refine z_get1 (v := .ref (ad 48)) B 1 dX4_cell_33 inlX1 (by decide) rfl (by decide) (wl_29 3 rfl) rfl rfl ?_
        refine z_iload_n B 1 dX4_cell_36 rfl rfl ?_
        obtain ⟨v7, q8, h⟩ := Option.bind_eq_some_iff.mp h
        refine z_iald (Or.inl rfl) B dX4_cell_37 q8 ?_
        refine z_icmp_lt (tgt := 44) B dX4_cell_38 (by decide) h (fun h => ?_) (fun h => ?_)
        · refine z_aload_n B 0 dX4_cell_44 rfl rfl ?_
          refine z_get4 (v := .ref (ad 46)) B 6 dX4_cell_45 inlX4 (by decide) rfl (by decide) (wl_2 6 rfl) rfl rfl ?_
          refine z_iload_n B 1 dX4_cell_48 rfl rfl ?_
          refine z_iload_n B 2 dX4_cell_49 rfl rfl ?_
          refine z_iload_n B 3 dX4_cell_50 rfl rfl ?_
          obtain ⟨w9, v10, q11, h⟩ := hg_bd_some h
          refine z_callvV (a := 46) (ci := 1) (N := 3) (T := TX1) (C := RX1) (As := [.int (hg_I a1), .int (hg_I a2), .int (hg_I a3)]) (n := 3) B dX4_cell_51 (c_X1_store q11) (gl_V (wl_34 21 rfl) (wl_34 22 rfl) (wl_34 23 rfl) (wl_2 5 rfl) (wl_35 0 rfl)) rfl ⟨rfl, rfl⟩ (by decide +kernel) ⟨Nat.le_of_ble_eq_true rfl, Nat.le_of_ble_eq_true rfl⟩ (by decide) rfl (by decide) rfl rfl rfl (Nat.le_of_ble_eq_true rfl) ?_
          refine z_iconst B dX4_cell_54 ?_
          exact z_iret B hr dX4_cell_55 h
        · refine z_bipush B dX4_cell_41 (by decide) ?_
          exact z_iret B hr dX4_cell_43 h
    · refine z_bipush B dX4_cell_21 (by decide) ?_
      exact z_iret B hr dX4_cell_23 h
  · refine z_bipush B dX4_cell_7 (by decide) ?_
    exact z_iret B hr dX4_cell_9 h
set_option maxHeartbeats 4000000 in
set_option maxRecDepth 100000 in
theorem c_X4_cell {l : Launch} {D : va_G} {cI cA : ClassId} {ad : Nat → Nat} {a1 : Int} {a2 : Int} {a3 : Int} {w w1 : hg_W} {r1 : Int} (h : fX4_cell w a1 a2 a3 = some (w1, r1)) : hg_Mi l yX4_cell wxX4_cell rmX4_cell D cI cA ad 0 w [.ref (ad 0), .int (hg_I a1), .int (hg_I a2), .int (hg_I a3)] w1 r1 := by
  refine z_meti cX4_cell 4 (some .int) (by decide) (Nat.le_of_ble_eq_true rfl) ?_
  intro p e s m args below meth c A B hr
  exact rX4_cell_E B hr h
abbrev wxX4_copy : List Cond := Cond.code yX4_copy cX4_copy 6 (some .int) :: wsL_law
def fX4_copy (w : hg_W) (a1 : Int) (a2 : Int) (a3 : Int) (a4 : Int) (a5 : Int) : Option (hg_W × Int) :=
  hg_bd (fX4_isSheet w a1) fun w1 v2 =>
  if wr v2 = 0 then
    (
      some (w1, wr (-2))
    )
  else
    hg_bd (fX4_isSheet w1 a3) fun w4 v5 =>
    if wr v5 = 0 then
      (
        some (w4, wr (-2))
      )
    else
      hg_bd (fX1_isMissing w4 a1) fun w7 v8 =>
      if wr v8 = 0 then
        (
          hg_bd (fX1_isMissing w7 a3) fun w10 v11 =>
          if wr v11 = 0 then
            (
              (hg_ag 0 w10 47 a1).bind fun v13 =>
              (hg_ag 0 w10 47 a3).bind fun v15 =>
              if wr v13 = wr v15 then
                (
                  if wr a5 < 0 then
                    (
                      some (w10, wr (-12))
                    )
                  else
                    if wr a2 < 0 then
                      (
                        some (w10, wr (-12))
                      )
                    else
                      if wr a4 < 0 then
                        (
                          some (w10, wr (-12))
                        )
                      else
                        (hg_ag 0 w10 48 a1).bind fun v17 =>
                        if wr (v17 - a5) < wr a2 then
                          (
                            some (w10, wr (-12))
                          )
                        else
                          (hg_ag 0 w10 48 a3).bind fun v19 =>
                          if wr a4 ≤ wr (v19 - a5) then
                            (
                              (hg_ar 49 a1).bind fun c21 =>
                              (hg_ar 49 a3).bind fun c23 =>
                              (hg_cp w10 c21 a2 c23 a4 a5).bind fun w25 =>
                              some (w25, wr a5)
                            )
                          else
                            some (w10, wr (-12))
                )
              else
                some (w10, wr (-13))
            )
          else
            some (w10, wr (-11))
        )
      else
        some (w7, wr (-11))
set_option maxHeartbeats 4000000 in
set_option maxRecDepth 100000 in
abbrev rmX4_copy : Room := { frames := 1, cells := 0, slots := 0, locals := 26 }
set_option maxHeartbeats 4000000 in
set_option maxRecDepth 100000 in
theorem rX4_copy_E (B : hg_B p s m args meth c cX4_copy RX4 wsL_law 6 D cI cA ad 0 A) (hr : meth.sig.returnType = (some .int)) {a1 : Int} {a2 : Int} {a3 : Int} {a4 : Int} {a5 : Int} {w1 : hg_W} {r1 : Int} {w : hg_W} (h : fX4_copy w a1 a2 a3 a4 a5 = some (w1, r1)) : hg_At p l e (rmX4_copy) s m args below meth c D cI cA ad 0 A (MQ below (hg_Qi D cI cA ad 0 A w1 r1) args s 0 0 A) 6 w [(0, .ref (ad 0)), (1, .int (hg_I a1)), (2, .int (hg_I a2)), (3, .int (hg_I a3)), (4, .int (hg_I a4)), (5, .int (hg_I a5))] 0 [] := by
  unfold fX4_copy at h
  refine z_iload_n B 1 dX4_copy_0 rfl rfl ?_
  obtain ⟨w1, v2, q3, h⟩ := hg_bd_some h
  refine z_calliS (As := [.int (hg_I a1)]) (n := 1) B dX4_copy_1 (c_X4_isSheet q3) (gl_S (wl_31 21 rfl) (wl_28 17 rfl) (wl_1 2 rfl) (wl_28 18 rfl)) rfl ⟨rfl, rfl⟩ (by decide +kernel) ⟨Nat.le_of_ble_eq_true rfl, Nat.le_of_ble_eq_true rfl⟩ rfl rfl (Nat.le_of_ble_eq_true rfl) ?_
  refine z_if_eq (tgt := 14) B dX4_copy_4 (by decide) h (fun h => ?_) (fun h => ?_)
  · refine z_bipush B dX4_copy_14 (by decide) ?_
    exact z_iret B hr dX4_copy_16 h
  · refine z_iload_n B 3 dX4_copy_7 rfl rfl ?_
    obtain ⟨w4, v5, q6, h⟩ := hg_bd_some h
    refine z_calliS (As := [.int (hg_I a3)]) (n := 1) B dX4_copy_8 (c_X4_isSheet q6) (gl_S (wl_31 21 rfl) (wl_28 17 rfl) (wl_1 2 rfl) (wl_28 18 rfl)) rfl ⟨rfl, rfl⟩ (by decide +kernel) ⟨Nat.le_of_ble_eq_true rfl, Nat.le_of_ble_eq_true rfl⟩ rfl rfl (Nat.le_of_ble_eq_true rfl) ?_
    refine z_if_ne (tgt := 17) B dX4_copy_11 (by decide) h (fun h => ?_) (fun h => ?_)
    · refine z_aload_n B 0 dX4_copy_17 rfl rfl ?_
      refine z_get4 (v := .ref (ad 46)) B 6 dX4_copy_18 inlX4 (by decide) rfl (by decide) (wl_2 6 rfl) rfl rfl ?_
      refine z_iload_n B 1 dX4_copy_21 rfl rfl ?_
      obtain ⟨w7, v8, q9, h⟩ := hg_bd_some h
      refine z_calliV (a := 46) (ci := 1) (N := 3) (T := TX1) (C := RX1) (As := [.int (hg_I a1)]) (n := 1) B dX4_copy_22 (c_X1_isMissing q9) (gl_V (wl_34 20 rfl) (wl_28 20 rfl) (wl_28 21 rfl) (wl_2 5 rfl) (wl_28 22 rfl)) rfl ⟨rfl, rfl⟩ (by decide +kernel) ⟨Nat.le_of_ble_eq_true rfl, Nat.le_of_ble_eq_true rfl⟩ (by decide) rfl (by decide) rfl rfl rfl (Nat.le_of_ble_eq_true rfl) ?_
      refine z_if_ne (tgt := 39) B dX4_copy_25 (by decide) h (fun h => ?_) (fun h => ?_)
      · refine z_bipush B dX4_copy_39 (by decide) ?_
        exact z_iret B hr dX4_copy_41 h
      · refine z_aload_n B 0 dX4_copy_28 rfl rfl ?_
        refine z_get4 (v := .ref (ad 46)) B 6 dX4_copy_29 inlX4 (by decide) rfl (by decide) (wl_2 6 rfl) rfl rfl ?_
        refine z_iload_n B 3 dX4_copy_32 rfl rfl ?_
        obtain ⟨w10, v11, q12, h⟩ := hg_bd_some h
        refine z_calliV (a := 46) (ci := 1) (N := 3) (T := TX1) (C := RX1) (As := [.int (hg_I a3)]) (n := 1) B dX4_copy_33 (c_X1_isMissing q12) (gl_V (wl_34 20 rfl) (wl_28 20 rfl) (wl_28 21 rfl) (wl_2 5 rfl) (wl_28 22 rfl)) rfl ⟨rfl, rfl⟩ (by decide +kernel) ⟨Nat.le_of_ble_eq_true rfl, Nat.le_of_ble_eq_true rfl⟩ (by decide) rfl (by decide) rfl rfl rfl (Nat.le_of_ble_eq_true rfl) ?_
        refine z_if_eq (tgt := 42) B dX4_copy_36 (by decide) h (fun h => ?_) (fun h => ?_)
        · refine z_aload_n B 0 dX4_copy_42 rfl rfl ?_
          refine z_get4 (v := .ref (ad 46)) B 6 dX4_copy_43 inlX4 (by decide) rfl (by decide) (wl_2 6 rfl) rfl rfl ?_
          refine z_get1 (v := .ref (ad 47)) B 0 dX4_copy_46 inlX1 (by decide) rfl (by decide) (wl_35 9 rfl) rfl rfl ?_
          refine z_iload_n B 1 dX4_copy_49 rfl rfl ?_
          obtain ⟨v13, q14, h⟩ := Option.bind_eq_some_iff.mp h
          refine z_iald (Or.inl rfl) B dX4_copy_50 q14 ?_
          refine z_aload_n B 0 dX4_copy_51 rfl rfl ?_
          refine z_get4 (v := .ref (ad 46)) B 6 dX4_copy_52 inlX4 (by decide) rfl (by decide) (wl_2 6 rfl) rfl rfl ?_
          refine z_get1 (v := .ref (ad 47)) B 0 dX4_copy_55 inlX1 (by decide) rfl (by decide) (wl_35 9 rfl) rfl rfl ?_
          refine z_iload_n B 3 dX4_copy_58 rfl rfl ?_
          obtain ⟨v15, q16, h⟩ := Option.bind_eq_some_iff.mp h
          refine z_iald (Or.inl rfl) B dX4_copy_59 q16 ?_
          refine z_icmp_eq (tgt := 66) B dX4_copy_60 (by decide) h (fun h => ?_) (fun h => ?_)
          · refine z_iload B 5 dX4_copy_66 rfl ?_
            refine z_if_lt (tgt := 113) B dX4_copy_68 (by decide) h (fun h => ?_) (fun h => ?_)
            · refine z_bipush B dX4_copy_113 (by decide) ?_
              exact z_iret B hr dX4_copy_115 h
            · refine z_iload_n B 2 dX4_copy_71 rfl rfl ?_
              refine z_if_lt (tgt := 113) B dX4_copy_72 (by decide) h (fun h => ?_) (fun h => ?_)
              · refine z_bipush B dX4_copy_113 (by decide) ?_
                exact z_iret B hr dX4_copy_115 h
              · refine z_iload B 4 dX4_copy_75 rfl ?_
                refine z_if_lt (tgt := 113) B dX4_copy_77 (by decide) h (fun h => ?_) (fun h => ?_)
                · refine z_bipush B dX4_copy_113 (by decide) ?_
                  exact z_iret B hr dX4_copy_115 h
                · refine z_iload_n B 2 dX4_copy_80 rfl rfl ?_
                  refine z_aload_n B 0 dX4_copy_81 rfl rfl ?_
                  refine z_get4 (v := .ref (ad 46)) B 6 dX4_copy_82 inlX4 (by decide) rfl (by decide) (wl_2 6 rfl) rfl rfl ?_
                  refine z_get1 (v := .ref (ad 48)) B 1 dX4_copy_85 inlX1 (by decide) rfl (by decide) (wl_29 3 rfl) rfl rfl ?_
                  refine z_iload_n B 1 dX4_copy_88 rfl rfl ?_
                  obtain ⟨v17, q18, h⟩ := Option.bind_eq_some_iff.mp h
                  refine z_iald (Or.inl rfl) B dX4_copy_89 q18 ?_
                  refine z_iload B 5 dX4_copy_90 rfl ?_
                  refine z_isub B dX4_copy_92 ?_
                  refine z_icmp_gt (tgt := 113) B dX4_copy_93 (by decide) h (fun h => ?_) (fun h => ?_)
                  · refine z_bipush B dX4_copy_113 (by decide) ?_
                    exact z_iret B hr dX4_copy_115 h
                  · refine z_iload B 4 dX4_copy_96 rfl ?_
                    refine z_aload_n B 0 dX4_copy_98 rfl rfl ?_
                    refine z_get4 (v := .ref (ad 46)) B 6 dX4_copy_99 inlX4 (by decide) rfl (by decide) (wl_2 6 rfl) rfl rfl ?_
                    refine z_get1 (v := .ref (ad 48)) B 1 dX4_copy_102 inlX1 (by decide) rfl (by decide) (wl_29 3 rfl) rfl rfl ?_
                    refine z_iload_n B 3 dX4_copy_105 rfl rfl ?_
                    obtain ⟨v19, q20, h⟩ := Option.bind_eq_some_iff.mp h
                    refine z_iald (Or.inl rfl) B dX4_copy_106 q20 ?_
                    refine z_iload B 5 dX4_copy_107 rfl ?_
                    refine z_isub B dX4_copy_109 ?_
                    refine z_icmp_le (tgt := 116) B dX4_copy_110 (by decide) h (fun h => ?_) (fun h => ?_)
                    · refine z_aload_n B 0 dX4_copy_116 rfl rfl ?_
                      refine z_get4 (v := .ref (ad 46)) B 6 dX4_copy_117 inlX4 (by decide) rfl (by decide) (wl_2 6 rfl) rfl rfl ?_
                      refine z_get1 (v := .ref (ad 49)) B 2 dX4_copy_120 inlX1 (by decide) rfl (by decide) (wl_29 4 rfl) rfl rfl ?_
                      refine z_iload_n B 1 dX4_copy_123 rfl rfl ?_
                      obtain ⟨c21, q22, h⟩ := Option.bind_eq_some_iff.mp h
                      refine z_aald B rfl dX4_copy_124 q22 ?_
                      refine z_iload_n B 2 dX4_copy_125 rfl rfl ?_
                      refine z_aload_n B 0 dX4_copy_126 rfl rfl ?_
                      refine z_get4 (v := .ref (ad 46)) B 6 dX4_copy_127 inlX4 (by decide) rfl (by decide) (wl_2 6 rfl) rfl rfl ?_
                      refine z_get1 (v := .ref (ad 49)) B 2 dX4_copy_130 inlX1 (by decide) rfl (by decide) (wl_29 4 rfl) rfl rfl ?_
                      refine z_iload_n B 3 dX4_copy_133 rfl rfl ?_
                      obtain ⟨c23, q24, h⟩ := Option.bind_eq_some_iff.mp h
                      refine z_aald B rfl dX4_copy_134 q24 ?_
                      refine z_iload B 4 dX4_copy_135 rfl ?_
                      refine z_iload B 5 dX4_copy_137 rfl ?_
                      obtain ⟨w25, q26, h⟩ := Option.bind_eq_some_iff.mp h
                      refine z_copy B rfl dX4_copy_139 (wl_35 10 rfl) (wl_23 6 rfl) (wl_23 7 rfl) (wl_23 8 rfl) ⟨Nat.le_of_ble_eq_true rfl, Nat.le_of_ble_eq_true rfl⟩ q26 ?_
                      refine z_iload B 5 dX4_copy_142 rfl ?_
                      exact z_iret B hr dX4_copy_144 h
                    · refine z_bipush B dX4_copy_113 (by decide) ?_
                      exact z_iret B hr dX4_copy_115 h
          · refine z_bipush B dX4_copy_63 (by decide) ?_
            exact z_iret B hr dX4_copy_65 h
        · refine z_bipush B dX4_copy_39 (by decide) ?_
          exact z_iret B hr dX4_copy_41 h
    · refine z_bipush B dX4_copy_14 (by decide) ?_
      exact z_iret B hr dX4_copy_16 h
set_option maxHeartbeats 4000000 in
set_option maxRecDepth 100000 in
theorem c_X4_copy {l : Launch} {D : va_G} {cI cA : ClassId} {ad : Nat → Nat} {a1 : Int} {a2 : Int} {a3 : Int} {a4 : Int} {a5 : Int} {w w1 : hg_W} {r1 : Int} (h : fX4_copy w a1 a2 a3 a4 a5 = some (w1, r1)) : hg_Mi l yX4_copy wxX4_copy rmX4_copy D cI cA ad 0 w [.ref (ad 0), .int (hg_I a1), .int (hg_I a2), .int (hg_I a3), .int (hg_I a4), .int (hg_I a5)] w1 r1 := by
  refine z_meti cX4_copy 6 (some .int) (by decide) (Nat.le_of_ble_eq_true rfl) ?_
  intro p e s m args below meth c A B hr
  exact rX4_copy_E B hr h
abbrev wxX4_pewBy : List Cond := Cond.code yX4_pewBy cX4_pewBy 8 (some .int) :: wsL_law
def fX4_pewBy_142 (K67 : hg_W → Int → Int → Int → Int → Int → Option (hg_W × Int))  (w : hg_W) (x1 : Int) (x3 : Int) (x4 : Int) (x5 : Int) (x6 : Int) : Option (hg_W × Int) :=
  K67 w x1 x3 x4 x5 (x6 + 1)
def fX4_pewBy_67   : Nat → hg_W → Int → Int → Int → Int → Int → Option (hg_W × Int)
  | 0, _, _, _, _, _, _ => none
  | n + 1, w, x1, x3, x4, x5, x6 =>
    if wr x4 ≤ wr x6 then
      (
        some (w, wr x5)
      )
    else
      if wr (x3 + (2 * x6)) < 0 then
        (
          some (w, wr (-12))
        )
      else
        (hg_ag 0 w 48 x1).bind fun v1 =>
        if wr (x3 + (2 * x6)) ≤ wr (v1 - 2) then
          (
            (hg_ar 49 x1).bind fun c3 =>
            (hg_ag 0 w c3 (x3 + (2 * x6))).bind fun v5 =>
            (hg_ar 49 x1).bind fun c7 =>
            (hg_ag 0 w c7 ((x3 + (2 * x6)) + 1)).bind fun v9 =>
            hg_bd (fX4_person w v5 v9) fun w11 v12 =>
            if wr v12 < 0 then
              (
                fX4_pewBy_142 (fX4_pewBy_67 n) w11 x1 x3 x4 x5 x6
              )
            else
              fX4_pewBy_142 (fX4_pewBy_67 n) w11 x1 x3 x4 (x5 + 1) x6
          )
        else
          some (w, wr (-12))
def fX4_pewBy (w : hg_W) (a1 : Int) (a2 : Int) (a3 : Int) (a4 : Int) : Option (hg_W × Int) :=
  hg_bd (fX4_isSheet w a1) fun w1 v2 =>
  if wr v2 = 0 then
    (
      some (w1, wr (-2))
    )
  else
    if wr a2 < 0 then
      (
        some (w1, wr (-2))
      )
    else
      if wr 2 < wr a2 then
        (
          some (w1, wr (-2))
        )
      else
        if wr a4 < 0 then
          (
            some (w1, wr (-2))
          )
        else
          if wr a4 ≤ wr 6 then
            (
              hg_bd (fX1_isMissing w1 a1) fun w4 v5 =>
              if wr v5 = 0 then
                (
                  (hg_ag 0 w4 47 a1).bind fun v7 =>
                  if wr v7 = wr a2 then
                    (
                      fX4_pewBy_67 hg_F w4 a1 a3 a4 0 0
                    )
                  else
                    some (w4, wr (-13))
                )
              else
                some (w4, wr (-11))
            )
          else
            some (w1, wr (-2))
set_option maxHeartbeats 4000000 in
set_option maxRecDepth 100000 in
abbrev rmX4_pewBy : Room := { frames := 2, cells := 0, slots := 0, locals := 45 }
set_option maxHeartbeats 4000000 in
set_option maxRecDepth 100000 in
theorem rX4_pewBy_142 (B : hg_B p s m args meth c cX4_pewBy RX4 wsL_law 8 D cI cA ad 0 A) (hr : meth.sig.returnType = (some .int)) {w1 : hg_W} {r1 : Int} {K67 : hg_W → Int → Int → Int → Int → Int → Option (hg_W × Int)} (hK67 : ∀ (w : hg_W) (x1 : Int) (x3 : Int) (x4 : Int) (x5 : Int) (x6 : Int), K67 w x1 x3 x4 x5 x6 = some (w1, r1) → hg_At p l e (rmX4_pewBy) s m args below meth c D cI cA ad 0 A (MQ below (hg_Qi D cI cA ad 0 A w1 r1) args s 0 0 A) 8 w [(0, .ref (ad 0)), (1, .int (hg_I x1)), (3, .int (hg_I x3)), (4, .int (hg_I x4)), (5, .int (hg_I x5)), (6, .int (hg_I x6))] 67 []) : ∀ (w : hg_W) (x1 : Int) (x3 : Int) (x4 : Int) (x5 : Int) (x6 : Int), fX4_pewBy_142 K67 w x1 x3 x4 x5 x6 = some (w1, r1) → hg_At p l e (rmX4_pewBy) s m args below meth c D cI cA ad 0 A (MQ below (hg_Qi D cI cA ad 0 A w1 r1) args s 0 0 A) 8 w [(0, .ref (ad 0)), (1, .int (hg_I x1)), (3, .int (hg_I x3)), (4, .int (hg_I x4)), (5, .int (hg_I x5)), (6, .int (hg_I x6))] 142 [] := by
  intro w x1 x3 x4 x5 x6 h
  unfold fX4_pewBy_142 at h
  refine z_iinc B 5 [(6, .int (hg_I (x6 + 1))), (0, .ref (ad 0)), (1, .int (hg_I x1)), (3, .int (hg_I x3)), (4, .int (hg_I x4)), (5, .int (hg_I x5))] dX4_pewBy_142 rfl (by decide) rfl ?_
  refine z_goto (tgt := 67) B dX4_pewBy_145 (by decide) ?_
  refine z_lv (lv' := [(0, .ref (ad 0)), (1, .int (hg_I x1)), (3, .int (hg_I x3)), (4, .int (hg_I x4)), (5, .int (hg_I x5)), (6, .int (hg_I (x6 + 1)))]) B [1, 2, 3, 4, 5, 0] rfl ?_
  exact hK67 _ _ _ _ _ _ h
set_option maxHeartbeats 4000000 in
set_option maxRecDepth 100000 in
theorem rX4_pewBy_67 (B : hg_B p s m args meth c cX4_pewBy RX4 wsL_law 8 D cI cA ad 0 A) (hr : meth.sig.returnType = (some .int)) {w1 : hg_W} {r1 : Int} : ∀ (n : Nat), ∀ (w : hg_W) (x1 : Int) (x3 : Int) (x4 : Int) (x5 : Int) (x6 : Int), fX4_pewBy_67 n w x1 x3 x4 x5 x6 = some (w1, r1) → hg_At p l e (rmX4_pewBy) s m args below meth c D cI cA ad 0 A (MQ below (hg_Qi D cI cA ad 0 A w1 r1) args s 0 0 A) 8 w [(0, .ref (ad 0)), (1, .int (hg_I x1)), (3, .int (hg_I x3)), (4, .int (hg_I x4)), (5, .int (hg_I x5)), (6, .int (hg_I x6))] 67 [] := by
  intro n
  induction n with
  | zero =>
    intro w x1 x3 x4 x5 x6 h
    cases h
  | succ n ih =>
    intro w x1 x3 x4 x5 x6 h
    simp only [fX4_pewBy_67] at h
    refine z_iload B 5 dX4_pewBy_67 rfl ?_
    refine z_iload B 3 dX4_pewBy_69 rfl ?_
    refine z_icmp_ge (tgt := 148) B dX4_pewBy_71 (by decide) h (fun h => ?_) (fun h => ?_)
    · refine z_iload B 4 dX4_pewBy_148 rfl ?_
      exact z_iret B hr dX4_pewBy_150 h
    · refine z_iload_n B 2 dX4_pewBy_74 rfl rfl ?_
      refine z_iconst B dX4_pewBy_75 ?_
      refine z_iload B 5 dX4_pewBy_76 rfl ?_
      refine z_imul B dX4_pewBy_78 ?_
      refine z_iadd B dX4_pewBy_79 ?_
      refine z_istore B [(7, .int (hg_I (x3 + (2 * x6)))), (0, .ref (ad 0)), (1, .int (hg_I x1)), (3, .int (hg_I x3)), (4, .int (hg_I x4)), (5, .int (hg_I x5)), (6, .int (hg_I x6))] dX4_pewBy_80 (by decide) rfl ?_
      refine z_iload B 0 dX4_pewBy_82 rfl ?_
      refine z_if_lt (tgt := 103) B dX4_pewBy_84 (by decide) h (fun h => ?_) (fun h => ?_)
      · refine z_bipush B dX4_pewBy_103 (by decide) ?_
        exact z_iret B hr dX4_pewBy_105 h
      · refine z_iload B 0 dX4_pewBy_87 rfl ?_
        refine z_aload_n B 1 dX4_pewBy_89 rfl rfl ?_
        refine z_get4 (v := .ref (ad 46)) B 6 dX4_pewBy_90 inlX4 (by decide) rfl (by decide) (wl_2 6 rfl) rfl rfl ?_
        refine z_get1 (v := .ref (ad 48)) B 1 dX4_pewBy_93 inlX1 (by decide) rfl (by decide) (wl_29 3 rfl) rfl rfl ?_
        refine z_iload_n B 2 dX4_pewBy_96 rfl rfl ?_
        obtain ⟨v1, q2, h⟩ := Option.bind_eq_some_iff.mp h
        refine z_iald (Or.inl rfl) B dX4_pewBy_97 q2 ?_
        refine z_iconst B dX4_pewBy_98 ?_
        refine z_isub B dX4_pewBy_99 ?_
        refine z_icmp_le (tgt := 106) B dX4_pewBy_100 (by decide) h (fun h => ?_) (fun h => ?_)
        · refine z_aload_n B 1 dX4_pewBy_106 rfl rfl ?_
          refine z_aload_n B 1 dX4_pewBy_107 rfl rfl ?_
          refine z_get4 (v := .ref (ad 46)) B 6 dX4_pewBy_108 inlX4 (by decide) rfl (by decide) (wl_2 6 rfl) rfl rfl ?_
          refine z_get1 (v := .ref (ad 49)) B 2 dX4_pewBy_111 inlX1 (by decide) rfl (by decide) (wl_29 4 rfl) rfl rfl ?_
          refine z_iload_n B 2 dX4_pewBy_114 rfl rfl ?_
          obtain ⟨c3, q4, h⟩ := Option.bind_eq_some_iff.mp h
          refine z_aald B rfl dX4_pewBy_115 q4 ?_
          refine z_iload B 0 dX4_pewBy_116 rfl ?_
          obtain ⟨v5, q6, h⟩ := Option.bind_eq_some_iff.mp h
          refine z_iald (Or.inl rfl) B dX4_pewBy_118 q6 ?_
          refine z_aload_n B 1 dX4_pewBy_119 rfl rfl ?_
          refine z_get4 (v := .ref (ad 46)) B 6 dX4_pewBy_120 inlX4 (by decide) rfl (by decide) (wl_2 6 rfl) rfl rfl ?_
          refine z_get1 (v := .ref (ad 49)) B 2 dX4_pewBy_123 inlX1 (by decide) rfl (by decide) (wl_29 4 rfl) rfl rfl ?_
          refine z_iload_n B 2 dX4_pewBy_126 rfl rfl ?_
          obtain ⟨c7, q8, h⟩ := Option.bind_eq_some_iff.mp h
          refine z_aald B rfl dX4_pewBy_127 q8 ?_
          refine z_iload B 0 dX4_pewBy_128 rfl ?_
          refine z_iconst B dX4_pewBy_130 ?_
          refine z_iadd B dX4_pewBy_131 ?_
          obtain ⟨v9, q10, h⟩ := Option.bind_eq_some_iff.mp h
          refine z_iald (Or.inl rfl) B dX4_pewBy_132 q10 ?_
          obtain ⟨w11, v12, q13, h⟩ := hg_bd_some h
          refine z_calliV (a := 0) (ci := 4) (N := 9) (T := TX4) (C := RX4) (As := [.int (hg_I v5), .int (hg_I v9)]) (n := 2) B dX4_pewBy_133 (c_X4_person q13) (gl_V (wl_35 19 rfl) (wl_17 21 rfl) (wl_17 22 rfl) (wl_1 2 rfl) (wl_17 23 rfl)) rfl ⟨rfl, rfl⟩ (by decide +kernel) ⟨Nat.le_of_ble_eq_true rfl, Nat.le_of_ble_eq_true rfl⟩ (by decide) rfl (by decide) rfl rfl rfl (Nat.le_of_ble_eq_true rfl) ?_
          refine z_if_lt (tgt := 142) B dX4_pewBy_136 (by decide) h (fun h => ?_) (fun h => ?_)
          · refine z_lv (lv' := [(0, .ref (ad 0)), (1, .int (hg_I x1)), (3, .int (hg_I x3)), (4, .int (hg_I x4)), (5, .int (hg_I x5)), (6, .int (hg_I x6))]) B [1, 2, 3, 4, 5, 6] rfl ?_
            exact rX4_pewBy_142 B hr ih _ _ _ _ _ _ h
          · refine z_iinc B 5 [(5, .int (hg_I (x5 + 1))), (7, .int (hg_I (x3 + (2 * x6)))), (0, .ref (ad 0)), (1, .int (hg_I x1)), (3, .int (hg_I x3)), (4, .int (hg_I x4)), (6, .int (hg_I x6))] dX4_pewBy_139 rfl (by decide) rfl ?_
            refine z_lv (lv' := [(0, .ref (ad 0)), (1, .int (hg_I x1)), (3, .int (hg_I x3)), (4, .int (hg_I x4)), (5, .int (hg_I (x5 + 1))), (6, .int (hg_I x6))]) B [2, 3, 4, 5, 0, 6] rfl ?_
            exact rX4_pewBy_142 B hr ih _ _ _ _ _ _ h
        · refine z_bipush B dX4_pewBy_103 (by decide) ?_
          exact z_iret B hr dX4_pewBy_105 h
set_option maxHeartbeats 4000000 in
set_option maxRecDepth 100000 in
theorem rX4_pewBy_E (B : hg_B p s m args meth c cX4_pewBy RX4 wsL_law 8 D cI cA ad 0 A) (hr : meth.sig.returnType = (some .int)) {a1 : Int} {a2 : Int} {a3 : Int} {a4 : Int} {w1 : hg_W} {r1 : Int} {w : hg_W} (h : fX4_pewBy w a1 a2 a3 a4 = some (w1, r1)) : hg_At p l e (rmX4_pewBy) s m args below meth c D cI cA ad 0 A (MQ below (hg_Qi D cI cA ad 0 A w1 r1) args s 0 0 A) 8 w [(0, .ref (ad 0)), (1, .int (hg_I a1)), (2, .int (hg_I a2)), (3, .int (hg_I a3)), (4, .int (hg_I a4))] 0 [] := by
  unfold fX4_pewBy at h
  refine z_iload_n B 1 dX4_pewBy_0 rfl rfl ?_
  obtain ⟨w1, v2, q3, h⟩ := hg_bd_some h
  refine z_calliS (As := [.int (hg_I a1)]) (n := 1) B dX4_pewBy_1 (c_X4_isSheet q3) (gl_S (wl_31 21 rfl) (wl_28 17 rfl) (wl_1 2 rfl) (wl_28 18 rfl)) rfl ⟨rfl, rfl⟩ (by decide +kernel) ⟨Nat.le_of_ble_eq_true rfl, Nat.le_of_ble_eq_true rfl⟩ rfl rfl (Nat.le_of_ble_eq_true rfl) ?_
  refine z_if_eq (tgt := 28) B dX4_pewBy_4 (by decide) h (fun h => ?_) (fun h => ?_)
  · refine z_bipush B dX4_pewBy_28 (by decide) ?_
    exact z_iret B hr dX4_pewBy_30 h
  · refine z_iload_n B 2 dX4_pewBy_7 rfl rfl ?_
    refine z_if_lt (tgt := 28) B dX4_pewBy_8 (by decide) h (fun h => ?_) (fun h => ?_)
    · refine z_bipush B dX4_pewBy_28 (by decide) ?_
      exact z_iret B hr dX4_pewBy_30 h
    · refine z_iload_n B 2 dX4_pewBy_11 rfl rfl ?_
      refine z_iconst B dX4_pewBy_12 ?_
      refine z_icmp_gt (tgt := 28) B dX4_pewBy_13 (by decide) h (fun h => ?_) (fun h => ?_)
      · refine z_bipush B dX4_pewBy_28 (by decide) ?_
        exact z_iret B hr dX4_pewBy_30 h
      · refine z_iload B 4 dX4_pewBy_16 rfl ?_
        refine z_if_lt (tgt := 28) B dX4_pewBy_18 (by decide) h (fun h => ?_) (fun h => ?_)
        · refine z_bipush B dX4_pewBy_28 (by decide) ?_
          exact z_iret B hr dX4_pewBy_30 h
        · refine z_iload B 4 dX4_pewBy_21 rfl ?_
          refine z_bipush B dX4_pewBy_23 (by decide) ?_
          refine z_icmp_le (tgt := 31) B dX4_pewBy_25 (by decide) h (fun h => ?_) (fun h => ?_)
          · refine z_aload_n B 0 dX4_pewBy_31 rfl rfl ?_
            refine z_get4 (v := .ref (ad 46)) B 6 dX4_pewBy_32 inlX4 (by decide) rfl (by decide) (wl_2 6 rfl) rfl rfl ?_
            refine z_iload_n B 1 dX4_pewBy_35 rfl rfl ?_
            obtain ⟨w4, v5, q6, h⟩ := hg_bd_some h
            refine z_calliV (a := 46) (ci := 1) (N := 3) (T := TX1) (C := RX1) (As := [.int (hg_I a1)]) (n := 1) B dX4_pewBy_36 (c_X1_isMissing q6) (gl_V (wl_34 20 rfl) (wl_28 20 rfl) (wl_28 21 rfl) (wl_2 5 rfl) (wl_28 22 rfl)) rfl ⟨rfl, rfl⟩ (by decide +kernel) ⟨Nat.le_of_ble_eq_true rfl, Nat.le_of_ble_eq_true rfl⟩ (by decide) rfl (by decide) rfl rfl rfl (Nat.le_of_ble_eq_true rfl) ?_
            refine z_if_eq (tgt := 45) B dX4_pewBy_39 (by decide) h (fun h => ?_) (fun h => ?_)
            · refine z_aload_n B 0 dX4_pewBy_45 rfl rfl ?_
              refine z_get4 (v := .ref (ad 46)) B 6 dX4_pewBy_46 inlX4 (by decide) rfl (by decide) (wl_2 6 rfl) rfl rfl ?_
              refine z_get1 (v := .ref (ad 47)) B 0 dX4_pewBy_49 inlX1 (by decide) rfl (by decide) (wl_35 9 rfl) rfl rfl ?_
              refine z_iload_n B 1 dX4_pewBy_52 rfl rfl ?_
              obtain ⟨v7, q8, h⟩ := Option.bind_eq_some_iff.mp h
              refine z_iald (Or.inl rfl) B dX4_pewBy_53 q8 ?_
              refine z_iload_n B 2 dX4_pewBy_54 rfl rfl ?_
              refine z_icmp_eq (tgt := 61) B dX4_pewBy_55 (by decide) h (fun h => ?_) (fun h => ?_)
              · refine z_iconst B dX4_pewBy_61 ?_
                refine z_istore B [(5, .int (hg_I 0)), (0, .ref (ad 0)), (1, .int (hg_I a1)), (2, .int (hg_I a2)), (3, .int (hg_I a3)), (4, .int (hg_I a4))] dX4_pewBy_62 (by decide) rfl ?_
                refine z_iconst B dX4_pewBy_64 ?_
                refine z_istore B [(6, .int (hg_I 0)), (5, .int (hg_I 0)), (0, .ref (ad 0)), (1, .int (hg_I a1)), (2, .int (hg_I a2)), (3, .int (hg_I a3)), (4, .int (hg_I a4))] dX4_pewBy_65 (by decide) rfl ?_
                refine z_lv (lv' := [(0, .ref (ad 0)), (1, .int (hg_I a1)), (3, .int (hg_I a3)), (4, .int (hg_I a4)), (5, .int (hg_I 0)), (6, .int (hg_I 0))]) B [2, 3, 5, 6, 1, 0] rfl ?_
                exact rX4_pewBy_67 B hr hg_F _ _ _ _ _ _ h
              · refine z_bipush B dX4_pewBy_58 (by decide) ?_
                exact z_iret B hr dX4_pewBy_60 h
            · refine z_bipush B dX4_pewBy_42 (by decide) ?_
              exact z_iret B hr dX4_pewBy_44 h
          · refine z_bipush B dX4_pewBy_28 (by decide) ?_
            exact z_iret B hr dX4_pewBy_30 h
set_option maxHeartbeats 4000000 in
set_option maxRecDepth 100000 in
theorem c_X4_pewBy {l : Launch} {D : va_G} {cI cA : ClassId} {ad : Nat → Nat} {a1 : Int} {a2 : Int} {a3 : Int} {a4 : Int} {w w1 : hg_W} {r1 : Int} (h : fX4_pewBy w a1 a2 a3 a4 = some (w1, r1)) : hg_Mi l yX4_pewBy wxX4_pewBy rmX4_pewBy D cI cA ad 0 w [.ref (ad 0), .int (hg_I a1), .int (hg_I a2), .int (hg_I a3), .int (hg_I a4)] w1 r1 := by
  refine z_meti cX4_pewBy 8 (some .int) (by decide) (Nat.le_of_ble_eq_true rfl) ?_
  intro p e s m args below meth c A B hr
  exact rX4_pewBy_E B hr h
abbrev wxX4_isOneOf : List Cond := Cond.code yX4_isOneOf cX4_isOneOf 2 (some .boolean) :: wsL_law
def fX4_isOneOf_40   (w : hg_W) : Option (hg_W × Int) :=
  if wr 1 = 0 ∨ wr 1 = 1 then some (w, wr 1) else none
def fX4_isOneOf_56   (w : hg_W) : Option (hg_W × Int) :=
  if wr 1 = 0 ∨ wr 1 = 1 then some (w, wr 1) else none
def fX4_isOneOf (w : hg_W) (a1 : Int) (a2 : Int) : Option (hg_W × Int) :=
  if wr a2 = 0 then
    (
      if wr 1 = 0 ∨ wr 1 = 1 then some (w, wr 1) else none
    )
  else
  if wr a2 = 1 then
    (
      if wr a1 = wr 1 then
        (
          fX4_isOneOf_40 w
        )
      else
        if wr a1 = wr 3 then
          (
            fX4_isOneOf_40 w
          )
        else
          if wr 0 = 0 ∨ wr 0 = 1 then some (w, wr 0) else none
    )
  else
  if wr a2 = 2 then
    (
      if wr a1 = wr 2 then
        (
          fX4_isOneOf_56 w
        )
      else
        if wr a1 = wr 4 then
          (
            fX4_isOneOf_56 w
          )
        else
          if wr 0 = 0 ∨ wr 0 = 1 then some (w, wr 0) else none
    )
  else
  if wr a1 = wr a2 then
    (
      if wr 1 = 0 ∨ wr 1 = 1 then some (w, wr 1) else none
    )
  else
    if wr 0 = 0 ∨ wr 0 = 1 then some (w, wr 0) else none
set_option maxHeartbeats 4000000 in
set_option maxRecDepth 100000 in
abbrev rmX4_isOneOf : Room := { frames := 0, cells := 0, slots := 0, locals := 0 }
set_option maxHeartbeats 4000000 in
set_option maxRecDepth 100000 in
theorem rX4_isOneOf_40 (B : hg_B p s m args meth c cX4_isOneOf RX4 wsL_law 2 D cI cA ad 0 A) (hr : meth.sig.returnType = (some .boolean)) {w1 : hg_W} {r1 : Int} : ∀ (w : hg_W), fX4_isOneOf_40 w = some (w1, r1) → hg_At p l e (rmX4_isOneOf) s m args below meth c D cI cA ad 0 A (MQ below (hg_Qi D cI cA ad 0 A w1 r1) args s 0 0 A) 2 w [] 40 [] := by
  intro w h
  unfold fX4_isOneOf_40 at h
  refine z_iconst B dX4_isOneOf_40 ?_
  refine z_goto (tgt := 45) B dX4_isOneOf_41 (by decide) ?_
  exact z_bret B hr dX4_isOneOf_45 h
set_option maxHeartbeats 4000000 in
set_option maxRecDepth 100000 in
theorem rX4_isOneOf_56 (B : hg_B p s m args meth c cX4_isOneOf RX4 wsL_law 2 D cI cA ad 0 A) (hr : meth.sig.returnType = (some .boolean)) {w1 : hg_W} {r1 : Int} : ∀ (w : hg_W), fX4_isOneOf_56 w = some (w1, r1) → hg_At p l e (rmX4_isOneOf) s m args below meth c D cI cA ad 0 A (MQ below (hg_Qi D cI cA ad 0 A w1 r1) args s 0 0 A) 2 w [] 56 [] := by
  intro w h
  unfold fX4_isOneOf_56 at h
  refine z_iconst B dX4_isOneOf_56 ?_
  refine z_goto (tgt := 61) B dX4_isOneOf_57 (by decide) ?_
  exact z_bret B hr dX4_isOneOf_61 h
set_option maxHeartbeats 4000000 in
set_option maxRecDepth 100000 in
theorem rX4_isOneOf_E (B : hg_B p s m args meth c cX4_isOneOf RX4 wsL_law 2 D cI cA ad 0 A) (hr : meth.sig.returnType = (some .boolean)) {a1 : Int} {a2 : Int} {w1 : hg_W} {r1 : Int} {w : hg_W} (h : fX4_isOneOf w a1 a2 = some (w1, r1)) : hg_At p l e (rmX4_isOneOf) s m args below meth c D cI cA ad 0 A (MQ below (hg_Qi D cI cA ad 0 A w1 r1) args s 0 0 A) 2 w [(0, .int (hg_I a1)), (1, .int (hg_I a2))] 0 [] := by
  unfold fX4_isOneOf at h
  refine z_iload_n B 1 dX4_isOneOf_0 rfl rfl ?_
  by_cases z1 : wr a2 = 0
  · rw [if_pos z1] at h
    refine z_tabIn (off := 27) (tgt := 28) B dX4_isOneOf_1 z1 (by decide) rfl (by decide) ?_
    refine z_iconst B dX4_isOneOf_28 ?_
    exact z_bret B hr dX4_isOneOf_29 h
  rw [if_neg z1] at h
  by_cases z2 : wr a2 = 1
  · rw [if_pos z2] at h
    refine z_tabIn (off := 29) (tgt := 30) B dX4_isOneOf_1 z2 (by decide) rfl (by decide) ?_
    refine z_iload_n B 0 dX4_isOneOf_30 rfl rfl ?_
    refine z_iconst B dX4_isOneOf_31 ?_
    refine z_icmp_eq (tgt := 40) B dX4_isOneOf_32 (by decide) h (fun h => ?_) (fun h => ?_)
    · refine z_lv (lv' := []) B [] rfl ?_
      exact rX4_isOneOf_40 B hr _ h
    · refine z_iload_n B 0 dX4_isOneOf_35 rfl rfl ?_
      refine z_iconst B dX4_isOneOf_36 ?_
      refine z_icmp_ne (tgt := 44) B dX4_isOneOf_37 (by decide) h (fun h => ?_) (fun h => ?_)
      · refine z_iconst B dX4_isOneOf_44 ?_
        exact z_bret B hr dX4_isOneOf_45 h
      · refine z_lv (lv' := []) B [] rfl ?_
        exact rX4_isOneOf_40 B hr _ h
  rw [if_neg z2] at h
  by_cases z3 : wr a2 = 2
  · rw [if_pos z3] at h
    refine z_tabIn (off := 45) (tgt := 46) B dX4_isOneOf_1 z3 (by decide) rfl (by decide) ?_
    refine z_iload_n B 0 dX4_isOneOf_46 rfl rfl ?_
    refine z_iconst B dX4_isOneOf_47 ?_
    refine z_icmp_eq (tgt := 56) B dX4_isOneOf_48 (by decide) h (fun h => ?_) (fun h => ?_)
    · refine z_lv (lv' := []) B [] rfl ?_
      exact rX4_isOneOf_56 B hr _ h
    · refine z_iload_n B 0 dX4_isOneOf_51 rfl rfl ?_
      refine z_iconst B dX4_isOneOf_52 ?_
      refine z_icmp_ne (tgt := 60) B dX4_isOneOf_53 (by decide) h (fun h => ?_) (fun h => ?_)
      · refine z_iconst B dX4_isOneOf_60 ?_
        exact z_bret B hr dX4_isOneOf_61 h
      · refine z_lv (lv' := []) B [] rfl ?_
        exact rX4_isOneOf_56 B hr _ h
  rw [if_neg z3] at h
  refine z_tabOut (tgt := 62) B dX4_isOneOf_1 (by omega) (by decide) ?_
  refine z_iload_n B 0 dX4_isOneOf_62 rfl rfl ?_
  refine z_iload_n B 1 dX4_isOneOf_63 rfl rfl ?_
  refine z_icmp_ne (tgt := 71) B dX4_isOneOf_64 (by decide) h (fun h => ?_) (fun h => ?_)
  · refine z_iconst B dX4_isOneOf_71 ?_
    exact z_bret B hr dX4_isOneOf_72 h
  · refine z_iconst B dX4_isOneOf_67 ?_
    refine z_goto (tgt := 72) B dX4_isOneOf_68 (by decide) ?_
    exact z_bret B hr dX4_isOneOf_72 h
set_option maxHeartbeats 4000000 in
set_option maxRecDepth 100000 in
theorem c_X4_isOneOf {l : Launch} {D : va_G} {cI cA : ClassId} {ad : Nat → Nat} {a1 : Int} {a2 : Int} {w w1 : hg_W} {r1 : Int} (h : fX4_isOneOf w a1 a2 = some (w1, r1)) : hg_Mi l yX4_isOneOf wxX4_isOneOf rmX4_isOneOf D cI cA ad 0 w [.int (hg_I a1), .int (hg_I a2)] w1 r1 := by
  refine z_meti cX4_isOneOf 2 (some .boolean) (by decide) (Nat.le_of_ble_eq_true rfl) ?_
  intro p e s m args below meth c A B hr
  exact rX4_isOneOf_E B hr h
abbrev wxX4_taken : List Cond := Cond.code yX4_taken cX4_taken 3 (some .int) :: wsL_law
def fX4_taken (w : hg_W) (a1 : Int) (a2 : Int) : Option (hg_W × Int) :=
  if wr a2 < 0 then
    (
      some (w, wr (-2))
    )
  else
    if wr a2 ≤ wr 6 then
      (
        if wr a1 < 0 then
          (
            some (w, wr (-12))
          )
        else
          if wr a1 < wr 12 then
            (
              if wr a1 < wr 6 then
                (
                  hg_bd (fX4_isThere w a1) fun w1 v2 =>
                  if wr v2 = 0 then
                    (
                      some (w1, wr (-11))
                    )
                  else
                    (hg_ag 0 w1 22 a1).bind fun v4 =>
                    hg_bd (fX4_isOneOf w1 v4 a2) fun w6 v7 =>
                    if wr v7 = 0 then
                      (
                        some (w6, wr (-13))
                      )
                    else
                      some (w6, wr a1)
                )
              else
                if wr a2 = wr 6 then
                  (
                    (hg_ag 0 w 21 (a1 - 6)).bind fun v9 =>
                    some (w, wr v9)
                  )
                else
                  some (w, wr (-13))
            )
          else
            some (w, wr (-12))
      )
    else
      some (w, wr (-2))
set_option maxHeartbeats 4000000 in
set_option maxRecDepth 100000 in
abbrev rmX4_taken : Room := { frames := 1, cells := 0, slots := 0, locals := 21 }
set_option maxHeartbeats 4000000 in
set_option maxRecDepth 100000 in
theorem rX4_taken_E (B : hg_B p s m args meth c cX4_taken RX4 wsL_law 3 D cI cA ad 0 A) (hr : meth.sig.returnType = (some .int)) {a1 : Int} {a2 : Int} {w1 : hg_W} {r1 : Int} {w : hg_W} (h : fX4_taken w a1 a2 = some (w1, r1)) : hg_At p l e (rmX4_taken) s m args below meth c D cI cA ad 0 A (MQ below (hg_Qi D cI cA ad 0 A w1 r1) args s 0 0 A) 3 w [(0, .ref (ad 0)), (1, .int (hg_I a1)), (2, .int (hg_I a2))] 0 [] := by
  unfold fX4_taken at h
  refine z_iload_n B 2 dX4_taken_0 rfl rfl ?_
  refine z_if_lt (tgt := 10) B dX4_taken_1 (by decide) h (fun h => ?_) (fun h => ?_)
  · refine z_bipush B dX4_taken_10 (by decide) ?_
    exact z_iret B hr dX4_taken_12 h
  · refine z_iload_n B 2 dX4_taken_4 rfl rfl ?_
    refine z_bipush B dX4_taken_5 (by decide) ?_
    refine z_icmp_le (tgt := 13) B dX4_taken_7 (by decide) h (fun h => ?_) (fun h => ?_)
    · refine z_iload_n B 1 dX4_taken_13 rfl rfl ?_
      refine z_if_lt (tgt := 23) B dX4_taken_14 (by decide) h (fun h => ?_) (fun h => ?_)
      · refine z_bipush B dX4_taken_23 (by decide) ?_
        exact z_iret B hr dX4_taken_25 h
      · refine z_iload_n B 1 dX4_taken_17 rfl rfl ?_
        refine z_bipush B dX4_taken_18 (by decide) ?_
        refine z_icmp_lt (tgt := 26) B dX4_taken_20 (by decide) h (fun h => ?_) (fun h => ?_)
        · refine z_iload_n B 1 dX4_taken_26 rfl rfl ?_
          refine z_bipush B dX4_taken_27 (by decide) ?_
          refine z_icmp_lt (tgt := 56) B dX4_taken_29 (by decide) h (fun h => ?_) (fun h => ?_)
          · refine z_aload_n B 0 dX4_taken_56 rfl rfl ?_
            refine z_iload_n B 1 dX4_taken_57 rfl rfl ?_
            obtain ⟨w1, v2, q3, h⟩ := hg_bd_some h
            refine z_calliV (a := 0) (ci := 4) (N := 9) (T := TX4) (C := RX4) (As := [.int (hg_I a1)]) (n := 1) B dX4_taken_58 (c_X4_isThere q3) (gl_V (wl_15 22 rfl) (wl_15 23 rfl) (wl_16 0 rfl) (wl_1 2 rfl) (wl_16 1 rfl)) rfl ⟨rfl, rfl⟩ (by decide +kernel) ⟨Nat.le_of_ble_eq_true rfl, Nat.le_of_ble_eq_true rfl⟩ (by decide) rfl (by decide) rfl rfl rfl (Nat.le_of_ble_eq_true rfl) ?_
            refine z_if_ne (tgt := 67) B dX4_taken_61 (by decide) h (fun h => ?_) (fun h => ?_)
            · refine z_aload_n B 0 dX4_taken_67 rfl rfl ?_
              refine z_get4 (v := .ref (ad 19)) B 2 dX4_taken_68 inlX4 (by decide) rfl (by decide) (wl_1 23 rfl) rfl rfl ?_
              refine z_get0 (v := .ref (ad 22)) B 3 dX4_taken_71 inlX0 (by decide) rfl (by decide) (wl_19 0 rfl) rfl rfl ?_
              refine z_iload_n B 1 dX4_taken_74 rfl rfl ?_
              obtain ⟨v4, q5, h⟩ := Option.bind_eq_some_iff.mp h
              refine z_iald (Or.inl rfl) B dX4_taken_75 q5 ?_
              refine z_iload_n B 2 dX4_taken_76 rfl rfl ?_
              obtain ⟨w6, v7, q8, h⟩ := hg_bd_some h
              refine z_calliS (As := [.int (hg_I v4), .int (hg_I a2)]) (n := 2) B dX4_taken_77 (c_X4_isOneOf q8) (gl_S (wl_36 5 rfl) (wl_36 6 rfl) (wl_1 2 rfl) (wl_36 7 rfl)) rfl ⟨rfl, rfl⟩ (by decide +kernel) ⟨Nat.le_of_ble_eq_true rfl, Nat.le_of_ble_eq_true rfl⟩ rfl rfl (Nat.le_of_ble_eq_true rfl) ?_
              refine z_if_eq (tgt := 87) B dX4_taken_80 (by decide) h (fun h => ?_) (fun h => ?_)
              · refine z_bipush B dX4_taken_87 (by decide) ?_
                exact z_iret B hr dX4_taken_89 h
              · refine z_iload_n B 1 dX4_taken_83 rfl rfl ?_
                refine z_goto (tgt := 89) B dX4_taken_84 (by decide) ?_
                exact z_iret B hr dX4_taken_89 h
            · refine z_bipush B dX4_taken_64 (by decide) ?_
              exact z_iret B hr dX4_taken_66 h
          · refine z_iload_n B 2 dX4_taken_32 rfl rfl ?_
            refine z_bipush B dX4_taken_33 (by decide) ?_
            refine z_icmp_ne (tgt := 53) B dX4_taken_35 (by decide) h (fun h => ?_) (fun h => ?_)
            · refine z_bipush B dX4_taken_53 (by decide) ?_
              exact z_iret B hr dX4_taken_55 h
            · refine z_aload_n B 0 dX4_taken_38 rfl rfl ?_
              refine z_get4 (v := .ref (ad 19)) B 2 dX4_taken_39 inlX4 (by decide) rfl (by decide) (wl_1 23 rfl) rfl rfl ?_
              refine z_get0 (v := .ref (ad 21)) B 2 dX4_taken_42 inlX0 (by decide) rfl (by decide) (wl_8 11 rfl) rfl rfl ?_
              refine z_iload_n B 1 dX4_taken_45 rfl rfl ?_
              refine z_bipush B dX4_taken_46 (by decide) ?_
              refine z_isub B dX4_taken_48 ?_
              obtain ⟨v9, q10, h⟩ := Option.bind_eq_some_iff.mp h
              refine z_iald (Or.inl rfl) B dX4_taken_49 q10 ?_
              refine z_goto (tgt := 55) B dX4_taken_50 (by decide) ?_
              exact z_iret B hr dX4_taken_55 h
        · refine z_bipush B dX4_taken_23 (by decide) ?_
          exact z_iret B hr dX4_taken_25 h
    · refine z_bipush B dX4_taken_10 (by decide) ?_
      exact z_iret B hr dX4_taken_12 h
set_option maxHeartbeats 4000000 in
set_option maxRecDepth 100000 in
theorem c_X4_taken {l : Launch} {D : va_G} {cI cA : ClassId} {ad : Nat → Nat} {a1 : Int} {a2 : Int} {w w1 : hg_W} {r1 : Int} (h : fX4_taken w a1 a2 = some (w1, r1)) : hg_Mi l yX4_taken wxX4_taken rmX4_taken D cI cA ad 0 w [.ref (ad 0), .int (hg_I a1), .int (hg_I a2)] w1 r1 := by
  refine z_meti cX4_taken 3 (some .int) (by decide) (Nat.le_of_ble_eq_true rfl) ?_
  intro p e s m args below meth c A B hr
  exact rX4_taken_E B hr h
end G_06_hat5
