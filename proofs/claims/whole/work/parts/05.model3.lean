section G_05_model3
variable {p : Program} {l : Launch} {e : Env} {s : State} {m : MethodId} {args : Array Value} {below : List Frame} {meth : Method} {c : Code} {D : va_G} {cI cA : ClassId} {ad : Nat → Nat} {A : Nat → Prop}
abbrev wxX5_coin : List Cond := Cond.code yX5_coin cX5_coin 4 (some .int) :: wsL_law
def fX5_coin (w : hg_W) (a1 : Int) (a2 : Int) (a3 : Int) : Option (hg_W × Int) :=
  hg_bd (fX5_isOne w a1) fun w1 v2 =>
  if wr v2 = 0 then
    (
      some (w1, wr (-5))
    )
  else
    hg_bd (fX5_isCoin w1 a2) fun w4 v5 =>
    if wr v5 = 0 then
      (
        some (w4, wr (-6))
      )
    else
      if wr a3 = 0 then
        (
          hg_bd (fX5_soundsOf w4 a1 a2) fun w10 v11 =>
          some (w10, wr v11)
        )
      else
        if wr a3 = wr 1 then
          (
            hg_bd (fX5_costsOf w4 a1 a2) fun w7 v8 =>
            some (w7, wr (1000 + v8))
          )
        else
          some (w4, wr (-7))
set_option maxHeartbeats 4000000 in
set_option maxRecDepth 100000 in
abbrev rmX5_coin : Room := { frames := 4, cells := 0, slots := 0, locals := 92 }
set_option maxHeartbeats 4000000 in
set_option maxRecDepth 100000 in
theorem rX5_coin_E (B : hg_B p s m args meth c cX5_coin RX5 wsL_law 4 D cI cA ad 1 A) (hr : meth.sig.returnType = (some .int)) {a1 : Int} {a2 : Int} {a3 : Int} {w1 : hg_W} {r1 : Int} {w : hg_W} (h : fX5_coin w a1 a2 a3 = some (w1, r1)) : hg_At p l e (rmX5_coin) s m args below meth c D cI cA ad 1 A (MQ below (hg_Qi D cI cA ad 1 A w1 r1) args s 0 0 A) 4 w [(0, .ref (ad 0)), (1, .int (hg_I a1)), (2, .int (hg_I a2)), (3, .int (hg_I a3))] 0 [] := by
  unfold fX5_coin at h
  refine z_aload_n B 0 dX5_coin_0 rfl rfl ?_
  refine z_iload_n B 1 dX5_coin_1 rfl rfl ?_
  obtain ⟨w1, v2, q3, h⟩ := hg_bd_some h
  refine z_calliV (a := 0) (ci := 5) (N := 37) (T := TX5) (C := RX5) (As := [.int (hg_I a1)]) (n := 1) B dX5_coin_2 (c_X5_isOne q3) (gl_V (wl_17 2 rfl) (wl_17 3 rfl) (wl_17 4 rfl) (wl_1 5 rfl) (wl_17 5 rfl)) rfl ⟨rfl, rfl⟩ (by decide +kernel) ⟨Nat.le_of_ble_eq_true rfl, Nat.le_of_ble_eq_true rfl⟩ (by decide) rfl (by decide) rfl rfl rfl (Nat.le_of_ble_eq_true rfl) ?_
  refine z_if_ne (tgt := 11) B dX5_coin_5 (by decide) h (fun h => ?_) (fun h => ?_)
  · refine z_iload_n B 2 dX5_coin_11 rfl rfl ?_
    obtain ⟨w4, v5, q6, h⟩ := hg_bd_some h
    refine z_calliS (As := [.int (hg_I a2)]) (n := 1) B dX5_coin_12 (c_X5_isCoin q6) (gl_S (wl_9 0 rfl) (wl_9 1 rfl) (wl_1 5 rfl) (wl_9 2 rfl)) rfl ⟨rfl, rfl⟩ (by decide +kernel) ⟨Nat.le_of_ble_eq_true rfl, Nat.le_of_ble_eq_true rfl⟩ rfl rfl (Nat.le_of_ble_eq_true rfl) ?_
    refine z_if_ne (tgt := 21) B dX5_coin_15 (by decide) h (fun h => ?_) (fun h => ?_)
    · refine z_iload_n B 3 dX5_coin_21 rfl rfl ?_
      refine z_if_ne (tgt := 34) B dX5_coin_22 (by decide) h (fun h => ?_) (fun h => ?_)
      · refine z_iload_n B 3 dX5_coin_34 rfl rfl ?_
        refine z_iconst B dX5_coin_35 ?_
        refine z_icmp_ne (tgt := 52) B dX5_coin_36 (by decide) h (fun h => ?_) (fun h => ?_)
        · refine z_bipush B dX5_coin_52 (by decide) ?_
          exact z_iret B hr dX5_coin_54 h
        · refine z_sipush B dX5_coin_39 (by decide) ?_
          refine z_aload_n B 0 dX5_coin_42 rfl rfl ?_
          refine z_iload_n B 1 dX5_coin_43 rfl rfl ?_
          refine z_iload_n B 2 dX5_coin_44 rfl rfl ?_
          obtain ⟨w7, v8, q9, h⟩ := hg_bd_some h
          refine z_calliV (a := 0) (ci := 5) (N := 37) (T := TX5) (C := RX5) (As := [.int (hg_I a1), .int (hg_I a2)]) (n := 2) B dX5_coin_45 (c_X5_costsOf q9) (gl_V (wl_20 19 rfl) (wl_20 20 rfl) (wl_20 21 rfl) (wl_1 5 rfl) (wl_20 22 rfl)) rfl ⟨rfl, rfl⟩ (by decide +kernel) ⟨Nat.le_of_ble_eq_true rfl, Nat.le_of_ble_eq_true rfl⟩ (by decide) rfl (by decide) rfl rfl rfl (Nat.le_of_ble_eq_true rfl) ?_
          refine z_iadd B dX5_coin_48 ?_
          refine z_goto (tgt := 54) B dX5_coin_49 (by decide) ?_
          exact z_iret B hr dX5_coin_54 h
      · refine z_aload_n B 0 dX5_coin_25 rfl rfl ?_
        refine z_iload_n B 1 dX5_coin_26 rfl rfl ?_
        refine z_iload_n B 2 dX5_coin_27 rfl rfl ?_
        obtain ⟨w10, v11, q12, h⟩ := hg_bd_some h
        refine z_calliV (a := 0) (ci := 5) (N := 37) (T := TX5) (C := RX5) (As := [.int (hg_I a1), .int (hg_I a2)]) (n := 2) B dX5_coin_28 (c_X5_soundsOf q12) (gl_V (wl_20 15 rfl) (wl_20 16 rfl) (wl_20 17 rfl) (wl_1 5 rfl) (wl_20 18 rfl)) rfl ⟨rfl, rfl⟩ (by decide +kernel) ⟨Nat.le_of_ble_eq_true rfl, Nat.le_of_ble_eq_true rfl⟩ (by decide) rfl (by decide) rfl rfl rfl (Nat.le_of_ble_eq_true rfl) ?_
        refine z_goto (tgt := 54) B dX5_coin_31 (by decide) ?_
        exact z_iret B hr dX5_coin_54 h
    · refine z_bipush B dX5_coin_18 (by decide) ?_
      exact z_iret B hr dX5_coin_20 h
  · refine z_bipush B dX5_coin_8 (by decide) ?_
    exact z_iret B hr dX5_coin_10 h
set_option maxHeartbeats 4000000 in
set_option maxRecDepth 100000 in
theorem c_X5_coin {l : Launch} {D : va_G} {cI cA : ClassId} {ad : Nat → Nat} {a1 : Int} {a2 : Int} {a3 : Int} {w w1 : hg_W} {r1 : Int} (h : fX5_coin w a1 a2 a3 = some (w1, r1)) : hg_Mi l yX5_coin wxX5_coin rmX5_coin D cI cA ad 1 w [.ref (ad 0), .int (hg_I a1), .int (hg_I a2), .int (hg_I a3)] w1 r1 := by
  refine z_meti cX5_coin 4 (some .int) (by decide) (Nat.le_of_ble_eq_true rfl) ?_
  intro p e s m args below meth c A B hr
  exact rX5_coin_E B hr h
abbrev wxX5_takesOne : List Cond := Cond.code yX5_takesOne cX5_takesOne 5 (some .int) :: wsL_law
def fX5_takesOne_139   (w : hg_W) (x2 : Int) : Option (hg_W × Int) :=
  hg_bd (fX5_within w ((w 0 6) + 1) 0 999) fun w1 v2 =>
  (hg_pt w1 0 6 v2).bind fun w4 =>
  some (w4, wr x2)
def fX5_takesOne_113   (w : hg_W) (x1 : Int) (x2 : Int) (x4 : Int) (s1 : Int) (s2 : Int) : Option (hg_W × Int) :=
  (hg_as 1 w 3 s1 s2).bind fun w1 =>
  (hg_ag 1 w1 3 (3 * x1)).bind fun v3 =>
  hg_bd (fX5_within w1 (v3 - x4) 0 99) fun w5 v6 =>
  (hg_as 1 w5 3 (3 * x1) v6).bind fun w8 =>
  fX5_takesOne_139 w8 x2
def fX5_takesOne (w : hg_W) (a1 : Int) : Option (hg_W × Int) :=
  hg_bd (fX5_theCoin w a1) fun w1 v2 =>
  if wr v2 = wr (-1) then
    (
      fX5_takesOne_139 w1 v2
    )
  else
    hg_bd (fX5_soundsOf w1 a1 v2) fun w4 v5 =>
    hg_bd (fX5_costsOf w4 a1 v2) fun w7 v8 =>
    (hg_ag 1 w7 4 ((2 * v2) + 1)).bind fun v10 =>
    (hg_as 1 w7 4 ((2 * v2) + 1) (v10 - 1)).bind fun w12 =>
    (hg_ag 1 w12 3 ((3 * a1) + 1)).bind fun v14 =>
    (hg_ag 1 w12 4 (2 * v2)).bind fun v16 =>
    hg_bd (fX5_within w12 (v14 + v16) 0 9999) fun w18 v19 =>
    (hg_as 1 w18 3 ((3 * a1) + 1) v19).bind fun w21 =>
    (hg_ag 1 w21 3 ((3 * a1) + 2)).bind fun v23 =>
    if wr v5 ≤ wr v23 then
      (
        (hg_ag 1 w21 3 ((3 * a1) + 2)).bind fun v25 =>
        fX5_takesOne_113 w21 a1 v2 v8 ((3 * a1) + 2) v25
      )
    else
      fX5_takesOne_113 w21 a1 v2 v8 ((3 * a1) + 2) v5
set_option maxHeartbeats 4000000 in
set_option maxRecDepth 100000 in
abbrev rmX5_takesOne : Room := { frames := 5, cells := 0, slots := 0, locals := 121 }
set_option maxHeartbeats 4000000 in
set_option maxRecDepth 100000 in
theorem rX5_takesOne_139 (B : hg_B p s m args meth c cX5_takesOne RX5 wsL_law 5 D cI cA ad 1 A) (hr : meth.sig.returnType = (some .int)) {w1 : hg_W} {r1 : Int} : ∀ (w : hg_W) (x2 : Int), fX5_takesOne_139 w x2 = some (w1, r1) → hg_At p l e (rmX5_takesOne) s m args below meth c D cI cA ad 1 A (MQ below (hg_Qi D cI cA ad 1 A w1 r1) args s 0 0 A) 5 w [(0, .ref (ad 0)), (2, .int (hg_I x2))] 139 [] := by
  intro w x2 h
  unfold fX5_takesOne_139 at h
  refine z_aload_n B 0 dX5_takesOne_139 rfl rfl ?_
  refine z_aload_n B 0 dX5_takesOne_140 rfl rfl ?_
  refine z_get5 (v := .int (hg_I (w 0 6))) B 6 dX5_takesOne_141 inlX5 (by decide) rfl (by decide) (wl_7 23 rfl) rfl rfl ?_
  refine z_iconst B dX5_takesOne_144 ?_
  refine z_iadd B dX5_takesOne_145 ?_
  refine z_iconst B dX5_takesOne_146 ?_
  refine z_sipush B dX5_takesOne_147 (by decide) ?_
  obtain ⟨w1, v2, q3, h⟩ := hg_bd_some h
  refine z_calliS (As := [.int (hg_I ((w 0 6) + 1)), .int (hg_I 0), .int (hg_I 999)]) (n := 3) B dX5_takesOne_150 (c_X5_within q3) (gl_S (wl_17 10 rfl) (wl_17 11 rfl) (wl_1 5 rfl) (wl_17 12 rfl)) rfl ⟨rfl, rfl⟩ (by decide +kernel) ⟨Nat.le_of_ble_eq_true rfl, Nat.le_of_ble_eq_true rfl⟩ rfl rfl (Nat.le_of_ble_eq_true rfl) ?_
  obtain ⟨w4, q5, h⟩ := Option.bind_eq_some_iff.mp h
  refine z_put5 B 6 dX5_takesOne_153 inlX5 (by decide) rfl (by decide) (wl_7 23 rfl) rfl rfl .int (by decide +kernel) rfl rfl hg_fs5_6 q5 ?_
  refine z_iload_n B 1 dX5_takesOne_156 rfl rfl ?_
  exact z_iret B hr dX5_takesOne_157 h
set_option maxHeartbeats 4000000 in
set_option maxRecDepth 100000 in
theorem rX5_takesOne_113 (B : hg_B p s m args meth c cX5_takesOne RX5 wsL_law 5 D cI cA ad 1 A) (hr : meth.sig.returnType = (some .int)) {w1 : hg_W} {r1 : Int} : ∀ (w : hg_W) (x1 : Int) (x2 : Int) (x4 : Int) (s1 : Int) (s2 : Int), fX5_takesOne_113 w x1 x2 x4 s1 s2 = some (w1, r1) → hg_At p l e (rmX5_takesOne) s m args below meth c D cI cA ad 1 A (MQ below (hg_Qi D cI cA ad 1 A w1 r1) args s 0 0 A) 5 w [(0, .ref (ad 0)), (1, .int (hg_I x1)), (2, .int (hg_I x2)), (4, .int (hg_I x4))] 113 [.int (hg_I s2), .int (hg_I s1), .ref (ad 3)] := by
  intro w x1 x2 x4 s1 s2 h
  unfold fX5_takesOne_113 at h
  obtain ⟨w1, q2, h⟩ := Option.bind_eq_some_iff.mp h
  refine z_iast (Or.inr rfl) B dX5_takesOne_113 q2 ?_
  refine z_aload_n B 0 dX5_takesOne_114 rfl rfl ?_
  refine z_get5 (v := .ref (ad 3)) B 3 dX5_takesOne_115 inlX5 (by decide) rfl (by decide) (wl_4 4 rfl) rfl rfl ?_
  refine z_iconst B dX5_takesOne_118 ?_
  refine z_iload_n B 1 dX5_takesOne_119 rfl rfl ?_
  refine z_imul B dX5_takesOne_120 ?_
  refine z_aload_n B 0 dX5_takesOne_121 rfl rfl ?_
  refine z_get5 (v := .ref (ad 3)) B 3 dX5_takesOne_122 inlX5 (by decide) rfl (by decide) (wl_4 4 rfl) rfl rfl ?_
  refine z_iconst B dX5_takesOne_125 ?_
  refine z_iload_n B 1 dX5_takesOne_126 rfl rfl ?_
  refine z_imul B dX5_takesOne_127 ?_
  obtain ⟨v3, q4, h⟩ := Option.bind_eq_some_iff.mp h
  refine z_iald (Or.inr rfl) B dX5_takesOne_128 q4 ?_
  refine z_iload B 3 dX5_takesOne_129 rfl ?_
  refine z_isub B dX5_takesOne_131 ?_
  refine z_iconst B dX5_takesOne_132 ?_
  refine z_bipush B dX5_takesOne_133 (by decide) ?_
  obtain ⟨w5, v6, q7, h⟩ := hg_bd_some h
  refine z_calliS (As := [.int (hg_I (v3 - x4)), .int (hg_I 0), .int (hg_I 99)]) (n := 3) B dX5_takesOne_135 (c_X5_within q7) (gl_S (wl_17 10 rfl) (wl_17 11 rfl) (wl_1 5 rfl) (wl_17 12 rfl)) rfl ⟨rfl, rfl⟩ (by decide +kernel) ⟨Nat.le_of_ble_eq_true rfl, Nat.le_of_ble_eq_true rfl⟩ rfl rfl (Nat.le_of_ble_eq_true rfl) ?_
  obtain ⟨w8, q9, h⟩ := Option.bind_eq_some_iff.mp h
  refine z_iast (Or.inr rfl) B dX5_takesOne_138 q9 ?_
  refine z_lv (lv' := [(0, .ref (ad 0)), (2, .int (hg_I x2))]) B [0, 2] rfl ?_
  exact rX5_takesOne_139 B hr _ _ h
set_option maxHeartbeats 4000000 in
set_option maxRecDepth 100000 in
theorem rX5_takesOne_E (B : hg_B p s m args meth c cX5_takesOne RX5 wsL_law 5 D cI cA ad 1 A) (hr : meth.sig.returnType = (some .int)) {a1 : Int} {w1 : hg_W} {r1 : Int} {w : hg_W} (h : fX5_takesOne w a1 = some (w1, r1)) : hg_At p l e (rmX5_takesOne) s m args below meth c D cI cA ad 1 A (MQ below (hg_Qi D cI cA ad 1 A w1 r1) args s 0 0 A) 5 w [(0, .ref (ad 0)), (1, .int (hg_I a1))] 0 [] := by
  unfold fX5_takesOne at h
  refine z_aload_n B 0 dX5_takesOne_0 rfl rfl ?_
  refine z_iload_n B 1 dX5_takesOne_1 rfl rfl ?_
  obtain ⟨w1, v2, q3, h⟩ := hg_bd_some h
  refine z_calliV (a := 0) (ci := 5) (N := 37) (T := TX5) (C := RX5) (As := [.int (hg_I a1)]) (n := 1) B dX5_takesOne_2 (c_X5_theCoin q3) (gl_V (wl_19 19 rfl) (wl_19 20 rfl) (wl_19 21 rfl) (wl_1 5 rfl) (wl_19 22 rfl)) rfl ⟨rfl, rfl⟩ (by decide +kernel) ⟨Nat.le_of_ble_eq_true rfl, Nat.le_of_ble_eq_true rfl⟩ (by decide) rfl (by decide) rfl rfl rfl (Nat.le_of_ble_eq_true rfl) ?_
  refine z_istore_n B [(2, .int (hg_I v2)), (0, .ref (ad 0)), (1, .int (hg_I a1))] dX5_takesOne_5 rfl (by decide) rfl ?_
  refine z_iload_n B 0 dX5_takesOne_6 rfl rfl ?_
  refine z_iconst B dX5_takesOne_7 ?_
  refine z_icmp_eq (tgt := 139) B dX5_takesOne_8 (by decide) h (fun h => ?_) (fun h => ?_)
  · refine z_lv (lv' := [(0, .ref (ad 0)), (2, .int (hg_I v2))]) B [1, 0] rfl ?_
    exact rX5_takesOne_139 B hr _ _ h
  · refine z_aload_n B 1 dX5_takesOne_11 rfl rfl ?_
    refine z_iload_n B 2 dX5_takesOne_12 rfl rfl ?_
    refine z_iload_n B 0 dX5_takesOne_13 rfl rfl ?_
    obtain ⟨w4, v5, q6, h⟩ := hg_bd_some h
    refine z_calliV (a := 0) (ci := 5) (N := 37) (T := TX5) (C := RX5) (As := [.int (hg_I a1), .int (hg_I v2)]) (n := 2) B dX5_takesOne_14 (c_X5_soundsOf q6) (gl_V (wl_20 15 rfl) (wl_20 16 rfl) (wl_20 17 rfl) (wl_1 5 rfl) (wl_20 18 rfl)) rfl ⟨rfl, rfl⟩ (by decide +kernel) ⟨Nat.le_of_ble_eq_true rfl, Nat.le_of_ble_eq_true rfl⟩ (by decide) rfl (by decide) rfl rfl rfl (Nat.le_of_ble_eq_true rfl) ?_
    refine z_istore_n B [(3, .int (hg_I v5)), (2, .int (hg_I v2)), (0, .ref (ad 0)), (1, .int (hg_I a1))] dX5_takesOne_17 rfl (by decide) rfl ?_
    refine z_aload_n B 2 dX5_takesOne_18 rfl rfl ?_
    refine z_iload_n B 3 dX5_takesOne_19 rfl rfl ?_
    refine z_iload_n B 1 dX5_takesOne_20 rfl rfl ?_
    obtain ⟨w7, v8, q9, h⟩ := hg_bd_some h
    refine z_calliV (a := 0) (ci := 5) (N := 37) (T := TX5) (C := RX5) (As := [.int (hg_I a1), .int (hg_I v2)]) (n := 2) B dX5_takesOne_21 (c_X5_costsOf q9) (gl_V (wl_20 19 rfl) (wl_20 20 rfl) (wl_20 21 rfl) (wl_1 5 rfl) (wl_20 22 rfl)) rfl ⟨rfl, rfl⟩ (by decide +kernel) ⟨Nat.le_of_ble_eq_true rfl, Nat.le_of_ble_eq_true rfl⟩ (by decide) rfl (by decide) rfl rfl rfl (Nat.le_of_ble_eq_true rfl) ?_
    refine z_istore B [(4, .int (hg_I v8)), (3, .int (hg_I v5)), (2, .int (hg_I v2)), (0, .ref (ad 0)), (1, .int (hg_I a1))] dX5_takesOne_24 (by decide) rfl ?_
    refine z_aload_n B 3 dX5_takesOne_26 rfl rfl ?_
    refine z_get5 (v := .ref (ad 4)) B 4 dX5_takesOne_27 inlX5 (by decide) rfl (by decide) (wl_4 5 rfl) rfl rfl ?_
    refine z_iconst B dX5_takesOne_30 ?_
    refine z_iload_n B 2 dX5_takesOne_31 rfl rfl ?_
    refine z_imul B dX5_takesOne_32 ?_
    refine z_iconst B dX5_takesOne_33 ?_
    refine z_iadd B dX5_takesOne_34 ?_
    refine z_dup2 B dX5_takesOne_35 rfl rfl ?_
    obtain ⟨v10, q11, h⟩ := Option.bind_eq_some_iff.mp h
    refine z_iald (Or.inr rfl) B dX5_takesOne_36 q11 ?_
    refine z_iconst B dX5_takesOne_37 ?_
    refine z_isub B dX5_takesOne_38 ?_
    obtain ⟨w12, q13, h⟩ := Option.bind_eq_some_iff.mp h
    refine z_iast (Or.inr rfl) B dX5_takesOne_39 q13 ?_
    refine z_aload_n B 3 dX5_takesOne_40 rfl rfl ?_
    refine z_get5 (v := .ref (ad 3)) B 3 dX5_takesOne_41 inlX5 (by decide) rfl (by decide) (wl_4 4 rfl) rfl rfl ?_
    refine z_iconst B dX5_takesOne_44 ?_
    refine z_iload_n B 4 dX5_takesOne_45 rfl rfl ?_
    refine z_imul B dX5_takesOne_46 ?_
    refine z_iconst B dX5_takesOne_47 ?_
    refine z_iadd B dX5_takesOne_48 ?_
    refine z_aload_n B 3 dX5_takesOne_49 rfl rfl ?_
    refine z_get5 (v := .ref (ad 3)) B 3 dX5_takesOne_50 inlX5 (by decide) rfl (by decide) (wl_4 4 rfl) rfl rfl ?_
    refine z_iconst B dX5_takesOne_53 ?_
    refine z_iload_n B 4 dX5_takesOne_54 rfl rfl ?_
    refine z_imul B dX5_takesOne_55 ?_
    refine z_iconst B dX5_takesOne_56 ?_
    refine z_iadd B dX5_takesOne_57 ?_
    obtain ⟨v14, q15, h⟩ := Option.bind_eq_some_iff.mp h
    refine z_iald (Or.inr rfl) B dX5_takesOne_58 q15 ?_
    refine z_aload_n B 3 dX5_takesOne_59 rfl rfl ?_
    refine z_get5 (v := .ref (ad 4)) B 4 dX5_takesOne_60 inlX5 (by decide) rfl (by decide) (wl_4 5 rfl) rfl rfl ?_
    refine z_iconst B dX5_takesOne_63 ?_
    refine z_iload_n B 2 dX5_takesOne_64 rfl rfl ?_
    refine z_imul B dX5_takesOne_65 ?_
    obtain ⟨v16, q17, h⟩ := Option.bind_eq_some_iff.mp h
    refine z_iald (Or.inr rfl) B dX5_takesOne_66 q17 ?_
    refine z_iadd B dX5_takesOne_67 ?_
    refine z_iconst B dX5_takesOne_68 ?_
    refine z_sipush B dX5_takesOne_69 (by decide) ?_
    obtain ⟨w18, v19, q20, h⟩ := hg_bd_some h
    refine z_calliS (As := [.int (hg_I (v14 + v16)), .int (hg_I 0), .int (hg_I 9999)]) (n := 3) B dX5_takesOne_72 (c_X5_within q20) (gl_S (wl_17 10 rfl) (wl_17 11 rfl) (wl_1 5 rfl) (wl_17 12 rfl)) rfl ⟨rfl, rfl⟩ (by decide +kernel) ⟨Nat.le_of_ble_eq_true rfl, Nat.le_of_ble_eq_true rfl⟩ rfl rfl (Nat.le_of_ble_eq_true rfl) ?_
    obtain ⟨w21, q22, h⟩ := Option.bind_eq_some_iff.mp h
    refine z_iast (Or.inr rfl) B dX5_takesOne_75 q22 ?_
    refine z_aload_n B 3 dX5_takesOne_76 rfl rfl ?_
    refine z_get5 (v := .ref (ad 3)) B 3 dX5_takesOne_77 inlX5 (by decide) rfl (by decide) (wl_4 4 rfl) rfl rfl ?_
    refine z_iconst B dX5_takesOne_80 ?_
    refine z_iload_n B 4 dX5_takesOne_81 rfl rfl ?_
    refine z_imul B dX5_takesOne_82 ?_
    refine z_iconst B dX5_takesOne_83 ?_
    refine z_iadd B dX5_takesOne_84 ?_
    refine z_iload_n B 1 dX5_takesOne_85 rfl rfl ?_
    refine z_aload_n B 3 dX5_takesOne_86 rfl rfl ?_
    refine z_get5 (v := .ref (ad 3)) B 3 dX5_takesOne_87 inlX5 (by decide) rfl (by decide) (wl_4 4 rfl) rfl rfl ?_
    refine z_iconst B dX5_takesOne_90 ?_
    refine z_iload_n B 4 dX5_takesOne_91 rfl rfl ?_
    refine z_imul B dX5_takesOne_92 ?_
    refine z_iconst B dX5_takesOne_93 ?_
    refine z_iadd B dX5_takesOne_94 ?_
    obtain ⟨v23, q24, h⟩ := Option.bind_eq_some_iff.mp h
    refine z_iald (Or.inr rfl) B dX5_takesOne_95 q24 ?_
    refine z_icmp_le (tgt := 103) B dX5_takesOne_96 (by decide) h (fun h => ?_) (fun h => ?_)
    · refine z_aload_n B 3 dX5_takesOne_103 rfl rfl ?_
      refine z_get5 (v := .ref (ad 3)) B 3 dX5_takesOne_104 inlX5 (by decide) rfl (by decide) (wl_4 4 rfl) rfl rfl ?_
      refine z_iconst B dX5_takesOne_107 ?_
      refine z_iload_n B 4 dX5_takesOne_108 rfl rfl ?_
      refine z_imul B dX5_takesOne_109 ?_
      refine z_iconst B dX5_takesOne_110 ?_
      refine z_iadd B dX5_takesOne_111 ?_
      obtain ⟨v25, q26, h⟩ := Option.bind_eq_some_iff.mp h
      refine z_iald (Or.inr rfl) B dX5_takesOne_112 q26 ?_
      refine z_lv (lv' := [(0, .ref (ad 0)), (1, .int (hg_I a1)), (2, .int (hg_I v2)), (4, .int (hg_I v8))]) B [3, 4, 2, 0] rfl ?_
      exact rX5_takesOne_113 B hr _ _ _ _ _ _ h
    · refine z_iload_n B 1 dX5_takesOne_99 rfl rfl ?_
      refine z_goto (tgt := 113) B dX5_takesOne_100 (by decide) ?_
      refine z_lv (lv' := [(0, .ref (ad 0)), (1, .int (hg_I a1)), (2, .int (hg_I v2)), (4, .int (hg_I v8))]) B [3, 4, 2, 0] rfl ?_
      exact rX5_takesOne_113 B hr _ _ _ _ _ _ h
set_option maxHeartbeats 4000000 in
set_option maxRecDepth 100000 in
theorem c_X5_takesOne {l : Launch} {D : va_G} {cI cA : ClassId} {ad : Nat → Nat} {a1 : Int} {w w1 : hg_W} {r1 : Int} (h : fX5_takesOne w a1 = some (w1, r1)) : hg_Mi l yX5_takesOne wxX5_takesOne rmX5_takesOne D cI cA ad 1 w [.ref (ad 0), .int (hg_I a1)] w1 r1 := by
  refine z_meti cX5_takesOne 5 (some .int) (by decide) (Nat.le_of_ble_eq_true rfl) ?_
  intro p e s m args below meth c A B hr
  exact rX5_takesOne_E B hr h
abbrev wxX5_turnOf : List Cond := Cond.code yX5_turnOf cX5_turnOf 2 (some .int) :: wsL_law
def fX5_turnOf_33   (w : hg_W) (x1 : Int) (s1 : Int) : Option (hg_W × Int) :=
  (hg_pt w 0 5 s1).bind fun w1 =>
  some (w1, wr x1)
def fX5_turnOf (w : hg_W) : Option (hg_W × Int) :=
  hg_bd (fX5_takesOne w (w 0 5)) fun w1 v2 =>
  if wr ((w1 0 5) + 1) = wr (w1 0 0) then
    (
      fX5_turnOf_33 w1 v2 0
    )
  else
    fX5_turnOf_33 w1 v2 ((w1 0 5) + 1)
set_option maxHeartbeats 4000000 in
set_option maxRecDepth 100000 in
abbrev rmX5_turnOf : Room := { frames := 6, cells := 0, slots := 0, locals := 145 }
set_option maxHeartbeats 4000000 in
set_option maxRecDepth 100000 in
theorem rX5_turnOf_33 (B : hg_B p s m args meth c cX5_turnOf RX5 wsL_law 2 D cI cA ad 1 A) (hr : meth.sig.returnType = (some .int)) {w1 : hg_W} {r1 : Int} : ∀ (w : hg_W) (x1 : Int) (s1 : Int), fX5_turnOf_33 w x1 s1 = some (w1, r1) → hg_At p l e (rmX5_turnOf) s m args below meth c D cI cA ad 1 A (MQ below (hg_Qi D cI cA ad 1 A w1 r1) args s 0 0 A) 2 w [(1, .int (hg_I x1))] 33 [.int (hg_I s1), .ref (ad 0)] := by
  intro w x1 s1 h
  unfold fX5_turnOf_33 at h
  obtain ⟨w1, q2, h⟩ := Option.bind_eq_some_iff.mp h
  refine z_put5 B 5 dX5_turnOf_33 inlX5 (by decide) rfl (by decide) (wl_8 1 rfl) rfl rfl .int (by decide +kernel) rfl rfl hg_fs5_5 q2 ?_
  refine z_iload_n B 0 dX5_turnOf_36 rfl rfl ?_
  exact z_iret B hr dX5_turnOf_37 h
set_option maxHeartbeats 4000000 in
set_option maxRecDepth 100000 in
theorem rX5_turnOf_E (B : hg_B p s m args meth c cX5_turnOf RX5 wsL_law 2 D cI cA ad 1 A) (hr : meth.sig.returnType = (some .int)) {w1 : hg_W} {r1 : Int} {w : hg_W} (h : fX5_turnOf w = some (w1, r1)) : hg_At p l e (rmX5_turnOf) s m args below meth c D cI cA ad 1 A (MQ below (hg_Qi D cI cA ad 1 A w1 r1) args s 0 0 A) 2 w [(0, .ref (ad 0))] 0 [] := by
  unfold fX5_turnOf at h
  refine z_aload_n B 0 dX5_turnOf_0 rfl rfl ?_
  refine z_aload_n B 0 dX5_turnOf_1 rfl rfl ?_
  refine z_get5 (v := .int (hg_I (w 0 5))) B 5 dX5_turnOf_2 inlX5 (by decide) rfl (by decide) (wl_8 1 rfl) rfl rfl ?_
  obtain ⟨w1, v2, q3, h⟩ := hg_bd_some h
  refine z_calliV (a := 0) (ci := 5) (N := 37) (T := TX5) (C := RX5) (As := [.int (hg_I (w 0 5))]) (n := 1) B dX5_turnOf_5 (c_X5_takesOne q3) (gl_V (wl_22 5 rfl) (wl_22 6 rfl) (wl_22 7 rfl) (wl_1 5 rfl) (wl_22 8 rfl)) rfl ⟨rfl, rfl⟩ (by decide +kernel) ⟨Nat.le_of_ble_eq_true rfl, Nat.le_of_ble_eq_true rfl⟩ (by decide) rfl (by decide) rfl rfl rfl (Nat.le_of_ble_eq_true rfl) ?_
  refine z_istore_n B [(1, .int (hg_I v2)), (0, .ref (ad 0))] dX5_turnOf_8 rfl (by decide) rfl ?_
  refine z_aload_n B 1 dX5_turnOf_9 rfl rfl ?_
  refine z_aload_n B 1 dX5_turnOf_10 rfl rfl ?_
  refine z_get5 (v := .int (hg_I (w1 0 5))) B 5 dX5_turnOf_11 inlX5 (by decide) rfl (by decide) (wl_8 1 rfl) rfl rfl ?_
  refine z_iconst B dX5_turnOf_14 ?_
  refine z_iadd B dX5_turnOf_15 ?_
  refine z_aload_n B 1 dX5_turnOf_16 rfl rfl ?_
  refine z_get5 (v := .int (hg_I (w1 0 0))) B 0 dX5_turnOf_17 inlX5 (by decide) rfl (by decide) (wl_7 22 rfl) rfl rfl ?_
  refine z_icmp_ne (tgt := 27) B dX5_turnOf_20 (by decide) h (fun h => ?_) (fun h => ?_)
  · refine z_aload_n B 1 dX5_turnOf_27 rfl rfl ?_
    refine z_get5 (v := .int (hg_I (w1 0 5))) B 5 dX5_turnOf_28 inlX5 (by decide) rfl (by decide) (wl_8 1 rfl) rfl rfl ?_
    refine z_iconst B dX5_turnOf_31 ?_
    refine z_iadd B dX5_turnOf_32 ?_
    refine z_lv (lv' := [(1, .int (hg_I v2))]) B [0] rfl ?_
    exact rX5_turnOf_33 B hr _ _ _ h
  · refine z_iconst B dX5_turnOf_23 ?_
    refine z_goto (tgt := 33) B dX5_turnOf_24 (by decide) ?_
    refine z_lv (lv' := [(1, .int (hg_I v2))]) B [0] rfl ?_
    exact rX5_turnOf_33 B hr _ _ _ h
set_option maxHeartbeats 4000000 in
set_option maxRecDepth 100000 in
theorem c_X5_turnOf {l : Launch} {D : va_G} {cI cA : ClassId} {ad : Nat → Nat} {w w1 : hg_W} {r1 : Int} (h : fX5_turnOf w = some (w1, r1)) : hg_Mi l yX5_turnOf wxX5_turnOf rmX5_turnOf D cI cA ad 1 w [.ref (ad 0)] w1 r1 := by
  refine z_meti cX5_turnOf 2 (some .int) (by decide) (Nat.le_of_ble_eq_true rfl) ?_
  intro p e s m args below meth c A B hr
  exact rX5_turnOf_E B hr h
abbrev wxX5_isOver : List Cond := Cond.code yX5_isOver cX5_isOver 1 (some .boolean) :: wsL_law
def fX5_isOver_14   (w : hg_W) : Option (hg_W × Int) :=
  if wr 1 = 0 ∨ wr 1 = 1 then some (w, wr 1) else none
def fX5_isOver (w : hg_W) : Option (hg_W × Int) :=
  if wr (w 0 0) = 0 then
    (
      fX5_isOver_14 w
    )
  else
    hg_bd (fX5_coinsAll w) fun w1 v2 =>
    if wr v2 = 0 then
      (
        fX5_isOver_14 w1
      )
    else
      if wr 0 = 0 ∨ wr 0 = 1 then some (w1, wr 0) else none
set_option maxHeartbeats 4000000 in
set_option maxRecDepth 100000 in
abbrev rmX5_isOver : Room := { frames := 1, cells := 0, slots := 0, locals := 22 }
set_option maxHeartbeats 4000000 in
set_option maxRecDepth 100000 in
theorem rX5_isOver_14 (B : hg_B p s m args meth c cX5_isOver RX5 wsL_law 1 D cI cA ad 1 A) (hr : meth.sig.returnType = (some .boolean)) {w1 : hg_W} {r1 : Int} : ∀ (w : hg_W), fX5_isOver_14 w = some (w1, r1) → hg_At p l e (rmX5_isOver) s m args below meth c D cI cA ad 1 A (MQ below (hg_Qi D cI cA ad 1 A w1 r1) args s 0 0 A) 1 w [] 14 [] := by
  intro w h
  unfold fX5_isOver_14 at h
  refine z_iconst B dX5_isOver_14 ?_
  refine z_goto (tgt := 19) B dX5_isOver_15 (by decide) ?_
  exact z_bret B hr dX5_isOver_19 h
set_option maxHeartbeats 4000000 in
set_option maxRecDepth 100000 in
theorem rX5_isOver_E (B : hg_B p s m args meth c cX5_isOver RX5 wsL_law 1 D cI cA ad 1 A) (hr : meth.sig.returnType = (some .boolean)) {w1 : hg_W} {r1 : Int} {w : hg_W} (h : fX5_isOver w = some (w1, r1)) : hg_At p l e (rmX5_isOver) s m args below meth c D cI cA ad 1 A (MQ below (hg_Qi D cI cA ad 1 A w1 r1) args s 0 0 A) 1 w [(0, .ref (ad 0))] 0 [] := by
  unfold fX5_isOver at h
  refine z_aload_n B 0 dX5_isOver_0 rfl rfl ?_
  refine z_get5 (v := .int (hg_I (w 0 0))) B 0 dX5_isOver_1 inlX5 (by decide) rfl (by decide) (wl_7 22 rfl) rfl rfl ?_
  refine z_if_eq (tgt := 14) B dX5_isOver_4 (by decide) h (fun h => ?_) (fun h => ?_)
  · refine z_lv (lv' := []) B [] rfl ?_
    exact rX5_isOver_14 B hr _ h
  · refine z_aload_n B 0 dX5_isOver_7 rfl rfl ?_
    obtain ⟨w1, v2, q3, h⟩ := hg_bd_some h
    refine z_calliV (a := 0) (ci := 5) (N := 37) (T := TX5) (C := RX5) (As := []) (n := 0) B dX5_isOver_8 (c_X5_coinsAll q3) (gl_V (wl_8 2 rfl) (wl_8 3 rfl) (wl_8 4 rfl) (wl_1 5 rfl) (wl_8 5 rfl)) rfl ⟨rfl, rfl⟩ (by decide +kernel) ⟨Nat.le_of_ble_eq_true rfl, Nat.le_of_ble_eq_true rfl⟩ (by decide) rfl (by decide) rfl rfl rfl (Nat.le_of_ble_eq_true rfl) ?_
    refine z_if_ne (tgt := 18) B dX5_isOver_11 (by decide) h (fun h => ?_) (fun h => ?_)
    · refine z_iconst B dX5_isOver_18 ?_
      exact z_bret B hr dX5_isOver_19 h
    · refine z_lv (lv' := []) B [] rfl ?_
      exact rX5_isOver_14 B hr _ h
set_option maxHeartbeats 4000000 in
set_option maxRecDepth 100000 in
theorem c_X5_isOver {l : Launch} {D : va_G} {cI cA : ClassId} {ad : Nat → Nat} {w w1 : hg_W} {r1 : Int} (h : fX5_isOver w = some (w1, r1)) : hg_Mi l yX5_isOver wxX5_isOver rmX5_isOver D cI cA ad 1 w [.ref (ad 0)] w1 r1 := by
  refine z_meti cX5_isOver 1 (some .boolean) (by decide) (Nat.le_of_ble_eq_true rfl) ?_
  intro p e s m args below meth c A B hr
  exact rX5_isOver_E B hr h
abbrev wxX5_pass : List Cond := Cond.code yX5_pass cX5_pass 1 (some .int) :: wsL_law
def fX5_pass (w : hg_W) : Option (hg_W × Int) :=
  hg_bd (fX5_isOver w) fun w1 v2 =>
  if wr v2 = 0 then
    (
      hg_bd (fX5_turnOf w1) fun w4 v5 =>
      some (w4, wr v5)
    )
  else
    some (w1, wr (-3))
set_option maxHeartbeats 4000000 in
set_option maxRecDepth 100000 in
abbrev rmX5_pass : Room := { frames := 7, cells := 0, slots := 0, locals := 166 }
set_option maxHeartbeats 4000000 in
set_option maxRecDepth 100000 in
theorem rX5_pass_E (B : hg_B p s m args meth c cX5_pass RX5 wsL_law 1 D cI cA ad 1 A) (hr : meth.sig.returnType = (some .int)) {w1 : hg_W} {r1 : Int} {w : hg_W} (h : fX5_pass w = some (w1, r1)) : hg_At p l e (rmX5_pass) s m args below meth c D cI cA ad 1 A (MQ below (hg_Qi D cI cA ad 1 A w1 r1) args s 0 0 A) 1 w [(0, .ref (ad 0))] 0 [] := by
  unfold fX5_pass at h
  refine z_aload_n B 0 dX5_pass_0 rfl rfl ?_
  obtain ⟨w1, v2, q3, h⟩ := hg_bd_some h
  refine z_calliV (a := 0) (ci := 5) (N := 37) (T := TX5) (C := RX5) (As := []) (n := 0) B dX5_pass_1 (c_X5_isOver q3) (gl_V (wl_21 21 rfl) (wl_21 22 rfl) (wl_21 23 rfl) (wl_1 5 rfl) (wl_22 0 rfl)) rfl ⟨rfl, rfl⟩ (by decide +kernel) ⟨Nat.le_of_ble_eq_true rfl, Nat.le_of_ble_eq_true rfl⟩ (by decide) rfl (by decide) rfl rfl rfl (Nat.le_of_ble_eq_true rfl) ?_
  refine z_if_eq (tgt := 12) B dX5_pass_4 (by decide) h (fun h => ?_) (fun h => ?_)
  · refine z_aload_n B 0 dX5_pass_12 rfl rfl ?_
    obtain ⟨w4, v5, q6, h⟩ := hg_bd_some h
    refine z_calliV (a := 0) (ci := 5) (N := 37) (T := TX5) (C := RX5) (As := []) (n := 0) B dX5_pass_13 (c_X5_turnOf q6) (gl_V (wl_22 1 rfl) (wl_22 2 rfl) (wl_22 3 rfl) (wl_1 5 rfl) (wl_22 4 rfl)) rfl ⟨rfl, rfl⟩ (by decide +kernel) ⟨Nat.le_of_ble_eq_true rfl, Nat.le_of_ble_eq_true rfl⟩ (by decide) rfl (by decide) rfl rfl rfl (Nat.le_of_ble_eq_true rfl) ?_
    exact z_iret B hr dX5_pass_16 h
  · refine z_bipush B dX5_pass_7 (by decide) ?_
    refine z_goto (tgt := 16) B dX5_pass_9 (by decide) ?_
    exact z_iret B hr dX5_pass_16 h
set_option maxHeartbeats 4000000 in
set_option maxRecDepth 100000 in
theorem c_X5_pass {l : Launch} {D : va_G} {cI cA : ClassId} {ad : Nat → Nat} {w w1 : hg_W} {r1 : Int} (h : fX5_pass w = some (w1, r1)) : hg_Mi l yX5_pass wxX5_pass rmX5_pass D cI cA ad 1 w [.ref (ad 0)] w1 r1 := by
  refine z_meti cX5_pass 1 (some .int) (by decide) (Nat.le_of_ble_eq_true rfl) ?_
  intro p e s m args below meth c A B hr
  exact rX5_pass_E B hr h
abbrev wxX5_hand : List Cond := Cond.code yX5_hand cX5_hand 3 (some .int) :: wsL_law
def fX5_hand (w : hg_W) (a1 : Int) : Option (hg_W × Int) :=
  hg_bd (fX5_isOne w a1) fun w1 v2 =>
  if wr v2 = 0 then
    (
      some (w1, wr (-5))
    )
  else
    (hg_pt w1 0 5 a1).bind fun w4 =>
    some (w4, wr (w1 0 5))
set_option maxHeartbeats 4000000 in
set_option maxRecDepth 100000 in
abbrev rmX5_hand : Room := { frames := 2, cells := 0, slots := 0, locals := 43 }
set_option maxHeartbeats 4000000 in
set_option maxRecDepth 100000 in
theorem rX5_hand_E (B : hg_B p s m args meth c cX5_hand RX5 wsL_law 3 D cI cA ad 1 A) (hr : meth.sig.returnType = (some .int)) {a1 : Int} {w1 : hg_W} {r1 : Int} {w : hg_W} (h : fX5_hand w a1 = some (w1, r1)) : hg_At p l e (rmX5_hand) s m args below meth c D cI cA ad 1 A (MQ below (hg_Qi D cI cA ad 1 A w1 r1) args s 0 0 A) 3 w [(0, .ref (ad 0)), (1, .int (hg_I a1))] 0 [] := by
  unfold fX5_hand at h
  refine z_aload_n B 0 dX5_hand_0 rfl rfl ?_
  refine z_iload_n B 1 dX5_hand_1 rfl rfl ?_
  obtain ⟨w1, v2, q3, h⟩ := hg_bd_some h
  refine z_calliV (a := 0) (ci := 5) (N := 37) (T := TX5) (C := RX5) (As := [.int (hg_I a1)]) (n := 1) B dX5_hand_2 (c_X5_isOne q3) (gl_V (wl_17 2 rfl) (wl_17 3 rfl) (wl_17 4 rfl) (wl_1 5 rfl) (wl_17 5 rfl)) rfl ⟨rfl, rfl⟩ (by decide +kernel) ⟨Nat.le_of_ble_eq_true rfl, Nat.le_of_ble_eq_true rfl⟩ (by decide) rfl (by decide) rfl rfl rfl (Nat.le_of_ble_eq_true rfl) ?_
  refine z_if_ne (tgt := 11) B dX5_hand_5 (by decide) h (fun h => ?_) (fun h => ?_)
  · refine z_aload_n B 0 dX5_hand_11 rfl rfl ?_
    refine z_get5 (v := .int (hg_I (w1 0 5))) B 5 dX5_hand_12 inlX5 (by decide) rfl (by decide) (wl_8 1 rfl) rfl rfl ?_
    refine z_istore_n B [(2, .int (hg_I (w1 0 5))), (0, .ref (ad 0)), (1, .int (hg_I a1))] dX5_hand_15 rfl (by decide) rfl ?_
    refine z_aload_n B 1 dX5_hand_16 rfl rfl ?_
    refine z_iload_n B 2 dX5_hand_17 rfl rfl ?_
    obtain ⟨w4, q5, h⟩ := Option.bind_eq_some_iff.mp h
    refine z_put5 B 5 dX5_hand_18 inlX5 (by decide) rfl (by decide) (wl_8 1 rfl) rfl rfl .int (by decide +kernel) rfl rfl hg_fs5_5 q5 ?_
    refine z_iload_n B 0 dX5_hand_21 rfl rfl ?_
    exact z_iret B hr dX5_hand_22 h
  · refine z_bipush B dX5_hand_8 (by decide) ?_
    exact z_iret B hr dX5_hand_10 h
set_option maxHeartbeats 4000000 in
set_option maxRecDepth 100000 in
theorem c_X5_hand {l : Launch} {D : va_G} {cI cA : ClassId} {ad : Nat → Nat} {a1 : Int} {w w1 : hg_W} {r1 : Int} (h : fX5_hand w a1 = some (w1, r1)) : hg_Mi l yX5_hand wxX5_hand rmX5_hand D cI cA ad 1 w [.ref (ad 0), .int (hg_I a1)] w1 r1 := by
  refine z_meti cX5_hand 3 (some .int) (by decide) (Nat.le_of_ble_eq_true rfl) ?_
  intro p e s m args below meth c A B hr
  exact rX5_hand_E B hr h
abbrev wxX5_keeps : List Cond := Cond.code yX5_keeps cX5_keeps 2 none :: wsL_law
def fX5_keeps_28   : Nat → hg_W → Int → Option (hg_W × Int)
  | 0, _, _ => none
  | n + 1, w, x1 =>
    if wr 12 ≤ wr x1 then
      (
        (hg_as 1 w 18 30 (w 0 5)).bind fun w1 =>
        (hg_as 1 w1 18 31 (w1 0 6)).bind fun w3 =>
        some (w3, 0)
      )
    else
      (hg_ag 1 w 4 x1).bind fun v5 =>
      (hg_as 1 w 18 (18 + x1) v5).bind fun w7 =>
      fX5_keeps_28 n w7 (x1 + 1)
def fX5_keeps_2   : Nat → hg_W → Int → Option (hg_W × Int)
  | 0, _, _ => none
  | n + 1, w, x1 =>
    if wr 18 ≤ wr x1 then
      (
        fX5_keeps_28 hg_F w 0
      )
    else
      (hg_ag 1 w 3 x1).bind fun v1 =>
      (hg_as 1 w 18 x1 v1).bind fun w3 =>
      fX5_keeps_2 n w3 (x1 + 1)
def fX5_keeps (w : hg_W) : Option (hg_W × Int) :=
  fX5_keeps_2 hg_F w 0
set_option maxHeartbeats 4000000 in
set_option maxRecDepth 100000 in
abbrev rmX5_keeps : Room := { frames := 0, cells := 0, slots := 0, locals := 0 }
set_option maxHeartbeats 4000000 in
set_option maxRecDepth 100000 in
theorem rX5_keeps_28 (B : hg_B p s m args meth c cX5_keeps RX5 wsL_law 2 D cI cA ad 1 A) (hr : meth.sig.returnType = none) {w1 : hg_W} {r1 : Int} : ∀ (n : Nat), ∀ (w : hg_W) (x1 : Int), fX5_keeps_28 n w x1 = some (w1, r1) → hg_At p l e (rmX5_keeps) s m args below meth c D cI cA ad 1 A (MQ below (hg_Qv D cI cA ad 1 A w1) args s 0 0 A) 2 w [(0, .ref (ad 0)), (1, .int (hg_I x1))] 28 [] := by
  intro n
  induction n with
  | zero =>
    intro w x1 h
    cases h
  | succ n ih =>
    intro w x1 h
    simp only [fX5_keeps_28] at h
    refine z_iload_n B 1 dX5_keeps_28 rfl rfl ?_
    refine z_bipush B dX5_keeps_29 (by decide) ?_
    refine z_icmp_ge (tgt := 55) B dX5_keeps_31 (by decide) h (fun h => ?_) (fun h => ?_)
    · refine z_aload_n B 0 dX5_keeps_55 rfl rfl ?_
      refine z_get5 (v := .ref (ad 18)) B 31 dX5_keeps_56 inlX5 (by decide) rfl (by decide) (wl_4 19 rfl) rfl rfl ?_
      refine z_bipush B dX5_keeps_59 (by decide) ?_
      refine z_aload_n B 0 dX5_keeps_61 rfl rfl ?_
      refine z_get5 (v := .int (hg_I (w 0 5))) B 5 dX5_keeps_62 inlX5 (by decide) rfl (by decide) (wl_8 1 rfl) rfl rfl ?_
      obtain ⟨w1, q2, h⟩ := Option.bind_eq_some_iff.mp h
      refine z_iast (Or.inr rfl) B dX5_keeps_65 q2 ?_
      refine z_aload_n B 0 dX5_keeps_66 rfl rfl ?_
      refine z_get5 (v := .ref (ad 18)) B 31 dX5_keeps_67 inlX5 (by decide) rfl (by decide) (wl_4 19 rfl) rfl rfl ?_
      refine z_bipush B dX5_keeps_70 (by decide) ?_
      refine z_aload_n B 0 dX5_keeps_72 rfl rfl ?_
      refine z_get5 (v := .int (hg_I (w1 0 6))) B 6 dX5_keeps_73 inlX5 (by decide) rfl (by decide) (wl_7 23 rfl) rfl rfl ?_
      obtain ⟨w3, q4, h⟩ := Option.bind_eq_some_iff.mp h
      refine z_iast (Or.inr rfl) B dX5_keeps_76 q4 ?_
      exact z_vret B hr dX5_keeps_77 h
    · refine z_aload_n B 0 dX5_keeps_34 rfl rfl ?_
      refine z_get5 (v := .ref (ad 18)) B 31 dX5_keeps_35 inlX5 (by decide) rfl (by decide) (wl_4 19 rfl) rfl rfl ?_
      refine z_bipush B dX5_keeps_38 (by decide) ?_
      refine z_iload_n B 1 dX5_keeps_40 rfl rfl ?_
      refine z_iadd B dX5_keeps_41 ?_
      refine z_aload_n B 0 dX5_keeps_42 rfl rfl ?_
      refine z_get5 (v := .ref (ad 4)) B 4 dX5_keeps_43 inlX5 (by decide) rfl (by decide) (wl_4 5 rfl) rfl rfl ?_
      refine z_iload_n B 1 dX5_keeps_46 rfl rfl ?_
      obtain ⟨v5, q6, h⟩ := Option.bind_eq_some_iff.mp h
      refine z_iald (Or.inr rfl) B dX5_keeps_47 q6 ?_
      obtain ⟨w7, q8, h⟩ := Option.bind_eq_some_iff.mp h
      refine z_iast (Or.inr rfl) B dX5_keeps_48 q8 ?_
      refine z_iinc B 1 [(1, .int (hg_I (x1 + 1))), (0, .ref (ad 0))] dX5_keeps_49 rfl (by decide) rfl ?_
      refine z_goto (tgt := 28) B dX5_keeps_52 (by decide) ?_
      refine z_lv (lv' := [(0, .ref (ad 0)), (1, .int (hg_I (x1 + 1)))]) B [1, 0] rfl ?_
      exact ih _ _ h
set_option maxHeartbeats 4000000 in
set_option maxRecDepth 100000 in
theorem rX5_keeps_2 (B : hg_B p s m args meth c cX5_keeps RX5 wsL_law 2 D cI cA ad 1 A) (hr : meth.sig.returnType = none) {w1 : hg_W} {r1 : Int} : ∀ (n : Nat), ∀ (w : hg_W) (x1 : Int), fX5_keeps_2 n w x1 = some (w1, r1) → hg_At p l e (rmX5_keeps) s m args below meth c D cI cA ad 1 A (MQ below (hg_Qv D cI cA ad 1 A w1) args s 0 0 A) 2 w [(0, .ref (ad 0)), (1, .int (hg_I x1))] 2 [] := by
  intro n
  induction n with
  | zero =>
    intro w x1 h
    cases h
  | succ n ih =>
    intro w x1 h
    simp only [fX5_keeps_2] at h
    refine z_iload_n B 1 dX5_keeps_2 rfl rfl ?_
    refine z_bipush B dX5_keeps_3 (by decide) ?_
    refine z_icmp_ge (tgt := 26) B dX5_keeps_5 (by decide) h (fun h => ?_) (fun h => ?_)
    · refine z_iconst B dX5_keeps_26 ?_
      refine z_istore_n B [(1, .int (hg_I 0)), (0, .ref (ad 0))] dX5_keeps_27 rfl (by decide) rfl ?_
      refine z_lv (lv' := [(0, .ref (ad 0)), (1, .int (hg_I 0))]) B [1, 0] rfl ?_
      exact rX5_keeps_28 B hr hg_F _ _ h
    · refine z_aload_n B 0 dX5_keeps_8 rfl rfl ?_
      refine z_get5 (v := .ref (ad 18)) B 31 dX5_keeps_9 inlX5 (by decide) rfl (by decide) (wl_4 19 rfl) rfl rfl ?_
      refine z_iload_n B 1 dX5_keeps_12 rfl rfl ?_
      refine z_aload_n B 0 dX5_keeps_13 rfl rfl ?_
      refine z_get5 (v := .ref (ad 3)) B 3 dX5_keeps_14 inlX5 (by decide) rfl (by decide) (wl_4 4 rfl) rfl rfl ?_
      refine z_iload_n B 1 dX5_keeps_17 rfl rfl ?_
      obtain ⟨v1, q2, h⟩ := Option.bind_eq_some_iff.mp h
      refine z_iald (Or.inr rfl) B dX5_keeps_18 q2 ?_
      obtain ⟨w3, q4, h⟩ := Option.bind_eq_some_iff.mp h
      refine z_iast (Or.inr rfl) B dX5_keeps_19 q4 ?_
      refine z_iinc B 1 [(1, .int (hg_I (x1 + 1))), (0, .ref (ad 0))] dX5_keeps_20 rfl (by decide) rfl ?_
      refine z_goto (tgt := 2) B dX5_keeps_23 (by decide) ?_
      refine z_lv (lv' := [(0, .ref (ad 0)), (1, .int (hg_I (x1 + 1)))]) B [1, 0] rfl ?_
      exact ih _ _ h
set_option maxHeartbeats 4000000 in
set_option maxRecDepth 100000 in
theorem rX5_keeps_E (B : hg_B p s m args meth c cX5_keeps RX5 wsL_law 2 D cI cA ad 1 A) (hr : meth.sig.returnType = none) {w1 : hg_W} {r1 : Int} {w : hg_W} (h : fX5_keeps w = some (w1, r1)) : hg_At p l e (rmX5_keeps) s m args below meth c D cI cA ad 1 A (MQ below (hg_Qv D cI cA ad 1 A w1) args s 0 0 A) 2 w [(0, .ref (ad 0))] 0 [] := by
  unfold fX5_keeps at h
  refine z_iconst B dX5_keeps_0 ?_
  refine z_istore_n B [(1, .int (hg_I 0)), (0, .ref (ad 0))] dX5_keeps_1 rfl (by decide) rfl ?_
  refine z_lv (lv' := [(0, .ref (ad 0)), (1, .int (hg_I 0))]) B [1, 0] rfl ?_
  exact rX5_keeps_2 B hr hg_F _ _ h
set_option maxHeartbeats 4000000 in
set_option maxRecDepth 100000 in
theorem c_X5_keeps {l : Launch} {D : va_G} {cI cA : ClassId} {ad : Nat → Nat} {w w1 : hg_W} {r1 : Int} (h : fX5_keeps w = some (w1, r1)) : hg_Mv l yX5_keeps wxX5_keeps rmX5_keeps D cI cA ad 1 w [.ref (ad 0)] w1 := by
  refine z_metv cX5_keeps 2 none (by decide) (Nat.le_of_ble_eq_true rfl) ?_
  intro p e s m args below meth c A B hr
  exact rX5_keeps_E B hr h
abbrev wxX5_lays : List Cond := Cond.code yX5_lays cX5_lays 2 none :: wsL_law
def fX5_lays_28   : Nat → hg_W → Int → Option (hg_W × Int)
  | 0, _, _ => none
  | n + 1, w, x1 =>
    if wr 12 ≤ wr x1 then
      (
        (hg_ag 1 w 18 30).bind fun v1 =>
        (hg_pt w 0 5 v1).bind fun w3 =>
        (hg_ag 1 w3 18 31).bind fun v5 =>
        (hg_pt w3 0 6 v5).bind fun w7 =>
        some (w7, 0)
      )
    else
      (hg_ag 1 w 18 (18 + x1)).bind fun v9 =>
      (hg_as 1 w 4 x1 v9).bind fun w11 =>
      fX5_lays_28 n w11 (x1 + 1)
def fX5_lays_2   : Nat → hg_W → Int → Option (hg_W × Int)
  | 0, _, _ => none
  | n + 1, w, x1 =>
    if wr 18 ≤ wr x1 then
      (
        fX5_lays_28 hg_F w 0
      )
    else
      (hg_ag 1 w 18 x1).bind fun v1 =>
      (hg_as 1 w 3 x1 v1).bind fun w3 =>
      fX5_lays_2 n w3 (x1 + 1)
def fX5_lays (w : hg_W) : Option (hg_W × Int) :=
  fX5_lays_2 hg_F w 0
set_option maxHeartbeats 4000000 in
set_option maxRecDepth 100000 in
abbrev rmX5_lays : Room := { frames := 0, cells := 0, slots := 0, locals := 0 }
set_option maxHeartbeats 4000000 in
set_option maxRecDepth 100000 in
theorem rX5_lays_28 (B : hg_B p s m args meth c cX5_lays RX5 wsL_law 2 D cI cA ad 1 A) (hr : meth.sig.returnType = none) {w1 : hg_W} {r1 : Int} : ∀ (n : Nat), ∀ (w : hg_W) (x1 : Int), fX5_lays_28 n w x1 = some (w1, r1) → hg_At p l e (rmX5_lays) s m args below meth c D cI cA ad 1 A (MQ below (hg_Qv D cI cA ad 1 A w1) args s 0 0 A) 2 w [(0, .ref (ad 0)), (1, .int (hg_I x1))] 28 [] := by
  intro n
  induction n with
  | zero =>
    intro w x1 h
    cases h
  | succ n ih =>
    intro w x1 h
    simp only [fX5_lays_28] at h
    refine z_iload_n B 1 dX5_lays_28 rfl rfl ?_
    refine z_bipush B dX5_lays_29 (by decide) ?_
    refine z_icmp_ge (tgt := 55) B dX5_lays_31 (by decide) h (fun h => ?_) (fun h => ?_)
    · refine z_aload_n B 0 dX5_lays_55 rfl rfl ?_
      refine z_aload_n B 0 dX5_lays_56 rfl rfl ?_
      refine z_get5 (v := .ref (ad 18)) B 31 dX5_lays_57 inlX5 (by decide) rfl (by decide) (wl_4 19 rfl) rfl rfl ?_
      refine z_bipush B dX5_lays_60 (by decide) ?_
      obtain ⟨v1, q2, h⟩ := Option.bind_eq_some_iff.mp h
      refine z_iald (Or.inr rfl) B dX5_lays_62 q2 ?_
      obtain ⟨w3, q4, h⟩ := Option.bind_eq_some_iff.mp h
      refine z_put5 B 5 dX5_lays_63 inlX5 (by decide) rfl (by decide) (wl_8 1 rfl) rfl rfl .int (by decide +kernel) rfl rfl hg_fs5_5 q4 ?_
      refine z_aload_n B 0 dX5_lays_66 rfl rfl ?_
      refine z_aload_n B 0 dX5_lays_67 rfl rfl ?_
      refine z_get5 (v := .ref (ad 18)) B 31 dX5_lays_68 inlX5 (by decide) rfl (by decide) (wl_4 19 rfl) rfl rfl ?_
      refine z_bipush B dX5_lays_71 (by decide) ?_
      obtain ⟨v5, q6, h⟩ := Option.bind_eq_some_iff.mp h
      refine z_iald (Or.inr rfl) B dX5_lays_73 q6 ?_
      obtain ⟨w7, q8, h⟩ := Option.bind_eq_some_iff.mp h
      refine z_put5 B 6 dX5_lays_74 inlX5 (by decide) rfl (by decide) (wl_7 23 rfl) rfl rfl .int (by decide +kernel) rfl rfl hg_fs5_6 q8 ?_
      exact z_vret B hr dX5_lays_77 h
    · refine z_aload_n B 0 dX5_lays_34 rfl rfl ?_
      refine z_get5 (v := .ref (ad 4)) B 4 dX5_lays_35 inlX5 (by decide) rfl (by decide) (wl_4 5 rfl) rfl rfl ?_
      refine z_iload_n B 1 dX5_lays_38 rfl rfl ?_
      refine z_aload_n B 0 dX5_lays_39 rfl rfl ?_
      refine z_get5 (v := .ref (ad 18)) B 31 dX5_lays_40 inlX5 (by decide) rfl (by decide) (wl_4 19 rfl) rfl rfl ?_
      refine z_bipush B dX5_lays_43 (by decide) ?_
      refine z_iload_n B 1 dX5_lays_45 rfl rfl ?_
      refine z_iadd B dX5_lays_46 ?_
      obtain ⟨v9, q10, h⟩ := Option.bind_eq_some_iff.mp h
      refine z_iald (Or.inr rfl) B dX5_lays_47 q10 ?_
      obtain ⟨w11, q12, h⟩ := Option.bind_eq_some_iff.mp h
      refine z_iast (Or.inr rfl) B dX5_lays_48 q12 ?_
      refine z_iinc B 1 [(1, .int (hg_I (x1 + 1))), (0, .ref (ad 0))] dX5_lays_49 rfl (by decide) rfl ?_
      refine z_goto (tgt := 28) B dX5_lays_52 (by decide) ?_
      refine z_lv (lv' := [(0, .ref (ad 0)), (1, .int (hg_I (x1 + 1)))]) B [1, 0] rfl ?_
      exact ih _ _ h
set_option maxHeartbeats 4000000 in
set_option maxRecDepth 100000 in
theorem rX5_lays_2 (B : hg_B p s m args meth c cX5_lays RX5 wsL_law 2 D cI cA ad 1 A) (hr : meth.sig.returnType = none) {w1 : hg_W} {r1 : Int} : ∀ (n : Nat), ∀ (w : hg_W) (x1 : Int), fX5_lays_2 n w x1 = some (w1, r1) → hg_At p l e (rmX5_lays) s m args below meth c D cI cA ad 1 A (MQ below (hg_Qv D cI cA ad 1 A w1) args s 0 0 A) 2 w [(0, .ref (ad 0)), (1, .int (hg_I x1))] 2 [] := by
  intro n
  induction n with
  | zero =>
    intro w x1 h
    cases h
  | succ n ih =>
    intro w x1 h
    simp only [fX5_lays_2] at h
    refine z_iload_n B 1 dX5_lays_2 rfl rfl ?_
    refine z_bipush B dX5_lays_3 (by decide) ?_
    refine z_icmp_ge (tgt := 26) B dX5_lays_5 (by decide) h (fun h => ?_) (fun h => ?_)
    · refine z_iconst B dX5_lays_26 ?_
      refine z_istore_n B [(1, .int (hg_I 0)), (0, .ref (ad 0))] dX5_lays_27 rfl (by decide) rfl ?_
      refine z_lv (lv' := [(0, .ref (ad 0)), (1, .int (hg_I 0))]) B [1, 0] rfl ?_
      exact rX5_lays_28 B hr hg_F _ _ h
    · refine z_aload_n B 0 dX5_lays_8 rfl rfl ?_
      refine z_get5 (v := .ref (ad 3)) B 3 dX5_lays_9 inlX5 (by decide) rfl (by decide) (wl_4 4 rfl) rfl rfl ?_
      refine z_iload_n B 1 dX5_lays_12 rfl rfl ?_
      refine z_aload_n B 0 dX5_lays_13 rfl rfl ?_
      refine z_get5 (v := .ref (ad 18)) B 31 dX5_lays_14 inlX5 (by decide) rfl (by decide) (wl_4 19 rfl) rfl rfl ?_
      refine z_iload_n B 1 dX5_lays_17 rfl rfl ?_
      obtain ⟨v1, q2, h⟩ := Option.bind_eq_some_iff.mp h
      refine z_iald (Or.inr rfl) B dX5_lays_18 q2 ?_
      obtain ⟨w3, q4, h⟩ := Option.bind_eq_some_iff.mp h
      refine z_iast (Or.inr rfl) B dX5_lays_19 q4 ?_
      refine z_iinc B 1 [(1, .int (hg_I (x1 + 1))), (0, .ref (ad 0))] dX5_lays_20 rfl (by decide) rfl ?_
      refine z_goto (tgt := 2) B dX5_lays_23 (by decide) ?_
      refine z_lv (lv' := [(0, .ref (ad 0)), (1, .int (hg_I (x1 + 1)))]) B [1, 0] rfl ?_
      exact ih _ _ h
set_option maxHeartbeats 4000000 in
set_option maxRecDepth 100000 in
theorem rX5_lays_E (B : hg_B p s m args meth c cX5_lays RX5 wsL_law 2 D cI cA ad 1 A) (hr : meth.sig.returnType = none) {w1 : hg_W} {r1 : Int} {w : hg_W} (h : fX5_lays w = some (w1, r1)) : hg_At p l e (rmX5_lays) s m args below meth c D cI cA ad 1 A (MQ below (hg_Qv D cI cA ad 1 A w1) args s 0 0 A) 2 w [(0, .ref (ad 0))] 0 [] := by
  unfold fX5_lays at h
  refine z_iconst B dX5_lays_0 ?_
  refine z_istore_n B [(1, .int (hg_I 0)), (0, .ref (ad 0))] dX5_lays_1 rfl (by decide) rfl ?_
  refine z_lv (lv' := [(0, .ref (ad 0)), (1, .int (hg_I 0))]) B [1, 0] rfl ?_
  exact rX5_lays_2 B hr hg_F _ _ h
set_option maxHeartbeats 4000000 in
set_option maxRecDepth 100000 in
theorem c_X5_lays {l : Launch} {D : va_G} {cI cA : ClassId} {ad : Nat → Nat} {w w1 : hg_W} {r1 : Int} (h : fX5_lays w = some (w1, r1)) : hg_Mv l yX5_lays wxX5_lays rmX5_lays D cI cA ad 1 w [.ref (ad 0)] w1 := by
  refine z_metv cX5_lays 2 none (by decide) (Nat.le_of_ble_eq_true rfl) ?_
  intro p e s m args below meth c A B hr
  exact rX5_lays_E B hr h
abbrev wxX5_goes : List Cond := Cond.code yX5_goes cX5_goes 4 (some .int) :: wsL_law
def fX5_goes_4   : Nat → hg_W → Int → Int → Int → Option (hg_W × Int)
  | 0, _, _, _, _ => none
  | n + 1, w, x1, x2, x3 =>
    if wr x1 ≤ wr x3 then
      (
        some (w, wr x2)
      )
    else
      hg_bd (fX5_isOver w) fun w1 v2 =>
      if wr v2 = 0 then
        (
          hg_bd (fX5_turnOf w1) fun w4 v5 =>
          fX5_goes_4 n w4 x1 (w1 0 5) (x3 + 1)
        )
      else
        some (w1, wr x2)
def fX5_goes (w : hg_W) (a1 : Int) : Option (hg_W × Int) :=
  fX5_goes_4 hg_F w a1 (-1) 0
set_option maxHeartbeats 4000000 in
set_option maxRecDepth 100000 in
abbrev rmX5_goes : Room := { frames := 7, cells := 0, slots := 0, locals := 166 }
set_option maxHeartbeats 4000000 in
set_option maxRecDepth 100000 in
theorem rX5_goes_4 (B : hg_B p s m args meth c cX5_goes RX5 wsL_law 4 D cI cA ad 1 A) (hr : meth.sig.returnType = (some .int)) {w1 : hg_W} {r1 : Int} : ∀ (n : Nat), ∀ (w : hg_W) (x1 : Int) (x2 : Int) (x3 : Int), fX5_goes_4 n w x1 x2 x3 = some (w1, r1) → hg_At p l e (rmX5_goes) s m args below meth c D cI cA ad 1 A (MQ below (hg_Qi D cI cA ad 1 A w1 r1) args s 0 0 A) 4 w [(0, .ref (ad 0)), (1, .int (hg_I x1)), (2, .int (hg_I x2)), (3, .int (hg_I x3))] 4 [] := by
  intro n
  induction n with
  | zero =>
    intro w x1 x2 x3 h
    cases h
  | succ n ih =>
    intro w x1 x2 x3 h
    simp only [fX5_goes_4] at h
    refine z_iload_n B 3 dX5_goes_4 rfl rfl ?_
    refine z_iload_n B 1 dX5_goes_5 rfl rfl ?_
    refine z_icmp_ge (tgt := 32) B dX5_goes_6 (by decide) h (fun h => ?_) (fun h => ?_)
    · refine z_iload_n B 2 dX5_goes_32 rfl rfl ?_
      exact z_iret B hr dX5_goes_33 h
    · refine z_aload_n B 0 dX5_goes_9 rfl rfl ?_
      obtain ⟨w1, v2, q3, h⟩ := hg_bd_some h
      refine z_calliV (a := 0) (ci := 5) (N := 37) (T := TX5) (C := RX5) (As := []) (n := 0) B dX5_goes_10 (c_X5_isOver q3) (gl_V (wl_21 21 rfl) (wl_21 22 rfl) (wl_21 23 rfl) (wl_1 5 rfl) (wl_22 0 rfl)) rfl ⟨rfl, rfl⟩ (by decide +kernel) ⟨Nat.le_of_ble_eq_true rfl, Nat.le_of_ble_eq_true rfl⟩ (by decide) rfl (by decide) rfl rfl rfl (Nat.le_of_ble_eq_true rfl) ?_
      refine z_if_ne (tgt := 32) B dX5_goes_13 (by decide) h (fun h => ?_) (fun h => ?_)
      · refine z_iload_n B 2 dX5_goes_32 rfl rfl ?_
        exact z_iret B hr dX5_goes_33 h
      · refine z_aload_n B 0 dX5_goes_16 rfl rfl ?_
        refine z_get5 (v := .int (hg_I (w1 0 5))) B 5 dX5_goes_17 inlX5 (by decide) rfl (by decide) (wl_8 1 rfl) rfl rfl ?_
        refine z_istore_n B [(2, .int (hg_I (w1 0 5))), (0, .ref (ad 0)), (1, .int (hg_I x1)), (3, .int (hg_I x3))] dX5_goes_20 rfl (by decide) rfl ?_
        refine z_aload_n B 1 dX5_goes_21 rfl rfl ?_
        obtain ⟨w4, v5, q6, h⟩ := hg_bd_some h
        refine z_calliV (a := 0) (ci := 5) (N := 37) (T := TX5) (C := RX5) (As := []) (n := 0) B dX5_goes_22 (c_X5_turnOf q6) (gl_V (wl_22 1 rfl) (wl_22 2 rfl) (wl_22 3 rfl) (wl_1 5 rfl) (wl_22 4 rfl)) rfl ⟨rfl, rfl⟩ (by decide +kernel) ⟨Nat.le_of_ble_eq_true rfl, Nat.le_of_ble_eq_true rfl⟩ (by decide) rfl (by decide) rfl rfl rfl (Nat.le_of_ble_eq_true rfl) ?_
        refine z_pop B dX5_goes_25 rfl ?_
        refine z_iinc B 3 [(3, .int (hg_I (x3 + 1))), (2, .int (hg_I (w1 0 5))), (0, .ref (ad 0)), (1, .int (hg_I x1))] dX5_goes_26 rfl (by decide) rfl ?_
        refine z_goto (tgt := 4) B dX5_goes_29 (by decide) ?_
        refine z_lv (lv' := [(0, .ref (ad 0)), (1, .int (hg_I x1)), (2, .int (hg_I (w1 0 5))), (3, .int (hg_I (x3 + 1)))]) B [2, 3, 1, 0] rfl ?_
        exact ih _ _ _ _ h
set_option maxHeartbeats 4000000 in
set_option maxRecDepth 100000 in
theorem rX5_goes_E (B : hg_B p s m args meth c cX5_goes RX5 wsL_law 4 D cI cA ad 1 A) (hr : meth.sig.returnType = (some .int)) {a1 : Int} {w1 : hg_W} {r1 : Int} {w : hg_W} (h : fX5_goes w a1 = some (w1, r1)) : hg_At p l e (rmX5_goes) s m args below meth c D cI cA ad 1 A (MQ below (hg_Qi D cI cA ad 1 A w1 r1) args s 0 0 A) 4 w [(0, .ref (ad 0)), (1, .int (hg_I a1))] 0 [] := by
  unfold fX5_goes at h
  refine z_iconst B dX5_goes_0 ?_
  refine z_istore_n B [(2, .int (hg_I (-1))), (0, .ref (ad 0)), (1, .int (hg_I a1))] dX5_goes_1 rfl (by decide) rfl ?_
  refine z_iconst B dX5_goes_2 ?_
  refine z_istore_n B [(3, .int (hg_I 0)), (2, .int (hg_I (-1))), (0, .ref (ad 0)), (1, .int (hg_I a1))] dX5_goes_3 rfl (by decide) rfl ?_
  refine z_lv (lv' := [(0, .ref (ad 0)), (1, .int (hg_I a1)), (2, .int (hg_I (-1))), (3, .int (hg_I 0))]) B [2, 3, 1, 0] rfl ?_
  exact rX5_goes_4 B hr hg_F _ _ _ _ h
set_option maxHeartbeats 4000000 in
set_option maxRecDepth 100000 in
theorem c_X5_goes {l : Launch} {D : va_G} {cI cA : ClassId} {ad : Nat → Nat} {a1 : Int} {w w1 : hg_W} {r1 : Int} (h : fX5_goes w a1 = some (w1, r1)) : hg_Mi l yX5_goes wxX5_goes rmX5_goes D cI cA ad 1 w [.ref (ad 0), .int (hg_I a1)] w1 r1 := by
  refine z_meti cX5_goes 4 (some .int) (by decide) (Nat.le_of_ble_eq_true rfl) ?_
  intro p e s m args below meth c A B hr
  exact rX5_goes_E B hr h
abbrev wxX5_run : List Cond := Cond.code yX5_run cX5_run 5 (some .int) :: wsL_law
def fX5_run_147   (w : hg_W) (x4 : Int) : Option (hg_W × Int) :=
  hg_bd (fX5_lays w) fun w1 _ =>
  some (w1, wr x4)
def fX5_run_143   (w : hg_W) (s1 : Int) (s2 : Int) : Option (hg_W × Int) :=
  (hg_ag 1 w 3 (s1 + s2)).bind fun v1 =>
  fX5_run_147 w v1
def fX5_run_46   (w : hg_W) (x1 : Int) (x2 : Int) (x3 : Int) : Option (hg_W × Int) :=
  hg_bd (fX5_keeps w) fun w1 _ =>
  hg_bd (fX5_goes w1 x1) fun w4 v5 =>
  if wr x2 = 0 then
    (
      hg_bd (fX5_coinsAll w4) fun w8 v9 =>
      fX5_run_147 w8 v9
    )
  else
  if wr x2 = 1 then
    (
      hg_bd (fX5_worthAll w4) fun w12 v13 =>
      fX5_run_147 w12 v13
    )
  else
  if wr x2 = 2 then
    (
      fX5_run_147 w4 (w4 0 5)
    )
  else
  if wr 20 ≤ wr x2 then
    (
      if wr 30 ≤ wr x2 then
        (
          fX5_run_143 w4 (3 * x3) 2
        )
      else
        fX5_run_143 w4 (3 * x3) 0
    )
  else
    fX5_run_143 w4 (3 * x3) 1
def fX5_run (w : hg_W) (a1 : Int) (a2 : Int) : Option (hg_W × Int) :=
  hg_bd (fX5_in w a1 0 120) fun w1 v2 =>
  if wr v2 = 0 then
    (
      some (w1, wr (-2))
    )
  else
    hg_bd (fX5_in w1 a2 0 2) fun w4 v5 =>
    if wr v5 = 0 then
      (
        hg_bd (fX5_in w4 a2 10 39) fun w7 v8 =>
        if wr v8 = 0 then
          (
            some (w7, wr (-2))
          )
        else
          hg_bd (fX5_isOne w7 (hg_rm a2 10)) fun w10 v11 =>
          if wr v11 = 0 then
            (
              some (w10, wr (-2))
            )
          else
            fX5_run_46 w10 a1 a2 (hg_rm a2 10)
      )
    else
      fX5_run_46 w4 a1 a2 (hg_rm a2 10)
set_option maxHeartbeats 4000000 in
set_option maxRecDepth 100000 in
abbrev rmX5_run : Room := { frames := 8, cells := 0, slots := 0, locals := 189 }
set_option maxHeartbeats 4000000 in
set_option maxRecDepth 100000 in
theorem rX5_run_147 (B : hg_B p s m args meth c cX5_run RX5 wsL_law 5 D cI cA ad 1 A) (hr : meth.sig.returnType = (some .int)) {w1 : hg_W} {r1 : Int} : ∀ (w : hg_W) (x4 : Int), fX5_run_147 w x4 = some (w1, r1) → hg_At p l e (rmX5_run) s m args below meth c D cI cA ad 1 A (MQ below (hg_Qi D cI cA ad 1 A w1 r1) args s 0 0 A) 5 w [(0, .ref (ad 0)), (4, .int (hg_I x4))] 147 [] := by
  intro w x4 h
  unfold fX5_run_147 at h
  refine z_aload_n B 0 dX5_run_147 rfl rfl ?_
  obtain ⟨w1, v2, q3, h⟩ := hg_bd_some h
  refine z_callvV (a := 0) (ci := 5) (N := 37) (T := TX5) (C := RX5) (As := []) (n := 0) B dX5_run_148 (c_X5_lays q3) (gl_V (wl_24 2 rfl) (wl_24 3 rfl) (wl_24 4 rfl) (wl_1 5 rfl) (wl_24 5 rfl)) rfl ⟨rfl, rfl⟩ (by decide +kernel) ⟨Nat.le_of_ble_eq_true rfl, Nat.le_of_ble_eq_true rfl⟩ (by decide) rfl (by decide) rfl rfl rfl (Nat.le_of_ble_eq_true rfl) ?_
  refine z_iload B 1 dX5_run_151 rfl ?_
  exact z_iret B hr dX5_run_153 h
set_option maxHeartbeats 4000000 in
set_option maxRecDepth 100000 in
theorem rX5_run_143 (B : hg_B p s m args meth c cX5_run RX5 wsL_law 5 D cI cA ad 1 A) (hr : meth.sig.returnType = (some .int)) {w1 : hg_W} {r1 : Int} : ∀ (w : hg_W) (s1 : Int) (s2 : Int), fX5_run_143 w s1 s2 = some (w1, r1) → hg_At p l e (rmX5_run) s m args below meth c D cI cA ad 1 A (MQ below (hg_Qi D cI cA ad 1 A w1 r1) args s 0 0 A) 5 w [(0, .ref (ad 0))] 143 [.int (hg_I s2), .int (hg_I s1), .ref (ad 3)] := by
  intro w s1 s2 h
  unfold fX5_run_143 at h
  refine z_iadd B dX5_run_143 ?_
  obtain ⟨v1, q2, h⟩ := Option.bind_eq_some_iff.mp h
  refine z_iald (Or.inr rfl) B dX5_run_144 q2 ?_
  refine z_istore B [(4, .int (hg_I v1)), (0, .ref (ad 0))] dX5_run_145 (by decide) rfl ?_
  refine z_lv (lv' := [(0, .ref (ad 0)), (4, .int (hg_I v1))]) B [1, 0] rfl ?_
  exact rX5_run_147 B hr _ _ h
set_option maxHeartbeats 4000000 in
set_option maxRecDepth 100000 in
theorem rX5_run_46 (B : hg_B p s m args meth c cX5_run RX5 wsL_law 5 D cI cA ad 1 A) (hr : meth.sig.returnType = (some .int)) {w1 : hg_W} {r1 : Int} : ∀ (w : hg_W) (x1 : Int) (x2 : Int) (x3 : Int), fX5_run_46 w x1 x2 x3 = some (w1, r1) → hg_At p l e (rmX5_run) s m args below meth c D cI cA ad 1 A (MQ below (hg_Qi D cI cA ad 1 A w1 r1) args s 0 0 A) 5 w [(0, .ref (ad 0)), (1, .int (hg_I x1)), (2, .int (hg_I x2)), (3, .int (hg_I x3))] 46 [] := by
  intro w x1 x2 x3 h
  unfold fX5_run_46 at h
  refine z_aload_n B 0 dX5_run_46 rfl rfl ?_
  obtain ⟨w1, v2, q3, h⟩ := hg_bd_some h
  refine z_callvV (a := 0) (ci := 5) (N := 37) (T := TX5) (C := RX5) (As := []) (n := 0) B dX5_run_47 (c_X5_keeps q3) (gl_V (wl_23 18 rfl) (wl_23 19 rfl) (wl_23 20 rfl) (wl_1 5 rfl) (wl_23 21 rfl)) rfl ⟨rfl, rfl⟩ (by decide +kernel) ⟨Nat.le_of_ble_eq_true rfl, Nat.le_of_ble_eq_true rfl⟩ (by decide) rfl (by decide) rfl rfl rfl (Nat.le_of_ble_eq_true rfl) ?_
  refine z_aload_n B 0 dX5_run_50 rfl rfl ?_
  refine z_iload_n B 1 dX5_run_51 rfl rfl ?_
  obtain ⟨w4, v5, q6, h⟩ := hg_bd_some h
  refine z_calliV (a := 0) (ci := 5) (N := 37) (T := TX5) (C := RX5) (As := [.int (hg_I x1)]) (n := 1) B dX5_run_52 (c_X5_goes q6) (gl_V (wl_23 22 rfl) (wl_23 23 rfl) (wl_24 0 rfl) (wl_1 5 rfl) (wl_24 1 rfl)) rfl ⟨rfl, rfl⟩ (by decide +kernel) ⟨Nat.le_of_ble_eq_true rfl, Nat.le_of_ble_eq_true rfl⟩ (by decide) rfl (by decide) rfl rfl rfl (Nat.le_of_ble_eq_true rfl) ?_
  refine z_pop B dX5_run_55 rfl ?_
  refine z_iconst B dX5_run_56 ?_
  refine z_istore B [(4, .int (hg_I 0)), (0, .ref (ad 0)), (1, .int (hg_I x1)), (2, .int (hg_I x2)), (3, .int (hg_I x3))] dX5_run_57 (by decide) rfl ?_
  refine z_iload_n B 3 dX5_run_59 rfl rfl ?_
  by_cases z7 : wr x2 = 0
  · rw [if_pos z7] at h
    refine z_tabIn (off := 28) (tgt := 88) B dX5_run_60 z7 (by decide) rfl (by decide) ?_
    refine z_aload_n B 1 dX5_run_88 rfl rfl ?_
    obtain ⟨w8, v9, q10, h⟩ := hg_bd_some h
    refine z_calliV (a := 0) (ci := 5) (N := 37) (T := TX5) (C := RX5) (As := []) (n := 0) B dX5_run_89 (c_X5_coinsAll q10) (gl_V (wl_8 2 rfl) (wl_8 3 rfl) (wl_8 4 rfl) (wl_1 5 rfl) (wl_8 5 rfl)) rfl ⟨rfl, rfl⟩ (by decide +kernel) ⟨Nat.le_of_ble_eq_true rfl, Nat.le_of_ble_eq_true rfl⟩ (by decide) rfl (by decide) rfl rfl rfl (Nat.le_of_ble_eq_true rfl) ?_
    refine z_istore B [(4, .int (hg_I v9)), (0, .ref (ad 0)), (1, .int (hg_I x1)), (2, .int (hg_I x2)), (3, .int (hg_I x3))] dX5_run_92 (by decide) rfl ?_
    refine z_goto (tgt := 147) B dX5_run_94 (by decide) ?_
    refine z_lv (lv' := [(0, .ref (ad 0)), (4, .int (hg_I v9))]) B [1, 0] rfl ?_
    exact rX5_run_147 B hr _ _ h
  rw [if_neg z7] at h
  by_cases z11 : wr x2 = 1
  · rw [if_pos z11] at h
    refine z_tabIn (off := 37) (tgt := 97) B dX5_run_60 z11 (by decide) rfl (by decide) ?_
    refine z_aload_n B 1 dX5_run_97 rfl rfl ?_
    obtain ⟨w12, v13, q14, h⟩ := hg_bd_some h
    refine z_calliV (a := 0) (ci := 5) (N := 37) (T := TX5) (C := RX5) (As := []) (n := 0) B dX5_run_98 (c_X5_worthAll q14) (gl_V (wl_9 15 rfl) (wl_9 16 rfl) (wl_9 17 rfl) (wl_1 5 rfl) (wl_9 18 rfl)) rfl ⟨rfl, rfl⟩ (by decide +kernel) ⟨Nat.le_of_ble_eq_true rfl, Nat.le_of_ble_eq_true rfl⟩ (by decide) rfl (by decide) rfl rfl rfl (Nat.le_of_ble_eq_true rfl) ?_
    refine z_istore B [(4, .int (hg_I v13)), (0, .ref (ad 0)), (1, .int (hg_I x1)), (2, .int (hg_I x2)), (3, .int (hg_I x3))] dX5_run_101 (by decide) rfl ?_
    refine z_goto (tgt := 147) B dX5_run_103 (by decide) ?_
    refine z_lv (lv' := [(0, .ref (ad 0)), (4, .int (hg_I v13))]) B [1, 0] rfl ?_
    exact rX5_run_147 B hr _ _ h
  rw [if_neg z11] at h
  by_cases z15 : wr x2 = 2
  · rw [if_pos z15] at h
    refine z_tabIn (off := 46) (tgt := 106) B dX5_run_60 z15 (by decide) rfl (by decide) ?_
    refine z_aload_n B 1 dX5_run_106 rfl rfl ?_
    refine z_get5 (v := .int (hg_I (w4 0 5))) B 5 dX5_run_107 inlX5 (by decide) rfl (by decide) (wl_8 1 rfl) rfl rfl ?_
    refine z_istore B [(4, .int (hg_I (w4 0 5))), (0, .ref (ad 0)), (1, .int (hg_I x1)), (2, .int (hg_I x2)), (3, .int (hg_I x3))] dX5_run_110 (by decide) rfl ?_
    refine z_goto (tgt := 147) B dX5_run_112 (by decide) ?_
    refine z_lv (lv' := [(0, .ref (ad 0)), (4, .int (hg_I (w4 0 5)))]) B [1, 0] rfl ?_
    exact rX5_run_147 B hr _ _ h
  rw [if_neg z15] at h
  refine z_tabOut (tgt := 115) B dX5_run_60 (by omega) (by decide) ?_
  refine z_aload_n B 1 dX5_run_115 rfl rfl ?_
  refine z_get5 (v := .ref (ad 3)) B 3 dX5_run_116 inlX5 (by decide) rfl (by decide) (wl_4 4 rfl) rfl rfl ?_
  refine z_iconst B dX5_run_119 ?_
  refine z_iload_n B 4 dX5_run_120 rfl rfl ?_
  refine z_imul B dX5_run_121 ?_
  refine z_iload_n B 3 dX5_run_122 rfl rfl ?_
  refine z_bipush B dX5_run_123 (by decide) ?_
  refine z_icmp_ge (tgt := 132) B dX5_run_125 (by decide) h (fun h => ?_) (fun h => ?_)
  · refine z_iload_n B 3 dX5_run_132 rfl rfl ?_
    refine z_bipush B dX5_run_133 (by decide) ?_
    refine z_icmp_ge (tgt := 142) B dX5_run_135 (by decide) h (fun h => ?_) (fun h => ?_)
    · refine z_iconst B dX5_run_142 ?_
      refine z_lv (lv' := [(0, .ref (ad 0))]) B [1] rfl ?_
      exact rX5_run_143 B hr _ _ _ h
    · refine z_iconst B dX5_run_138 ?_
      refine z_goto (tgt := 143) B dX5_run_139 (by decide) ?_
      refine z_lv (lv' := [(0, .ref (ad 0))]) B [1] rfl ?_
      exact rX5_run_143 B hr _ _ _ h
  · refine z_iconst B dX5_run_128 ?_
    refine z_goto (tgt := 143) B dX5_run_129 (by decide) ?_
    refine z_lv (lv' := [(0, .ref (ad 0))]) B [1] rfl ?_
    exact rX5_run_143 B hr _ _ _ h
set_option maxHeartbeats 4000000 in
set_option maxRecDepth 100000 in
theorem rX5_run_E (B : hg_B p s m args meth c cX5_run RX5 wsL_law 5 D cI cA ad 1 A) (hr : meth.sig.returnType = (some .int)) {a1 : Int} {a2 : Int} {w1 : hg_W} {r1 : Int} {w : hg_W} (h : fX5_run w a1 a2 = some (w1, r1)) : hg_At p l e (rmX5_run) s m args below meth c D cI cA ad 1 A (MQ below (hg_Qi D cI cA ad 1 A w1 r1) args s 0 0 A) 5 w [(0, .ref (ad 0)), (1, .int (hg_I a1)), (2, .int (hg_I a2))] 0 [] := by
  unfold fX5_run at h
  refine z_iload_n B 2 dX5_run_0 rfl rfl ?_
  refine z_bipush B dX5_run_1 (by decide) ?_
  refine z_irem B dX5_run_3 (by decide) ?_
  refine z_istore_n B [(3, .int (hg_I (hg_rm a2 10))), (0, .ref (ad 0)), (1, .int (hg_I a1)), (2, .int (hg_I a2))] dX5_run_4 rfl (by decide) rfl ?_
  refine z_iload_n B 2 dX5_run_5 rfl rfl ?_
  refine z_iconst B dX5_run_6 ?_
  refine z_bipush B dX5_run_7 (by decide) ?_
  obtain ⟨w1, v2, q3, h⟩ := hg_bd_some h
  refine z_calliS (As := [.int (hg_I a1), .int (hg_I 0), .int (hg_I 120)]) (n := 3) B dX5_run_9 (c_X5_in q3) (gl_S (wl_5 14 rfl) (wl_5 15 rfl) (wl_1 5 rfl) (wl_5 16 rfl)) rfl ⟨rfl, rfl⟩ (by decide +kernel) ⟨Nat.le_of_ble_eq_true rfl, Nat.le_of_ble_eq_true rfl⟩ rfl rfl (Nat.le_of_ble_eq_true rfl) ?_
  refine z_if_eq (tgt := 43) B dX5_run_12 (by decide) h (fun h => ?_) (fun h => ?_)
  · refine z_bipush B dX5_run_43 (by decide) ?_
    exact z_iret B hr dX5_run_45 h
  · refine z_iload_n B 3 dX5_run_15 rfl rfl ?_
    refine z_iconst B dX5_run_16 ?_
    refine z_iconst B dX5_run_17 ?_
    obtain ⟨w4, v5, q6, h⟩ := hg_bd_some h
    refine z_calliS (As := [.int (hg_I a2), .int (hg_I 0), .int (hg_I 2)]) (n := 3) B dX5_run_18 (c_X5_in q6) (gl_S (wl_5 14 rfl) (wl_5 15 rfl) (wl_1 5 rfl) (wl_5 16 rfl)) rfl ⟨rfl, rfl⟩ (by decide +kernel) ⟨Nat.le_of_ble_eq_true rfl, Nat.le_of_ble_eq_true rfl⟩ rfl rfl (Nat.le_of_ble_eq_true rfl) ?_
    refine z_if_ne (tgt := 46) B dX5_run_21 (by decide) h (fun h => ?_) (fun h => ?_)
    · refine z_lv (lv' := [(0, .ref (ad 0)), (1, .int (hg_I a1)), (2, .int (hg_I a2)), (3, .int (hg_I (hg_rm a2 10)))]) B [1, 2, 3, 0] rfl ?_
      exact rX5_run_46 B hr _ _ _ _ h
    · refine z_iload_n B 3 dX5_run_24 rfl rfl ?_
      refine z_bipush B dX5_run_25 (by decide) ?_
      refine z_bipush B dX5_run_27 (by decide) ?_
      obtain ⟨w7, v8, q9, h⟩ := hg_bd_some h
      refine z_calliS (As := [.int (hg_I a2), .int (hg_I 10), .int (hg_I 39)]) (n := 3) B dX5_run_29 (c_X5_in q9) (gl_S (wl_5 14 rfl) (wl_5 15 rfl) (wl_1 5 rfl) (wl_5 16 rfl)) rfl ⟨rfl, rfl⟩ (by decide +kernel) ⟨Nat.le_of_ble_eq_true rfl, Nat.le_of_ble_eq_true rfl⟩ rfl rfl (Nat.le_of_ble_eq_true rfl) ?_
      refine z_if_eq (tgt := 43) B dX5_run_32 (by decide) h (fun h => ?_) (fun h => ?_)
      · refine z_bipush B dX5_run_43 (by decide) ?_
        exact z_iret B hr dX5_run_45 h
      · refine z_aload_n B 1 dX5_run_35 rfl rfl ?_
        refine z_iload_n B 0 dX5_run_36 rfl rfl ?_
        obtain ⟨w10, v11, q12, h⟩ := hg_bd_some h
        refine z_calliV (a := 0) (ci := 5) (N := 37) (T := TX5) (C := RX5) (As := [.int (hg_I (hg_rm a2 10))]) (n := 1) B dX5_run_37 (c_X5_isOne q12) (gl_V (wl_17 2 rfl) (wl_17 3 rfl) (wl_17 4 rfl) (wl_1 5 rfl) (wl_17 5 rfl)) rfl ⟨rfl, rfl⟩ (by decide +kernel) ⟨Nat.le_of_ble_eq_true rfl, Nat.le_of_ble_eq_true rfl⟩ (by decide) rfl (by decide) rfl rfl rfl (Nat.le_of_ble_eq_true rfl) ?_
        refine z_if_ne (tgt := 46) B dX5_run_40 (by decide) h (fun h => ?_) (fun h => ?_)
        · refine z_lv (lv' := [(0, .ref (ad 0)), (1, .int (hg_I a1)), (2, .int (hg_I a2)), (3, .int (hg_I (hg_rm a2 10)))]) B [1, 2, 3, 0] rfl ?_
          exact rX5_run_46 B hr _ _ _ _ h
        · refine z_bipush B dX5_run_43 (by decide) ?_
          exact z_iret B hr dX5_run_45 h
set_option maxHeartbeats 4000000 in
set_option maxRecDepth 100000 in
theorem c_X5_run {l : Launch} {D : va_G} {cI cA : ClassId} {ad : Nat → Nat} {a1 : Int} {a2 : Int} {w w1 : hg_W} {r1 : Int} (h : fX5_run w a1 a2 = some (w1, r1)) : hg_Mi l yX5_run wxX5_run rmX5_run D cI cA ad 1 w [.ref (ad 0), .int (hg_I a1), .int (hg_I a2)] w1 r1 := by
  refine z_meti cX5_run 5 (some .int) (by decide) (Nat.le_of_ble_eq_true rfl) ?_
  intro p e s m args below meth c A B hr
  exact rX5_run_E B hr h
abbrev wxX5_mostBy : List Cond := Cond.code yX5_mostBy cX5_mostBy 6 (some .int) :: wsL_law
def fX5_mostBy_75 (K7 : hg_W → Int → Int → Int → Int → Option (hg_W × Int))  (w : hg_W) (x1 : Int) (x2 : Int) (x4 : Int) (s0 : Int) : Option (hg_W × Int) :=
  K7 w x1 x2 s0 (x4 + 1)
def fX5_mostBy_54 (K7 : hg_W → Int → Int → Int → Int → Option (hg_W × Int))  (w : hg_W) (x1 : Int) (x3 : Int) (x4 : Int) (x5 : Int) (s0 : Int) : Option (hg_W × Int) :=
  if wr x5 = 0 then
    (
      fX5_mostBy_75 K7 w x1 s0 x4 x3
    )
  else
    (hg_ag 1 w 3 ((3 * x4) + x1)).bind fun v1 =>
    fX5_mostBy_75 K7 w x1 s0 x4 v1
def fX5_mostBy_41 (K7 : hg_W → Int → Int → Int → Int → Option (hg_W × Int))  (w : hg_W) (x1 : Int) (x2 : Int) (x3 : Int) (x4 : Int) (s0 : Int) : Option (hg_W × Int) :=
  if wr s0 = 0 then
    (
      fX5_mostBy_54 K7 w x1 x3 x4 s0 x2
    )
  else
    fX5_mostBy_54 K7 w x1 x3 x4 s0 x4
def fX5_mostBy_36 (K7 : hg_W → Int → Int → Int → Int → Option (hg_W × Int))  (w : hg_W) (x1 : Int) (x2 : Int) (x3 : Int) (x4 : Int) : Option (hg_W × Int) :=
  fX5_mostBy_41 K7 w x1 x2 x3 x4 1
def fX5_mostBy_7   : Nat → hg_W → Int → Int → Int → Int → Option (hg_W × Int)
  | 0, _, _, _, _, _ => none
  | n + 1, w, x1, x2, x3, x4 =>
    if wr (w 0 0) ≤ wr x4 then
      (
        some (w, wr x2)
      )
    else
      if wr x2 = wr (-1) then
        (
          fX5_mostBy_36 (fX5_mostBy_7 n) w x1 x2 x3 x4
        )
      else
        (hg_ag 1 w 3 ((3 * x4) + x1)).bind fun v1 =>
        if wr v1 ≤ wr x3 then
          (
            fX5_mostBy_41 (fX5_mostBy_7 n) w x1 x2 x3 x4 0
          )
        else
          fX5_mostBy_36 (fX5_mostBy_7 n) w x1 x2 x3 x4
def fX5_mostBy (w : hg_W) (a1 : Int) : Option (hg_W × Int) :=
  fX5_mostBy_7 hg_F w a1 (-1) 0 0
set_option maxHeartbeats 4000000 in
set_option maxRecDepth 100000 in
abbrev rmX5_mostBy : Room := { frames := 0, cells := 0, slots := 0, locals := 0 }
set_option maxHeartbeats 4000000 in
set_option maxRecDepth 100000 in
theorem rX5_mostBy_75 (B : hg_B p s m args meth c cX5_mostBy RX5 wsL_law 6 D cI cA ad 1 A) (hr : meth.sig.returnType = (some .int)) {w1 : hg_W} {r1 : Int} {K7 : hg_W → Int → Int → Int → Int → Option (hg_W × Int)} (hK7 : ∀ (w : hg_W) (x1 : Int) (x2 : Int) (x3 : Int) (x4 : Int), K7 w x1 x2 x3 x4 = some (w1, r1) → hg_At p l e (rmX5_mostBy) s m args below meth c D cI cA ad 1 A (MQ below (hg_Qi D cI cA ad 1 A w1 r1) args s 0 0 A) 6 w [(0, .ref (ad 0)), (1, .int (hg_I x1)), (2, .int (hg_I x2)), (3, .int (hg_I x3)), (4, .int (hg_I x4))] 7 []) : ∀ (w : hg_W) (x1 : Int) (x2 : Int) (x4 : Int) (s0 : Int), fX5_mostBy_75 K7 w x1 x2 x4 s0 = some (w1, r1) → hg_At p l e (rmX5_mostBy) s m args below meth c D cI cA ad 1 A (MQ below (hg_Qi D cI cA ad 1 A w1 r1) args s 0 0 A) 6 w [(0, .ref (ad 0)), (1, .int (hg_I x1)), (2, .int (hg_I x2)), (4, .int (hg_I x4))] 75 [.int (hg_I s0)] := by
  intro w x1 x2 x4 s0 h
  unfold fX5_mostBy_75 at h
  refine z_istore_n B [(3, .int (hg_I s0)), (0, .ref (ad 0)), (1, .int (hg_I x1)), (2, .int (hg_I x2)), (4, .int (hg_I x4))] dX5_mostBy_75 rfl (by decide) rfl ?_
  refine z_iinc B 4 [(4, .int (hg_I (x4 + 1))), (3, .int (hg_I s0)), (0, .ref (ad 0)), (1, .int (hg_I x1)), (2, .int (hg_I x2))] dX5_mostBy_76 rfl (by decide) rfl ?_
  refine z_goto (tgt := 7) B dX5_mostBy_79 (by decide) ?_
  refine z_lv (lv' := [(0, .ref (ad 0)), (1, .int (hg_I x1)), (2, .int (hg_I x2)), (3, .int (hg_I s0)), (4, .int (hg_I (x4 + 1)))]) B [2, 3, 4, 1, 0] rfl ?_
  exact hK7 _ _ _ _ _ h
set_option maxHeartbeats 4000000 in
set_option maxRecDepth 100000 in
theorem rX5_mostBy_54 (B : hg_B p s m args meth c cX5_mostBy RX5 wsL_law 6 D cI cA ad 1 A) (hr : meth.sig.returnType = (some .int)) {w1 : hg_W} {r1 : Int} {K7 : hg_W → Int → Int → Int → Int → Option (hg_W × Int)} (hK7 : ∀ (w : hg_W) (x1 : Int) (x2 : Int) (x3 : Int) (x4 : Int), K7 w x1 x2 x3 x4 = some (w1, r1) → hg_At p l e (rmX5_mostBy) s m args below meth c D cI cA ad 1 A (MQ below (hg_Qi D cI cA ad 1 A w1 r1) args s 0 0 A) 6 w [(0, .ref (ad 0)), (1, .int (hg_I x1)), (2, .int (hg_I x2)), (3, .int (hg_I x3)), (4, .int (hg_I x4))] 7 []) : ∀ (w : hg_W) (x1 : Int) (x3 : Int) (x4 : Int) (x5 : Int) (s0 : Int), fX5_mostBy_54 K7 w x1 x3 x4 x5 s0 = some (w1, r1) → hg_At p l e (rmX5_mostBy) s m args below meth c D cI cA ad 1 A (MQ below (hg_Qi D cI cA ad 1 A w1 r1) args s 0 0 A) 6 w [(0, .ref (ad 0)), (1, .int (hg_I x1)), (3, .int (hg_I x3)), (4, .int (hg_I x4)), (5, .int (hg_I x5))] 54 [.int (hg_I s0)] := by
  intro w x1 x3 x4 x5 s0 h
  unfold fX5_mostBy_54 at h
  refine z_istore_n B [(2, .int (hg_I s0)), (0, .ref (ad 0)), (1, .int (hg_I x1)), (3, .int (hg_I x3)), (4, .int (hg_I x4)), (5, .int (hg_I x5))] dX5_mostBy_54 rfl (by decide) rfl ?_
  refine z_iload B 5 dX5_mostBy_55 rfl ?_
  refine z_if_eq (tgt := 74) B dX5_mostBy_57 (by decide) h (fun h => ?_) (fun h => ?_)
  · refine z_iload_n B 3 dX5_mostBy_74 rfl rfl ?_
    refine z_lv (lv' := [(0, .ref (ad 0)), (1, .int (hg_I x1)), (2, .int (hg_I s0)), (4, .int (hg_I x4))]) B [1, 2, 0, 4] rfl ?_
    exact rX5_mostBy_75 B hr hK7 _ _ _ _ _ h
  · refine z_aload_n B 1 dX5_mostBy_60 rfl rfl ?_
    refine z_get5 (v := .ref (ad 3)) B 3 dX5_mostBy_61 inlX5 (by decide) rfl (by decide) (wl_4 4 rfl) rfl rfl ?_
    refine z_iconst B dX5_mostBy_64 ?_
    refine z_iload B 4 dX5_mostBy_65 rfl ?_
    refine z_imul B dX5_mostBy_67 ?_
    refine z_iload_n B 2 dX5_mostBy_68 rfl rfl ?_
    refine z_iadd B dX5_mostBy_69 ?_
    obtain ⟨v1, q2, h⟩ := Option.bind_eq_some_iff.mp h
    refine z_iald (Or.inr rfl) B dX5_mostBy_70 q2 ?_
    refine z_goto (tgt := 75) B dX5_mostBy_71 (by decide) ?_
    refine z_lv (lv' := [(0, .ref (ad 0)), (1, .int (hg_I x1)), (2, .int (hg_I s0)), (4, .int (hg_I x4))]) B [1, 2, 0, 4] rfl ?_
    exact rX5_mostBy_75 B hr hK7 _ _ _ _ _ h
set_option maxHeartbeats 4000000 in
set_option maxRecDepth 100000 in
theorem rX5_mostBy_41 (B : hg_B p s m args meth c cX5_mostBy RX5 wsL_law 6 D cI cA ad 1 A) (hr : meth.sig.returnType = (some .int)) {w1 : hg_W} {r1 : Int} {K7 : hg_W → Int → Int → Int → Int → Option (hg_W × Int)} (hK7 : ∀ (w : hg_W) (x1 : Int) (x2 : Int) (x3 : Int) (x4 : Int), K7 w x1 x2 x3 x4 = some (w1, r1) → hg_At p l e (rmX5_mostBy) s m args below meth c D cI cA ad 1 A (MQ below (hg_Qi D cI cA ad 1 A w1 r1) args s 0 0 A) 6 w [(0, .ref (ad 0)), (1, .int (hg_I x1)), (2, .int (hg_I x2)), (3, .int (hg_I x3)), (4, .int (hg_I x4))] 7 []) : ∀ (w : hg_W) (x1 : Int) (x2 : Int) (x3 : Int) (x4 : Int) (s0 : Int), fX5_mostBy_41 K7 w x1 x2 x3 x4 s0 = some (w1, r1) → hg_At p l e (rmX5_mostBy) s m args below meth c D cI cA ad 1 A (MQ below (hg_Qi D cI cA ad 1 A w1 r1) args s 0 0 A) 6 w [(0, .ref (ad 0)), (1, .int (hg_I x1)), (2, .int (hg_I x2)), (3, .int (hg_I x3)), (4, .int (hg_I x4))] 41 [.int (hg_I s0)] := by
  intro w x1 x2 x3 x4 s0 h
  unfold fX5_mostBy_41 at h
  refine z_istore B [(5, .int (hg_I s0)), (0, .ref (ad 0)), (1, .int (hg_I x1)), (2, .int (hg_I x2)), (3, .int (hg_I x3)), (4, .int (hg_I x4))] dX5_mostBy_41 (by decide) rfl ?_
  refine z_iload B 0 dX5_mostBy_43 rfl ?_
  refine z_if_eq (tgt := 53) B dX5_mostBy_45 (by decide) h (fun h => ?_) (fun h => ?_)
  · refine z_iload_n B 3 dX5_mostBy_53 rfl rfl ?_
    refine z_lv (lv' := [(0, .ref (ad 0)), (1, .int (hg_I x1)), (3, .int (hg_I x3)), (4, .int (hg_I x4)), (5, .int (hg_I s0))]) B [1, 2, 4, 5, 0] rfl ?_
    exact rX5_mostBy_54 B hr hK7 _ _ _ _ _ _ h
  · refine z_iload B 5 dX5_mostBy_48 rfl ?_
    refine z_goto (tgt := 54) B dX5_mostBy_50 (by decide) ?_
    refine z_lv (lv' := [(0, .ref (ad 0)), (1, .int (hg_I x1)), (3, .int (hg_I x3)), (4, .int (hg_I x4)), (5, .int (hg_I s0))]) B [1, 2, 4, 5, 0] rfl ?_
    exact rX5_mostBy_54 B hr hK7 _ _ _ _ _ _ h
set_option maxHeartbeats 4000000 in
set_option maxRecDepth 100000 in
theorem rX5_mostBy_36 (B : hg_B p s m args meth c cX5_mostBy RX5 wsL_law 6 D cI cA ad 1 A) (hr : meth.sig.returnType = (some .int)) {w1 : hg_W} {r1 : Int} {K7 : hg_W → Int → Int → Int → Int → Option (hg_W × Int)} (hK7 : ∀ (w : hg_W) (x1 : Int) (x2 : Int) (x3 : Int) (x4 : Int), K7 w x1 x2 x3 x4 = some (w1, r1) → hg_At p l e (rmX5_mostBy) s m args below meth c D cI cA ad 1 A (MQ below (hg_Qi D cI cA ad 1 A w1 r1) args s 0 0 A) 6 w [(0, .ref (ad 0)), (1, .int (hg_I x1)), (2, .int (hg_I x2)), (3, .int (hg_I x3)), (4, .int (hg_I x4))] 7 []) : ∀ (w : hg_W) (x1 : Int) (x2 : Int) (x3 : Int) (x4 : Int), fX5_mostBy_36 K7 w x1 x2 x3 x4 = some (w1, r1) → hg_At p l e (rmX5_mostBy) s m args below meth c D cI cA ad 1 A (MQ below (hg_Qi D cI cA ad 1 A w1 r1) args s 0 0 A) 6 w [(0, .ref (ad 0)), (1, .int (hg_I x1)), (2, .int (hg_I x2)), (3, .int (hg_I x3)), (4, .int (hg_I x4))] 36 [] := by
  intro w x1 x2 x3 x4 h
  unfold fX5_mostBy_36 at h
  refine z_iconst B dX5_mostBy_36 ?_
  refine z_goto (tgt := 41) B dX5_mostBy_37 (by decide) ?_
  exact rX5_mostBy_41 B hr hK7 _ _ _ _ _ _ h
set_option maxHeartbeats 4000000 in
set_option maxRecDepth 100000 in
theorem rX5_mostBy_7 (B : hg_B p s m args meth c cX5_mostBy RX5 wsL_law 6 D cI cA ad 1 A) (hr : meth.sig.returnType = (some .int)) {w1 : hg_W} {r1 : Int} : ∀ (n : Nat), ∀ (w : hg_W) (x1 : Int) (x2 : Int) (x3 : Int) (x4 : Int), fX5_mostBy_7 n w x1 x2 x3 x4 = some (w1, r1) → hg_At p l e (rmX5_mostBy) s m args below meth c D cI cA ad 1 A (MQ below (hg_Qi D cI cA ad 1 A w1 r1) args s 0 0 A) 6 w [(0, .ref (ad 0)), (1, .int (hg_I x1)), (2, .int (hg_I x2)), (3, .int (hg_I x3)), (4, .int (hg_I x4))] 7 [] := by
  intro n
  induction n with
  | zero =>
    intro w x1 x2 x3 x4 h
    cases h
  | succ n ih =>
    intro w x1 x2 x3 x4 h
    simp only [fX5_mostBy_7] at h
    refine z_iload B 4 dX5_mostBy_7 rfl ?_
    refine z_aload_n B 0 dX5_mostBy_9 rfl rfl ?_
    refine z_get5 (v := .int (hg_I (w 0 0))) B 0 dX5_mostBy_10 inlX5 (by decide) rfl (by decide) (wl_7 22 rfl) rfl rfl ?_
    refine z_icmp_ge (tgt := 82) B dX5_mostBy_13 (by decide) h (fun h => ?_) (fun h => ?_)
    · refine z_iload_n B 2 dX5_mostBy_82 rfl rfl ?_
      exact z_iret B hr dX5_mostBy_83 h
    · refine z_iload_n B 2 dX5_mostBy_16 rfl rfl ?_
      refine z_iconst B dX5_mostBy_17 ?_
      refine z_icmp_eq (tgt := 36) B dX5_mostBy_18 (by decide) h (fun h => ?_) (fun h => ?_)
      · exact rX5_mostBy_36 B hr ih _ _ _ _ _ h
      · refine z_aload_n B 0 dX5_mostBy_21 rfl rfl ?_
        refine z_get5 (v := .ref (ad 3)) B 3 dX5_mostBy_22 inlX5 (by decide) rfl (by decide) (wl_4 4 rfl) rfl rfl ?_
        refine z_iconst B dX5_mostBy_25 ?_
        refine z_iload B 4 dX5_mostBy_26 rfl ?_
        refine z_imul B dX5_mostBy_28 ?_
        refine z_iload_n B 1 dX5_mostBy_29 rfl rfl ?_
        refine z_iadd B dX5_mostBy_30 ?_
        obtain ⟨v1, q2, h⟩ := Option.bind_eq_some_iff.mp h
        refine z_iald (Or.inr rfl) B dX5_mostBy_31 q2 ?_
        refine z_iload_n B 3 dX5_mostBy_32 rfl rfl ?_
        refine z_icmp_le (tgt := 40) B dX5_mostBy_33 (by decide) h (fun h => ?_) (fun h => ?_)
        · refine z_iconst B dX5_mostBy_40 ?_
          exact rX5_mostBy_41 B hr ih _ _ _ _ _ _ h
        · exact rX5_mostBy_36 B hr ih _ _ _ _ _ h
set_option maxHeartbeats 4000000 in
set_option maxRecDepth 100000 in
theorem rX5_mostBy_E (B : hg_B p s m args meth c cX5_mostBy RX5 wsL_law 6 D cI cA ad 1 A) (hr : meth.sig.returnType = (some .int)) {a1 : Int} {w1 : hg_W} {r1 : Int} {w : hg_W} (h : fX5_mostBy w a1 = some (w1, r1)) : hg_At p l e (rmX5_mostBy) s m args below meth c D cI cA ad 1 A (MQ below (hg_Qi D cI cA ad 1 A w1 r1) args s 0 0 A) 6 w [(0, .ref (ad 0)), (1, .int (hg_I a1))] 0 [] := by
  unfold fX5_mostBy at h
  refine z_iconst B dX5_mostBy_0 ?_
  refine z_istore_n B [(2, .int (hg_I (-1))), (0, .ref (ad 0)), (1, .int (hg_I a1))] dX5_mostBy_1 rfl (by decide) rfl ?_
  refine z_iconst B dX5_mostBy_2 ?_
  refine z_istore_n B [(3, .int (hg_I 0)), (2, .int (hg_I (-1))), (0, .ref (ad 0)), (1, .int (hg_I a1))] dX5_mostBy_3 rfl (by decide) rfl ?_
  refine z_iconst B dX5_mostBy_4 ?_
  refine z_istore B [(4, .int (hg_I 0)), (3, .int (hg_I 0)), (2, .int (hg_I (-1))), (0, .ref (ad 0)), (1, .int (hg_I a1))] dX5_mostBy_5 (by decide) rfl ?_
  refine z_lv (lv' := [(0, .ref (ad 0)), (1, .int (hg_I a1)), (2, .int (hg_I (-1))), (3, .int (hg_I 0)), (4, .int (hg_I 0))]) B [3, 4, 2, 1, 0] rfl ?_
  exact rX5_mostBy_7 B hr hg_F _ _ _ _ _ h
set_option maxHeartbeats 4000000 in
set_option maxRecDepth 100000 in
theorem c_X5_mostBy {l : Launch} {D : va_G} {cI cA : ClassId} {ad : Nat → Nat} {a1 : Int} {w w1 : hg_W} {r1 : Int} (h : fX5_mostBy w a1 = some (w1, r1)) : hg_Mi l yX5_mostBy wxX5_mostBy rmX5_mostBy D cI cA ad 1 w [.ref (ad 0), .int (hg_I a1)] w1 r1 := by
  refine z_meti cX5_mostBy 6 (some .int) (by decide) (Nat.le_of_ble_eq_true rfl) ?_
  intro p e s m args below meth c A B hr
  exact rX5_mostBy_E B hr h
abbrev wxX5_end : List Cond := Cond.code yX5_end cX5_end 4 (some .int) :: wsL_law
def fX5_end_36   (w : hg_W) (s0 : Int) : Option (hg_W × Int) :=
  hg_bd (fX5_lays w) fun w1 _ =>
  some (w1, wr s0)
def fX5_end (w : hg_W) (a1 : Int) : Option (hg_W × Int) :=
  hg_bd (fX5_in w a1 0 2) fun w1 v2 =>
  if wr v2 = 0 then
    (
      some (w1, wr (-2))
    )
  else
    hg_bd (fX5_keeps w1) fun w4 _ =>
    hg_bd (fX5_goes w4 120) fun w7 v8 =>
    if wr a1 = 0 then
      (
        fX5_end_36 w7 v8
      )
    else
      hg_bd (fX5_mostBy w7 a1) fun w10 v11 =>
      fX5_end_36 w10 v11
set_option maxHeartbeats 4000000 in
set_option maxRecDepth 100000 in
abbrev rmX5_end : Room := { frames := 8, cells := 0, slots := 0, locals := 189 }
set_option maxHeartbeats 4000000 in
set_option maxRecDepth 100000 in
theorem rX5_end_36 (B : hg_B p s m args meth c cX5_end RX5 wsL_law 4 D cI cA ad 1 A) (hr : meth.sig.returnType = (some .int)) {w1 : hg_W} {r1 : Int} : ∀ (w : hg_W) (s0 : Int), fX5_end_36 w s0 = some (w1, r1) → hg_At p l e (rmX5_end) s m args below meth c D cI cA ad 1 A (MQ below (hg_Qi D cI cA ad 1 A w1 r1) args s 0 0 A) 4 w [(0, .ref (ad 0))] 36 [.int (hg_I s0)] := by
  intro w s0 h
  unfold fX5_end_36 at h
  refine z_istore_n B [(3, .int (hg_I s0)), (0, .ref (ad 0))] dX5_end_36 rfl (by decide) rfl ?_
  refine z_aload_n B 1 dX5_end_37 rfl rfl ?_
  obtain ⟨w1, v2, q3, h⟩ := hg_bd_some h
  refine z_callvV (a := 0) (ci := 5) (N := 37) (T := TX5) (C := RX5) (As := []) (n := 0) B dX5_end_38 (c_X5_lays q3) (gl_V (wl_24 2 rfl) (wl_24 3 rfl) (wl_24 4 rfl) (wl_1 5 rfl) (wl_24 5 rfl)) rfl ⟨rfl, rfl⟩ (by decide +kernel) ⟨Nat.le_of_ble_eq_true rfl, Nat.le_of_ble_eq_true rfl⟩ (by decide) rfl (by decide) rfl rfl rfl (Nat.le_of_ble_eq_true rfl) ?_
  refine z_iload_n B 0 dX5_end_41 rfl rfl ?_
  exact z_iret B hr dX5_end_42 h
set_option maxHeartbeats 4000000 in
set_option maxRecDepth 100000 in
theorem rX5_end_E (B : hg_B p s m args meth c cX5_end RX5 wsL_law 4 D cI cA ad 1 A) (hr : meth.sig.returnType = (some .int)) {a1 : Int} {w1 : hg_W} {r1 : Int} {w : hg_W} (h : fX5_end w a1 = some (w1, r1)) : hg_At p l e (rmX5_end) s m args below meth c D cI cA ad 1 A (MQ below (hg_Qi D cI cA ad 1 A w1 r1) args s 0 0 A) 4 w [(0, .ref (ad 0)), (1, .int (hg_I a1))] 0 [] := by
  unfold fX5_end at h
  refine z_iload_n B 1 dX5_end_0 rfl rfl ?_
  refine z_iconst B dX5_end_1 ?_
  refine z_iconst B dX5_end_2 ?_
  obtain ⟨w1, v2, q3, h⟩ := hg_bd_some h
  refine z_calliS (As := [.int (hg_I a1), .int (hg_I 0), .int (hg_I 2)]) (n := 3) B dX5_end_3 (c_X5_in q3) (gl_S (wl_5 14 rfl) (wl_5 15 rfl) (wl_1 5 rfl) (wl_5 16 rfl)) rfl ⟨rfl, rfl⟩ (by decide +kernel) ⟨Nat.le_of_ble_eq_true rfl, Nat.le_of_ble_eq_true rfl⟩ rfl rfl (Nat.le_of_ble_eq_true rfl) ?_
  refine z_if_ne (tgt := 12) B dX5_end_6 (by decide) h (fun h => ?_) (fun h => ?_)
  · refine z_aload_n B 0 dX5_end_12 rfl rfl ?_
    obtain ⟨w4, v5, q6, h⟩ := hg_bd_some h
    refine z_callvV (a := 0) (ci := 5) (N := 37) (T := TX5) (C := RX5) (As := []) (n := 0) B dX5_end_13 (c_X5_keeps q6) (gl_V (wl_23 18 rfl) (wl_23 19 rfl) (wl_23 20 rfl) (wl_1 5 rfl) (wl_23 21 rfl)) rfl ⟨rfl, rfl⟩ (by decide +kernel) ⟨Nat.le_of_ble_eq_true rfl, Nat.le_of_ble_eq_true rfl⟩ (by decide) rfl (by decide) rfl rfl rfl (Nat.le_of_ble_eq_true rfl) ?_
    refine z_aload_n B 0 dX5_end_16 rfl rfl ?_
    refine z_bipush B dX5_end_17 (by decide) ?_
    obtain ⟨w7, v8, q9, h⟩ := hg_bd_some h
    refine z_calliV (a := 0) (ci := 5) (N := 37) (T := TX5) (C := RX5) (As := [.int (hg_I 120)]) (n := 1) B dX5_end_19 (c_X5_goes q9) (gl_V (wl_23 22 rfl) (wl_23 23 rfl) (wl_24 0 rfl) (wl_1 5 rfl) (wl_24 1 rfl)) rfl ⟨rfl, rfl⟩ (by decide +kernel) ⟨Nat.le_of_ble_eq_true rfl, Nat.le_of_ble_eq_true rfl⟩ (by decide) rfl (by decide) rfl rfl rfl (Nat.le_of_ble_eq_true rfl) ?_
    refine z_istore_n B [(2, .int (hg_I v8)), (0, .ref (ad 0)), (1, .int (hg_I a1))] dX5_end_22 rfl (by decide) rfl ?_
    refine z_iload_n B 2 dX5_end_23 rfl rfl ?_
    refine z_if_ne (tgt := 31) B dX5_end_24 (by decide) h (fun h => ?_) (fun h => ?_)
    · refine z_aload_n B 1 dX5_end_31 rfl rfl ?_
      refine z_iload_n B 2 dX5_end_32 rfl rfl ?_
      obtain ⟨w10, v11, q12, h⟩ := hg_bd_some h
      refine z_calliV (a := 0) (ci := 5) (N := 37) (T := TX5) (C := RX5) (As := [.int (hg_I a1)]) (n := 1) B dX5_end_33 (c_X5_mostBy q12) (gl_V (wl_24 17 rfl) (wl_24 18 rfl) (wl_24 19 rfl) (wl_1 5 rfl) (wl_24 20 rfl)) rfl ⟨rfl, rfl⟩ (by decide +kernel) ⟨Nat.le_of_ble_eq_true rfl, Nat.le_of_ble_eq_true rfl⟩ (by decide) rfl (by decide) rfl rfl rfl (Nat.le_of_ble_eq_true rfl) ?_
      refine z_lv (lv' := [(0, .ref (ad 0))]) B [1] rfl ?_
      exact rX5_end_36 B hr _ _ h
    · refine z_iload_n B 0 dX5_end_27 rfl rfl ?_
      refine z_goto (tgt := 36) B dX5_end_28 (by decide) ?_
      refine z_lv (lv' := [(0, .ref (ad 0))]) B [1] rfl ?_
      exact rX5_end_36 B hr _ _ h
  · refine z_bipush B dX5_end_9 (by decide) ?_
    exact z_iret B hr dX5_end_11 h
set_option maxHeartbeats 4000000 in
set_option maxRecDepth 100000 in
theorem c_X5_end {l : Launch} {D : va_G} {cI cA : ClassId} {ad : Nat → Nat} {a1 : Int} {w w1 : hg_W} {r1 : Int} (h : fX5_end w a1 = some (w1, r1)) : hg_Mi l yX5_end wxX5_end rmX5_end D cI cA ad 1 w [.ref (ad 0), .int (hg_I a1)] w1 r1 := by
  refine z_meti cX5_end 4 (some .int) (by decide) (Nat.le_of_ble_eq_true rfl) ?_
  intro p e s m args below meth c A B hr
  exact rX5_end_E B hr h
abbrev wxX5_first : List Cond := Cond.code yX5_first cX5_first 8 (some .int) :: wsL_law
def fX5_first_116 (K35 : hg_W → Int → Int → Int → Int → Int → Option (hg_W × Int))  (w : hg_W) (x1 : Int) (x2 : Int) (x3 : Int) (x5 : Int) (s0 : Int) : Option (hg_W × Int) :=
  K35 w x1 x2 x3 s0 (x5 + 1)
def fX5_first_103 (K35 : hg_W → Int → Int → Int → Int → Int → Option (hg_W × Int))  (w : hg_W) (x1 : Int) (x2 : Int) (x4 : Int) (x5 : Int) (x6 : Int) (x7 : Int) (s0 : Int) : Option (hg_W × Int) :=
  if wr x7 = 0 then
    (
      fX5_first_116 K35 w x1 x2 s0 x5 x4
    )
  else
    fX5_first_116 K35 w x1 x2 s0 x5 x6
def fX5_first_90 (K35 : hg_W → Int → Int → Int → Int → Int → Option (hg_W × Int))  (w : hg_W) (x1 : Int) (x2 : Int) (x3 : Int) (x4 : Int) (x5 : Int) (x6 : Int) (s0 : Int) : Option (hg_W × Int) :=
  if wr s0 = 0 then
    (
      fX5_first_103 K35 w x1 x2 x4 x5 x6 s0 x3
    )
  else
    fX5_first_103 K35 w x1 x2 x4 x5 x6 s0 x5
def fX5_first_85 (K35 : hg_W → Int → Int → Int → Int → Int → Option (hg_W × Int))  (w : hg_W) (x1 : Int) (x2 : Int) (x3 : Int) (x4 : Int) (x5 : Int) (x6 : Int) : Option (hg_W × Int) :=
  fX5_first_90 K35 w x1 x2 x3 x4 x5 x6 1
def fX5_first_35   : Nat → hg_W → Int → Int → Int → Int → Int → Option (hg_W × Int)
  | 0, _, _, _, _, _, _ => none
  | n + 1, w, x1, x2, x3, x4, x5 =>
    if wr (w 0 0) ≤ wr x5 then
      (
        if wr x2 = 0 then
          (
            some (w, wr x3)
          )
        else
          some (w, wr x4)
      )
    else
      (hg_pt w 0 5 x5).bind fun w1 =>
      hg_bd (fX5_goes w1 120) fun w3 v4 =>
      (hg_ag 1 w3 3 ((3 * x1) + 1)).bind fun v6 =>
      hg_bd (fX5_lays w3) fun w8 _ =>
      if wr x3 = wr (-1) then
        (
          fX5_first_85 (fX5_first_35 n) w8 x1 x2 x3 x4 x5 v6
        )
      else
        if wr v6 ≤ wr x4 then
          (
            fX5_first_90 (fX5_first_35 n) w8 x1 x2 x3 x4 x5 v6 0
          )
        else
          fX5_first_85 (fX5_first_35 n) w8 x1 x2 x3 x4 x5 v6
def fX5_first (w : hg_W) (a1 : Int) (a2 : Int) : Option (hg_W × Int) :=
  hg_bd (fX5_isOne w a1) fun w1 v2 =>
  if wr v2 = 0 then
    (
      some (w1, wr (-5))
    )
  else
    hg_bd (fX5_in w1 a2 0 1) fun w4 v5 =>
    if wr v5 = 0 then
      (
        some (w4, wr (-7))
      )
    else
      hg_bd (fX5_keeps w4) fun w7 _ =>
      fX5_first_35 hg_F w7 a1 a2 (-1) 0 0
set_option maxHeartbeats 4000000 in
set_option maxRecDepth 100000 in
abbrev rmX5_first : Room := { frames := 8, cells := 0, slots := 0, locals := 189 }
set_option maxHeartbeats 4000000 in
set_option maxRecDepth 100000 in
theorem rX5_first_116 (B : hg_B p s m args meth c cX5_first RX5 wsL_law 8 D cI cA ad 1 A) (hr : meth.sig.returnType = (some .int)) {w1 : hg_W} {r1 : Int} {K35 : hg_W → Int → Int → Int → Int → Int → Option (hg_W × Int)} (hK35 : ∀ (w : hg_W) (x1 : Int) (x2 : Int) (x3 : Int) (x4 : Int) (x5 : Int), K35 w x1 x2 x3 x4 x5 = some (w1, r1) → hg_At p l e (rmX5_first) s m args below meth c D cI cA ad 1 A (MQ below (hg_Qi D cI cA ad 1 A w1 r1) args s 0 0 A) 8 w [(0, .ref (ad 0)), (1, .int (hg_I x1)), (2, .int (hg_I x2)), (3, .int (hg_I x3)), (4, .int (hg_I x4)), (5, .int (hg_I x5))] 35 []) : ∀ (w : hg_W) (x1 : Int) (x2 : Int) (x3 : Int) (x5 : Int) (s0 : Int), fX5_first_116 K35 w x1 x2 x3 x5 s0 = some (w1, r1) → hg_At p l e (rmX5_first) s m args below meth c D cI cA ad 1 A (MQ below (hg_Qi D cI cA ad 1 A w1 r1) args s 0 0 A) 8 w [(0, .ref (ad 0)), (1, .int (hg_I x1)), (2, .int (hg_I x2)), (3, .int (hg_I x3)), (5, .int (hg_I x5))] 116 [.int (hg_I s0)] := by
  intro w x1 x2 x3 x5 s0 h
  unfold fX5_first_116 at h
  refine z_istore B [(4, .int (hg_I s0)), (0, .ref (ad 0)), (1, .int (hg_I x1)), (2, .int (hg_I x2)), (3, .int (hg_I x3)), (5, .int (hg_I x5))] dX5_first_116 (by decide) rfl ?_
  refine z_iinc B 5 [(5, .int (hg_I (x5 + 1))), (4, .int (hg_I s0)), (0, .ref (ad 0)), (1, .int (hg_I x1)), (2, .int (hg_I x2)), (3, .int (hg_I x3))] dX5_first_118 rfl (by decide) rfl ?_
  refine z_goto (tgt := 35) B dX5_first_121 (by decide) ?_
  refine z_lv (lv' := [(0, .ref (ad 0)), (1, .int (hg_I x1)), (2, .int (hg_I x2)), (3, .int (hg_I x3)), (4, .int (hg_I s0)), (5, .int (hg_I (x5 + 1)))]) B [2, 3, 4, 5, 1, 0] rfl ?_
  exact hK35 _ _ _ _ _ _ h
set_option maxHeartbeats 4000000 in
set_option maxRecDepth 100000 in
theorem rX5_first_103 (B : hg_B p s m args meth c cX5_first RX5 wsL_law 8 D cI cA ad 1 A) (hr : meth.sig.returnType = (some .int)) {w1 : hg_W} {r1 : Int} {K35 : hg_W → Int → Int → Int → Int → Int → Option (hg_W × Int)} (hK35 : ∀ (w : hg_W) (x1 : Int) (x2 : Int) (x3 : Int) (x4 : Int) (x5 : Int), K35 w x1 x2 x3 x4 x5 = some (w1, r1) → hg_At p l e (rmX5_first) s m args below meth c D cI cA ad 1 A (MQ below (hg_Qi D cI cA ad 1 A w1 r1) args s 0 0 A) 8 w [(0, .ref (ad 0)), (1, .int (hg_I x1)), (2, .int (hg_I x2)), (3, .int (hg_I x3)), (4, .int (hg_I x4)), (5, .int (hg_I x5))] 35 []) : ∀ (w : hg_W) (x1 : Int) (x2 : Int) (x4 : Int) (x5 : Int) (x6 : Int) (x7 : Int) (s0 : Int), fX5_first_103 K35 w x1 x2 x4 x5 x6 x7 s0 = some (w1, r1) → hg_At p l e (rmX5_first) s m args below meth c D cI cA ad 1 A (MQ below (hg_Qi D cI cA ad 1 A w1 r1) args s 0 0 A) 8 w [(0, .ref (ad 0)), (1, .int (hg_I x1)), (2, .int (hg_I x2)), (4, .int (hg_I x4)), (5, .int (hg_I x5)), (6, .int (hg_I x6)), (7, .int (hg_I x7))] 103 [.int (hg_I s0)] := by
  intro w x1 x2 x4 x5 x6 x7 s0 h
  unfold fX5_first_103 at h
  refine z_istore_n B [(3, .int (hg_I s0)), (0, .ref (ad 0)), (1, .int (hg_I x1)), (2, .int (hg_I x2)), (4, .int (hg_I x4)), (5, .int (hg_I x5)), (6, .int (hg_I x6)), (7, .int (hg_I x7))] dX5_first_103 rfl (by decide) rfl ?_
  refine z_iload B 7 dX5_first_104 rfl ?_
  refine z_if_eq (tgt := 114) B dX5_first_106 (by decide) h (fun h => ?_) (fun h => ?_)
  · refine z_iload B 4 dX5_first_114 rfl ?_
    refine z_lv (lv' := [(0, .ref (ad 0)), (1, .int (hg_I x1)), (2, .int (hg_I x2)), (3, .int (hg_I s0)), (5, .int (hg_I x5))]) B [1, 2, 3, 0, 5] rfl ?_
    exact rX5_first_116 B hr hK35 _ _ _ _ _ _ h
  · refine z_iload B 6 dX5_first_109 rfl ?_
    refine z_goto (tgt := 116) B dX5_first_111 (by decide) ?_
    refine z_lv (lv' := [(0, .ref (ad 0)), (1, .int (hg_I x1)), (2, .int (hg_I x2)), (3, .int (hg_I s0)), (5, .int (hg_I x5))]) B [1, 2, 3, 0, 5] rfl ?_
    exact rX5_first_116 B hr hK35 _ _ _ _ _ _ h
set_option maxHeartbeats 4000000 in
set_option maxRecDepth 100000 in
theorem rX5_first_90 (B : hg_B p s m args meth c cX5_first RX5 wsL_law 8 D cI cA ad 1 A) (hr : meth.sig.returnType = (some .int)) {w1 : hg_W} {r1 : Int} {K35 : hg_W → Int → Int → Int → Int → Int → Option (hg_W × Int)} (hK35 : ∀ (w : hg_W) (x1 : Int) (x2 : Int) (x3 : Int) (x4 : Int) (x5 : Int), K35 w x1 x2 x3 x4 x5 = some (w1, r1) → hg_At p l e (rmX5_first) s m args below meth c D cI cA ad 1 A (MQ below (hg_Qi D cI cA ad 1 A w1 r1) args s 0 0 A) 8 w [(0, .ref (ad 0)), (1, .int (hg_I x1)), (2, .int (hg_I x2)), (3, .int (hg_I x3)), (4, .int (hg_I x4)), (5, .int (hg_I x5))] 35 []) : ∀ (w : hg_W) (x1 : Int) (x2 : Int) (x3 : Int) (x4 : Int) (x5 : Int) (x6 : Int) (s0 : Int), fX5_first_90 K35 w x1 x2 x3 x4 x5 x6 s0 = some (w1, r1) → hg_At p l e (rmX5_first) s m args below meth c D cI cA ad 1 A (MQ below (hg_Qi D cI cA ad 1 A w1 r1) args s 0 0 A) 8 w [(0, .ref (ad 0)), (1, .int (hg_I x1)), (2, .int (hg_I x2)), (3, .int (hg_I x3)), (4, .int (hg_I x4)), (5, .int (hg_I x5)), (6, .int (hg_I x6))] 90 [.int (hg_I s0)] := by
  intro w x1 x2 x3 x4 x5 x6 s0 h
  unfold fX5_first_90 at h
  refine z_istore B [(7, .int (hg_I s0)), (0, .ref (ad 0)), (1, .int (hg_I x1)), (2, .int (hg_I x2)), (3, .int (hg_I x3)), (4, .int (hg_I x4)), (5, .int (hg_I x5)), (6, .int (hg_I x6))] dX5_first_90 (by decide) rfl ?_
  refine z_iload B 0 dX5_first_92 rfl ?_
  refine z_if_eq (tgt := 102) B dX5_first_94 (by decide) h (fun h => ?_) (fun h => ?_)
  · refine z_iload_n B 4 dX5_first_102 rfl rfl ?_
    refine z_lv (lv' := [(0, .ref (ad 0)), (1, .int (hg_I x1)), (2, .int (hg_I x2)), (4, .int (hg_I x4)), (5, .int (hg_I x5)), (6, .int (hg_I x6)), (7, .int (hg_I s0))]) B [1, 2, 3, 5, 6, 7, 0] rfl ?_
    exact rX5_first_103 B hr hK35 _ _ _ _ _ _ _ _ h
  · refine z_iload B 6 dX5_first_97 rfl ?_
    refine z_goto (tgt := 103) B dX5_first_99 (by decide) ?_
    refine z_lv (lv' := [(0, .ref (ad 0)), (1, .int (hg_I x1)), (2, .int (hg_I x2)), (4, .int (hg_I x4)), (5, .int (hg_I x5)), (6, .int (hg_I x6)), (7, .int (hg_I s0))]) B [1, 2, 3, 5, 6, 7, 0] rfl ?_
    exact rX5_first_103 B hr hK35 _ _ _ _ _ _ _ _ h
set_option maxHeartbeats 4000000 in
set_option maxRecDepth 100000 in
theorem rX5_first_85 (B : hg_B p s m args meth c cX5_first RX5 wsL_law 8 D cI cA ad 1 A) (hr : meth.sig.returnType = (some .int)) {w1 : hg_W} {r1 : Int} {K35 : hg_W → Int → Int → Int → Int → Int → Option (hg_W × Int)} (hK35 : ∀ (w : hg_W) (x1 : Int) (x2 : Int) (x3 : Int) (x4 : Int) (x5 : Int), K35 w x1 x2 x3 x4 x5 = some (w1, r1) → hg_At p l e (rmX5_first) s m args below meth c D cI cA ad 1 A (MQ below (hg_Qi D cI cA ad 1 A w1 r1) args s 0 0 A) 8 w [(0, .ref (ad 0)), (1, .int (hg_I x1)), (2, .int (hg_I x2)), (3, .int (hg_I x3)), (4, .int (hg_I x4)), (5, .int (hg_I x5))] 35 []) : ∀ (w : hg_W) (x1 : Int) (x2 : Int) (x3 : Int) (x4 : Int) (x5 : Int) (x6 : Int), fX5_first_85 K35 w x1 x2 x3 x4 x5 x6 = some (w1, r1) → hg_At p l e (rmX5_first) s m args below meth c D cI cA ad 1 A (MQ below (hg_Qi D cI cA ad 1 A w1 r1) args s 0 0 A) 8 w [(0, .ref (ad 0)), (1, .int (hg_I x1)), (2, .int (hg_I x2)), (3, .int (hg_I x3)), (4, .int (hg_I x4)), (5, .int (hg_I x5)), (6, .int (hg_I x6))] 85 [] := by
  intro w x1 x2 x3 x4 x5 x6 h
  unfold fX5_first_85 at h
  refine z_iconst B dX5_first_85 ?_
  refine z_goto (tgt := 90) B dX5_first_86 (by decide) ?_
  exact rX5_first_90 B hr hK35 _ _ _ _ _ _ _ _ h
set_option maxHeartbeats 4000000 in
set_option maxRecDepth 100000 in
theorem rX5_first_35 (B : hg_B p s m args meth c cX5_first RX5 wsL_law 8 D cI cA ad 1 A) (hr : meth.sig.returnType = (some .int)) {w1 : hg_W} {r1 : Int} : ∀ (n : Nat), ∀ (w : hg_W) (x1 : Int) (x2 : Int) (x3 : Int) (x4 : Int) (x5 : Int), fX5_first_35 n w x1 x2 x3 x4 x5 = some (w1, r1) → hg_At p l e (rmX5_first) s m args below meth c D cI cA ad 1 A (MQ below (hg_Qi D cI cA ad 1 A w1 r1) args s 0 0 A) 8 w [(0, .ref (ad 0)), (1, .int (hg_I x1)), (2, .int (hg_I x2)), (3, .int (hg_I x3)), (4, .int (hg_I x4)), (5, .int (hg_I x5))] 35 [] := by
  intro n
  induction n with
  | zero =>
    intro w x1 x2 x3 x4 x5 h
    cases h
  | succ n ih =>
    intro w x1 x2 x3 x4 x5 h
    simp only [fX5_first_35] at h
    refine z_iload B 5 dX5_first_35 rfl ?_
    refine z_aload_n B 0 dX5_first_37 rfl rfl ?_
    refine z_get5 (v := .int (hg_I (w 0 0))) B 0 dX5_first_38 inlX5 (by decide) rfl (by decide) (wl_7 22 rfl) rfl rfl ?_
    refine z_icmp_ge (tgt := 124) B dX5_first_41 (by decide) h (fun h => ?_) (fun h => ?_)
    · refine z_iload_n B 2 dX5_first_124 rfl rfl ?_
      refine z_if_ne (tgt := 132) B dX5_first_125 (by decide) h (fun h => ?_) (fun h => ?_)
      · refine z_iload B 4 dX5_first_132 rfl ?_
        exact z_iret B hr dX5_first_134 h
      · refine z_iload_n B 3 dX5_first_128 rfl rfl ?_
        refine z_goto (tgt := 134) B dX5_first_129 (by decide) ?_
        exact z_iret B hr dX5_first_134 h
    · refine z_aload_n B 0 dX5_first_44 rfl rfl ?_
      refine z_iload B 5 dX5_first_45 rfl ?_
      obtain ⟨w1, q2, h⟩ := Option.bind_eq_some_iff.mp h
      refine z_put5 B 5 dX5_first_47 inlX5 (by decide) rfl (by decide) (wl_8 1 rfl) rfl rfl .int (by decide +kernel) rfl rfl hg_fs5_5 q2 ?_
      refine z_aload_n B 0 dX5_first_50 rfl rfl ?_
      refine z_bipush B dX5_first_51 (by decide) ?_
      obtain ⟨w3, v4, q5, h⟩ := hg_bd_some h
      refine z_calliV (a := 0) (ci := 5) (N := 37) (T := TX5) (C := RX5) (As := [.int (hg_I 120)]) (n := 1) B dX5_first_53 (c_X5_goes q5) (gl_V (wl_23 22 rfl) (wl_23 23 rfl) (wl_24 0 rfl) (wl_1 5 rfl) (wl_24 1 rfl)) rfl ⟨rfl, rfl⟩ (by decide +kernel) ⟨Nat.le_of_ble_eq_true rfl, Nat.le_of_ble_eq_true rfl⟩ (by decide) rfl (by decide) rfl rfl rfl (Nat.le_of_ble_eq_true rfl) ?_
      refine z_pop B dX5_first_56 rfl ?_
      refine z_aload_n B 0 dX5_first_57 rfl rfl ?_
      refine z_get5 (v := .ref (ad 3)) B 3 dX5_first_58 inlX5 (by decide) rfl (by decide) (wl_4 4 rfl) rfl rfl ?_
      refine z_iconst B dX5_first_61 ?_
      refine z_iload_n B 1 dX5_first_62 rfl rfl ?_
      refine z_imul B dX5_first_63 ?_
      refine z_iconst B dX5_first_64 ?_
      refine z_iadd B dX5_first_65 ?_
      obtain ⟨v6, q7, h⟩ := Option.bind_eq_some_iff.mp h
      refine z_iald (Or.inr rfl) B dX5_first_66 q7 ?_
      refine z_istore B [(6, .int (hg_I v6)), (0, .ref (ad 0)), (1, .int (hg_I x1)), (2, .int (hg_I x2)), (3, .int (hg_I x3)), (4, .int (hg_I x4)), (5, .int (hg_I x5))] dX5_first_67 (by decide) rfl ?_
      refine z_aload_n B 1 dX5_first_69 rfl rfl ?_
      obtain ⟨w8, v9, q10, h⟩ := hg_bd_some h
      refine z_callvV (a := 0) (ci := 5) (N := 37) (T := TX5) (C := RX5) (As := []) (n := 0) B dX5_first_70 (c_X5_lays q10) (gl_V (wl_24 2 rfl) (wl_24 3 rfl) (wl_24 4 rfl) (wl_1 5 rfl) (wl_24 5 rfl)) rfl ⟨rfl, rfl⟩ (by decide +kernel) ⟨Nat.le_of_ble_eq_true rfl, Nat.le_of_ble_eq_true rfl⟩ (by decide) rfl (by decide) rfl rfl rfl (Nat.le_of_ble_eq_true rfl) ?_
      refine z_iload_n B 4 dX5_first_73 rfl rfl ?_
      refine z_iconst B dX5_first_74 ?_
      refine z_icmp_eq (tgt := 85) B dX5_first_75 (by decide) h (fun h => ?_) (fun h => ?_)
      · refine z_lv (lv' := [(0, .ref (ad 0)), (1, .int (hg_I x1)), (2, .int (hg_I x2)), (3, .int (hg_I x3)), (4, .int (hg_I x4)), (5, .int (hg_I x5)), (6, .int (hg_I v6))]) B [1, 2, 3, 4, 5, 6, 0] rfl ?_
        exact rX5_first_85 B hr ih _ _ _ _ _ _ _ h
      · refine z_iload B 0 dX5_first_78 rfl ?_
        refine z_iload B 5 dX5_first_80 rfl ?_
        refine z_icmp_le (tgt := 89) B dX5_first_82 (by decide) h (fun h => ?_) (fun h => ?_)
        · refine z_iconst B dX5_first_89 ?_
          refine z_lv (lv' := [(0, .ref (ad 0)), (1, .int (hg_I x1)), (2, .int (hg_I x2)), (3, .int (hg_I x3)), (4, .int (hg_I x4)), (5, .int (hg_I x5)), (6, .int (hg_I v6))]) B [1, 2, 3, 4, 5, 6, 0] rfl ?_
          exact rX5_first_90 B hr ih _ _ _ _ _ _ _ _ h
        · refine z_lv (lv' := [(0, .ref (ad 0)), (1, .int (hg_I x1)), (2, .int (hg_I x2)), (3, .int (hg_I x3)), (4, .int (hg_I x4)), (5, .int (hg_I x5)), (6, .int (hg_I v6))]) B [1, 2, 3, 4, 5, 6, 0] rfl ?_
          exact rX5_first_85 B hr ih _ _ _ _ _ _ _ h
set_option maxHeartbeats 4000000 in
set_option maxRecDepth 100000 in
theorem rX5_first_E (B : hg_B p s m args meth c cX5_first RX5 wsL_law 8 D cI cA ad 1 A) (hr : meth.sig.returnType = (some .int)) {a1 : Int} {a2 : Int} {w1 : hg_W} {r1 : Int} {w : hg_W} (h : fX5_first w a1 a2 = some (w1, r1)) : hg_At p l e (rmX5_first) s m args below meth c D cI cA ad 1 A (MQ below (hg_Qi D cI cA ad 1 A w1 r1) args s 0 0 A) 8 w [(0, .ref (ad 0)), (1, .int (hg_I a1)), (2, .int (hg_I a2))] 0 [] := by
  unfold fX5_first at h
  refine z_aload_n B 0 dX5_first_0 rfl rfl ?_
  refine z_iload_n B 1 dX5_first_1 rfl rfl ?_
  obtain ⟨w1, v2, q3, h⟩ := hg_bd_some h
  refine z_calliV (a := 0) (ci := 5) (N := 37) (T := TX5) (C := RX5) (As := [.int (hg_I a1)]) (n := 1) B dX5_first_2 (c_X5_isOne q3) (gl_V (wl_17 2 rfl) (wl_17 3 rfl) (wl_17 4 rfl) (wl_1 5 rfl) (wl_17 5 rfl)) rfl ⟨rfl, rfl⟩ (by decide +kernel) ⟨Nat.le_of_ble_eq_true rfl, Nat.le_of_ble_eq_true rfl⟩ (by decide) rfl (by decide) rfl rfl rfl (Nat.le_of_ble_eq_true rfl) ?_
  refine z_if_ne (tgt := 11) B dX5_first_5 (by decide) h (fun h => ?_) (fun h => ?_)
  · refine z_iload_n B 2 dX5_first_11 rfl rfl ?_
    refine z_iconst B dX5_first_12 ?_
    refine z_iconst B dX5_first_13 ?_
    obtain ⟨w4, v5, q6, h⟩ := hg_bd_some h
    refine z_calliS (As := [.int (hg_I a2), .int (hg_I 0), .int (hg_I 1)]) (n := 3) B dX5_first_14 (c_X5_in q6) (gl_S (wl_5 14 rfl) (wl_5 15 rfl) (wl_1 5 rfl) (wl_5 16 rfl)) rfl ⟨rfl, rfl⟩ (by decide +kernel) ⟨Nat.le_of_ble_eq_true rfl, Nat.le_of_ble_eq_true rfl⟩ rfl rfl (Nat.le_of_ble_eq_true rfl) ?_
    refine z_if_ne (tgt := 23) B dX5_first_17 (by decide) h (fun h => ?_) (fun h => ?_)
    · refine z_iconst B dX5_first_23 ?_
      refine z_istore_n B [(3, .int (hg_I (-1))), (0, .ref (ad 0)), (1, .int (hg_I a1)), (2, .int (hg_I a2))] dX5_first_24 rfl (by decide) rfl ?_
      refine z_iconst B dX5_first_25 ?_
      refine z_istore B [(4, .int (hg_I 0)), (3, .int (hg_I (-1))), (0, .ref (ad 0)), (1, .int (hg_I a1)), (2, .int (hg_I a2))] dX5_first_26 (by decide) rfl ?_
      refine z_aload_n B 2 dX5_first_28 rfl rfl ?_
      obtain ⟨w7, v8, q9, h⟩ := hg_bd_some h
      refine z_callvV (a := 0) (ci := 5) (N := 37) (T := TX5) (C := RX5) (As := []) (n := 0) B dX5_first_29 (c_X5_keeps q9) (gl_V (wl_23 18 rfl) (wl_23 19 rfl) (wl_23 20 rfl) (wl_1 5 rfl) (wl_23 21 rfl)) rfl ⟨rfl, rfl⟩ (by decide +kernel) ⟨Nat.le_of_ble_eq_true rfl, Nat.le_of_ble_eq_true rfl⟩ (by decide) rfl (by decide) rfl rfl rfl (Nat.le_of_ble_eq_true rfl) ?_
      refine z_iconst B dX5_first_32 ?_
      refine z_istore B [(5, .int (hg_I 0)), (4, .int (hg_I 0)), (3, .int (hg_I (-1))), (0, .ref (ad 0)), (1, .int (hg_I a1)), (2, .int (hg_I a2))] dX5_first_33 (by decide) rfl ?_
      refine z_lv (lv' := [(0, .ref (ad 0)), (1, .int (hg_I a1)), (2, .int (hg_I a2)), (3, .int (hg_I (-1))), (4, .int (hg_I 0)), (5, .int (hg_I 0))]) B [3, 4, 5, 2, 1, 0] rfl ?_
      exact rX5_first_35 B hr hg_F _ _ _ _ _ _ h
    · refine z_bipush B dX5_first_20 (by decide) ?_
      exact z_iret B hr dX5_first_22 h
  · refine z_bipush B dX5_first_8 (by decide) ?_
    exact z_iret B hr dX5_first_10 h
set_option maxHeartbeats 4000000 in
set_option maxRecDepth 100000 in
theorem c_X5_first {l : Launch} {D : va_G} {cI cA : ClassId} {ad : Nat → Nat} {a1 : Int} {a2 : Int} {w w1 : hg_W} {r1 : Int} (h : fX5_first w a1 a2 = some (w1, r1)) : hg_Mi l yX5_first wxX5_first rmX5_first D cI cA ad 1 w [.ref (ad 0), .int (hg_I a1), .int (hg_I a2)] w1 r1 := by
  refine z_meti cX5_first 8 (some .int) (by decide) (Nat.le_of_ble_eq_true rfl) ?_
  intro p e s m args below meth c A B hr
  exact rX5_first_E B hr h
abbrev wxX5_vicar : List Cond := Cond.code yX5_vicar cX5_vicar 7 (some .int) :: wsL_law
def fX5_vicar_125   (w : hg_W) (x2 : Int) (x3 : Int) (x4 : Int) : Option (hg_W × Int) :=
  if wr x2 = 0 then
    (
      some (w, wr x3)
    )
  else
    some (w, wr x4)
def fX5_vicar_119 (K35 : hg_W → Int → Int → Int → Int → Int → Option (hg_W × Int))  (w : hg_W) (x1 : Int) (x2 : Int) (x3 : Int) (x4 : Int) (x5 : Int) : Option (hg_W × Int) :=
  K35 w x1 x2 x3 x4 (x5 + 1)
def fX5_vicar_113 (K35 : hg_W → Int → Int → Int → Int → Int → Option (hg_W × Int))  (w : hg_W) (x1 : Int) (x2 : Int) (x3 : Int) (x5 : Int) (s0 : Int) : Option (hg_W × Int) :=
  hg_bd (fX5_lays w) fun w1 _ =>
  fX5_vicar_119 K35 w1 x1 x2 x3 s0 x5
def fX5_vicar_98 (K35 : hg_W → Int → Int → Int → Int → Int → Option (hg_W × Int))  (w : hg_W) (x1 : Int) (x2 : Int) (x5 : Int) (x6 : Int) (s0 : Int) : Option (hg_W × Int) :=
  if wr x6 = wr x1 then
    (
      fX5_vicar_113 K35 w x1 x2 s0 x5 (w 0 5)
    )
  else
    fX5_vicar_113 K35 w x1 x2 s0 x5 (-1)
def fX5_vicar_35   : Nat → hg_W → Int → Int → Int → Int → Int → Option (hg_W × Int)
  | 0, _, _, _, _, _, _ => none
  | n + 1, w, x1, x2, x3, x4, x5 =>
    if wr 6 ≤ wr x5 then
      (
        fX5_vicar_125 w x2 x3 x4
      )
    else
      if wr x3 = wr (-1) then
        (
          (hg_ag 1 w 4 ((2 * x5) + 1)).bind fun v1 =>
          if wr 20 ≤ wr v1 then
            (
              fX5_vicar_119 (fX5_vicar_35 n) w x1 x2 x3 x4 x5
            )
          else
            (hg_ag 1 w 4 ((2 * x5) + 1)).bind fun v3 =>
            (hg_as 1 w 4 ((2 * x5) + 1) (v3 + 1)).bind fun w5 =>
            hg_bd (fX5_goes w5 121) fun w7 v8 =>
            if wr v8 = wr x1 then
              (
                fX5_vicar_98 (fX5_vicar_35 n) w7 x1 x2 x5 v8 x5
              )
            else
              fX5_vicar_98 (fX5_vicar_35 n) w7 x1 x2 x5 v8 (-1)
        )
      else
        fX5_vicar_125 w x2 x3 x4
def fX5_vicar (w : hg_W) (a1 : Int) (a2 : Int) : Option (hg_W × Int) :=
  hg_bd (fX5_isOne w a1) fun w1 v2 =>
  if wr v2 = 0 then
    (
      some (w1, wr (-5))
    )
  else
    hg_bd (fX5_in w1 a2 0 1) fun w4 v5 =>
    if wr v5 = 0 then
      (
        some (w4, wr (-7))
      )
    else
      hg_bd (fX5_keeps w4) fun w7 _ =>
      fX5_vicar_35 hg_F w7 a1 a2 (-1) (-1) 0
set_option maxHeartbeats 4000000 in
set_option maxRecDepth 100000 in
abbrev rmX5_vicar : Room := { frames := 8, cells := 0, slots := 0, locals := 189 }
set_option maxHeartbeats 4000000 in
set_option maxRecDepth 100000 in
theorem rX5_vicar_125 (B : hg_B p s m args meth c cX5_vicar RX5 wsL_law 7 D cI cA ad 1 A) (hr : meth.sig.returnType = (some .int)) {w1 : hg_W} {r1 : Int} : ∀ (w : hg_W) (x2 : Int) (x3 : Int) (x4 : Int), fX5_vicar_125 w x2 x3 x4 = some (w1, r1) → hg_At p l e (rmX5_vicar) s m args below meth c D cI cA ad 1 A (MQ below (hg_Qi D cI cA ad 1 A w1 r1) args s 0 0 A) 7 w [(2, .int (hg_I x2)), (3, .int (hg_I x3)), (4, .int (hg_I x4))] 125 [] := by
  intro w x2 x3 x4 h
  unfold fX5_vicar_125 at h
  refine z_iload_n B 0 dX5_vicar_125 rfl rfl ?_
  refine z_if_ne (tgt := 133) B dX5_vicar_126 (by decide) h (fun h => ?_) (fun h => ?_)
  · refine z_iload B 2 dX5_vicar_133 rfl ?_
    exact z_iret B hr dX5_vicar_135 h
  · refine z_iload_n B 1 dX5_vicar_129 rfl rfl ?_
    refine z_goto (tgt := 135) B dX5_vicar_130 (by decide) ?_
    exact z_iret B hr dX5_vicar_135 h
set_option maxHeartbeats 4000000 in
set_option maxRecDepth 100000 in
theorem rX5_vicar_119 (B : hg_B p s m args meth c cX5_vicar RX5 wsL_law 7 D cI cA ad 1 A) (hr : meth.sig.returnType = (some .int)) {w1 : hg_W} {r1 : Int} {K35 : hg_W → Int → Int → Int → Int → Int → Option (hg_W × Int)} (hK35 : ∀ (w : hg_W) (x1 : Int) (x2 : Int) (x3 : Int) (x4 : Int) (x5 : Int), K35 w x1 x2 x3 x4 x5 = some (w1, r1) → hg_At p l e (rmX5_vicar) s m args below meth c D cI cA ad 1 A (MQ below (hg_Qi D cI cA ad 1 A w1 r1) args s 0 0 A) 7 w [(0, .ref (ad 0)), (1, .int (hg_I x1)), (2, .int (hg_I x2)), (3, .int (hg_I x3)), (4, .int (hg_I x4)), (5, .int (hg_I x5))] 35 []) : ∀ (w : hg_W) (x1 : Int) (x2 : Int) (x3 : Int) (x4 : Int) (x5 : Int), fX5_vicar_119 K35 w x1 x2 x3 x4 x5 = some (w1, r1) → hg_At p l e (rmX5_vicar) s m args below meth c D cI cA ad 1 A (MQ below (hg_Qi D cI cA ad 1 A w1 r1) args s 0 0 A) 7 w [(0, .ref (ad 0)), (1, .int (hg_I x1)), (2, .int (hg_I x2)), (3, .int (hg_I x3)), (4, .int (hg_I x4)), (5, .int (hg_I x5))] 119 [] := by
  intro w x1 x2 x3 x4 x5 h
  unfold fX5_vicar_119 at h
  refine z_iinc B 5 [(5, .int (hg_I (x5 + 1))), (0, .ref (ad 0)), (1, .int (hg_I x1)), (2, .int (hg_I x2)), (3, .int (hg_I x3)), (4, .int (hg_I x4))] dX5_vicar_119 rfl (by decide) rfl ?_
  refine z_goto (tgt := 35) B dX5_vicar_122 (by decide) ?_
  refine z_lv (lv' := [(0, .ref (ad 0)), (1, .int (hg_I x1)), (2, .int (hg_I x2)), (3, .int (hg_I x3)), (4, .int (hg_I x4)), (5, .int (hg_I (x5 + 1)))]) B [1, 2, 3, 4, 5, 0] rfl ?_
  exact hK35 _ _ _ _ _ _ h
set_option maxHeartbeats 4000000 in
set_option maxRecDepth 100000 in
theorem rX5_vicar_113 (B : hg_B p s m args meth c cX5_vicar RX5 wsL_law 7 D cI cA ad 1 A) (hr : meth.sig.returnType = (some .int)) {w1 : hg_W} {r1 : Int} {K35 : hg_W → Int → Int → Int → Int → Int → Option (hg_W × Int)} (hK35 : ∀ (w : hg_W) (x1 : Int) (x2 : Int) (x3 : Int) (x4 : Int) (x5 : Int), K35 w x1 x2 x3 x4 x5 = some (w1, r1) → hg_At p l e (rmX5_vicar) s m args below meth c D cI cA ad 1 A (MQ below (hg_Qi D cI cA ad 1 A w1 r1) args s 0 0 A) 7 w [(0, .ref (ad 0)), (1, .int (hg_I x1)), (2, .int (hg_I x2)), (3, .int (hg_I x3)), (4, .int (hg_I x4)), (5, .int (hg_I x5))] 35 []) : ∀ (w : hg_W) (x1 : Int) (x2 : Int) (x3 : Int) (x5 : Int) (s0 : Int), fX5_vicar_113 K35 w x1 x2 x3 x5 s0 = some (w1, r1) → hg_At p l e (rmX5_vicar) s m args below meth c D cI cA ad 1 A (MQ below (hg_Qi D cI cA ad 1 A w1 r1) args s 0 0 A) 7 w [(0, .ref (ad 0)), (1, .int (hg_I x1)), (2, .int (hg_I x2)), (3, .int (hg_I x3)), (5, .int (hg_I x5))] 113 [.int (hg_I s0)] := by
  intro w x1 x2 x3 x5 s0 h
  unfold fX5_vicar_113 at h
  refine z_istore B [(4, .int (hg_I s0)), (0, .ref (ad 0)), (1, .int (hg_I x1)), (2, .int (hg_I x2)), (3, .int (hg_I x3)), (5, .int (hg_I x5))] dX5_vicar_113 (by decide) rfl ?_
  refine z_aload_n B 1 dX5_vicar_115 rfl rfl ?_
  obtain ⟨w1, v2, q3, h⟩ := hg_bd_some h
  refine z_callvV (a := 0) (ci := 5) (N := 37) (T := TX5) (C := RX5) (As := []) (n := 0) B dX5_vicar_116 (c_X5_lays q3) (gl_V (wl_24 2 rfl) (wl_24 3 rfl) (wl_24 4 rfl) (wl_1 5 rfl) (wl_24 5 rfl)) rfl ⟨rfl, rfl⟩ (by decide +kernel) ⟨Nat.le_of_ble_eq_true rfl, Nat.le_of_ble_eq_true rfl⟩ (by decide) rfl (by decide) rfl rfl rfl (Nat.le_of_ble_eq_true rfl) ?_
  refine z_lv (lv' := [(0, .ref (ad 0)), (1, .int (hg_I x1)), (2, .int (hg_I x2)), (3, .int (hg_I x3)), (4, .int (hg_I s0)), (5, .int (hg_I x5))]) B [1, 2, 3, 4, 0, 5] rfl ?_
  exact rX5_vicar_119 B hr hK35 _ _ _ _ _ _ h
set_option maxHeartbeats 4000000 in
set_option maxRecDepth 100000 in
theorem rX5_vicar_98 (B : hg_B p s m args meth c cX5_vicar RX5 wsL_law 7 D cI cA ad 1 A) (hr : meth.sig.returnType = (some .int)) {w1 : hg_W} {r1 : Int} {K35 : hg_W → Int → Int → Int → Int → Int → Option (hg_W × Int)} (hK35 : ∀ (w : hg_W) (x1 : Int) (x2 : Int) (x3 : Int) (x4 : Int) (x5 : Int), K35 w x1 x2 x3 x4 x5 = some (w1, r1) → hg_At p l e (rmX5_vicar) s m args below meth c D cI cA ad 1 A (MQ below (hg_Qi D cI cA ad 1 A w1 r1) args s 0 0 A) 7 w [(0, .ref (ad 0)), (1, .int (hg_I x1)), (2, .int (hg_I x2)), (3, .int (hg_I x3)), (4, .int (hg_I x4)), (5, .int (hg_I x5))] 35 []) : ∀ (w : hg_W) (x1 : Int) (x2 : Int) (x5 : Int) (x6 : Int) (s0 : Int), fX5_vicar_98 K35 w x1 x2 x5 x6 s0 = some (w1, r1) → hg_At p l e (rmX5_vicar) s m args below meth c D cI cA ad 1 A (MQ below (hg_Qi D cI cA ad 1 A w1 r1) args s 0 0 A) 7 w [(0, .ref (ad 0)), (1, .int (hg_I x1)), (2, .int (hg_I x2)), (5, .int (hg_I x5)), (6, .int (hg_I x6))] 98 [.int (hg_I s0)] := by
  intro w x1 x2 x5 x6 s0 h
  unfold fX5_vicar_98 at h
  refine z_istore_n B [(3, .int (hg_I s0)), (0, .ref (ad 0)), (1, .int (hg_I x1)), (2, .int (hg_I x2)), (5, .int (hg_I x5)), (6, .int (hg_I x6))] dX5_vicar_98 rfl (by decide) rfl ?_
  refine z_iload B 5 dX5_vicar_99 rfl ?_
  refine z_iload_n B 2 dX5_vicar_101 rfl rfl ?_
  refine z_icmp_ne (tgt := 112) B dX5_vicar_102 (by decide) h (fun h => ?_) (fun h => ?_)
  · refine z_iconst B dX5_vicar_112 ?_
    refine z_lv (lv' := [(0, .ref (ad 0)), (1, .int (hg_I x1)), (2, .int (hg_I x2)), (3, .int (hg_I s0)), (5, .int (hg_I x5))]) B [1, 2, 3, 0, 4] rfl ?_
    exact rX5_vicar_113 B hr hK35 _ _ _ _ _ _ h
  · refine z_aload_n B 1 dX5_vicar_105 rfl rfl ?_
    refine z_get5 (v := .int (hg_I (w 0 5))) B 5 dX5_vicar_106 inlX5 (by decide) rfl (by decide) (wl_8 1 rfl) rfl rfl ?_
    refine z_goto (tgt := 113) B dX5_vicar_109 (by decide) ?_
    refine z_lv (lv' := [(0, .ref (ad 0)), (1, .int (hg_I x1)), (2, .int (hg_I x2)), (3, .int (hg_I s0)), (5, .int (hg_I x5))]) B [1, 2, 3, 0, 4] rfl ?_
    exact rX5_vicar_113 B hr hK35 _ _ _ _ _ _ h
set_option maxHeartbeats 4000000 in
set_option maxRecDepth 100000 in
theorem rX5_vicar_35 (B : hg_B p s m args meth c cX5_vicar RX5 wsL_law 7 D cI cA ad 1 A) (hr : meth.sig.returnType = (some .int)) {w1 : hg_W} {r1 : Int} : ∀ (n : Nat), ∀ (w : hg_W) (x1 : Int) (x2 : Int) (x3 : Int) (x4 : Int) (x5 : Int), fX5_vicar_35 n w x1 x2 x3 x4 x5 = some (w1, r1) → hg_At p l e (rmX5_vicar) s m args below meth c D cI cA ad 1 A (MQ below (hg_Qi D cI cA ad 1 A w1 r1) args s 0 0 A) 7 w [(0, .ref (ad 0)), (1, .int (hg_I x1)), (2, .int (hg_I x2)), (3, .int (hg_I x3)), (4, .int (hg_I x4)), (5, .int (hg_I x5))] 35 [] := by
  intro n
  induction n with
  | zero =>
    intro w x1 x2 x3 x4 x5 h
    cases h
  | succ n ih =>
    intro w x1 x2 x3 x4 x5 h
    simp only [fX5_vicar_35] at h
    refine z_iload B 5 dX5_vicar_35 rfl ?_
    refine z_bipush B dX5_vicar_37 (by decide) ?_
    refine z_icmp_ge (tgt := 125) B dX5_vicar_39 (by decide) h (fun h => ?_) (fun h => ?_)
    · refine z_lv (lv' := [(2, .int (hg_I x2)), (3, .int (hg_I x3)), (4, .int (hg_I x4))]) B [2, 3, 4] rfl ?_
      exact rX5_vicar_125 B hr _ _ _ _ h
    · refine z_iload_n B 3 dX5_vicar_42 rfl rfl ?_
      refine z_iconst B dX5_vicar_43 ?_
      refine z_icmp_ne (tgt := 125) B dX5_vicar_44 (by decide) h (fun h => ?_) (fun h => ?_)
      · refine z_lv (lv' := [(2, .int (hg_I x2)), (3, .int (hg_I x3)), (4, .int (hg_I x4))]) B [2, 3, 4] rfl ?_
        exact rX5_vicar_125 B hr _ _ _ _ h
      · refine z_aload_n B 0 dX5_vicar_47 rfl rfl ?_
        refine z_get5 (v := .ref (ad 4)) B 4 dX5_vicar_48 inlX5 (by decide) rfl (by decide) (wl_4 5 rfl) rfl rfl ?_
        refine z_iconst B dX5_vicar_51 ?_
        refine z_iload B 5 dX5_vicar_52 rfl ?_
        refine z_imul B dX5_vicar_54 ?_
        refine z_iconst B dX5_vicar_55 ?_
        refine z_iadd B dX5_vicar_56 ?_
        obtain ⟨v1, q2, h⟩ := Option.bind_eq_some_iff.mp h
        refine z_iald (Or.inr rfl) B dX5_vicar_57 q2 ?_
        refine z_bipush B dX5_vicar_58 (by decide) ?_
        refine z_icmp_ge (tgt := 119) B dX5_vicar_60 (by decide) h (fun h => ?_) (fun h => ?_)
        · exact rX5_vicar_119 B hr ih _ _ _ _ _ _ h
        · refine z_aload_n B 0 dX5_vicar_63 rfl rfl ?_
          refine z_get5 (v := .ref (ad 4)) B 4 dX5_vicar_64 inlX5 (by decide) rfl (by decide) (wl_4 5 rfl) rfl rfl ?_
          refine z_iconst B dX5_vicar_67 ?_
          refine z_iload B 5 dX5_vicar_68 rfl ?_
          refine z_imul B dX5_vicar_70 ?_
          refine z_iconst B dX5_vicar_71 ?_
          refine z_iadd B dX5_vicar_72 ?_
          refine z_dup2 B dX5_vicar_73 rfl rfl ?_
          obtain ⟨v3, q4, h⟩ := Option.bind_eq_some_iff.mp h
          refine z_iald (Or.inr rfl) B dX5_vicar_74 q4 ?_
          refine z_iconst B dX5_vicar_75 ?_
          refine z_iadd B dX5_vicar_76 ?_
          obtain ⟨w5, q6, h⟩ := Option.bind_eq_some_iff.mp h
          refine z_iast (Or.inr rfl) B dX5_vicar_77 q6 ?_
          refine z_aload_n B 0 dX5_vicar_78 rfl rfl ?_
          refine z_bipush B dX5_vicar_79 (by decide) ?_
          obtain ⟨w7, v8, q9, h⟩ := hg_bd_some h
          refine z_calliV (a := 0) (ci := 5) (N := 37) (T := TX5) (C := RX5) (As := [.int (hg_I 121)]) (n := 1) B dX5_vicar_81 (c_X5_goes q9) (gl_V (wl_23 22 rfl) (wl_23 23 rfl) (wl_24 0 rfl) (wl_1 5 rfl) (wl_24 1 rfl)) rfl ⟨rfl, rfl⟩ (by decide +kernel) ⟨Nat.le_of_ble_eq_true rfl, Nat.le_of_ble_eq_true rfl⟩ (by decide) rfl (by decide) rfl rfl rfl (Nat.le_of_ble_eq_true rfl) ?_
          refine z_istore B [(6, .int (hg_I v8)), (0, .ref (ad 0)), (1, .int (hg_I x1)), (2, .int (hg_I x2)), (3, .int (hg_I x3)), (4, .int (hg_I x4)), (5, .int (hg_I x5))] dX5_vicar_84 (by decide) rfl ?_
          refine z_iload B 0 dX5_vicar_86 rfl ?_
          refine z_iload_n B 2 dX5_vicar_88 rfl rfl ?_
          refine z_icmp_ne (tgt := 97) B dX5_vicar_89 (by decide) h (fun h => ?_) (fun h => ?_)
          · refine z_iconst B dX5_vicar_97 ?_
            refine z_lv (lv' := [(0, .ref (ad 0)), (1, .int (hg_I x1)), (2, .int (hg_I x2)), (5, .int (hg_I x5)), (6, .int (hg_I v8))]) B [1, 2, 3, 6, 0] rfl ?_
            exact rX5_vicar_98 B hr ih _ _ _ _ _ _ h
          · refine z_iload B 6 dX5_vicar_92 rfl ?_
            refine z_goto (tgt := 98) B dX5_vicar_94 (by decide) ?_
            refine z_lv (lv' := [(0, .ref (ad 0)), (1, .int (hg_I x1)), (2, .int (hg_I x2)), (5, .int (hg_I x5)), (6, .int (hg_I v8))]) B [1, 2, 3, 6, 0] rfl ?_
            exact rX5_vicar_98 B hr ih _ _ _ _ _ _ h
set_option maxHeartbeats 4000000 in
set_option maxRecDepth 100000 in
theorem rX5_vicar_E (B : hg_B p s m args meth c cX5_vicar RX5 wsL_law 7 D cI cA ad 1 A) (hr : meth.sig.returnType = (some .int)) {a1 : Int} {a2 : Int} {w1 : hg_W} {r1 : Int} {w : hg_W} (h : fX5_vicar w a1 a2 = some (w1, r1)) : hg_At p l e (rmX5_vicar) s m args below meth c D cI cA ad 1 A (MQ below (hg_Qi D cI cA ad 1 A w1 r1) args s 0 0 A) 7 w [(0, .ref (ad 0)), (1, .int (hg_I a1)), (2, .int (hg_I a2))] 0 [] := by
  unfold fX5_vicar at h
  refine z_aload_n B 0 dX5_vicar_0 rfl rfl ?_
  refine z_iload_n B 1 dX5_vicar_1 rfl rfl ?_
  obtain ⟨w1, v2, q3, h⟩ := hg_bd_some h
  refine z_calliV (a := 0) (ci := 5) (N := 37) (T := TX5) (C := RX5) (As := [.int (hg_I a1)]) (n := 1) B dX5_vicar_2 (c_X5_isOne q3) (gl_V (wl_17 2 rfl) (wl_17 3 rfl) (wl_17 4 rfl) (wl_1 5 rfl) (wl_17 5 rfl)) rfl ⟨rfl, rfl⟩ (by decide +kernel) ⟨Nat.le_of_ble_eq_true rfl, Nat.le_of_ble_eq_true rfl⟩ (by decide) rfl (by decide) rfl rfl rfl (Nat.le_of_ble_eq_true rfl) ?_
  refine z_if_ne (tgt := 11) B dX5_vicar_5 (by decide) h (fun h => ?_) (fun h => ?_)
  · refine z_iload_n B 2 dX5_vicar_11 rfl rfl ?_
    refine z_iconst B dX5_vicar_12 ?_
    refine z_iconst B dX5_vicar_13 ?_
    obtain ⟨w4, v5, q6, h⟩ := hg_bd_some h
    refine z_calliS (As := [.int (hg_I a2), .int (hg_I 0), .int (hg_I 1)]) (n := 3) B dX5_vicar_14 (c_X5_in q6) (gl_S (wl_5 14 rfl) (wl_5 15 rfl) (wl_1 5 rfl) (wl_5 16 rfl)) rfl ⟨rfl, rfl⟩ (by decide +kernel) ⟨Nat.le_of_ble_eq_true rfl, Nat.le_of_ble_eq_true rfl⟩ rfl rfl (Nat.le_of_ble_eq_true rfl) ?_
    refine z_if_ne (tgt := 23) B dX5_vicar_17 (by decide) h (fun h => ?_) (fun h => ?_)
    · refine z_iconst B dX5_vicar_23 ?_
      refine z_istore_n B [(3, .int (hg_I (-1))), (0, .ref (ad 0)), (1, .int (hg_I a1)), (2, .int (hg_I a2))] dX5_vicar_24 rfl (by decide) rfl ?_
      refine z_iconst B dX5_vicar_25 ?_
      refine z_istore B [(4, .int (hg_I (-1))), (3, .int (hg_I (-1))), (0, .ref (ad 0)), (1, .int (hg_I a1)), (2, .int (hg_I a2))] dX5_vicar_26 (by decide) rfl ?_
      refine z_aload_n B 2 dX5_vicar_28 rfl rfl ?_
      obtain ⟨w7, v8, q9, h⟩ := hg_bd_some h
      refine z_callvV (a := 0) (ci := 5) (N := 37) (T := TX5) (C := RX5) (As := []) (n := 0) B dX5_vicar_29 (c_X5_keeps q9) (gl_V (wl_23 18 rfl) (wl_23 19 rfl) (wl_23 20 rfl) (wl_1 5 rfl) (wl_23 21 rfl)) rfl ⟨rfl, rfl⟩ (by decide +kernel) ⟨Nat.le_of_ble_eq_true rfl, Nat.le_of_ble_eq_true rfl⟩ (by decide) rfl (by decide) rfl rfl rfl (Nat.le_of_ble_eq_true rfl) ?_
      refine z_iconst B dX5_vicar_32 ?_
      refine z_istore B [(5, .int (hg_I 0)), (4, .int (hg_I (-1))), (3, .int (hg_I (-1))), (0, .ref (ad 0)), (1, .int (hg_I a1)), (2, .int (hg_I a2))] dX5_vicar_33 (by decide) rfl ?_
      refine z_lv (lv' := [(0, .ref (ad 0)), (1, .int (hg_I a1)), (2, .int (hg_I a2)), (3, .int (hg_I (-1))), (4, .int (hg_I (-1))), (5, .int (hg_I 0))]) B [3, 4, 5, 2, 1, 0] rfl ?_
      exact rX5_vicar_35 B hr hg_F _ _ _ _ _ _ h
    · refine z_bipush B dX5_vicar_20 (by decide) ?_
      exact z_iret B hr dX5_vicar_22 h
  · refine z_bipush B dX5_vicar_8 (by decide) ?_
    exact z_iret B hr dX5_vicar_10 h
set_option maxHeartbeats 4000000 in
set_option maxRecDepth 100000 in
theorem c_X5_vicar {l : Launch} {D : va_G} {cI cA : ClassId} {ad : Nat → Nat} {a1 : Int} {a2 : Int} {w w1 : hg_W} {r1 : Int} (h : fX5_vicar w a1 a2 = some (w1, r1)) : hg_Mi l yX5_vicar wxX5_vicar rmX5_vicar D cI cA ad 1 w [.ref (ad 0), .int (hg_I a1), .int (hg_I a2)] w1 r1 := by
  refine z_meti cX5_vicar 7 (some .int) (by decide) (Nat.le_of_ble_eq_true rfl) ?_
  intro p e s m args below meth c A B hr
  exact rX5_vicar_E B hr h
abbrev wxX5_isOrder : List Cond := Cond.code yX5_isOrder cX5_isOrder 5 (some .boolean) :: wsL_law
def fX5_isOrder_51   : Nat → hg_W → Int → Int → Option (hg_W × Int)
  | 0, _, _, _ => none
  | n + 1, w, x3, x4 =>
    if wr (w 0 0) ≤ wr x4 then
      (
        if wr 1 = 0 ∨ wr 1 = 1 then some (w, wr 1) else none
      )
    else
      (hg_ag 1 w 19 x4).bind fun v1 =>
      if wr (hg_and (hg_shr x3 v1) 1) = wr 1 then
        (
          if wr 0 = 0 ∨ wr 0 = 1 then some (w, wr 0) else none
        )
      else
        (hg_ag 1 w 19 x4).bind fun v3 =>
        (hg_ag 1 w 19 x4).bind fun v5 =>
        (hg_pt w 0 33 (((10 * (w 0 33)) + v5) + 1)).bind fun w7 =>
        fX5_isOrder_51 n w7 (hg_or x3 (hg_shl 1 v3)) (x4 + 1)
def fX5_isOrder_12   : Nat → hg_W → Int → Int → Int → Option (hg_W × Int)
  | 0, _, _, _, _ => none
  | n + 1, w, x2, x3, x4 =>
    if wr x4 < 0 then
      (
        (hg_pt w 0 33 0).bind fun w1 =>
        fX5_isOrder_51 hg_F w1 x3 0
      )
    else
      if wr (w 0 0) = 0 then none else
      (hg_as 1 w 19 x4 (hg_rm x2 (w 0 0))).bind fun w4 =>
      if wr (w4 0 0) = 0 then none else
      fX5_isOrder_12 n w4 (hg_dv x2 (w4 0 0)) x3 (x4 + (-1))
def fX5_isOrder (w : hg_W) (a1 : Int) : Option (hg_W × Int) :=
  fX5_isOrder_12 hg_F w a1 0 ((w 0 0) - 1)
set_option maxHeartbeats 4000000 in
set_option maxRecDepth 100000 in
abbrev rmX5_isOrder : Room := { frames := 0, cells := 0, slots := 0, locals := 0 }
set_option maxHeartbeats 4000000 in
set_option maxRecDepth 100000 in
theorem rX5_isOrder_51 (B : hg_B p s m args meth c cX5_isOrder RX5 wsL_law 5 D cI cA ad 1 A) (hr : meth.sig.returnType = (some .boolean)) {w1 : hg_W} {r1 : Int} : ∀ (n : Nat), ∀ (w : hg_W) (x3 : Int) (x4 : Int), fX5_isOrder_51 n w x3 x4 = some (w1, r1) → hg_At p l e (rmX5_isOrder) s m args below meth c D cI cA ad 1 A (MQ below (hg_Qi D cI cA ad 1 A w1 r1) args s 0 0 A) 5 w [(0, .ref (ad 0)), (3, .int (hg_I x3)), (4, .int (hg_I x4))] 51 [] := by
  intro n
  induction n with
  | zero =>
    intro w x3 x4 h
    cases h
  | succ n ih =>
    intro w x3 x4 h
    simp only [fX5_isOrder_51] at h
    refine z_iload B 2 dX5_isOrder_51 rfl ?_
    refine z_aload_n B 0 dX5_isOrder_53 rfl rfl ?_
    refine z_get5 (v := .int (hg_I (w 0 0))) B 0 dX5_isOrder_54 inlX5 (by decide) rfl (by decide) (wl_7 22 rfl) rfl rfl ?_
    refine z_icmp_ge (tgt := 116) B dX5_isOrder_57 (by decide) h (fun h => ?_) (fun h => ?_)
    · refine z_iconst B dX5_isOrder_116 ?_
      exact z_bret B hr dX5_isOrder_117 h
    · refine z_iload_n B 1 dX5_isOrder_60 rfl rfl ?_
      refine z_aload_n B 0 dX5_isOrder_61 rfl rfl ?_
      refine z_get5 (v := .ref (ad 19)) B 32 dX5_isOrder_62 inlX5 (by decide) rfl (by decide) (wl_4 20 rfl) rfl rfl ?_
      refine z_iload B 2 dX5_isOrder_65 rfl ?_
      obtain ⟨v1, q2, h⟩ := Option.bind_eq_some_iff.mp h
      refine z_iald (Or.inr rfl) B dX5_isOrder_67 q2 ?_
      refine z_ishr B dX5_isOrder_68 ?_
      refine z_iconst B dX5_isOrder_69 ?_
      refine z_iand B dX5_isOrder_70 ?_
      refine z_iconst B dX5_isOrder_71 ?_
      refine z_icmp_ne (tgt := 77) B dX5_isOrder_72 (by decide) h (fun h => ?_) (fun h => ?_)
      · refine z_iload_n B 1 dX5_isOrder_77 rfl rfl ?_
        refine z_iconst B dX5_isOrder_78 ?_
        refine z_aload_n B 0 dX5_isOrder_79 rfl rfl ?_
        refine z_get5 (v := .ref (ad 19)) B 32 dX5_isOrder_80 inlX5 (by decide) rfl (by decide) (wl_4 20 rfl) rfl rfl ?_
        refine z_iload B 2 dX5_isOrder_83 rfl ?_
        obtain ⟨v3, q4, h⟩ := Option.bind_eq_some_iff.mp h
        refine z_iald (Or.inr rfl) B dX5_isOrder_85 q4 ?_
        refine z_ishl B dX5_isOrder_86 ?_
        refine z_ior B dX5_isOrder_87 ?_
        refine z_istore_n B [(3, .int (hg_I (hg_or x3 (hg_shl 1 v3)))), (0, .ref (ad 0)), (4, .int (hg_I x4))] dX5_isOrder_88 rfl (by decide) rfl ?_
        refine z_aload_n B 1 dX5_isOrder_89 rfl rfl ?_
        refine z_bipush B dX5_isOrder_90 (by decide) ?_
        refine z_aload_n B 1 dX5_isOrder_92 rfl rfl ?_
        refine z_get5 (v := .int (hg_I (w 0 33))) B 33 dX5_isOrder_93 inlX5 (by decide) rfl (by decide) (wl_26 16 rfl) rfl rfl ?_
        refine z_imul B dX5_isOrder_96 ?_
        refine z_aload_n B 1 dX5_isOrder_97 rfl rfl ?_
        refine z_get5 (v := .ref (ad 19)) B 32 dX5_isOrder_98 inlX5 (by decide) rfl (by decide) (wl_4 20 rfl) rfl rfl ?_
        refine z_iload B 2 dX5_isOrder_101 rfl ?_
        obtain ⟨v5, q6, h⟩ := Option.bind_eq_some_iff.mp h
        refine z_iald (Or.inr rfl) B dX5_isOrder_103 q6 ?_
        refine z_iadd B dX5_isOrder_104 ?_
        refine z_iconst B dX5_isOrder_105 ?_
        refine z_iadd B dX5_isOrder_106 ?_
        obtain ⟨w7, q8, h⟩ := Option.bind_eq_some_iff.mp h
        refine z_put5 B 33 dX5_isOrder_107 inlX5 (by decide) rfl (by decide) (wl_26 16 rfl) rfl rfl .int (by decide +kernel) rfl rfl hg_fs5_33 q8 ?_
        refine z_iinc B 2 [(4, .int (hg_I (x4 + 1))), (3, .int (hg_I (hg_or x3 (hg_shl 1 v3)))), (0, .ref (ad 0))] dX5_isOrder_110 rfl (by decide) rfl ?_
        refine z_goto (tgt := 51) B dX5_isOrder_113 (by decide) ?_
        refine z_lv (lv' := [(0, .ref (ad 0)), (3, .int (hg_I (hg_or x3 (hg_shl 1 v3)))), (4, .int (hg_I (x4 + 1)))]) B [2, 1, 0] rfl ?_
        exact ih _ _ _ h
      · refine z_iconst B dX5_isOrder_75 ?_
        exact z_bret B hr dX5_isOrder_76 h
set_option maxHeartbeats 4000000 in
set_option maxRecDepth 100000 in
theorem rX5_isOrder_12 (B : hg_B p s m args meth c cX5_isOrder RX5 wsL_law 5 D cI cA ad 1 A) (hr : meth.sig.returnType = (some .boolean)) {w1 : hg_W} {r1 : Int} : ∀ (n : Nat), ∀ (w : hg_W) (x2 : Int) (x3 : Int) (x4 : Int), fX5_isOrder_12 n w x2 x3 x4 = some (w1, r1) → hg_At p l e (rmX5_isOrder) s m args below meth c D cI cA ad 1 A (MQ below (hg_Qi D cI cA ad 1 A w1 r1) args s 0 0 A) 5 w [(0, .ref (ad 0)), (2, .int (hg_I x2)), (3, .int (hg_I x3)), (4, .int (hg_I x4))] 12 [] := by
  intro n
  induction n with
  | zero =>
    intro w x2 x3 x4 h
    cases h
  | succ n ih =>
    intro w x2 x3 x4 h
    simp only [fX5_isOrder_12] at h
    refine z_iload B 3 dX5_isOrder_12 rfl ?_
    refine z_if_lt (tgt := 43) B dX5_isOrder_14 (by decide) h (fun h => ?_) (fun h => ?_)
    · refine z_aload_n B 0 dX5_isOrder_43 rfl rfl ?_
      refine z_iconst B dX5_isOrder_44 ?_
      obtain ⟨w1, q2, h⟩ := Option.bind_eq_some_iff.mp h
      refine z_put5 B 33 dX5_isOrder_45 inlX5 (by decide) rfl (by decide) (wl_26 16 rfl) rfl rfl .int (by decide +kernel) rfl rfl hg_fs5_33 q2 ?_
      refine z_iconst B dX5_isOrder_48 ?_
      refine z_istore B [(4, .int (hg_I 0)), (0, .ref (ad 0)), (2, .int (hg_I x2)), (3, .int (hg_I x3))] dX5_isOrder_49 (by decide) rfl ?_
      refine z_lv (lv' := [(0, .ref (ad 0)), (3, .int (hg_I x3)), (4, .int (hg_I 0))]) B [1, 3, 0] rfl ?_
      exact rX5_isOrder_51 B hr hg_F _ _ _ h
    · refine z_aload_n B 0 dX5_isOrder_17 rfl rfl ?_
      refine z_get5 (v := .ref (ad 19)) B 32 dX5_isOrder_18 inlX5 (by decide) rfl (by decide) (wl_4 20 rfl) rfl rfl ?_
      refine z_iload B 3 dX5_isOrder_21 rfl ?_
      refine z_iload_n B 1 dX5_isOrder_23 rfl rfl ?_
      refine z_aload_n B 0 dX5_isOrder_24 rfl rfl ?_
      refine z_get5 (v := .int (hg_I (w 0 0))) B 0 dX5_isOrder_25 inlX5 (by decide) rfl (by decide) (wl_7 22 rfl) rfl rfl ?_
      by_cases z3 : wr (w 0 0) = 0
      · rw [if_pos z3] at h; cases h
      rw [if_neg z3] at h
      refine z_irem B dX5_isOrder_28 z3 ?_
      obtain ⟨w4, q5, h⟩ := Option.bind_eq_some_iff.mp h
      refine z_iast (Or.inr rfl) B dX5_isOrder_29 q5 ?_
      refine z_iload_n B 1 dX5_isOrder_30 rfl rfl ?_
      refine z_aload_n B 0 dX5_isOrder_31 rfl rfl ?_
      refine z_get5 (v := .int (hg_I (w4 0 0))) B 0 dX5_isOrder_32 inlX5 (by decide) rfl (by decide) (wl_7 22 rfl) rfl rfl ?_
      by_cases z6 : wr (w4 0 0) = 0
      · rw [if_pos z6] at h; cases h
      rw [if_neg z6] at h
      refine z_idiv B dX5_isOrder_35 z6 ?_
      refine z_istore_n B [(2, .int (hg_I (hg_dv x2 (w4 0 0)))), (0, .ref (ad 0)), (3, .int (hg_I x3)), (4, .int (hg_I x4))] dX5_isOrder_36 rfl (by decide) rfl ?_
      refine z_iinc B 3 [(4, .int (hg_I (x4 + (-1)))), (2, .int (hg_I (hg_dv x2 (w4 0 0)))), (0, .ref (ad 0)), (3, .int (hg_I x3))] dX5_isOrder_37 rfl (by decide) rfl ?_
      refine z_goto (tgt := 12) B dX5_isOrder_40 (by decide) ?_
      refine z_lv (lv' := [(0, .ref (ad 0)), (2, .int (hg_I (hg_dv x2 (w4 0 0)))), (3, .int (hg_I x3)), (4, .int (hg_I (x4 + (-1))))]) B [2, 1, 3, 0] rfl ?_
      exact ih _ _ _ _ h
set_option maxHeartbeats 4000000 in
set_option maxRecDepth 100000 in
theorem rX5_isOrder_E (B : hg_B p s m args meth c cX5_isOrder RX5 wsL_law 5 D cI cA ad 1 A) (hr : meth.sig.returnType = (some .boolean)) {a1 : Int} {w1 : hg_W} {r1 : Int} {w : hg_W} (h : fX5_isOrder w a1 = some (w1, r1)) : hg_At p l e (rmX5_isOrder) s m args below meth c D cI cA ad 1 A (MQ below (hg_Qi D cI cA ad 1 A w1 r1) args s 0 0 A) 5 w [(0, .ref (ad 0)), (1, .int (hg_I a1))] 0 [] := by
  unfold fX5_isOrder at h
  refine z_iload_n B 1 dX5_isOrder_0 rfl rfl ?_
  refine z_istore_n B [(2, .int (hg_I a1)), (0, .ref (ad 0)), (1, .int (hg_I a1))] dX5_isOrder_1 rfl (by decide) rfl ?_
  refine z_iconst B dX5_isOrder_2 ?_
  refine z_istore_n B [(3, .int (hg_I 0)), (2, .int (hg_I a1)), (0, .ref (ad 0)), (1, .int (hg_I a1))] dX5_isOrder_3 rfl (by decide) rfl ?_
  refine z_aload_n B 2 dX5_isOrder_4 rfl rfl ?_
  refine z_get5 (v := .int (hg_I (w 0 0))) B 0 dX5_isOrder_5 inlX5 (by decide) rfl (by decide) (wl_7 22 rfl) rfl rfl ?_
  refine z_iconst B dX5_isOrder_8 ?_
  refine z_isub B dX5_isOrder_9 ?_
  refine z_istore B [(4, .int (hg_I ((w 0 0) - 1))), (3, .int (hg_I 0)), (2, .int (hg_I a1)), (0, .ref (ad 0)), (1, .int (hg_I a1))] dX5_isOrder_10 (by decide) rfl ?_
  refine z_lv (lv' := [(0, .ref (ad 0)), (2, .int (hg_I a1)), (3, .int (hg_I 0)), (4, .int (hg_I ((w 0 0) - 1)))]) B [3, 2, 1, 0] rfl ?_
  exact rX5_isOrder_12 B hr hg_F _ _ _ _ h
set_option maxHeartbeats 4000000 in
set_option maxRecDepth 100000 in
theorem c_X5_isOrder {l : Launch} {D : va_G} {cI cA : ClassId} {ad : Nat → Nat} {a1 : Int} {w w1 : hg_W} {r1 : Int} (h : fX5_isOrder w a1 = some (w1, r1)) : hg_Mi l yX5_isOrder wxX5_isOrder rmX5_isOrder D cI cA ad 1 w [.ref (ad 0), .int (hg_I a1)] w1 r1 := by
  refine z_meti cX5_isOrder 5 (some .boolean) (by decide) (Nat.le_of_ble_eq_true rfl) ?_
  intro p e s m args below meth c A B hr
  exact rX5_isOrder_E B hr h
abbrev wxX5_differBy : List Cond := Cond.code yX5_differBy cX5_differBy 5 (some .int) :: wsL_law
def fX5_differBy_128 (K58 : hg_W → Int → Int → Int → Option (hg_W × Int))  (w : hg_W) (x2 : Int) (x4 : Int) (s0 : Int) : Option (hg_W × Int) :=
  K58 w x2 s0 (x4 + 1)
def fX5_differBy_97 (K58 : hg_W → Int → Int → Int → Option (hg_W × Int))  (w : hg_W) (x3 : Int) (x4 : Int) (s0 : Int) : Option (hg_W × Int) :=
  (hg_ag 1 w 3 ((3 * x4) + 1)).bind fun v1 =>
  if wr x3 ≤ wr v1 then
    (
      fX5_differBy_128 K58 w s0 x4 x3
    )
  else
    (hg_ag 1 w 3 ((3 * x4) + 1)).bind fun v3 =>
    fX5_differBy_128 K58 w s0 x4 v3
def fX5_differBy_58   : Nat → hg_W → Int → Int → Int → Option (hg_W × Int)
  | 0, _, _, _, _ => none
  | n + 1, w, x2, x3, x4 =>
    if wr (w 0 0) ≤ wr x4 then
      (
        some (w, wr (x2 - x3))
      )
    else
      (hg_ag 1 w 3 ((3 * x4) + 1)).bind fun v1 =>
      if wr v1 ≤ wr x2 then
        (
          fX5_differBy_97 (fX5_differBy_58 n) w x3 x4 x2
        )
      else
        (hg_ag 1 w 3 ((3 * x4) + 1)).bind fun v3 =>
        fX5_differBy_97 (fX5_differBy_58 n) w x3 x4 v3
def fX5_differBy_37 (K2 : hg_W → Int → Option (hg_W × Int))  (w : hg_W) (s0 : Int) : Option (hg_W × Int) :=
  K2 w s0
def fX5_differBy_2   : Nat → hg_W → Int → Option (hg_W × Int)
  | 0, _, _ => none
  | n + 1, w, x1 =>
    hg_bd (fX5_coinsAll w) fun w1 v2 =>
    if wr v2 ≤ 0 then
      (
        (hg_ag 1 w1 3 1).bind fun v4 =>
        (hg_ag 1 w1 3 1).bind fun v6 =>
        fX5_differBy_58 hg_F w1 v4 v6 1
      )
    else
      (hg_ag 1 w1 19 x1).bind fun v8 =>
      hg_bd (fX5_takesOne w1 v8) fun w10 v11 =>
      if wr (x1 + 1) = wr (w10 0 0) then
        (
          fX5_differBy_37 (fX5_differBy_2 n) w10 0
        )
      else
        fX5_differBy_37 (fX5_differBy_2 n) w10 (x1 + 1)
def fX5_differBy (w : hg_W) : Option (hg_W × Int) :=
  fX5_differBy_2 hg_F w 0
set_option maxHeartbeats 4000000 in
set_option maxRecDepth 100000 in
abbrev rmX5_differBy : Room := { frames := 6, cells := 0, slots := 0, locals := 145 }
set_option maxHeartbeats 4000000 in
set_option maxRecDepth 100000 in
theorem rX5_differBy_128 (B : hg_B p s m args meth c cX5_differBy RX5 wsL_law 5 D cI cA ad 1 A) (hr : meth.sig.returnType = (some .int)) {w1 : hg_W} {r1 : Int} {K58 : hg_W → Int → Int → Int → Option (hg_W × Int)} (hK58 : ∀ (w : hg_W) (x2 : Int) (x3 : Int) (x4 : Int), K58 w x2 x3 x4 = some (w1, r1) → hg_At p l e (rmX5_differBy) s m args below meth c D cI cA ad 1 A (MQ below (hg_Qi D cI cA ad 1 A w1 r1) args s 0 0 A) 5 w [(0, .ref (ad 0)), (2, .int (hg_I x2)), (3, .int (hg_I x3)), (4, .int (hg_I x4))] 58 []) : ∀ (w : hg_W) (x2 : Int) (x4 : Int) (s0 : Int), fX5_differBy_128 K58 w x2 x4 s0 = some (w1, r1) → hg_At p l e (rmX5_differBy) s m args below meth c D cI cA ad 1 A (MQ below (hg_Qi D cI cA ad 1 A w1 r1) args s 0 0 A) 5 w [(0, .ref (ad 0)), (2, .int (hg_I x2)), (4, .int (hg_I x4))] 128 [.int (hg_I s0)] := by
  intro w x2 x4 s0 h
  unfold fX5_differBy_128 at h
  refine z_istore_n B [(3, .int (hg_I s0)), (0, .ref (ad 0)), (2, .int (hg_I x2)), (4, .int (hg_I x4))] dX5_differBy_128 rfl (by decide) rfl ?_
  refine z_iinc B 3 [(4, .int (hg_I (x4 + 1))), (3, .int (hg_I s0)), (0, .ref (ad 0)), (2, .int (hg_I x2))] dX5_differBy_129 rfl (by decide) rfl ?_
  refine z_goto (tgt := 58) B dX5_differBy_132 (by decide) ?_
  refine z_lv (lv' := [(0, .ref (ad 0)), (2, .int (hg_I x2)), (3, .int (hg_I s0)), (4, .int (hg_I (x4 + 1)))]) B [2, 3, 1, 0] rfl ?_
  exact hK58 _ _ _ _ h
set_option maxHeartbeats 4000000 in
set_option maxRecDepth 100000 in
theorem rX5_differBy_97 (B : hg_B p s m args meth c cX5_differBy RX5 wsL_law 5 D cI cA ad 1 A) (hr : meth.sig.returnType = (some .int)) {w1 : hg_W} {r1 : Int} {K58 : hg_W → Int → Int → Int → Option (hg_W × Int)} (hK58 : ∀ (w : hg_W) (x2 : Int) (x3 : Int) (x4 : Int), K58 w x2 x3 x4 = some (w1, r1) → hg_At p l e (rmX5_differBy) s m args below meth c D cI cA ad 1 A (MQ below (hg_Qi D cI cA ad 1 A w1 r1) args s 0 0 A) 5 w [(0, .ref (ad 0)), (2, .int (hg_I x2)), (3, .int (hg_I x3)), (4, .int (hg_I x4))] 58 []) : ∀ (w : hg_W) (x3 : Int) (x4 : Int) (s0 : Int), fX5_differBy_97 K58 w x3 x4 s0 = some (w1, r1) → hg_At p l e (rmX5_differBy) s m args below meth c D cI cA ad 1 A (MQ below (hg_Qi D cI cA ad 1 A w1 r1) args s 0 0 A) 5 w [(0, .ref (ad 0)), (3, .int (hg_I x3)), (4, .int (hg_I x4))] 97 [.int (hg_I s0)] := by
  intro w x3 x4 s0 h
  unfold fX5_differBy_97 at h
  refine z_istore_n B [(2, .int (hg_I s0)), (0, .ref (ad 0)), (3, .int (hg_I x3)), (4, .int (hg_I x4))] dX5_differBy_97 rfl (by decide) rfl ?_
  refine z_aload_n B 1 dX5_differBy_98 rfl rfl ?_
  refine z_get5 (v := .ref (ad 3)) B 3 dX5_differBy_99 inlX5 (by decide) rfl (by decide) (wl_4 4 rfl) rfl rfl ?_
  refine z_iconst B dX5_differBy_102 ?_
  refine z_iload B 3 dX5_differBy_103 rfl ?_
  refine z_imul B dX5_differBy_105 ?_
  refine z_iconst B dX5_differBy_106 ?_
  refine z_iadd B dX5_differBy_107 ?_
  obtain ⟨v1, q2, h⟩ := Option.bind_eq_some_iff.mp h
  refine z_iald (Or.inr rfl) B dX5_differBy_108 q2 ?_
  refine z_iload_n B 2 dX5_differBy_109 rfl rfl ?_
  refine z_icmp_ge (tgt := 127) B dX5_differBy_110 (by decide) h (fun h => ?_) (fun h => ?_)
  · refine z_iload_n B 2 dX5_differBy_127 rfl rfl ?_
    refine z_lv (lv' := [(0, .ref (ad 0)), (2, .int (hg_I s0)), (4, .int (hg_I x4))]) B [1, 0, 3] rfl ?_
    exact rX5_differBy_128 B hr hK58 _ _ _ _ h
  · refine z_aload_n B 1 dX5_differBy_113 rfl rfl ?_
    refine z_get5 (v := .ref (ad 3)) B 3 dX5_differBy_114 inlX5 (by decide) rfl (by decide) (wl_4 4 rfl) rfl rfl ?_
    refine z_iconst B dX5_differBy_117 ?_
    refine z_iload B 3 dX5_differBy_118 rfl ?_
    refine z_imul B dX5_differBy_120 ?_
    refine z_iconst B dX5_differBy_121 ?_
    refine z_iadd B dX5_differBy_122 ?_
    obtain ⟨v3, q4, h⟩ := Option.bind_eq_some_iff.mp h
    refine z_iald (Or.inr rfl) B dX5_differBy_123 q4 ?_
    refine z_goto (tgt := 128) B dX5_differBy_124 (by decide) ?_
    refine z_lv (lv' := [(0, .ref (ad 0)), (2, .int (hg_I s0)), (4, .int (hg_I x4))]) B [1, 0, 3] rfl ?_
    exact rX5_differBy_128 B hr hK58 _ _ _ _ h
set_option maxHeartbeats 4000000 in
set_option maxRecDepth 100000 in
theorem rX5_differBy_58 (B : hg_B p s m args meth c cX5_differBy RX5 wsL_law 5 D cI cA ad 1 A) (hr : meth.sig.returnType = (some .int)) {w1 : hg_W} {r1 : Int} : ∀ (n : Nat), ∀ (w : hg_W) (x2 : Int) (x3 : Int) (x4 : Int), fX5_differBy_58 n w x2 x3 x4 = some (w1, r1) → hg_At p l e (rmX5_differBy) s m args below meth c D cI cA ad 1 A (MQ below (hg_Qi D cI cA ad 1 A w1 r1) args s 0 0 A) 5 w [(0, .ref (ad 0)), (2, .int (hg_I x2)), (3, .int (hg_I x3)), (4, .int (hg_I x4))] 58 [] := by
  intro n
  induction n with
  | zero =>
    intro w x2 x3 x4 h
    cases h
  | succ n ih =>
    intro w x2 x3 x4 h
    simp only [fX5_differBy_58] at h
    refine z_iload B 3 dX5_differBy_58 rfl ?_
    refine z_aload_n B 0 dX5_differBy_60 rfl rfl ?_
    refine z_get5 (v := .int (hg_I (w 0 0))) B 0 dX5_differBy_61 inlX5 (by decide) rfl (by decide) (wl_7 22 rfl) rfl rfl ?_
    refine z_icmp_ge (tgt := 135) B dX5_differBy_64 (by decide) h (fun h => ?_) (fun h => ?_)
    · refine z_iload_n B 1 dX5_differBy_135 rfl rfl ?_
      refine z_iload_n B 2 dX5_differBy_136 rfl rfl ?_
      refine z_isub B dX5_differBy_137 ?_
      exact z_iret B hr dX5_differBy_138 h
    · refine z_aload_n B 0 dX5_differBy_67 rfl rfl ?_
      refine z_get5 (v := .ref (ad 3)) B 3 dX5_differBy_68 inlX5 (by decide) rfl (by decide) (wl_4 4 rfl) rfl rfl ?_
      refine z_iconst B dX5_differBy_71 ?_
      refine z_iload B 3 dX5_differBy_72 rfl ?_
      refine z_imul B dX5_differBy_74 ?_
      refine z_iconst B dX5_differBy_75 ?_
      refine z_iadd B dX5_differBy_76 ?_
      obtain ⟨v1, q2, h⟩ := Option.bind_eq_some_iff.mp h
      refine z_iald (Or.inr rfl) B dX5_differBy_77 q2 ?_
      refine z_iload_n B 1 dX5_differBy_78 rfl rfl ?_
      refine z_icmp_le (tgt := 96) B dX5_differBy_79 (by decide) h (fun h => ?_) (fun h => ?_)
      · refine z_iload_n B 1 dX5_differBy_96 rfl rfl ?_
        refine z_lv (lv' := [(0, .ref (ad 0)), (3, .int (hg_I x3)), (4, .int (hg_I x4))]) B [0, 2, 3] rfl ?_
        exact rX5_differBy_97 B hr ih _ _ _ _ h
      · refine z_aload_n B 0 dX5_differBy_82 rfl rfl ?_
        refine z_get5 (v := .ref (ad 3)) B 3 dX5_differBy_83 inlX5 (by decide) rfl (by decide) (wl_4 4 rfl) rfl rfl ?_
        refine z_iconst B dX5_differBy_86 ?_
        refine z_iload B 3 dX5_differBy_87 rfl ?_
        refine z_imul B dX5_differBy_89 ?_
        refine z_iconst B dX5_differBy_90 ?_
        refine z_iadd B dX5_differBy_91 ?_
        obtain ⟨v3, q4, h⟩ := Option.bind_eq_some_iff.mp h
        refine z_iald (Or.inr rfl) B dX5_differBy_92 q4 ?_
        refine z_goto (tgt := 97) B dX5_differBy_93 (by decide) ?_
        refine z_lv (lv' := [(0, .ref (ad 0)), (3, .int (hg_I x3)), (4, .int (hg_I x4))]) B [0, 2, 3] rfl ?_
        exact rX5_differBy_97 B hr ih _ _ _ _ h
set_option maxHeartbeats 4000000 in
set_option maxRecDepth 100000 in
theorem rX5_differBy_37 (B : hg_B p s m args meth c cX5_differBy RX5 wsL_law 5 D cI cA ad 1 A) (hr : meth.sig.returnType = (some .int)) {w1 : hg_W} {r1 : Int} {K2 : hg_W → Int → Option (hg_W × Int)} (hK2 : ∀ (w : hg_W) (x1 : Int), K2 w x1 = some (w1, r1) → hg_At p l e (rmX5_differBy) s m args below meth c D cI cA ad 1 A (MQ below (hg_Qi D cI cA ad 1 A w1 r1) args s 0 0 A) 5 w [(0, .ref (ad 0)), (1, .int (hg_I x1))] 2 []) : ∀ (w : hg_W) (s0 : Int), fX5_differBy_37 K2 w s0 = some (w1, r1) → hg_At p l e (rmX5_differBy) s m args below meth c D cI cA ad 1 A (MQ below (hg_Qi D cI cA ad 1 A w1 r1) args s 0 0 A) 5 w [(0, .ref (ad 0))] 37 [.int (hg_I s0)] := by
  intro w s0 h
  unfold fX5_differBy_37 at h
  refine z_istore_n B [(1, .int (hg_I s0)), (0, .ref (ad 0))] dX5_differBy_37 rfl (by decide) rfl ?_
  refine z_goto (tgt := 2) B dX5_differBy_38 (by decide) ?_
  refine z_lv (lv' := [(0, .ref (ad 0)), (1, .int (hg_I s0))]) B [1, 0] rfl ?_
  exact hK2 _ _ h
set_option maxHeartbeats 4000000 in
set_option maxRecDepth 100000 in
theorem rX5_differBy_2 (B : hg_B p s m args meth c cX5_differBy RX5 wsL_law 5 D cI cA ad 1 A) (hr : meth.sig.returnType = (some .int)) {w1 : hg_W} {r1 : Int} : ∀ (n : Nat), ∀ (w : hg_W) (x1 : Int), fX5_differBy_2 n w x1 = some (w1, r1) → hg_At p l e (rmX5_differBy) s m args below meth c D cI cA ad 1 A (MQ below (hg_Qi D cI cA ad 1 A w1 r1) args s 0 0 A) 5 w [(0, .ref (ad 0)), (1, .int (hg_I x1))] 2 [] := by
  intro n
  induction n with
  | zero =>
    intro w x1 h
    cases h
  | succ n ih =>
    intro w x1 h
    simp only [fX5_differBy_2] at h
    refine z_aload_n B 0 dX5_differBy_2 rfl rfl ?_
    obtain ⟨w1, v2, q3, h⟩ := hg_bd_some h
    refine z_calliV (a := 0) (ci := 5) (N := 37) (T := TX5) (C := RX5) (As := []) (n := 0) B dX5_differBy_3 (c_X5_coinsAll q3) (gl_V (wl_8 2 rfl) (wl_8 3 rfl) (wl_8 4 rfl) (wl_1 5 rfl) (wl_8 5 rfl)) rfl ⟨rfl, rfl⟩ (by decide +kernel) ⟨Nat.le_of_ble_eq_true rfl, Nat.le_of_ble_eq_true rfl⟩ (by decide) rfl (by decide) rfl rfl rfl (Nat.le_of_ble_eq_true rfl) ?_
    refine z_if_le (tgt := 41) B dX5_differBy_6 (by decide) h (fun h => ?_) (fun h => ?_)
    · refine z_aload_n B 0 dX5_differBy_41 rfl rfl ?_
      refine z_get5 (v := .ref (ad 3)) B 3 dX5_differBy_42 inlX5 (by decide) rfl (by decide) (wl_4 4 rfl) rfl rfl ?_
      refine z_iconst B dX5_differBy_45 ?_
      obtain ⟨v4, q5, h⟩ := Option.bind_eq_some_iff.mp h
      refine z_iald (Or.inr rfl) B dX5_differBy_46 q5 ?_
      refine z_istore_n B [(2, .int (hg_I v4)), (0, .ref (ad 0)), (1, .int (hg_I x1))] dX5_differBy_47 rfl (by decide) rfl ?_
      refine z_aload_n B 1 dX5_differBy_48 rfl rfl ?_
      refine z_get5 (v := .ref (ad 3)) B 3 dX5_differBy_49 inlX5 (by decide) rfl (by decide) (wl_4 4 rfl) rfl rfl ?_
      refine z_iconst B dX5_differBy_52 ?_
      obtain ⟨v6, q7, h⟩ := Option.bind_eq_some_iff.mp h
      refine z_iald (Or.inr rfl) B dX5_differBy_53 q7 ?_
      refine z_istore_n B [(3, .int (hg_I v6)), (2, .int (hg_I v4)), (0, .ref (ad 0)), (1, .int (hg_I x1))] dX5_differBy_54 rfl (by decide) rfl ?_
      refine z_iconst B dX5_differBy_55 ?_
      refine z_istore B [(4, .int (hg_I 1)), (3, .int (hg_I v6)), (2, .int (hg_I v4)), (0, .ref (ad 0)), (1, .int (hg_I x1))] dX5_differBy_56 (by decide) rfl ?_
      refine z_lv (lv' := [(0, .ref (ad 0)), (2, .int (hg_I v4)), (3, .int (hg_I v6)), (4, .int (hg_I 1))]) B [3, 2, 1, 0] rfl ?_
      exact rX5_differBy_58 B hr hg_F _ _ _ _ h
    · refine z_aload_n B 0 dX5_differBy_9 rfl rfl ?_
      refine z_aload_n B 0 dX5_differBy_10 rfl rfl ?_
      refine z_get5 (v := .ref (ad 19)) B 32 dX5_differBy_11 inlX5 (by decide) rfl (by decide) (wl_4 20 rfl) rfl rfl ?_
      refine z_iload_n B 1 dX5_differBy_14 rfl rfl ?_
      obtain ⟨v8, q9, h⟩ := Option.bind_eq_some_iff.mp h
      refine z_iald (Or.inr rfl) B dX5_differBy_15 q9 ?_
      obtain ⟨w10, v11, q12, h⟩ := hg_bd_some h
      refine z_calliV (a := 0) (ci := 5) (N := 37) (T := TX5) (C := RX5) (As := [.int (hg_I v8)]) (n := 1) B dX5_differBy_16 (c_X5_takesOne q12) (gl_V (wl_22 5 rfl) (wl_22 6 rfl) (wl_22 7 rfl) (wl_1 5 rfl) (wl_22 8 rfl)) rfl ⟨rfl, rfl⟩ (by decide +kernel) ⟨Nat.le_of_ble_eq_true rfl, Nat.le_of_ble_eq_true rfl⟩ (by decide) rfl (by decide) rfl rfl rfl (Nat.le_of_ble_eq_true rfl) ?_
      refine z_pop B dX5_differBy_19 rfl ?_
      refine z_iload_n B 1 dX5_differBy_20 rfl rfl ?_
      refine z_iconst B dX5_differBy_21 ?_
      refine z_iadd B dX5_differBy_22 ?_
      refine z_aload_n B 0 dX5_differBy_23 rfl rfl ?_
      refine z_get5 (v := .int (hg_I (w10 0 0))) B 0 dX5_differBy_24 inlX5 (by decide) rfl (by decide) (wl_7 22 rfl) rfl rfl ?_
      refine z_icmp_ne (tgt := 34) B dX5_differBy_27 (by decide) h (fun h => ?_) (fun h => ?_)
      · refine z_iload_n B 1 dX5_differBy_34 rfl rfl ?_
        refine z_iconst B dX5_differBy_35 ?_
        refine z_iadd B dX5_differBy_36 ?_
        refine z_lv (lv' := [(0, .ref (ad 0))]) B [0] rfl ?_
        exact rX5_differBy_37 B hr ih _ _ h
      · refine z_iconst B dX5_differBy_30 ?_
        refine z_goto (tgt := 37) B dX5_differBy_31 (by decide) ?_
        refine z_lv (lv' := [(0, .ref (ad 0))]) B [0] rfl ?_
        exact rX5_differBy_37 B hr ih _ _ h
set_option maxHeartbeats 4000000 in
set_option maxRecDepth 100000 in
theorem rX5_differBy_E (B : hg_B p s m args meth c cX5_differBy RX5 wsL_law 5 D cI cA ad 1 A) (hr : meth.sig.returnType = (some .int)) {w1 : hg_W} {r1 : Int} {w : hg_W} (h : fX5_differBy w = some (w1, r1)) : hg_At p l e (rmX5_differBy) s m args below meth c D cI cA ad 1 A (MQ below (hg_Qi D cI cA ad 1 A w1 r1) args s 0 0 A) 5 w [(0, .ref (ad 0))] 0 [] := by
  unfold fX5_differBy at h
  refine z_iconst B dX5_differBy_0 ?_
  refine z_istore_n B [(1, .int (hg_I 0)), (0, .ref (ad 0))] dX5_differBy_1 rfl (by decide) rfl ?_
  refine z_lv (lv' := [(0, .ref (ad 0)), (1, .int (hg_I 0))]) B [1, 0] rfl ?_
  exact rX5_differBy_2 B hr hg_F _ _ h
set_option maxHeartbeats 4000000 in
set_option maxRecDepth 100000 in
theorem c_X5_differBy {l : Launch} {D : va_G} {cI cA : ClassId} {ad : Nat → Nat} {w w1 : hg_W} {r1 : Int} (h : fX5_differBy w = some (w1, r1)) : hg_Mi l yX5_differBy wxX5_differBy rmX5_differBy D cI cA ad 1 w [.ref (ad 0)] w1 r1 := by
  refine z_meti cX5_differBy 5 (some .int) (by decide) (Nat.le_of_ble_eq_true rfl) ?_
  intro p e s m args below meth c A B hr
  exact rX5_differBy_E B hr h
end G_05_model3
