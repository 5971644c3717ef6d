section G_05_model5
variable {p : Program} {l : Launch} {e : Env} {s : State} {m : MethodId} {args : Array Value} {below : List Frame} {meth : Method} {c : Code} {D : va_G} {cI cA : ClassId} {ad : Nat → Nat} {A : Nat → Prop}
abbrev wxX5_laws : List Cond := Cond.code yX5_laws cX5_laws 6 (some .int) :: wsL_law
def fX5_laws_57 (K23 : hg_W → Int → Int → Int → Int → Option (hg_W × Int))  (w : hg_W) (x1 : Int) (x3 : Int) (x5 : Int) (s0 : Int) (s1 : Int) : Option (hg_W × Int) :=
  K23 w x1 x3 (hg_or s0 s1) (x5 + 1)
def fX5_laws_23   : Nat → hg_W → Int → Int → Int → Int → Option (hg_W × Int)
  | 0, _, _, _, _, _ => none
  | n + 1, w, x1, x3, x4, x5 =>
    if wr (w 0 11) ≤ wr x5 then
      (
        (hg_pt w 0 12 x3).bind fun w1 =>
        some (w1, wr x4)
      )
    else
      (hg_pt w 0 12 x5).bind fun w3 =>
      hg_bd (fX5_unlike w3 x1) fun w5 v6 =>
      if wr v6 = wr (-1) then
        (
          fX5_laws_57 (fX5_laws_23 n) w5 x1 x3 x5 x4 (hg_shl 1 x5)
        )
      else
        fX5_laws_57 (fX5_laws_23 n) w5 x1 x3 x5 x4 0
def fX5_laws (w : hg_W) (a1 : Int) : Option (hg_W × Int) :=
  hg_bd (fX5_sheetWrong w a1) fun w1 v2 =>
  if wr v2 = 0 then
    (
      fX5_laws_23 hg_F w1 a1 (w1 0 12) 0 0
    )
  else
    some (w1, wr v2)
set_option maxHeartbeats 4000000 in
set_option maxRecDepth 100000 in
abbrev rmX5_laws : Room := { frames := 9, cells := 0, slots := 0, locals := 209 }
set_option maxHeartbeats 4000000 in
set_option maxRecDepth 100000 in
theorem rX5_laws_57 (B : hg_B p s m args meth c cX5_laws RX5 wsL_law 6 D cI cA ad 1 A) (hr : meth.sig.returnType = (some .int)) {w1 : hg_W} {r1 : Int} {K23 : hg_W → Int → Int → Int → Int → Option (hg_W × Int)} (hK23 : ∀ (w : hg_W) (x1 : Int) (x3 : Int) (x4 : Int) (x5 : Int), K23 w x1 x3 x4 x5 = some (w1, r1) → hg_At p l e (rmX5_laws) s m args below meth c D cI cA ad 1 A (MQ below (hg_Qi D cI cA ad 1 A w1 r1) args s 0 0 A) 6 w [(0, .ref (ad 0)), (1, .int (hg_I x1)), (3, .int (hg_I x3)), (4, .int (hg_I x4)), (5, .int (hg_I x5))] 23 []) : ∀ (w : hg_W) (x1 : Int) (x3 : Int) (x5 : Int) (s0 : Int) (s1 : Int), fX5_laws_57 K23 w x1 x3 x5 s0 s1 = some (w1, r1) → hg_At p l e (rmX5_laws) s m args below meth c D cI cA ad 1 A (MQ below (hg_Qi D cI cA ad 1 A w1 r1) args s 0 0 A) 6 w [(0, .ref (ad 0)), (1, .int (hg_I x1)), (3, .int (hg_I x3)), (5, .int (hg_I x5))] 57 [.int (hg_I s1), .int (hg_I s0)] := by
  intro w x1 x3 x5 s0 s1 h
  unfold fX5_laws_57 at h
  refine z_ior B dX5_laws_57 ?_
  refine z_istore B [(4, .int (hg_I (hg_or s0 s1))), (0, .ref (ad 0)), (1, .int (hg_I x1)), (3, .int (hg_I x3)), (5, .int (hg_I x5))] dX5_laws_58 (by decide) rfl ?_
  refine z_iinc B 4 [(5, .int (hg_I (x5 + 1))), (4, .int (hg_I (hg_or s0 s1))), (0, .ref (ad 0)), (1, .int (hg_I x1)), (3, .int (hg_I x3))] dX5_laws_60 rfl (by decide) rfl ?_
  refine z_goto (tgt := 23) B dX5_laws_63 (by decide) ?_
  refine z_lv (lv' := [(0, .ref (ad 0)), (1, .int (hg_I x1)), (3, .int (hg_I x3)), (4, .int (hg_I (hg_or s0 s1))), (5, .int (hg_I (x5 + 1)))]) B [2, 3, 4, 1, 0] rfl ?_
  exact hK23 _ _ _ _ _ h
set_option maxHeartbeats 4000000 in
set_option maxRecDepth 100000 in
theorem rX5_laws_23 (B : hg_B p s m args meth c cX5_laws RX5 wsL_law 6 D cI cA ad 1 A) (hr : meth.sig.returnType = (some .int)) {w1 : hg_W} {r1 : Int} : ∀ (n : Nat), ∀ (w : hg_W) (x1 : Int) (x3 : Int) (x4 : Int) (x5 : Int), fX5_laws_23 n w x1 x3 x4 x5 = some (w1, r1) → hg_At p l e (rmX5_laws) s m args below meth c D cI cA ad 1 A (MQ below (hg_Qi D cI cA ad 1 A w1 r1) args s 0 0 A) 6 w [(0, .ref (ad 0)), (1, .int (hg_I x1)), (3, .int (hg_I x3)), (4, .int (hg_I x4)), (5, .int (hg_I x5))] 23 [] := by
  intro n
  induction n with
  | zero =>
    intro w x1 x3 x4 x5 h
    cases h
  | succ n ih =>
    intro w x1 x3 x4 x5 h
    simp only [fX5_laws_23] at h
    refine z_iload B 4 dX5_laws_23 rfl ?_
    refine z_aload_n B 0 dX5_laws_25 rfl rfl ?_
    refine z_get5 (v := .int (hg_I (w 0 11))) B 11 dX5_laws_26 inlX5 (by decide) rfl (by decide) (wl_5 4 rfl) rfl rfl ?_
    refine z_icmp_ge (tgt := 66) B dX5_laws_29 (by decide) h (fun h => ?_) (fun h => ?_)
    · refine z_aload_n B 0 dX5_laws_66 rfl rfl ?_
      refine z_iload_n B 2 dX5_laws_67 rfl rfl ?_
      obtain ⟨w1, q2, h⟩ := Option.bind_eq_some_iff.mp h
      refine z_put5 B 12 dX5_laws_68 inlX5 (by decide) rfl (by decide) (wl_8 0 rfl) rfl rfl .int (by decide +kernel) rfl rfl hg_fs5_12 q2 ?_
      refine z_iload B 3 dX5_laws_71 rfl ?_
      exact z_iret B hr dX5_laws_73 h
    · refine z_aload_n B 0 dX5_laws_32 rfl rfl ?_
      refine z_iload B 4 dX5_laws_33 rfl ?_
      obtain ⟨w3, q4, h⟩ := Option.bind_eq_some_iff.mp h
      refine z_put5 B 12 dX5_laws_35 inlX5 (by decide) rfl (by decide) (wl_8 0 rfl) rfl rfl .int (by decide +kernel) rfl rfl hg_fs5_12 q4 ?_
      refine z_iload B 3 dX5_laws_38 rfl ?_
      refine z_aload_n B 0 dX5_laws_40 rfl rfl ?_
      refine z_iload_n B 1 dX5_laws_41 rfl rfl ?_
      obtain ⟨w5, v6, q7, h⟩ := hg_bd_some h
      refine z_calliV (a := 0) (ci := 5) (N := 37) (T := TX5) (C := RX5) (As := [.int (hg_I x1)]) (n := 1) B dX5_laws_42 (c_X5_unlike q7) (gl_V (wl_29 13 rfl) (wl_29 14 rfl) (wl_29 15 rfl) (wl_1 5 rfl) (wl_29 16 rfl)) rfl ⟨rfl, rfl⟩ (by decide +kernel) ⟨Nat.le_of_ble_eq_true rfl, Nat.le_of_ble_eq_true rfl⟩ (by decide) rfl (by decide) rfl rfl rfl (Nat.le_of_ble_eq_true rfl) ?_
      refine z_iconst B dX5_laws_45 ?_
      refine z_icmp_ne (tgt := 56) B dX5_laws_46 (by decide) h (fun h => ?_) (fun h => ?_)
      · refine z_iconst B dX5_laws_56 ?_
        refine z_lv (lv' := [(0, .ref (ad 0)), (1, .int (hg_I x1)), (3, .int (hg_I x3)), (5, .int (hg_I x5))]) B [0, 1, 2, 4] rfl ?_
        exact rX5_laws_57 B hr ih _ _ _ _ _ _ h
      · refine z_iconst B dX5_laws_49 ?_
        refine z_iload B 4 dX5_laws_50 rfl ?_
        refine z_ishl B dX5_laws_52 ?_
        refine z_goto (tgt := 57) B dX5_laws_53 (by decide) ?_
        refine z_lv (lv' := [(0, .ref (ad 0)), (1, .int (hg_I x1)), (3, .int (hg_I x3)), (5, .int (hg_I x5))]) B [0, 1, 2, 4] rfl ?_
        exact rX5_laws_57 B hr ih _ _ _ _ _ _ h
set_option maxHeartbeats 4000000 in
set_option maxRecDepth 100000 in
theorem rX5_laws_E (B : hg_B p s m args meth c cX5_laws RX5 wsL_law 6 D cI cA ad 1 A) (hr : meth.sig.returnType = (some .int)) {a1 : Int} {w1 : hg_W} {r1 : Int} {w : hg_W} (h : fX5_laws w a1 = some (w1, r1)) : hg_At p l e (rmX5_laws) s m args below meth c D cI cA ad 1 A (MQ below (hg_Qi D cI cA ad 1 A w1 r1) args s 0 0 A) 6 w [(0, .ref (ad 0)), (1, .int (hg_I a1))] 0 [] := by
  unfold fX5_laws at h
  refine z_aload_n B 0 dX5_laws_0 rfl rfl ?_
  refine z_iload_n B 1 dX5_laws_1 rfl rfl ?_
  obtain ⟨w1, v2, q3, h⟩ := hg_bd_some h
  refine z_calliV (a := 0) (ci := 5) (N := 37) (T := TX5) (C := RX5) (As := [.int (hg_I a1)]) (n := 1) B dX5_laws_2 (c_X5_sheetWrong q3) (gl_V (wl_29 9 rfl) (wl_29 10 rfl) (wl_29 11 rfl) (wl_1 5 rfl) (wl_29 12 rfl)) rfl ⟨rfl, rfl⟩ (by decide +kernel) ⟨Nat.le_of_ble_eq_true rfl, Nat.le_of_ble_eq_true rfl⟩ (by decide) rfl (by decide) rfl rfl rfl (Nat.le_of_ble_eq_true rfl) ?_
  refine z_istore_n B [(2, .int (hg_I v2)), (0, .ref (ad 0)), (1, .int (hg_I a1))] dX5_laws_5 rfl (by decide) rfl ?_
  refine z_iload_n B 0 dX5_laws_6 rfl rfl ?_
  refine z_if_eq (tgt := 12) B dX5_laws_7 (by decide) h (fun h => ?_) (fun h => ?_)
  · refine z_aload_n B 1 dX5_laws_12 rfl rfl ?_
    refine z_get5 (v := .int (hg_I (w1 0 12))) B 12 dX5_laws_13 inlX5 (by decide) rfl (by decide) (wl_8 0 rfl) rfl rfl ?_
    refine z_istore_n B [(3, .int (hg_I (w1 0 12))), (2, .int (hg_I v2)), (0, .ref (ad 0)), (1, .int (hg_I a1))] dX5_laws_16 rfl (by decide) rfl ?_
    refine z_iconst B dX5_laws_17 ?_
    refine z_istore B [(4, .int (hg_I 0)), (3, .int (hg_I (w1 0 12))), (2, .int (hg_I v2)), (0, .ref (ad 0)), (1, .int (hg_I a1))] dX5_laws_18 (by decide) rfl ?_
    refine z_iconst B dX5_laws_20 ?_
    refine z_istore B [(5, .int (hg_I 0)), (4, .int (hg_I 0)), (3, .int (hg_I (w1 0 12))), (2, .int (hg_I v2)), (0, .ref (ad 0)), (1, .int (hg_I a1))] dX5_laws_21 (by decide) rfl ?_
    refine z_lv (lv' := [(0, .ref (ad 0)), (1, .int (hg_I a1)), (3, .int (hg_I (w1 0 12))), (4, .int (hg_I 0)), (5, .int (hg_I 0))]) B [4, 5, 2, 1, 0] rfl ?_
    exact rX5_laws_23 B hr hg_F _ _ _ _ _ h
  · refine z_iload_n B 0 dX5_laws_10 rfl rfl ?_
    exact z_iret B hr dX5_laws_11 h
set_option maxHeartbeats 4000000 in
set_option maxRecDepth 100000 in
theorem c_X5_laws {l : Launch} {D : va_G} {cI cA : ClassId} {ad : Nat → Nat} {a1 : Int} {w w1 : hg_W} {r1 : Int} (h : fX5_laws w a1 = some (w1, r1)) : hg_Mi l yX5_laws wxX5_laws rmX5_laws D cI cA ad 1 w [.ref (ad 0), .int (hg_I a1)] w1 r1 := by
  refine z_meti cX5_laws 6 (some .int) (by decide) (Nat.le_of_ble_eq_true rfl) ?_
  intro p e s m args below meth c A B hr
  exact rX5_laws_E B hr h
abbrev wxX5_film : List Cond := Cond.code yX5_film cX5_film 4 (some .int) :: wsL_law
def fX5_film_74 (K45 : hg_W → Int → Int → Int → Option (hg_W × Int))  (w : hg_W) (x1 : Int) (x2 : Int) (x3 : Int) (s1 : Int) (s2 : Int) : Option (hg_W × Int) :=
  (hg_as 1 w 12 s1 s2).bind fun w1 =>
  K45 w1 x1 x2 (x3 + 1)
def fX5_film_45   : Nat → hg_W → Int → Int → Int → Option (hg_W × Int)
  | 0, _, _, _, _ => none
  | n + 1, w, x1, x2, x3 =>
    if wr 40 ≤ wr x3 then
      (
        hg_bd (fX5_lays w) fun w1 _ =>
        some (w1, wr x2)
      )
    else
      if wr x2 ≤ wr x3 then
        (
          fX5_film_74 (fX5_film_45 n) w x1 x2 x3 ((40 * x1) + x3) 0
        )
      else
        hg_bd (fX5_toldTurn w) fun w4 v5 =>
        fX5_film_74 (fX5_film_45 n) w4 x1 x2 x3 ((40 * x1) + x3) v5
def fX5_film (w : hg_W) (a1 : Int) (a2 : Int) : Option (hg_W × Int) :=
  hg_bd (fX5_in w a1 0 3) fun w1 v2 =>
  if wr v2 = 0 then
    (
      some (w1, wr (-2))
    )
  else
    hg_bd (fX5_in w1 a2 0 30) fun w4 v5 =>
    if wr v5 = 0 then
      (
        some (w4, wr (-7))
      )
    else
      (hg_as 1 w4 10 a1 0).bind fun w7 =>
      (hg_as 1 w7 11 a1 a2).bind fun w9 =>
      hg_bd (fX5_keeps w9) fun w11 _ =>
      fX5_film_45 hg_F w11 a1 a2 0
set_option maxHeartbeats 4000000 in
set_option maxRecDepth 100000 in
abbrev rmX5_film : Room := { frames := 8, cells := 0, slots := 0, locals := 186 }
set_option maxHeartbeats 4000000 in
set_option maxRecDepth 100000 in
theorem rX5_film_74 (B : hg_B p s m args meth c cX5_film RX5 wsL_law 4 D cI cA ad 1 A) (hr : meth.sig.returnType = (some .int)) {w1 : hg_W} {r1 : Int} {K45 : hg_W → Int → Int → Int → Option (hg_W × Int)} (hK45 : ∀ (w : hg_W) (x1 : Int) (x2 : Int) (x3 : Int), K45 w x1 x2 x3 = some (w1, r1) → hg_At p l e (rmX5_film) s m args below meth c D cI cA ad 1 A (MQ below (hg_Qi D cI cA ad 1 A w1 r1) args s 0 0 A) 4 w [(0, .ref (ad 0)), (1, .int (hg_I x1)), (2, .int (hg_I x2)), (3, .int (hg_I x3))] 45 []) : ∀ (w : hg_W) (x1 : Int) (x2 : Int) (x3 : Int) (s1 : Int) (s2 : Int), fX5_film_74 K45 w x1 x2 x3 s1 s2 = some (w1, r1) → hg_At p l e (rmX5_film) s m args below meth c D cI cA ad 1 A (MQ below (hg_Qi D cI cA ad 1 A w1 r1) args s 0 0 A) 4 w [(0, .ref (ad 0)), (1, .int (hg_I x1)), (2, .int (hg_I x2)), (3, .int (hg_I x3))] 74 [.int (hg_I s2), .int (hg_I s1), .ref (ad 12)] := by
  intro w x1 x2 x3 s1 s2 h
  unfold fX5_film_74 at h
  obtain ⟨w1, q2, h⟩ := Option.bind_eq_some_iff.mp h
  refine z_iast (Or.inr rfl) B dX5_film_74 q2 ?_
  refine z_iinc B 3 [(3, .int (hg_I (x3 + 1))), (0, .ref (ad 0)), (1, .int (hg_I x1)), (2, .int (hg_I x2))] dX5_film_75 rfl (by decide) rfl ?_
  refine z_goto (tgt := 45) B dX5_film_78 (by decide) ?_
  refine z_lv (lv' := [(0, .ref (ad 0)), (1, .int (hg_I x1)), (2, .int (hg_I x2)), (3, .int (hg_I (x3 + 1)))]) B [1, 2, 3, 0] rfl ?_
  exact hK45 _ _ _ _ h
set_option maxHeartbeats 4000000 in
set_option maxRecDepth 100000 in
theorem rX5_film_45 (B : hg_B p s m args meth c cX5_film RX5 wsL_law 4 D cI cA ad 1 A) (hr : meth.sig.returnType = (some .int)) {w1 : hg_W} {r1 : Int} : ∀ (n : Nat), ∀ (w : hg_W) (x1 : Int) (x2 : Int) (x3 : Int), fX5_film_45 n w x1 x2 x3 = some (w1, r1) → hg_At p l e (rmX5_film) s m args below meth c D cI cA ad 1 A (MQ below (hg_Qi D cI cA ad 1 A w1 r1) args s 0 0 A) 4 w [(0, .ref (ad 0)), (1, .int (hg_I x1)), (2, .int (hg_I x2)), (3, .int (hg_I x3))] 45 [] := by
  intro n
  induction n with
  | zero =>
    intro w x1 x2 x3 h
    cases h
  | succ n ih =>
    intro w x1 x2 x3 h
    simp only [fX5_film_45] at h
    refine z_iload_n B 3 dX5_film_45 rfl rfl ?_
    refine z_bipush B dX5_film_46 (by decide) ?_
    refine z_icmp_ge (tgt := 81) B dX5_film_48 (by decide) h (fun h => ?_) (fun h => ?_)
    · refine z_aload_n B 0 dX5_film_81 rfl rfl ?_
      obtain ⟨w1, v2, q3, h⟩ := hg_bd_some h
      refine z_callvV (a := 0) (ci := 5) (N := 37) (T := TX5) (C := RX5) (As := []) (n := 0) B dX5_film_82 (c_X5_lays q3) (gl_V (wl_24 2 rfl) (wl_24 3 rfl) (wl_24 4 rfl) (wl_1 5 rfl) (wl_24 5 rfl)) rfl ⟨rfl, rfl⟩ (by decide +kernel) ⟨Nat.le_of_ble_eq_true rfl, Nat.le_of_ble_eq_true rfl⟩ (by decide) rfl (by decide) rfl rfl rfl (Nat.le_of_ble_eq_true rfl) ?_
      refine z_iload_n B 2 dX5_film_85 rfl rfl ?_
      exact z_iret B hr dX5_film_86 h
    · refine z_aload_n B 0 dX5_film_51 rfl rfl ?_
      refine z_get5 (v := .ref (ad 12)) B 18 dX5_film_52 inlX5 (by decide) rfl (by decide) (wl_4 13 rfl) rfl rfl ?_
      refine z_bipush B dX5_film_55 (by decide) ?_
      refine z_iload_n B 1 dX5_film_57 rfl rfl ?_
      refine z_imul B dX5_film_58 ?_
      refine z_iload_n B 3 dX5_film_59 rfl rfl ?_
      refine z_iadd B dX5_film_60 ?_
      refine z_iload_n B 3 dX5_film_61 rfl rfl ?_
      refine z_iload_n B 2 dX5_film_62 rfl rfl ?_
      refine z_icmp_ge (tgt := 73) B dX5_film_63 (by decide) h (fun h => ?_) (fun h => ?_)
      · refine z_iconst B dX5_film_73 ?_
        exact rX5_film_74 B hr ih _ _ _ _ _ _ h
      · refine z_aload_n B 0 dX5_film_66 rfl rfl ?_
        obtain ⟨w4, v5, q6, h⟩ := hg_bd_some h
        refine z_calliV (a := 0) (ci := 5) (N := 37) (T := TX5) (C := RX5) (As := []) (n := 0) B dX5_film_67 (c_X5_toldTurn q6) (gl_V (wl_29 17 rfl) (wl_29 18 rfl) (wl_29 19 rfl) (wl_1 5 rfl) (wl_29 20 rfl)) rfl ⟨rfl, rfl⟩ (by decide +kernel) ⟨Nat.le_of_ble_eq_true rfl, Nat.le_of_ble_eq_true rfl⟩ (by decide) rfl (by decide) rfl rfl rfl (Nat.le_of_ble_eq_true rfl) ?_
        refine z_goto (tgt := 74) B dX5_film_70 (by decide) ?_
        exact rX5_film_74 B hr ih _ _ _ _ _ _ h
set_option maxHeartbeats 4000000 in
set_option maxRecDepth 100000 in
theorem rX5_film_E (B : hg_B p s m args meth c cX5_film RX5 wsL_law 4 D cI cA ad 1 A) (hr : meth.sig.returnType = (some .int)) {a1 : Int} {a2 : Int} {w1 : hg_W} {r1 : Int} {w : hg_W} (h : fX5_film w a1 a2 = some (w1, r1)) : hg_At p l e (rmX5_film) s m args below meth c D cI cA ad 1 A (MQ below (hg_Qi D cI cA ad 1 A w1 r1) args s 0 0 A) 4 w [(0, .ref (ad 0)), (1, .int (hg_I a1)), (2, .int (hg_I a2))] 0 [] := by
  unfold fX5_film at h
  refine z_iload_n B 1 dX5_film_0 rfl rfl ?_
  refine z_iconst B dX5_film_1 ?_
  refine z_iconst B dX5_film_2 ?_
  obtain ⟨w1, v2, q3, h⟩ := hg_bd_some h
  refine z_calliS (As := [.int (hg_I a1), .int (hg_I 0), .int (hg_I 3)]) (n := 3) B dX5_film_3 (c_X5_in q3) (gl_S (wl_5 14 rfl) (wl_5 15 rfl) (wl_1 5 rfl) (wl_5 16 rfl)) rfl ⟨rfl, rfl⟩ (by decide +kernel) ⟨Nat.le_of_ble_eq_true rfl, Nat.le_of_ble_eq_true rfl⟩ rfl rfl (Nat.le_of_ble_eq_true rfl) ?_
  refine z_if_ne (tgt := 12) B dX5_film_6 (by decide) h (fun h => ?_) (fun h => ?_)
  · refine z_iload_n B 2 dX5_film_12 rfl rfl ?_
    refine z_iconst B dX5_film_13 ?_
    refine z_bipush B dX5_film_14 (by decide) ?_
    obtain ⟨w4, v5, q6, h⟩ := hg_bd_some h
    refine z_calliS (As := [.int (hg_I a2), .int (hg_I 0), .int (hg_I 30)]) (n := 3) B dX5_film_16 (c_X5_in q6) (gl_S (wl_5 14 rfl) (wl_5 15 rfl) (wl_1 5 rfl) (wl_5 16 rfl)) rfl ⟨rfl, rfl⟩ (by decide +kernel) ⟨Nat.le_of_ble_eq_true rfl, Nat.le_of_ble_eq_true rfl⟩ rfl rfl (Nat.le_of_ble_eq_true rfl) ?_
    refine z_if_ne (tgt := 25) B dX5_film_19 (by decide) h (fun h => ?_) (fun h => ?_)
    · refine z_aload_n B 0 dX5_film_25 rfl rfl ?_
      refine z_get5 (v := .ref (ad 10)) B 16 dX5_film_26 inlX5 (by decide) rfl (by decide) (wl_4 11 rfl) rfl rfl ?_
      refine z_iload_n B 1 dX5_film_29 rfl rfl ?_
      refine z_iconst B dX5_film_30 ?_
      obtain ⟨w7, q8, h⟩ := Option.bind_eq_some_iff.mp h
      refine z_iast (Or.inr rfl) B dX5_film_31 q8 ?_
      refine z_aload_n B 0 dX5_film_32 rfl rfl ?_
      refine z_get5 (v := .ref (ad 11)) B 17 dX5_film_33 inlX5 (by decide) rfl (by decide) (wl_4 12 rfl) rfl rfl ?_
      refine z_iload_n B 1 dX5_film_36 rfl rfl ?_
      refine z_iload_n B 2 dX5_film_37 rfl rfl ?_
      obtain ⟨w9, q10, h⟩ := Option.bind_eq_some_iff.mp h
      refine z_iast (Or.inr rfl) B dX5_film_38 q10 ?_
      refine z_aload_n B 0 dX5_film_39 rfl rfl ?_
      obtain ⟨w11, v12, q13, h⟩ := hg_bd_some h
      refine z_callvV (a := 0) (ci := 5) (N := 37) (T := TX5) (C := RX5) (As := []) (n := 0) B dX5_film_40 (c_X5_keeps q13) (gl_V (wl_23 18 rfl) (wl_23 19 rfl) (wl_23 20 rfl) (wl_1 5 rfl) (wl_23 21 rfl)) rfl ⟨rfl, rfl⟩ (by decide +kernel) ⟨Nat.le_of_ble_eq_true rfl, Nat.le_of_ble_eq_true rfl⟩ (by decide) rfl (by decide) rfl rfl rfl (Nat.le_of_ble_eq_true rfl) ?_
      refine z_iconst B dX5_film_43 ?_
      refine z_istore_n B [(3, .int (hg_I 0)), (0, .ref (ad 0)), (1, .int (hg_I a1)), (2, .int (hg_I a2))] dX5_film_44 rfl (by decide) rfl ?_
      refine z_lv (lv' := [(0, .ref (ad 0)), (1, .int (hg_I a1)), (2, .int (hg_I a2)), (3, .int (hg_I 0))]) B [1, 2, 3, 0] rfl ?_
      exact rX5_film_45 B hr hg_F _ _ _ _ h
    · refine z_bipush B dX5_film_22 (by decide) ?_
      exact z_iret B hr dX5_film_24 h
  · refine z_bipush B dX5_film_9 (by decide) ?_
    exact z_iret B hr dX5_film_11 h
set_option maxHeartbeats 4000000 in
set_option maxRecDepth 100000 in
theorem c_X5_film {l : Launch} {D : va_G} {cI cA : ClassId} {ad : Nat → Nat} {a1 : Int} {a2 : Int} {w w1 : hg_W} {r1 : Int} (h : fX5_film w a1 a2 = some (w1, r1)) : hg_Mi l yX5_film wxX5_film rmX5_film D cI cA ad 1 w [.ref (ad 0), .int (hg_I a1), .int (hg_I a2)] w1 r1 := by
  refine z_meti cX5_film 4 (some .int) (by decide) (Nat.le_of_ble_eq_true rfl) ?_
  intro p e s m args below meth c A B hr
  exact rX5_film_E B hr h
abbrev wxX5_lotHat : List Cond := Cond.code yX5_lotHat cX5_lotHat 7 (some .int) :: wsL_law
def fX5_lotHat_111   (w : hg_W) (x6 : Int) : Option (hg_W × Int) :=
  hg_bd (fX5_lays w) fun w1 _ =>
  some (w1, wr x6)
def fX5_lotHat_12   : Nat → hg_W → Int → Int → Int → Option (hg_W × Int)
  | 0, _, _, _, _ => none
  | n + 1, w, x2, x3, x5 =>
    if wr x2 ≤ wr x5 then
      (
        hg_bd (fX5_goes w 120) fun w1 v2 =>
        (hg_pt w1 0 36 v2).bind fun w4 =>
        hg_bd (fX5_mostBy w4 1) fun w6 v7 =>
        if wr v7 = wr (-1) then
          (
            fX5_lotHat_111 w6 0
          )
        else
          (hg_ag 1 w6 3 ((3 * v7) + 1)).bind fun v9 =>
          fX5_lotHat_111 w6 v9
      )
    else
      (hg_ag 1 w 4 ((2 * (hg_lrm (hg_lrm (x3 * 48271) 2147483647) 6)) + 1)).bind fun v11 =>
      hg_bd (fX5_within w (v11 + 1) 0 20) fun w13 v14 =>
      (hg_as 1 w13 4 ((2 * (hg_lrm (hg_lrm (x3 * 48271) 2147483647) 6)) + 1) v14).bind fun w16 =>
      fX5_lotHat_12 n w16 x2 (hg_lrm (x3 * 48271) 2147483647) (x5 + 1)
def fX5_lotHat (w : hg_W) (a1 : Int) (a2 : Int) : Option (hg_W × Int) :=
  hg_bd (fX5_keeps w) fun w1 _ =>
  fX5_lotHat_12 hg_F w1 a2 ((wr a1) + 1) 0
set_option maxHeartbeats 4000000 in
set_option maxRecDepth 100000 in
abbrev rmX5_lotHat : Room := { frames := 8, cells := 0, slots := 0, locals := 189 }
set_option maxHeartbeats 4000000 in
set_option maxRecDepth 100000 in
theorem rX5_lotHat_111 (B : hg_B p s m args meth c cX5_lotHat RX5 wsL_law 7 D cI cA ad 1 A) (hr : meth.sig.returnType = (some .int)) {w1 : hg_W} {r1 : Int} : ∀ (w : hg_W) (x6 : Int), fX5_lotHat_111 w x6 = some (w1, r1) → hg_At p l e (rmX5_lotHat) s m args below meth c D cI cA ad 1 A (MQ below (hg_Qi D cI cA ad 1 A w1 r1) args s 0 0 A) 7 w [(0, .ref (ad 0)), (6, .int (hg_I x6))] 111 [] := by
  intro w x6 h
  unfold fX5_lotHat_111 at h
  refine z_aload_n B 0 dX5_lotHat_111 rfl rfl ?_
  obtain ⟨w1, v2, q3, h⟩ := hg_bd_some h
  refine z_callvV (a := 0) (ci := 5) (N := 37) (T := TX5) (C := RX5) (As := []) (n := 0) B dX5_lotHat_112 (c_X5_lays q3) (gl_V (wl_24 2 rfl) (wl_24 3 rfl) (wl_24 4 rfl) (wl_1 5 rfl) (wl_24 5 rfl)) rfl ⟨rfl, rfl⟩ (by decide +kernel) ⟨Nat.le_of_ble_eq_true rfl, Nat.le_of_ble_eq_true rfl⟩ (by decide) rfl (by decide) rfl rfl rfl (Nat.le_of_ble_eq_true rfl) ?_
  refine z_iload B 1 dX5_lotHat_115 rfl ?_
  exact z_iret B hr dX5_lotHat_117 h
set_option maxHeartbeats 4000000 in
set_option maxRecDepth 100000 in
theorem rX5_lotHat_12 (B : hg_B p s m args meth c cX5_lotHat RX5 wsL_law 7 D cI cA ad 1 A) (hr : meth.sig.returnType = (some .int)) {w1 : hg_W} {r1 : Int} : ∀ (n : Nat), ∀ (w : hg_W) (x2 : Int) (x3 : Int) (x5 : Int), fX5_lotHat_12 n w x2 x3 x5 = some (w1, r1) → hg_At p l e (rmX5_lotHat) s m args below meth c D cI cA ad 1 A (MQ below (hg_Qi D cI cA ad 1 A w1 r1) args s 0 0 A) 7 w [(0, .ref (ad 0)), (2, .int (hg_I x2)), (3, .long (hg_J x3)), (5, .int (hg_I x5))] 12 [] := by
  intro n
  induction n with
  | zero =>
    intro w x2 x3 x5 h
    cases h
  | succ n ih =>
    intro w x2 x3 x5 h
    simp only [fX5_lotHat_12] at h
    refine z_iload B 3 dX5_lotHat_12 rfl ?_
    refine z_iload_n B 1 dX5_lotHat_14 rfl rfl ?_
    refine z_icmp_ge (tgt := 72) B dX5_lotHat_15 (by decide) h (fun h => ?_) (fun h => ?_)
    · refine z_aload_n B 0 dX5_lotHat_72 rfl rfl ?_
      refine z_aload_n B 0 dX5_lotHat_73 rfl rfl ?_
      refine z_bipush B dX5_lotHat_74 (by decide) ?_
      obtain ⟨w1, v2, q3, h⟩ := hg_bd_some h
      refine z_calliV (a := 0) (ci := 5) (N := 37) (T := TX5) (C := RX5) (As := [.int (hg_I 120)]) (n := 1) B dX5_lotHat_76 (c_X5_goes q3) (gl_V (wl_23 22 rfl) (wl_23 23 rfl) (wl_24 0 rfl) (wl_1 5 rfl) (wl_24 1 rfl)) rfl ⟨rfl, rfl⟩ (by decide +kernel) ⟨Nat.le_of_ble_eq_true rfl, Nat.le_of_ble_eq_true rfl⟩ (by decide) rfl (by decide) rfl rfl rfl (Nat.le_of_ble_eq_true rfl) ?_
      obtain ⟨w4, q5, h⟩ := Option.bind_eq_some_iff.mp h
      refine z_put5 B 36 dX5_lotHat_79 inlX5 (by decide) rfl (by decide) (wl_32 23 rfl) rfl rfl .int (by decide +kernel) rfl rfl hg_fs5_36 q5 ?_
      refine z_aload_n B 0 dX5_lotHat_82 rfl rfl ?_
      refine z_iconst B dX5_lotHat_83 ?_
      obtain ⟨w6, v7, q8, h⟩ := hg_bd_some h
      refine z_calliV (a := 0) (ci := 5) (N := 37) (T := TX5) (C := RX5) (As := [.int (hg_I 1)]) (n := 1) B dX5_lotHat_84 (c_X5_mostBy q8) (gl_V (wl_24 17 rfl) (wl_24 18 rfl) (wl_24 19 rfl) (wl_1 5 rfl) (wl_24 20 rfl)) rfl ⟨rfl, rfl⟩ (by decide +kernel) ⟨Nat.le_of_ble_eq_true rfl, Nat.le_of_ble_eq_true rfl⟩ (by decide) rfl (by decide) rfl rfl rfl (Nat.le_of_ble_eq_true rfl) ?_
      refine z_istore B [(5, .int (hg_I v7)), (0, .ref (ad 0)), (2, .int (hg_I x2)), (3, .long (hg_J x3))] dX5_lotHat_87 (by decide) rfl ?_
      refine z_iconst B dX5_lotHat_89 ?_
      refine z_istore B [(6, .int (hg_I 0)), (5, .int (hg_I v7)), (0, .ref (ad 0)), (2, .int (hg_I x2)), (3, .long (hg_J x3))] dX5_lotHat_90 (by decide) rfl ?_
      refine z_iload B 1 dX5_lotHat_92 rfl ?_
      refine z_iconst B dX5_lotHat_94 ?_
      refine z_icmp_eq (tgt := 111) B dX5_lotHat_95 (by decide) h (fun h => ?_) (fun h => ?_)
      · refine z_lv (lv' := [(0, .ref (ad 0)), (6, .int (hg_I 0))]) B [2, 0] rfl ?_
        exact rX5_lotHat_111 B hr _ _ h
      · refine z_aload_n B 2 dX5_lotHat_98 rfl rfl ?_
        refine z_get5 (v := .ref (ad 3)) B 3 dX5_lotHat_99 inlX5 (by decide) rfl (by decide) (wl_4 4 rfl) rfl rfl ?_
        refine z_iconst B dX5_lotHat_102 ?_
        refine z_iload B 1 dX5_lotHat_103 rfl ?_
        refine z_imul B dX5_lotHat_105 ?_
        refine z_iconst B dX5_lotHat_106 ?_
        refine z_iadd B dX5_lotHat_107 ?_
        obtain ⟨v9, q10, h⟩ := Option.bind_eq_some_iff.mp h
        refine z_iald (Or.inr rfl) B dX5_lotHat_108 q10 ?_
        refine z_istore B [(6, .int (hg_I v9)), (5, .int (hg_I v7)), (0, .ref (ad 0)), (2, .int (hg_I x2)), (3, .long (hg_J x3))] dX5_lotHat_109 (by decide) rfl ?_
        refine z_lv (lv' := [(0, .ref (ad 0)), (6, .int (hg_I v9))]) B [2, 0] rfl ?_
        exact rX5_lotHat_111 B hr _ _ h
    · refine z_lload_n B 2 dX5_lotHat_18 rfl rfl ?_
      refine z_ldc2 (n := 48271) (v := 48271) B dX5_lotHat_19 (wl_33 4 rfl) (by decide) ?_
      refine z_lmul B dX5_lotHat_22 ?_
      refine z_ldc2 (n := 2147483647) (v := 2147483647) B dX5_lotHat_23 (wl_33 5 rfl) (by decide) ?_
      refine z_lrem B dX5_lotHat_26 (by decide) ?_
      refine z_lstore_n B [(3, .long (hg_J (hg_lrm (x3 * 48271) 2147483647))), (0, .ref (ad 0)), (2, .int (hg_I x2)), (5, .int (hg_I x5))] dX5_lotHat_27 rfl (by decide) rfl ?_
      refine z_lload_n B 0 dX5_lotHat_28 rfl rfl ?_
      refine z_ldc2 (n := 6) (v := 6) B dX5_lotHat_29 (wl_33 6 rfl) (by decide) ?_
      refine z_lrem B dX5_lotHat_32 (by decide) ?_
      refine z_l2i B dX5_lotHat_33 ?_
      refine z_istore B [(6, .int (hg_I (hg_lrm (hg_lrm (x3 * 48271) 2147483647) 6))), (3, .long (hg_J (hg_lrm (x3 * 48271) 2147483647))), (0, .ref (ad 0)), (2, .int (hg_I x2)), (5, .int (hg_I x5))] dX5_lotHat_34 (by decide) rfl ?_
      refine z_aload_n B 2 dX5_lotHat_36 rfl rfl ?_
      refine z_get5 (v := .ref (ad 4)) B 4 dX5_lotHat_37 inlX5 (by decide) rfl (by decide) (wl_4 5 rfl) rfl rfl ?_
      refine z_iconst B dX5_lotHat_40 ?_
      refine z_iload B 0 dX5_lotHat_41 rfl ?_
      refine z_imul B dX5_lotHat_43 ?_
      refine z_iconst B dX5_lotHat_44 ?_
      refine z_iadd B dX5_lotHat_45 ?_
      refine z_aload_n B 2 dX5_lotHat_46 rfl rfl ?_
      refine z_get5 (v := .ref (ad 4)) B 4 dX5_lotHat_47 inlX5 (by decide) rfl (by decide) (wl_4 5 rfl) rfl rfl ?_
      refine z_iconst B dX5_lotHat_50 ?_
      refine z_iload B 0 dX5_lotHat_51 rfl ?_
      refine z_imul B dX5_lotHat_53 ?_
      refine z_iconst B dX5_lotHat_54 ?_
      refine z_iadd B dX5_lotHat_55 ?_
      obtain ⟨v11, q12, h⟩ := Option.bind_eq_some_iff.mp h
      refine z_iald (Or.inr rfl) B dX5_lotHat_56 q12 ?_
      refine z_iconst B dX5_lotHat_57 ?_
      refine z_iadd B dX5_lotHat_58 ?_
      refine z_iconst B dX5_lotHat_59 ?_
      refine z_bipush B dX5_lotHat_60 (by decide) ?_
      obtain ⟨w13, v14, q15, h⟩ := hg_bd_some h
      refine z_calliS (As := [.int (hg_I (v11 + 1)), .int (hg_I 0), .int (hg_I 20)]) (n := 3) B dX5_lotHat_62 (c_X5_within q15) (gl_S (wl_17 10 rfl) (wl_17 11 rfl) (wl_1 5 rfl) (wl_17 12 rfl)) rfl ⟨rfl, rfl⟩ (by decide +kernel) ⟨Nat.le_of_ble_eq_true rfl, Nat.le_of_ble_eq_true rfl⟩ rfl rfl (Nat.le_of_ble_eq_true rfl) ?_
      obtain ⟨w16, q17, h⟩ := Option.bind_eq_some_iff.mp h
      refine z_iast (Or.inr rfl) B dX5_lotHat_65 q17 ?_
      refine z_iinc B 4 [(5, .int (hg_I (x5 + 1))), (6, .int (hg_I (hg_lrm (hg_lrm (x3 * 48271) 2147483647) 6))), (3, .long (hg_J (hg_lrm (x3 * 48271) 2147483647))), (0, .ref (ad 0)), (2, .int (hg_I x2))] dX5_lotHat_66 rfl (by decide) rfl ?_
      refine z_goto (tgt := 12) B dX5_lotHat_69 (by decide) ?_
      refine z_lv (lv' := [(0, .ref (ad 0)), (2, .int (hg_I x2)), (3, .long (hg_J (hg_lrm (x3 * 48271) 2147483647))), (5, .int (hg_I (x5 + 1)))]) B [3, 4, 2, 0] rfl ?_
      exact ih _ _ _ _ h
set_option maxHeartbeats 4000000 in
set_option maxRecDepth 100000 in
theorem rX5_lotHat_E (B : hg_B p s m args meth c cX5_lotHat RX5 wsL_law 7 D cI cA ad 1 A) (hr : meth.sig.returnType = (some .int)) {a1 : Int} {a2 : Int} {w1 : hg_W} {r1 : Int} {w : hg_W} (h : fX5_lotHat w a1 a2 = some (w1, r1)) : hg_At p l e (rmX5_lotHat) s m args below meth c D cI cA ad 1 A (MQ below (hg_Qi D cI cA ad 1 A w1 r1) args s 0 0 A) 7 w [(0, .ref (ad 0)), (1, .int (hg_I a1)), (2, .int (hg_I a2))] 0 [] := by
  unfold fX5_lotHat at h
  refine z_iload_n B 1 dX5_lotHat_0 rfl rfl ?_
  refine z_i2l B dX5_lotHat_1 ?_
  refine z_lconst (x := 1) B dX5_lotHat_2 (by decide) ?_
  refine z_ladd B dX5_lotHat_3 ?_
  refine z_lstore_n B [(3, .long (hg_J ((wr a1) + 1))), (0, .ref (ad 0)), (1, .int (hg_I a1)), (2, .int (hg_I a2))] dX5_lotHat_4 rfl (by decide) rfl ?_
  refine z_aload_n B 1 dX5_lotHat_5 rfl rfl ?_
  obtain ⟨w1, v2, q3, h⟩ := hg_bd_some h
  refine z_callvV (a := 0) (ci := 5) (N := 37) (T := TX5) (C := RX5) (As := []) (n := 0) B dX5_lotHat_6 (c_X5_keeps q3) (gl_V (wl_23 18 rfl) (wl_23 19 rfl) (wl_23 20 rfl) (wl_1 5 rfl) (wl_23 21 rfl)) rfl ⟨rfl, rfl⟩ (by decide +kernel) ⟨Nat.le_of_ble_eq_true rfl, Nat.le_of_ble_eq_true rfl⟩ (by decide) rfl (by decide) rfl rfl rfl (Nat.le_of_ble_eq_true rfl) ?_
  refine z_iconst B dX5_lotHat_9 ?_
  refine z_istore B [(5, .int (hg_I 0)), (3, .long (hg_J ((wr a1) + 1))), (0, .ref (ad 0)), (1, .int (hg_I a1)), (2, .int (hg_I a2))] dX5_lotHat_10 (by decide) rfl ?_
  refine z_lv (lv' := [(0, .ref (ad 0)), (2, .int (hg_I a2)), (3, .long (hg_J ((wr a1) + 1))), (5, .int (hg_I 0))]) B [2, 4, 1, 0] rfl ?_
  exact rX5_lotHat_12 B hr hg_F _ _ _ _ h
set_option maxHeartbeats 4000000 in
set_option maxRecDepth 100000 in
theorem c_X5_lotHat {l : Launch} {D : va_G} {cI cA : ClassId} {ad : Nat → Nat} {a1 : Int} {a2 : Int} {w w1 : hg_W} {r1 : Int} (h : fX5_lotHat w a1 a2 = some (w1, r1)) : hg_Mi l yX5_lotHat wxX5_lotHat rmX5_lotHat D cI cA ad 1 w [.ref (ad 0), .int (hg_I a1), .int (hg_I a2)] w1 r1 := by
  refine z_meti cX5_lotHat 7 (some .int) (by decide) (Nat.le_of_ble_eq_true rfl) ?_
  intro p e s m args below meth c A B hr
  exact rX5_lotHat_E B hr h
abbrev wxX5_drawn : List Cond := Cond.code yX5_drawn cX5_drawn 5 (some .int) :: wsL_law
def fX5_drawn (w : hg_W) (a1 : Int) (a2 : Int) (a3 : Int) : Option (hg_W × Int) :=
  hg_bd (fX5_in w a1 0 99999) fun w1 v2 =>
  if wr v2 = 0 then
    (
      some (w1, wr (-2))
    )
  else
    hg_bd (fX5_in w1 a2 0 30) fun w4 v5 =>
    if wr v5 = 0 then
      (
        some (w4, wr (-2))
      )
    else
      hg_bd (fX5_in w4 a3 0 1) fun w7 v8 =>
      if wr v8 = 0 then
        (
          some (w7, wr (-2))
        )
      else
        hg_bd (fX5_lotHat w7 a1 a2) fun w10 v11 =>
        if wr a3 = 0 then
          (
            some (w10, wr v11)
          )
        else
          some (w10, wr (w10 0 36))
set_option maxHeartbeats 4000000 in
set_option maxRecDepth 100000 in
abbrev rmX5_drawn : Room := { frames := 9, cells := 0, slots := 0, locals := 215 }
set_option maxHeartbeats 4000000 in
set_option maxRecDepth 100000 in
theorem rX5_drawn_E (B : hg_B p s m args meth c cX5_drawn RX5 wsL_law 5 D cI cA ad 1 A) (hr : meth.sig.returnType = (some .int)) {a1 : Int} {a2 : Int} {a3 : Int} {w1 : hg_W} {r1 : Int} {w : hg_W} (h : fX5_drawn w a1 a2 a3 = some (w1, r1)) : hg_At p l e (rmX5_drawn) s m args below meth c D cI cA ad 1 A (MQ below (hg_Qi D cI cA ad 1 A w1 r1) args s 0 0 A) 5 w [(0, .ref (ad 0)), (1, .int (hg_I a1)), (2, .int (hg_I a2)), (3, .int (hg_I a3))] 0 [] := by
  unfold fX5_drawn at h
  refine z_iload_n B 1 dX5_drawn_0 rfl rfl ?_
  refine z_iconst B dX5_drawn_1 ?_
  refine z_ldc (n := 99999) (v := 99999) B dX5_drawn_2 (wl_32 22 rfl) (by decide) ?_
  obtain ⟨w1, v2, q3, h⟩ := hg_bd_some h
  refine z_calliS (As := [.int (hg_I a1), .int (hg_I 0), .int (hg_I 99999)]) (n := 3) B dX5_drawn_4 (c_X5_in q3) (gl_S (wl_5 14 rfl) (wl_5 15 rfl) (wl_1 5 rfl) (wl_5 16 rfl)) rfl ⟨rfl, rfl⟩ (by decide +kernel) ⟨Nat.le_of_ble_eq_true rfl, Nat.le_of_ble_eq_true rfl⟩ rfl rfl (Nat.le_of_ble_eq_true rfl) ?_
  refine z_if_eq (tgt := 29) B dX5_drawn_7 (by decide) h (fun h => ?_) (fun h => ?_)
  · refine z_bipush B dX5_drawn_29 (by decide) ?_
    exact z_iret B hr dX5_drawn_31 h
  · refine z_iload_n B 2 dX5_drawn_10 rfl rfl ?_
    refine z_iconst B dX5_drawn_11 ?_
    refine z_bipush B dX5_drawn_12 (by decide) ?_
    obtain ⟨w4, v5, q6, h⟩ := hg_bd_some h
    refine z_calliS (As := [.int (hg_I a2), .int (hg_I 0), .int (hg_I 30)]) (n := 3) B dX5_drawn_14 (c_X5_in q6) (gl_S (wl_5 14 rfl) (wl_5 15 rfl) (wl_1 5 rfl) (wl_5 16 rfl)) rfl ⟨rfl, rfl⟩ (by decide +kernel) ⟨Nat.le_of_ble_eq_true rfl, Nat.le_of_ble_eq_true rfl⟩ rfl rfl (Nat.le_of_ble_eq_true rfl) ?_
    refine z_if_eq (tgt := 29) B dX5_drawn_17 (by decide) h (fun h => ?_) (fun h => ?_)
    · refine z_bipush B dX5_drawn_29 (by decide) ?_
      exact z_iret B hr dX5_drawn_31 h
    · refine z_iload_n B 3 dX5_drawn_20 rfl rfl ?_
      refine z_iconst B dX5_drawn_21 ?_
      refine z_iconst B dX5_drawn_22 ?_
      obtain ⟨w7, v8, q9, h⟩ := hg_bd_some h
      refine z_calliS (As := [.int (hg_I a3), .int (hg_I 0), .int (hg_I 1)]) (n := 3) B dX5_drawn_23 (c_X5_in q9) (gl_S (wl_5 14 rfl) (wl_5 15 rfl) (wl_1 5 rfl) (wl_5 16 rfl)) rfl ⟨rfl, rfl⟩ (by decide +kernel) ⟨Nat.le_of_ble_eq_true rfl, Nat.le_of_ble_eq_true rfl⟩ rfl rfl (Nat.le_of_ble_eq_true rfl) ?_
      refine z_if_ne (tgt := 32) B dX5_drawn_26 (by decide) h (fun h => ?_) (fun h => ?_)
      · refine z_aload_n B 0 dX5_drawn_32 rfl rfl ?_
        refine z_iload_n B 1 dX5_drawn_33 rfl rfl ?_
        refine z_iload_n B 2 dX5_drawn_34 rfl rfl ?_
        obtain ⟨w10, v11, q12, h⟩ := hg_bd_some h
        refine z_calliV (a := 0) (ci := 5) (N := 37) (T := TX5) (C := RX5) (As := [.int (hg_I a1), .int (hg_I a2)]) (n := 2) B dX5_drawn_35 (c_X5_lotHat q12) (gl_V (wl_33 0 rfl) (wl_33 1 rfl) (wl_33 2 rfl) (wl_1 5 rfl) (wl_33 3 rfl)) rfl ⟨rfl, rfl⟩ (by decide +kernel) ⟨Nat.le_of_ble_eq_true rfl, Nat.le_of_ble_eq_true rfl⟩ (by decide) rfl (by decide) rfl rfl rfl (Nat.le_of_ble_eq_true rfl) ?_
        refine z_istore B [(4, .int (hg_I v11)), (0, .ref (ad 0)), (1, .int (hg_I a1)), (2, .int (hg_I a2)), (3, .int (hg_I a3))] dX5_drawn_38 (by decide) rfl ?_
        refine z_iload_n B 4 dX5_drawn_40 rfl rfl ?_
        refine z_if_ne (tgt := 49) B dX5_drawn_41 (by decide) h (fun h => ?_) (fun h => ?_)
        · refine z_aload_n B 1 dX5_drawn_49 rfl rfl ?_
          refine z_get5 (v := .int (hg_I (w10 0 36))) B 36 dX5_drawn_50 inlX5 (by decide) rfl (by decide) (wl_32 23 rfl) rfl rfl ?_
          exact z_iret B hr dX5_drawn_53 h
        · refine z_iload B 0 dX5_drawn_44 rfl ?_
          refine z_goto (tgt := 53) B dX5_drawn_46 (by decide) ?_
          exact z_iret B hr dX5_drawn_53 h
      · refine z_bipush B dX5_drawn_29 (by decide) ?_
        exact z_iret B hr dX5_drawn_31 h
set_option maxHeartbeats 4000000 in
set_option maxRecDepth 100000 in
theorem c_X5_drawn {l : Launch} {D : va_G} {cI cA : ClassId} {ad : Nat → Nat} {a1 : Int} {a2 : Int} {a3 : Int} {w w1 : hg_W} {r1 : Int} (h : fX5_drawn w a1 a2 a3 = some (w1, r1)) : hg_Mi l yX5_drawn wxX5_drawn rmX5_drawn D cI cA ad 1 w [.ref (ad 0), .int (hg_I a1), .int (hg_I a2), .int (hg_I a3)] w1 r1 := by
  refine z_meti cX5_drawn 5 (some .int) (by decide) (Nat.le_of_ble_eq_true rfl) ?_
  intro p e s m args below meth c A B hr
  exact rX5_drawn_E B hr h
abbrev wxX5_odds : List Cond := Cond.code yX5_odds cX5_odds 8 (some .long) :: wsL_law
def fX5_odds_80 (K48 : hg_W → Int → Int → Int → Int → Int → Int → Option (hg_W × Int))  (w : hg_W) (x1 : Int) (x2 : Int) (x3 : Int) (x4 : Int) (x7 : Int) (s0 : Int) (s1 : Int) : Option (hg_W × Int) :=
  K48 w x1 x2 x3 x4 (s0 + s1) (x7 + 1)
def fX5_odds_48   : Nat → hg_W → Int → Int → Int → Int → Int → Int → Option (hg_W × Int)
  | 0, _, _, _, _, _, _, _ => none
  | n + 1, w, x1, x2, x3, x4, x5, x7 =>
    if wr x2 ≤ wr x7 then
      (
        hg_bd (fX5_lowest w x5 (wr x2) x4) fun w1 v2 =>
        some (w1, wl v2)
      )
    else
      hg_bd (fX5_lotHat w (x1 + x7) 10) fun w4 v5 =>
      if wr (w4 0 36) = wr x3 then
        (
          fX5_odds_80 (fX5_odds_48 n) w4 x1 x2 x3 x4 x7 x5 1
        )
      else
        fX5_odds_80 (fX5_odds_48 n) w4 x1 x2 x3 x4 x7 x5 0
def fX5_odds (w : hg_W) (a1 : Int) (a2 : Int) (a3 : Int) (a4 : Int) : Option (hg_W × Int) :=
  hg_bd (fX5_in w a1 0 99999) fun w1 v2 =>
  if wr v2 = 0 then
    (
      some (w1, wl (-4611686018427387904))
    )
  else
    hg_bd (fX5_in w1 a2 1 40) fun w4 v5 =>
    if wr v5 = 0 then
      (
        some (w4, wl (-4611686018427387904))
      )
    else
      hg_bd (fX5_isOne w4 a3) fun w7 v8 =>
      if wr v8 = 0 then
        (
          some (w7, wl (-4611686018427387904))
        )
      else
        hg_bd (fX5_in w7 a4 0 1) fun w10 v11 =>
        if wr v11 = 0 then
          (
            some (w10, wl (-4611686018427387904))
          )
        else
          fX5_odds_48 hg_F w10 a1 a2 a3 a4 0 0
set_option maxHeartbeats 4000000 in
set_option maxRecDepth 100000 in
abbrev rmX5_odds : Room := { frames := 9, cells := 0, slots := 0, locals := 215 }
set_option maxHeartbeats 4000000 in
set_option maxRecDepth 100000 in
theorem rX5_odds_80 (B : hg_B p s m args meth c cX5_odds RX5 wsL_law 8 D cI cA ad 1 A) (hr : meth.sig.returnType = (some .long)) {w1 : hg_W} {r1 : Int} {K48 : hg_W → Int → Int → Int → Int → Int → Int → Option (hg_W × Int)} (hK48 : ∀ (w : hg_W) (x1 : Int) (x2 : Int) (x3 : Int) (x4 : Int) (x5 : Int) (x7 : Int), K48 w x1 x2 x3 x4 x5 x7 = some (w1, r1) → hg_At p l e (rmX5_odds) s m args below meth c D cI cA ad 1 A (MQ below (hg_Ql D cI cA ad 1 A w1 r1) args s 0 0 A) 8 w [(0, .ref (ad 0)), (1, .int (hg_I x1)), (2, .int (hg_I x2)), (3, .int (hg_I x3)), (4, .int (hg_I x4)), (5, .long (hg_J x5)), (7, .int (hg_I x7))] 48 []) : ∀ (w : hg_W) (x1 : Int) (x2 : Int) (x3 : Int) (x4 : Int) (x7 : Int) (s0 : Int) (s1 : Int), fX5_odds_80 K48 w x1 x2 x3 x4 x7 s0 s1 = some (w1, r1) → hg_At p l e (rmX5_odds) s m args below meth c D cI cA ad 1 A (MQ below (hg_Ql D cI cA ad 1 A w1 r1) args s 0 0 A) 8 w [(0, .ref (ad 0)), (1, .int (hg_I x1)), (2, .int (hg_I x2)), (3, .int (hg_I x3)), (4, .int (hg_I x4)), (7, .int (hg_I x7))] 80 [.long (hg_J s1), .long (hg_J s0)] := by
  intro w x1 x2 x3 x4 x7 s0 s1 h
  unfold fX5_odds_80 at h
  refine z_ladd B dX5_odds_80 ?_
  refine z_lstore B [(5, .long (hg_J (s0 + s1))), (0, .ref (ad 0)), (1, .int (hg_I x1)), (2, .int (hg_I x2)), (3, .int (hg_I x3)), (4, .int (hg_I x4)), (7, .int (hg_I x7))] dX5_odds_81 (by decide) rfl ?_
  refine z_iinc B 6 [(7, .int (hg_I (x7 + 1))), (5, .long (hg_J (s0 + s1))), (0, .ref (ad 0)), (1, .int (hg_I x1)), (2, .int (hg_I x2)), (3, .int (hg_I x3)), (4, .int (hg_I x4))] dX5_odds_83 rfl (by decide) rfl ?_
  refine z_goto (tgt := 48) B dX5_odds_86 (by decide) ?_
  refine z_lv (lv' := [(0, .ref (ad 0)), (1, .int (hg_I x1)), (2, .int (hg_I x2)), (3, .int (hg_I x3)), (4, .int (hg_I x4)), (5, .long (hg_J (s0 + s1))), (7, .int (hg_I (x7 + 1)))]) B [2, 3, 4, 5, 6, 1, 0] rfl ?_
  exact hK48 _ _ _ _ _ _ _ h
set_option maxHeartbeats 4000000 in
set_option maxRecDepth 100000 in
theorem rX5_odds_48 (B : hg_B p s m args meth c cX5_odds RX5 wsL_law 8 D cI cA ad 1 A) (hr : meth.sig.returnType = (some .long)) {w1 : hg_W} {r1 : Int} : ∀ (n : Nat), ∀ (w : hg_W) (x1 : Int) (x2 : Int) (x3 : Int) (x4 : Int) (x5 : Int) (x7 : Int), fX5_odds_48 n w x1 x2 x3 x4 x5 x7 = some (w1, r1) → hg_At p l e (rmX5_odds) s m args below meth c D cI cA ad 1 A (MQ below (hg_Ql D cI cA ad 1 A w1 r1) args s 0 0 A) 8 w [(0, .ref (ad 0)), (1, .int (hg_I x1)), (2, .int (hg_I x2)), (3, .int (hg_I x3)), (4, .int (hg_I x4)), (5, .long (hg_J x5)), (7, .int (hg_I x7))] 48 [] := by
  intro n
  induction n with
  | zero =>
    intro w x1 x2 x3 x4 x5 x7 h
    cases h
  | succ n ih =>
    intro w x1 x2 x3 x4 x5 x7 h
    simp only [fX5_odds_48] at h
    refine z_iload B 6 dX5_odds_48 rfl ?_
    refine z_iload_n B 2 dX5_odds_50 rfl rfl ?_
    refine z_icmp_ge (tgt := 89) B dX5_odds_51 (by decide) h (fun h => ?_) (fun h => ?_)
    · refine z_lload B 5 dX5_odds_89 rfl ?_
      refine z_iload_n B 2 dX5_odds_91 rfl rfl ?_
      refine z_i2l B dX5_odds_92 ?_
      refine z_iload B 4 dX5_odds_93 rfl ?_
      obtain ⟨w1, v2, q3, h⟩ := hg_bd_some h
      refine z_calllS (As := [.long (hg_J x5), .long (hg_J (wr x2)), .int (hg_I x4)]) (n := 3) B dX5_odds_95 (c_X5_lowest q3) (gl_S (wl_28 6 rfl) (wl_28 7 rfl) (wl_1 5 rfl) (wl_28 8 rfl)) rfl ⟨rfl, rfl⟩ (by decide +kernel) ⟨Nat.le_of_ble_eq_true rfl, Nat.le_of_ble_eq_true rfl⟩ rfl rfl (Nat.le_of_ble_eq_true rfl) ?_
      exact z_lret B hr dX5_odds_98 h
    · refine z_aload_n B 0 dX5_odds_54 rfl rfl ?_
      refine z_iload_n B 1 dX5_odds_55 rfl rfl ?_
      refine z_iload B 6 dX5_odds_56 rfl ?_
      refine z_iadd B dX5_odds_58 ?_
      refine z_bipush B dX5_odds_59 (by decide) ?_
      obtain ⟨w4, v5, q6, h⟩ := hg_bd_some h
      refine z_calliV (a := 0) (ci := 5) (N := 37) (T := TX5) (C := RX5) (As := [.int (hg_I (x1 + x7)), .int (hg_I 10)]) (n := 2) B dX5_odds_61 (c_X5_lotHat q6) (gl_V (wl_33 0 rfl) (wl_33 1 rfl) (wl_33 2 rfl) (wl_1 5 rfl) (wl_33 3 rfl)) rfl ⟨rfl, rfl⟩ (by decide +kernel) ⟨Nat.le_of_ble_eq_true rfl, Nat.le_of_ble_eq_true rfl⟩ (by decide) rfl (by decide) rfl rfl rfl (Nat.le_of_ble_eq_true rfl) ?_
      refine z_pop B dX5_odds_64 rfl ?_
      refine z_lload B 5 dX5_odds_65 rfl ?_
      refine z_aload_n B 0 dX5_odds_67 rfl rfl ?_
      refine z_get5 (v := .int (hg_I (w4 0 36))) B 36 dX5_odds_68 inlX5 (by decide) rfl (by decide) (wl_32 23 rfl) rfl rfl ?_
      refine z_iload_n B 3 dX5_odds_71 rfl rfl ?_
      refine z_icmp_ne (tgt := 79) B dX5_odds_72 (by decide) h (fun h => ?_) (fun h => ?_)
      · refine z_lconst (x := 0) B dX5_odds_79 (by decide) ?_
        refine z_lv (lv' := [(0, .ref (ad 0)), (1, .int (hg_I x1)), (2, .int (hg_I x2)), (3, .int (hg_I x3)), (4, .int (hg_I x4)), (7, .int (hg_I x7))]) B [0, 1, 2, 3, 4, 6] rfl ?_
        exact rX5_odds_80 B hr ih _ _ _ _ _ _ _ _ h
      · refine z_lconst (x := 1) B dX5_odds_75 (by decide) ?_
        refine z_goto (tgt := 80) B dX5_odds_76 (by decide) ?_
        refine z_lv (lv' := [(0, .ref (ad 0)), (1, .int (hg_I x1)), (2, .int (hg_I x2)), (3, .int (hg_I x3)), (4, .int (hg_I x4)), (7, .int (hg_I x7))]) B [0, 1, 2, 3, 4, 6] rfl ?_
        exact rX5_odds_80 B hr ih _ _ _ _ _ _ _ _ h
set_option maxHeartbeats 4000000 in
set_option maxRecDepth 100000 in
theorem rX5_odds_E (B : hg_B p s m args meth c cX5_odds RX5 wsL_law 8 D cI cA ad 1 A) (hr : meth.sig.returnType = (some .long)) {a1 : Int} {a2 : Int} {a3 : Int} {a4 : Int} {w1 : hg_W} {r1 : Int} {w : hg_W} (h : fX5_odds w a1 a2 a3 a4 = some (w1, r1)) : hg_At p l e (rmX5_odds) s m args below meth c D cI cA ad 1 A (MQ below (hg_Ql D cI cA ad 1 A w1 r1) args s 0 0 A) 8 w [(0, .ref (ad 0)), (1, .int (hg_I a1)), (2, .int (hg_I a2)), (3, .int (hg_I a3)), (4, .int (hg_I a4))] 0 [] := by
  unfold fX5_odds at h
  refine z_iload_n B 1 dX5_odds_0 rfl rfl ?_
  refine z_iconst B dX5_odds_1 ?_
  refine z_ldc (n := 99999) (v := 99999) B dX5_odds_2 (wl_32 22 rfl) (by decide) ?_
  obtain ⟨w1, v2, q3, h⟩ := hg_bd_some h
  refine z_calliS (As := [.int (hg_I a1), .int (hg_I 0), .int (hg_I 99999)]) (n := 3) B dX5_odds_4 (c_X5_in q3) (gl_S (wl_5 14 rfl) (wl_5 15 rfl) (wl_1 5 rfl) (wl_5 16 rfl)) rfl ⟨rfl, rfl⟩ (by decide +kernel) ⟨Nat.le_of_ble_eq_true rfl, Nat.le_of_ble_eq_true rfl⟩ rfl rfl (Nat.le_of_ble_eq_true rfl) ?_
  refine z_if_eq (tgt := 38) B dX5_odds_7 (by decide) h (fun h => ?_) (fun h => ?_)
  · refine z_ldc2 (n := -4611686018427387904) (v := -4611686018427387904) B dX5_odds_38 (wl_28 5 rfl) (by decide) ?_
    exact z_lret B hr dX5_odds_41 h
  · refine z_iload_n B 2 dX5_odds_10 rfl rfl ?_
    refine z_iconst B dX5_odds_11 ?_
    refine z_bipush B dX5_odds_12 (by decide) ?_
    obtain ⟨w4, v5, q6, h⟩ := hg_bd_some h
    refine z_calliS (As := [.int (hg_I a2), .int (hg_I 1), .int (hg_I 40)]) (n := 3) B dX5_odds_14 (c_X5_in q6) (gl_S (wl_5 14 rfl) (wl_5 15 rfl) (wl_1 5 rfl) (wl_5 16 rfl)) rfl ⟨rfl, rfl⟩ (by decide +kernel) ⟨Nat.le_of_ble_eq_true rfl, Nat.le_of_ble_eq_true rfl⟩ rfl rfl (Nat.le_of_ble_eq_true rfl) ?_
    refine z_if_eq (tgt := 38) B dX5_odds_17 (by decide) h (fun h => ?_) (fun h => ?_)
    · refine z_ldc2 (n := -4611686018427387904) (v := -4611686018427387904) B dX5_odds_38 (wl_28 5 rfl) (by decide) ?_
      exact z_lret B hr dX5_odds_41 h
    · refine z_aload_n B 0 dX5_odds_20 rfl rfl ?_
      refine z_iload_n B 3 dX5_odds_21 rfl rfl ?_
      obtain ⟨w7, v8, q9, h⟩ := hg_bd_some h
      refine z_calliV (a := 0) (ci := 5) (N := 37) (T := TX5) (C := RX5) (As := [.int (hg_I a3)]) (n := 1) B dX5_odds_22 (c_X5_isOne q9) (gl_V (wl_17 2 rfl) (wl_17 3 rfl) (wl_17 4 rfl) (wl_1 5 rfl) (wl_17 5 rfl)) rfl ⟨rfl, rfl⟩ (by decide +kernel) ⟨Nat.le_of_ble_eq_true rfl, Nat.le_of_ble_eq_true rfl⟩ (by decide) rfl (by decide) rfl rfl rfl (Nat.le_of_ble_eq_true rfl) ?_
      refine z_if_eq (tgt := 38) B dX5_odds_25 (by decide) h (fun h => ?_) (fun h => ?_)
      · refine z_ldc2 (n := -4611686018427387904) (v := -4611686018427387904) B dX5_odds_38 (wl_28 5 rfl) (by decide) ?_
        exact z_lret B hr dX5_odds_41 h
      · refine z_iload B 4 dX5_odds_28 rfl ?_
        refine z_iconst B dX5_odds_30 ?_
        refine z_iconst B dX5_odds_31 ?_
        obtain ⟨w10, v11, q12, h⟩ := hg_bd_some h
        refine z_calliS (As := [.int (hg_I a4), .int (hg_I 0), .int (hg_I 1)]) (n := 3) B dX5_odds_32 (c_X5_in q12) (gl_S (wl_5 14 rfl) (wl_5 15 rfl) (wl_1 5 rfl) (wl_5 16 rfl)) rfl ⟨rfl, rfl⟩ (by decide +kernel) ⟨Nat.le_of_ble_eq_true rfl, Nat.le_of_ble_eq_true rfl⟩ rfl rfl (Nat.le_of_ble_eq_true rfl) ?_
        refine z_if_ne (tgt := 42) B dX5_odds_35 (by decide) h (fun h => ?_) (fun h => ?_)
        · refine z_lconst (x := 0) B dX5_odds_42 (by decide) ?_
          refine z_lstore B [(5, .long (hg_J 0)), (0, .ref (ad 0)), (1, .int (hg_I a1)), (2, .int (hg_I a2)), (3, .int (hg_I a3)), (4, .int (hg_I a4))] dX5_odds_43 (by decide) rfl ?_
          refine z_iconst B dX5_odds_45 ?_
          refine z_istore B [(7, .int (hg_I 0)), (5, .long (hg_J 0)), (0, .ref (ad 0)), (1, .int (hg_I a1)), (2, .int (hg_I a2)), (3, .int (hg_I a3)), (4, .int (hg_I a4))] dX5_odds_46 (by decide) rfl ?_
          refine z_lv (lv' := [(0, .ref (ad 0)), (1, .int (hg_I a1)), (2, .int (hg_I a2)), (3, .int (hg_I a3)), (4, .int (hg_I a4)), (5, .long (hg_J 0)), (7, .int (hg_I 0))]) B [2, 3, 4, 5, 6, 1, 0] rfl ?_
          exact rX5_odds_48 B hr hg_F _ _ _ _ _ _ _ h
        · refine z_ldc2 (n := -4611686018427387904) (v := -4611686018427387904) B dX5_odds_38 (wl_28 5 rfl) (by decide) ?_
          exact z_lret B hr dX5_odds_41 h
set_option maxHeartbeats 4000000 in
set_option maxRecDepth 100000 in
theorem c_X5_odds {l : Launch} {D : va_G} {cI cA : ClassId} {ad : Nat → Nat} {a1 : Int} {a2 : Int} {a3 : Int} {a4 : Int} {w w1 : hg_W} {r1 : Int} (h : fX5_odds w a1 a2 a3 a4 = some (w1, r1)) : hg_Ml l yX5_odds wxX5_odds rmX5_odds D cI cA ad 1 w [.ref (ad 0), .int (hg_I a1), .int (hg_I a2), .int (hg_I a3), .int (hg_I a4)] w1 r1 := by
  refine z_metl cX5_odds 8 (some .long) (by decide) (Nat.le_of_ble_eq_true rfl) ?_
  intro p e s m args below meth c A B hr
  exact rX5_odds_E B hr h
abbrev wxX5_image : List Cond := Cond.code yX5_image cX5_image 2 (some .int) :: wsL_law
def fX5_image_33   : Nat → hg_W → Int → Option (hg_W × Int)
  | 0, _, _ => none
  | n + 1, w, x1 =>
    if wr 12 ≤ wr x1 then
      (
        (hg_as 1 w 9 0 (w 0 0)).bind fun w1 =>
        (hg_as 1 w1 9 1 (w1 0 5)).bind fun w3 =>
        (hg_as 1 w3 9 2 (w3 0 6)).bind fun w5 =>
        (hg_as 1 w5 9 3 (w5 0 12)).bind fun w7 =>
        some (w7, wr (w7 0 0))
      )
    else
      (hg_ag 1 w 4 x1).bind fun v9 =>
      (hg_as 1 w 8 (18 + x1) v9).bind fun w11 =>
      fX5_image_33 n w11 (x1 + 1)
def fX5_image_7   : Nat → hg_W → Int → Option (hg_W × Int)
  | 0, _, _ => none
  | n + 1, w, x1 =>
    if wr 18 ≤ wr x1 then
      (
        fX5_image_33 hg_F w 0
      )
    else
      (hg_ag 1 w 3 x1).bind fun v1 =>
      (hg_as 1 w 8 x1 v1).bind fun w3 =>
      fX5_image_7 n w3 (x1 + 1)
def fX5_image (w : hg_W) : Option (hg_W × Int) :=
  (hg_pt w 0 13 1).bind fun w1 =>
  fX5_image_7 hg_F w1 0
set_option maxHeartbeats 4000000 in
set_option maxRecDepth 100000 in
abbrev rmX5_image : Room := { frames := 0, cells := 0, slots := 0, locals := 0 }
set_option maxHeartbeats 4000000 in
set_option maxRecDepth 100000 in
theorem rX5_image_33 (B : hg_B p s m args meth c cX5_image RX5 wsL_law 2 D cI cA ad 1 A) (hr : meth.sig.returnType = (some .int)) {w1 : hg_W} {r1 : Int} : ∀ (n : Nat), ∀ (w : hg_W) (x1 : Int), fX5_image_33 n w x1 = some (w1, r1) → hg_At p l e (rmX5_image) s m args below meth c D cI cA ad 1 A (MQ below (hg_Qi D cI cA ad 1 A w1 r1) args s 0 0 A) 2 w [(0, .ref (ad 0)), (1, .int (hg_I x1))] 33 [] := by
  intro n
  induction n with
  | zero =>
    intro w x1 h
    cases h
  | succ n ih =>
    intro w x1 h
    simp only [fX5_image_33] at h
    refine z_iload_n B 1 dX5_image_33 rfl rfl ?_
    refine z_bipush B dX5_image_34 (by decide) ?_
    refine z_icmp_ge (tgt := 60) B dX5_image_36 (by decide) h (fun h => ?_) (fun h => ?_)
    · refine z_aload_n B 0 dX5_image_60 rfl rfl ?_
      refine z_get5 (v := .ref (ad 9)) B 15 dX5_image_61 inlX5 (by decide) rfl (by decide) (wl_4 10 rfl) rfl rfl ?_
      refine z_iconst B dX5_image_64 ?_
      refine z_aload_n B 0 dX5_image_65 rfl rfl ?_
      refine z_get5 (v := .int (hg_I (w 0 0))) B 0 dX5_image_66 inlX5 (by decide) rfl (by decide) (wl_7 22 rfl) rfl rfl ?_
      obtain ⟨w1, q2, h⟩ := Option.bind_eq_some_iff.mp h
      refine z_iast (Or.inr rfl) B dX5_image_69 q2 ?_
      refine z_aload_n B 0 dX5_image_70 rfl rfl ?_
      refine z_get5 (v := .ref (ad 9)) B 15 dX5_image_71 inlX5 (by decide) rfl (by decide) (wl_4 10 rfl) rfl rfl ?_
      refine z_iconst B dX5_image_74 ?_
      refine z_aload_n B 0 dX5_image_75 rfl rfl ?_
      refine z_get5 (v := .int (hg_I (w1 0 5))) B 5 dX5_image_76 inlX5 (by decide) rfl (by decide) (wl_8 1 rfl) rfl rfl ?_
      obtain ⟨w3, q4, h⟩ := Option.bind_eq_some_iff.mp h
      refine z_iast (Or.inr rfl) B dX5_image_79 q4 ?_
      refine z_aload_n B 0 dX5_image_80 rfl rfl ?_
      refine z_get5 (v := .ref (ad 9)) B 15 dX5_image_81 inlX5 (by decide) rfl (by decide) (wl_4 10 rfl) rfl rfl ?_
      refine z_iconst B dX5_image_84 ?_
      refine z_aload_n B 0 dX5_image_85 rfl rfl ?_
      refine z_get5 (v := .int (hg_I (w3 0 6))) B 6 dX5_image_86 inlX5 (by decide) rfl (by decide) (wl_7 23 rfl) rfl rfl ?_
      obtain ⟨w5, q6, h⟩ := Option.bind_eq_some_iff.mp h
      refine z_iast (Or.inr rfl) B dX5_image_89 q6 ?_
      refine z_aload_n B 0 dX5_image_90 rfl rfl ?_
      refine z_get5 (v := .ref (ad 9)) B 15 dX5_image_91 inlX5 (by decide) rfl (by decide) (wl_4 10 rfl) rfl rfl ?_
      refine z_iconst B dX5_image_94 ?_
      refine z_aload_n B 0 dX5_image_95 rfl rfl ?_
      refine z_get5 (v := .int (hg_I (w5 0 12))) B 12 dX5_image_96 inlX5 (by decide) rfl (by decide) (wl_8 0 rfl) rfl rfl ?_
      obtain ⟨w7, q8, h⟩ := Option.bind_eq_some_iff.mp h
      refine z_iast (Or.inr rfl) B dX5_image_99 q8 ?_
      refine z_aload_n B 0 dX5_image_100 rfl rfl ?_
      refine z_get5 (v := .int (hg_I (w7 0 0))) B 0 dX5_image_101 inlX5 (by decide) rfl (by decide) (wl_7 22 rfl) rfl rfl ?_
      exact z_iret B hr dX5_image_104 h
    · refine z_aload_n B 0 dX5_image_39 rfl rfl ?_
      refine z_get5 (v := .ref (ad 8)) B 14 dX5_image_40 inlX5 (by decide) rfl (by decide) (wl_4 9 rfl) rfl rfl ?_
      refine z_bipush B dX5_image_43 (by decide) ?_
      refine z_iload_n B 1 dX5_image_45 rfl rfl ?_
      refine z_iadd B dX5_image_46 ?_
      refine z_aload_n B 0 dX5_image_47 rfl rfl ?_
      refine z_get5 (v := .ref (ad 4)) B 4 dX5_image_48 inlX5 (by decide) rfl (by decide) (wl_4 5 rfl) rfl rfl ?_
      refine z_iload_n B 1 dX5_image_51 rfl rfl ?_
      obtain ⟨v9, q10, h⟩ := Option.bind_eq_some_iff.mp h
      refine z_iald (Or.inr rfl) B dX5_image_52 q10 ?_
      obtain ⟨w11, q12, h⟩ := Option.bind_eq_some_iff.mp h
      refine z_iast (Or.inr rfl) B dX5_image_53 q12 ?_
      refine z_iinc B 1 [(1, .int (hg_I (x1 + 1))), (0, .ref (ad 0))] dX5_image_54 rfl (by decide) rfl ?_
      refine z_goto (tgt := 33) B dX5_image_57 (by decide) ?_
      refine z_lv (lv' := [(0, .ref (ad 0)), (1, .int (hg_I (x1 + 1)))]) B [1, 0] rfl ?_
      exact ih _ _ h
set_option maxHeartbeats 4000000 in
set_option maxRecDepth 100000 in
theorem rX5_image_7 (B : hg_B p s m args meth c cX5_image RX5 wsL_law 2 D cI cA ad 1 A) (hr : meth.sig.returnType = (some .int)) {w1 : hg_W} {r1 : Int} : ∀ (n : Nat), ∀ (w : hg_W) (x1 : Int), fX5_image_7 n w x1 = some (w1, r1) → hg_At p l e (rmX5_image) s m args below meth c D cI cA ad 1 A (MQ below (hg_Qi D cI cA ad 1 A w1 r1) args s 0 0 A) 2 w [(0, .ref (ad 0)), (1, .int (hg_I x1))] 7 [] := by
  intro n
  induction n with
  | zero =>
    intro w x1 h
    cases h
  | succ n ih =>
    intro w x1 h
    simp only [fX5_image_7] at h
    refine z_iload_n B 1 dX5_image_7 rfl rfl ?_
    refine z_bipush B dX5_image_8 (by decide) ?_
    refine z_icmp_ge (tgt := 31) B dX5_image_10 (by decide) h (fun h => ?_) (fun h => ?_)
    · refine z_iconst B dX5_image_31 ?_
      refine z_istore_n B [(1, .int (hg_I 0)), (0, .ref (ad 0))] dX5_image_32 rfl (by decide) rfl ?_
      refine z_lv (lv' := [(0, .ref (ad 0)), (1, .int (hg_I 0))]) B [1, 0] rfl ?_
      exact rX5_image_33 B hr hg_F _ _ h
    · refine z_aload_n B 0 dX5_image_13 rfl rfl ?_
      refine z_get5 (v := .ref (ad 8)) B 14 dX5_image_14 inlX5 (by decide) rfl (by decide) (wl_4 9 rfl) rfl rfl ?_
      refine z_iload_n B 1 dX5_image_17 rfl rfl ?_
      refine z_aload_n B 0 dX5_image_18 rfl rfl ?_
      refine z_get5 (v := .ref (ad 3)) B 3 dX5_image_19 inlX5 (by decide) rfl (by decide) (wl_4 4 rfl) rfl rfl ?_
      refine z_iload_n B 1 dX5_image_22 rfl rfl ?_
      obtain ⟨v1, q2, h⟩ := Option.bind_eq_some_iff.mp h
      refine z_iald (Or.inr rfl) B dX5_image_23 q2 ?_
      obtain ⟨w3, q4, h⟩ := Option.bind_eq_some_iff.mp h
      refine z_iast (Or.inr rfl) B dX5_image_24 q4 ?_
      refine z_iinc B 1 [(1, .int (hg_I (x1 + 1))), (0, .ref (ad 0))] dX5_image_25 rfl (by decide) rfl ?_
      refine z_goto (tgt := 7) B dX5_image_28 (by decide) ?_
      refine z_lv (lv' := [(0, .ref (ad 0)), (1, .int (hg_I (x1 + 1)))]) B [1, 0] rfl ?_
      exact ih _ _ h
set_option maxHeartbeats 4000000 in
set_option maxRecDepth 100000 in
theorem rX5_image_E (B : hg_B p s m args meth c cX5_image RX5 wsL_law 2 D cI cA ad 1 A) (hr : meth.sig.returnType = (some .int)) {w1 : hg_W} {r1 : Int} {w : hg_W} (h : fX5_image w = some (w1, r1)) : hg_At p l e (rmX5_image) s m args below meth c D cI cA ad 1 A (MQ below (hg_Qi D cI cA ad 1 A w1 r1) args s 0 0 A) 2 w [(0, .ref (ad 0))] 0 [] := by
  unfold fX5_image at h
  refine z_aload_n B 0 dX5_image_0 rfl rfl ?_
  refine z_iconst B dX5_image_1 ?_
  obtain ⟨w1, q2, h⟩ := Option.bind_eq_some_iff.mp h
  refine z_put5 B 13 dX5_image_2 inlX5 (by decide) rfl (by decide) (wl_33 23 rfl) rfl rfl .boolean (by decide +kernel) rfl rfl hg_fs5_13 q2 ?_
  refine z_iconst B dX5_image_5 ?_
  refine z_istore_n B [(1, .int (hg_I 0)), (0, .ref (ad 0))] dX5_image_6 rfl (by decide) rfl ?_
  refine z_lv (lv' := [(0, .ref (ad 0)), (1, .int (hg_I 0))]) B [1, 0] rfl ?_
  exact rX5_image_7 B hr hg_F _ _ h
set_option maxHeartbeats 4000000 in
set_option maxRecDepth 100000 in
theorem c_X5_image {l : Launch} {D : va_G} {cI cA : ClassId} {ad : Nat → Nat} {w w1 : hg_W} {r1 : Int} (h : fX5_image w = some (w1, r1)) : hg_Mi l yX5_image wxX5_image rmX5_image D cI cA ad 1 w [.ref (ad 0)] w1 r1 := by
  refine z_meti cX5_image 2 (some .int) (by decide) (Nat.le_of_ble_eq_true rfl) ?_
  intro p e s m args below meth c A B hr
  exact rX5_image_E B hr h
abbrev wxX5_back : List Cond := Cond.code yX5_back cX5_back 2 (some .int) :: wsL_law
def fX5_back_38   : Nat → hg_W → Int → Option (hg_W × Int)
  | 0, _, _ => none
  | n + 1, w, x1 =>
    if wr 12 ≤ wr x1 then
      (
        (hg_ag 1 w 9 0).bind fun v1 =>
        (hg_pt w 0 0 v1).bind fun w3 =>
        (hg_ag 1 w3 9 1).bind fun v5 =>
        (hg_pt w3 0 5 v5).bind fun w7 =>
        (hg_ag 1 w7 9 2).bind fun v9 =>
        (hg_pt w7 0 6 v9).bind fun w11 =>
        (hg_ag 1 w11 9 3).bind fun v13 =>
        (hg_pt w11 0 12 v13).bind fun w15 =>
        some (w15, wr (w15 0 0))
      )
    else
      (hg_ag 1 w 8 (18 + x1)).bind fun v17 =>
      (hg_as 1 w 4 x1 v17).bind fun w19 =>
      fX5_back_38 n w19 (x1 + 1)
def fX5_back_12   : Nat → hg_W → Int → Option (hg_W × Int)
  | 0, _, _ => none
  | n + 1, w, x1 =>
    if wr 18 ≤ wr x1 then
      (
        fX5_back_38 hg_F w 0
      )
    else
      (hg_ag 1 w 8 x1).bind fun v1 =>
      (hg_as 1 w 3 x1 v1).bind fun w3 =>
      fX5_back_12 n w3 (x1 + 1)
def fX5_back (w : hg_W) : Option (hg_W × Int) :=
  if wr (w 0 13) = 0 then
    (
      some (w, wr (-3))
    )
  else
    fX5_back_12 hg_F w 0
set_option maxHeartbeats 4000000 in
set_option maxRecDepth 100000 in
abbrev rmX5_back : Room := { frames := 0, cells := 0, slots := 0, locals := 0 }
set_option maxHeartbeats 4000000 in
set_option maxRecDepth 100000 in
theorem rX5_back_38 (B : hg_B p s m args meth c cX5_back RX5 wsL_law 2 D cI cA ad 1 A) (hr : meth.sig.returnType = (some .int)) {w1 : hg_W} {r1 : Int} : ∀ (n : Nat), ∀ (w : hg_W) (x1 : Int), fX5_back_38 n w x1 = some (w1, r1) → hg_At p l e (rmX5_back) s m args below meth c D cI cA ad 1 A (MQ below (hg_Qi D cI cA ad 1 A w1 r1) args s 0 0 A) 2 w [(0, .ref (ad 0)), (1, .int (hg_I x1))] 38 [] := by
  intro n
  induction n with
  | zero =>
    intro w x1 h
    cases h
  | succ n ih =>
    intro w x1 h
    simp only [fX5_back_38] at h
    refine z_iload_n B 1 dX5_back_38 rfl rfl ?_
    refine z_bipush B dX5_back_39 (by decide) ?_
    refine z_icmp_ge (tgt := 65) B dX5_back_41 (by decide) h (fun h => ?_) (fun h => ?_)
    · refine z_aload_n B 0 dX5_back_65 rfl rfl ?_
      refine z_aload_n B 0 dX5_back_66 rfl rfl ?_
      refine z_get5 (v := .ref (ad 9)) B 15 dX5_back_67 inlX5 (by decide) rfl (by decide) (wl_4 10 rfl) rfl rfl ?_
      refine z_iconst B dX5_back_70 ?_
      obtain ⟨v1, q2, h⟩ := Option.bind_eq_some_iff.mp h
      refine z_iald (Or.inr rfl) B dX5_back_71 q2 ?_
      obtain ⟨w3, q4, h⟩ := Option.bind_eq_some_iff.mp h
      refine z_put5 B 0 dX5_back_72 inlX5 (by decide) rfl (by decide) (wl_7 22 rfl) rfl rfl .int (by decide +kernel) rfl rfl hg_fs5_0 q4 ?_
      refine z_aload_n B 0 dX5_back_75 rfl rfl ?_
      refine z_aload_n B 0 dX5_back_76 rfl rfl ?_
      refine z_get5 (v := .ref (ad 9)) B 15 dX5_back_77 inlX5 (by decide) rfl (by decide) (wl_4 10 rfl) rfl rfl ?_
      refine z_iconst B dX5_back_80 ?_
      obtain ⟨v5, q6, h⟩ := Option.bind_eq_some_iff.mp h
      refine z_iald (Or.inr rfl) B dX5_back_81 q6 ?_
      obtain ⟨w7, q8, h⟩ := Option.bind_eq_some_iff.mp h
      refine z_put5 B 5 dX5_back_82 inlX5 (by decide) rfl (by decide) (wl_8 1 rfl) rfl rfl .int (by decide +kernel) rfl rfl hg_fs5_5 q8 ?_
      refine z_aload_n B 0 dX5_back_85 rfl rfl ?_
      refine z_aload_n B 0 dX5_back_86 rfl rfl ?_
      refine z_get5 (v := .ref (ad 9)) B 15 dX5_back_87 inlX5 (by decide) rfl (by decide) (wl_4 10 rfl) rfl rfl ?_
      refine z_iconst B dX5_back_90 ?_
      obtain ⟨v9, q10, h⟩ := Option.bind_eq_some_iff.mp h
      refine z_iald (Or.inr rfl) B dX5_back_91 q10 ?_
      obtain ⟨w11, q12, h⟩ := Option.bind_eq_some_iff.mp h
      refine z_put5 B 6 dX5_back_92 inlX5 (by decide) rfl (by decide) (wl_7 23 rfl) rfl rfl .int (by decide +kernel) rfl rfl hg_fs5_6 q12 ?_
      refine z_aload_n B 0 dX5_back_95 rfl rfl ?_
      refine z_aload_n B 0 dX5_back_96 rfl rfl ?_
      refine z_get5 (v := .ref (ad 9)) B 15 dX5_back_97 inlX5 (by decide) rfl (by decide) (wl_4 10 rfl) rfl rfl ?_
      refine z_iconst B dX5_back_100 ?_
      obtain ⟨v13, q14, h⟩ := Option.bind_eq_some_iff.mp h
      refine z_iald (Or.inr rfl) B dX5_back_101 q14 ?_
      obtain ⟨w15, q16, h⟩ := Option.bind_eq_some_iff.mp h
      refine z_put5 B 12 dX5_back_102 inlX5 (by decide) rfl (by decide) (wl_8 0 rfl) rfl rfl .int (by decide +kernel) rfl rfl hg_fs5_12 q16 ?_
      refine z_aload_n B 0 dX5_back_105 rfl rfl ?_
      refine z_get5 (v := .int (hg_I (w15 0 0))) B 0 dX5_back_106 inlX5 (by decide) rfl (by decide) (wl_7 22 rfl) rfl rfl ?_
      exact z_iret B hr dX5_back_109 h
    · refine z_aload_n B 0 dX5_back_44 rfl rfl ?_
      refine z_get5 (v := .ref (ad 4)) B 4 dX5_back_45 inlX5 (by decide) rfl (by decide) (wl_4 5 rfl) rfl rfl ?_
      refine z_iload_n B 1 dX5_back_48 rfl rfl ?_
      refine z_aload_n B 0 dX5_back_49 rfl rfl ?_
      refine z_get5 (v := .ref (ad 8)) B 14 dX5_back_50 inlX5 (by decide) rfl (by decide) (wl_4 9 rfl) rfl rfl ?_
      refine z_bipush B dX5_back_53 (by decide) ?_
      refine z_iload_n B 1 dX5_back_55 rfl rfl ?_
      refine z_iadd B dX5_back_56 ?_
      obtain ⟨v17, q18, h⟩ := Option.bind_eq_some_iff.mp h
      refine z_iald (Or.inr rfl) B dX5_back_57 q18 ?_
      obtain ⟨w19, q20, h⟩ := Option.bind_eq_some_iff.mp h
      refine z_iast (Or.inr rfl) B dX5_back_58 q20 ?_
      refine z_iinc B 1 [(1, .int (hg_I (x1 + 1))), (0, .ref (ad 0))] dX5_back_59 rfl (by decide) rfl ?_
      refine z_goto (tgt := 38) B dX5_back_62 (by decide) ?_
      refine z_lv (lv' := [(0, .ref (ad 0)), (1, .int (hg_I (x1 + 1)))]) B [1, 0] rfl ?_
      exact ih _ _ h
set_option maxHeartbeats 4000000 in
set_option maxRecDepth 100000 in
theorem rX5_back_12 (B : hg_B p s m args meth c cX5_back RX5 wsL_law 2 D cI cA ad 1 A) (hr : meth.sig.returnType = (some .int)) {w1 : hg_W} {r1 : Int} : ∀ (n : Nat), ∀ (w : hg_W) (x1 : Int), fX5_back_12 n w x1 = some (w1, r1) → hg_At p l e (rmX5_back) s m args below meth c D cI cA ad 1 A (MQ below (hg_Qi D cI cA ad 1 A w1 r1) args s 0 0 A) 2 w [(0, .ref (ad 0)), (1, .int (hg_I x1))] 12 [] := by
  intro n
  induction n with
  | zero =>
    intro w x1 h
    cases h
  | succ n ih =>
    intro w x1 h
    simp only [fX5_back_12] at h
    refine z_iload_n B 1 dX5_back_12 rfl rfl ?_
    refine z_bipush B dX5_back_13 (by decide) ?_
    refine z_icmp_ge (tgt := 36) B dX5_back_15 (by decide) h (fun h => ?_) (fun h => ?_)
    · refine z_iconst B dX5_back_36 ?_
      refine z_istore_n B [(1, .int (hg_I 0)), (0, .ref (ad 0))] dX5_back_37 rfl (by decide) rfl ?_
      refine z_lv (lv' := [(0, .ref (ad 0)), (1, .int (hg_I 0))]) B [1, 0] rfl ?_
      exact rX5_back_38 B hr hg_F _ _ h
    · refine z_aload_n B 0 dX5_back_18 rfl rfl ?_
      refine z_get5 (v := .ref (ad 3)) B 3 dX5_back_19 inlX5 (by decide) rfl (by decide) (wl_4 4 rfl) rfl rfl ?_
      refine z_iload_n B 1 dX5_back_22 rfl rfl ?_
      refine z_aload_n B 0 dX5_back_23 rfl rfl ?_
      refine z_get5 (v := .ref (ad 8)) B 14 dX5_back_24 inlX5 (by decide) rfl (by decide) (wl_4 9 rfl) rfl rfl ?_
      refine z_iload_n B 1 dX5_back_27 rfl rfl ?_
      obtain ⟨v1, q2, h⟩ := Option.bind_eq_some_iff.mp h
      refine z_iald (Or.inr rfl) B dX5_back_28 q2 ?_
      obtain ⟨w3, q4, h⟩ := Option.bind_eq_some_iff.mp h
      refine z_iast (Or.inr rfl) B dX5_back_29 q4 ?_
      refine z_iinc B 1 [(1, .int (hg_I (x1 + 1))), (0, .ref (ad 0))] dX5_back_30 rfl (by decide) rfl ?_
      refine z_goto (tgt := 12) B dX5_back_33 (by decide) ?_
      refine z_lv (lv' := [(0, .ref (ad 0)), (1, .int (hg_I (x1 + 1)))]) B [1, 0] rfl ?_
      exact ih _ _ h
set_option maxHeartbeats 4000000 in
set_option maxRecDepth 100000 in
theorem rX5_back_E (B : hg_B p s m args meth c cX5_back RX5 wsL_law 2 D cI cA ad 1 A) (hr : meth.sig.returnType = (some .int)) {w1 : hg_W} {r1 : Int} {w : hg_W} (h : fX5_back w = some (w1, r1)) : hg_At p l e (rmX5_back) s m args below meth c D cI cA ad 1 A (MQ below (hg_Qi D cI cA ad 1 A w1 r1) args s 0 0 A) 2 w [(0, .ref (ad 0))] 0 [] := by
  unfold fX5_back at h
  refine z_aload_n B 0 dX5_back_0 rfl rfl ?_
  refine z_get5 (v := .int (hg_I (w 0 13))) B 13 dX5_back_1 inlX5 (by decide) rfl (by decide) (wl_33 23 rfl) rfl rfl ?_
  refine z_if_ne (tgt := 10) B dX5_back_4 (by decide) h (fun h => ?_) (fun h => ?_)
  · refine z_iconst B dX5_back_10 ?_
    refine z_istore_n B [(1, .int (hg_I 0)), (0, .ref (ad 0))] dX5_back_11 rfl (by decide) rfl ?_
    refine z_lv (lv' := [(0, .ref (ad 0)), (1, .int (hg_I 0))]) B [1, 0] rfl ?_
    exact rX5_back_12 B hr hg_F _ _ h
  · refine z_bipush B dX5_back_7 (by decide) ?_
    exact z_iret B hr dX5_back_9 h
set_option maxHeartbeats 4000000 in
set_option maxRecDepth 100000 in
theorem c_X5_back {l : Launch} {D : va_G} {cI cA : ClassId} {ad : Nat → Nat} {w w1 : hg_W} {r1 : Int} (h : fX5_back w = some (w1, r1)) : hg_Mi l yX5_back wxX5_back rmX5_back D cI cA ad 1 w [.ref (ad 0)] w1 r1 := by
  refine z_meti cX5_back 2 (some .int) (by decide) (Nat.le_of_ble_eq_true rfl) ?_
  intro p e s m args below meth c A B hr
  exact rX5_back_E B hr h
abbrev wxX5_sheet : List Cond := Cond.code yX5_sheet cX5_sheet 5 (some .int) :: wsL_law
def fX5_sheet_70   : Nat → hg_W → Int → Int → Option (hg_W × Int)
  | 0, _, _, _ => none
  | n + 1, w, x1, x4 =>
    if wr 40 ≤ wr x4 then
      (
        some (w, wr 1)
      )
    else
      (hg_as 1 w 12 ((40 * x1) + x4) 0).bind fun w1 =>
      fX5_sheet_70 n w1 x1 (x4 + 1)
def fX5_sheet_66   (w : hg_W) (x1 : Int) (s1 : Int) (s2 : Int) : Option (hg_W × Int) :=
  (hg_as 1 w 11 s1 s2).bind fun w1 =>
  fX5_sheet_70 hg_F w1 x1 0
def fX5_sheet_44   (w : hg_W) (x1 : Int) (x2 : Int) (x3 : Int) : Option (hg_W × Int) :=
  (hg_as 1 w 10 x1 x2).bind fun w1 =>
  if wr x2 = wr (-1) then
    (
      fX5_sheet_66 w1 x1 x1 0
    )
  else
    fX5_sheet_66 w1 x1 x1 x3
def fX5_sheet_32   (w : hg_W) (x1 : Int) (x2 : Int) (x3 : Int) : Option (hg_W × Int) :=
  if wr x2 = wr (-1) then
    (
      fX5_sheet_44 w x1 x2 x3
    )
  else
    if 0 ≤ wr x3 then
      (
        fX5_sheet_44 w x1 x2 x3
      )
    else
      some (w, wr (-14))
def fX5_sheet (w : hg_W) (a1 : Int) (a2 : Int) (a3 : Int) : Option (hg_W × Int) :=
  hg_bd (fX5_in w a1 0 3) fun w1 v2 =>
  if wr v2 = 0 then
    (
      some (w1, wr (-2))
    )
  else
    hg_bd (fX5_in w1 a2 (-1) 2) fun w4 v5 =>
    if wr v5 = 0 then
      (
        some (w4, wr (-2))
      )
    else
      if wr a2 = wr (-1) then
        (
          fX5_sheet_32 w4 a1 a2 a3
        )
      else
        if wr a3 ≤ wr 40 then
          (
            fX5_sheet_32 w4 a1 a2 a3
          )
        else
          some (w4, wr (-2))
set_option maxHeartbeats 4000000 in
set_option maxRecDepth 100000 in
abbrev rmX5_sheet : Room := { frames := 1, cells := 0, slots := 0, locals := 22 }
set_option maxHeartbeats 4000000 in
set_option maxRecDepth 100000 in
theorem rX5_sheet_70 (B : hg_B p s m args meth c cX5_sheet RX5 wsL_law 5 D cI cA ad 1 A) (hr : meth.sig.returnType = (some .int)) {w1 : hg_W} {r1 : Int} : ∀ (n : Nat), ∀ (w : hg_W) (x1 : Int) (x4 : Int), fX5_sheet_70 n w x1 x4 = some (w1, r1) → hg_At p l e (rmX5_sheet) s m args below meth c D cI cA ad 1 A (MQ below (hg_Qi D cI cA ad 1 A w1 r1) args s 0 0 A) 5 w [(0, .ref (ad 0)), (1, .int (hg_I x1)), (4, .int (hg_I x4))] 70 [] := by
  intro n
  induction n with
  | zero =>
    intro w x1 x4 h
    cases h
  | succ n ih =>
    intro w x1 x4 h
    simp only [fX5_sheet_70] at h
    refine z_iload B 2 dX5_sheet_70 rfl ?_
    refine z_bipush B dX5_sheet_72 (by decide) ?_
    refine z_icmp_ge (tgt := 96) B dX5_sheet_74 (by decide) h (fun h => ?_) (fun h => ?_)
    · refine z_iconst B dX5_sheet_96 ?_
      exact z_iret B hr dX5_sheet_97 h
    · refine z_aload_n B 0 dX5_sheet_77 rfl rfl ?_
      refine z_get5 (v := .ref (ad 12)) B 18 dX5_sheet_78 inlX5 (by decide) rfl (by decide) (wl_4 13 rfl) rfl rfl ?_
      refine z_bipush B dX5_sheet_81 (by decide) ?_
      refine z_iload_n B 1 dX5_sheet_83 rfl rfl ?_
      refine z_imul B dX5_sheet_84 ?_
      refine z_iload B 2 dX5_sheet_85 rfl ?_
      refine z_iadd B dX5_sheet_87 ?_
      refine z_iconst B dX5_sheet_88 ?_
      obtain ⟨w1, q2, h⟩ := Option.bind_eq_some_iff.mp h
      refine z_iast (Or.inr rfl) B dX5_sheet_89 q2 ?_
      refine z_iinc B 2 [(4, .int (hg_I (x4 + 1))), (0, .ref (ad 0)), (1, .int (hg_I x1))] dX5_sheet_90 rfl (by decide) rfl ?_
      refine z_goto (tgt := 70) B dX5_sheet_93 (by decide) ?_
      refine z_lv (lv' := [(0, .ref (ad 0)), (1, .int (hg_I x1)), (4, .int (hg_I (x4 + 1)))]) B [1, 2, 0] rfl ?_
      exact ih _ _ _ h
set_option maxHeartbeats 4000000 in
set_option maxRecDepth 100000 in
theorem rX5_sheet_66 (B : hg_B p s m args meth c cX5_sheet RX5 wsL_law 5 D cI cA ad 1 A) (hr : meth.sig.returnType = (some .int)) {w1 : hg_W} {r1 : Int} : ∀ (w : hg_W) (x1 : Int) (s1 : Int) (s2 : Int), fX5_sheet_66 w x1 s1 s2 = some (w1, r1) → hg_At p l e (rmX5_sheet) s m args below meth c D cI cA ad 1 A (MQ below (hg_Qi D cI cA ad 1 A w1 r1) args s 0 0 A) 5 w [(0, .ref (ad 0)), (1, .int (hg_I x1))] 66 [.int (hg_I s2), .int (hg_I s1), .ref (ad 11)] := by
  intro w x1 s1 s2 h
  unfold fX5_sheet_66 at h
  obtain ⟨w1, q2, h⟩ := Option.bind_eq_some_iff.mp h
  refine z_iast (Or.inr rfl) B dX5_sheet_66 q2 ?_
  refine z_iconst B dX5_sheet_67 ?_
  refine z_istore B [(4, .int (hg_I 0)), (0, .ref (ad 0)), (1, .int (hg_I x1))] dX5_sheet_68 (by decide) rfl ?_
  refine z_lv (lv' := [(0, .ref (ad 0)), (1, .int (hg_I x1)), (4, .int (hg_I 0))]) B [1, 2, 0] rfl ?_
  exact rX5_sheet_70 B hr hg_F _ _ _ h
set_option maxHeartbeats 4000000 in
set_option maxRecDepth 100000 in
theorem rX5_sheet_44 (B : hg_B p s m args meth c cX5_sheet RX5 wsL_law 5 D cI cA ad 1 A) (hr : meth.sig.returnType = (some .int)) {w1 : hg_W} {r1 : Int} : ∀ (w : hg_W) (x1 : Int) (x2 : Int) (x3 : Int), fX5_sheet_44 w x1 x2 x3 = some (w1, r1) → hg_At p l e (rmX5_sheet) s m args below meth c D cI cA ad 1 A (MQ below (hg_Qi D cI cA ad 1 A w1 r1) args s 0 0 A) 5 w [(0, .ref (ad 0)), (1, .int (hg_I x1)), (2, .int (hg_I x2)), (3, .int (hg_I x3))] 44 [] := by
  intro w x1 x2 x3 h
  unfold fX5_sheet_44 at h
  refine z_aload_n B 0 dX5_sheet_44 rfl rfl ?_
  refine z_get5 (v := .ref (ad 10)) B 16 dX5_sheet_45 inlX5 (by decide) rfl (by decide) (wl_4 11 rfl) rfl rfl ?_
  refine z_iload_n B 1 dX5_sheet_48 rfl rfl ?_
  refine z_iload_n B 2 dX5_sheet_49 rfl rfl ?_
  obtain ⟨w1, q2, h⟩ := Option.bind_eq_some_iff.mp h
  refine z_iast (Or.inr rfl) B dX5_sheet_50 q2 ?_
  refine z_aload_n B 0 dX5_sheet_51 rfl rfl ?_
  refine z_get5 (v := .ref (ad 11)) B 17 dX5_sheet_52 inlX5 (by decide) rfl (by decide) (wl_4 12 rfl) rfl rfl ?_
  refine z_iload_n B 1 dX5_sheet_55 rfl rfl ?_
  refine z_iload_n B 2 dX5_sheet_56 rfl rfl ?_
  refine z_iconst B dX5_sheet_57 ?_
  refine z_icmp_ne (tgt := 65) B dX5_sheet_58 (by decide) h (fun h => ?_) (fun h => ?_)
  · refine z_iload_n B 3 dX5_sheet_65 rfl rfl ?_
    refine z_lv (lv' := [(0, .ref (ad 0)), (1, .int (hg_I x1))]) B [0, 1] rfl ?_
    exact rX5_sheet_66 B hr _ _ _ _ h
  · refine z_iconst B dX5_sheet_61 ?_
    refine z_goto (tgt := 66) B dX5_sheet_62 (by decide) ?_
    refine z_lv (lv' := [(0, .ref (ad 0)), (1, .int (hg_I x1))]) B [0, 1] rfl ?_
    exact rX5_sheet_66 B hr _ _ _ _ h
set_option maxHeartbeats 4000000 in
set_option maxRecDepth 100000 in
theorem rX5_sheet_32 (B : hg_B p s m args meth c cX5_sheet RX5 wsL_law 5 D cI cA ad 1 A) (hr : meth.sig.returnType = (some .int)) {w1 : hg_W} {r1 : Int} : ∀ (w : hg_W) (x1 : Int) (x2 : Int) (x3 : Int), fX5_sheet_32 w x1 x2 x3 = some (w1, r1) → hg_At p l e (rmX5_sheet) s m args below meth c D cI cA ad 1 A (MQ below (hg_Qi D cI cA ad 1 A w1 r1) args s 0 0 A) 5 w [(0, .ref (ad 0)), (1, .int (hg_I x1)), (2, .int (hg_I x2)), (3, .int (hg_I x3))] 32 [] := by
  intro w x1 x2 x3 h
  unfold fX5_sheet_32 at h
  refine z_iload_n B 2 dX5_sheet_32 rfl rfl ?_
  refine z_iconst B dX5_sheet_33 ?_
  refine z_icmp_eq (tgt := 44) B dX5_sheet_34 (by decide) h (fun h => ?_) (fun h => ?_)
  · exact rX5_sheet_44 B hr _ _ _ _ h
  · refine z_iload_n B 3 dX5_sheet_37 rfl rfl ?_
    refine z_if_ge (tgt := 44) B dX5_sheet_38 (by decide) h (fun h => ?_) (fun h => ?_)
    · exact rX5_sheet_44 B hr _ _ _ _ h
    · refine z_bipush B dX5_sheet_41 (by decide) ?_
      exact z_iret B hr dX5_sheet_43 h
set_option maxHeartbeats 4000000 in
set_option maxRecDepth 100000 in
theorem rX5_sheet_E (B : hg_B p s m args meth c cX5_sheet RX5 wsL_law 5 D cI cA ad 1 A) (hr : meth.sig.returnType = (some .int)) {a1 : Int} {a2 : Int} {a3 : Int} {w1 : hg_W} {r1 : Int} {w : hg_W} (h : fX5_sheet w a1 a2 a3 = some (w1, r1)) : hg_At p l e (rmX5_sheet) s m args below meth c D cI cA ad 1 A (MQ below (hg_Qi D cI cA ad 1 A w1 r1) args s 0 0 A) 5 w [(0, .ref (ad 0)), (1, .int (hg_I a1)), (2, .int (hg_I a2)), (3, .int (hg_I a3))] 0 [] := by
  unfold fX5_sheet at h
  refine z_iload_n B 1 dX5_sheet_0 rfl rfl ?_
  refine z_iconst B dX5_sheet_1 ?_
  refine z_iconst B dX5_sheet_2 ?_
  obtain ⟨w1, v2, q3, h⟩ := hg_bd_some h
  refine z_calliS (As := [.int (hg_I a1), .int (hg_I 0), .int (hg_I 3)]) (n := 3) B dX5_sheet_3 (c_X5_in q3) (gl_S (wl_5 14 rfl) (wl_5 15 rfl) (wl_1 5 rfl) (wl_5 16 rfl)) rfl ⟨rfl, rfl⟩ (by decide +kernel) ⟨Nat.le_of_ble_eq_true rfl, Nat.le_of_ble_eq_true rfl⟩ rfl rfl (Nat.le_of_ble_eq_true rfl) ?_
  refine z_if_eq (tgt := 29) B dX5_sheet_6 (by decide) h (fun h => ?_) (fun h => ?_)
  · refine z_bipush B dX5_sheet_29 (by decide) ?_
    exact z_iret B hr dX5_sheet_31 h
  · refine z_iload_n B 2 dX5_sheet_9 rfl rfl ?_
    refine z_iconst B dX5_sheet_10 ?_
    refine z_iconst B dX5_sheet_11 ?_
    obtain ⟨w4, v5, q6, h⟩ := hg_bd_some h
    refine z_calliS (As := [.int (hg_I a2), .int (hg_I (-1)), .int (hg_I 2)]) (n := 3) B dX5_sheet_12 (c_X5_in q6) (gl_S (wl_5 14 rfl) (wl_5 15 rfl) (wl_1 5 rfl) (wl_5 16 rfl)) rfl ⟨rfl, rfl⟩ (by decide +kernel) ⟨Nat.le_of_ble_eq_true rfl, Nat.le_of_ble_eq_true rfl⟩ rfl rfl (Nat.le_of_ble_eq_true rfl) ?_
    refine z_if_eq (tgt := 29) B dX5_sheet_15 (by decide) h (fun h => ?_) (fun h => ?_)
    · refine z_bipush B dX5_sheet_29 (by decide) ?_
      exact z_iret B hr dX5_sheet_31 h
    · refine z_iload_n B 2 dX5_sheet_18 rfl rfl ?_
      refine z_iconst B dX5_sheet_19 ?_
      refine z_icmp_eq (tgt := 32) B dX5_sheet_20 (by decide) h (fun h => ?_) (fun h => ?_)
      · exact rX5_sheet_32 B hr _ _ _ _ h
      · refine z_iload_n B 3 dX5_sheet_23 rfl rfl ?_
        refine z_bipush B dX5_sheet_24 (by decide) ?_
        refine z_icmp_le (tgt := 32) B dX5_sheet_26 (by decide) h (fun h => ?_) (fun h => ?_)
        · exact rX5_sheet_32 B hr _ _ _ _ h
        · refine z_bipush B dX5_sheet_29 (by decide) ?_
          exact z_iret B hr dX5_sheet_31 h
set_option maxHeartbeats 4000000 in
set_option maxRecDepth 100000 in
theorem c_X5_sheet {l : Launch} {D : va_G} {cI cA : ClassId} {ad : Nat → Nat} {a1 : Int} {a2 : Int} {a3 : Int} {w w1 : hg_W} {r1 : Int} (h : fX5_sheet w a1 a2 a3 = some (w1, r1)) : hg_Mi l yX5_sheet wxX5_sheet rmX5_sheet D cI cA ad 1 w [.ref (ad 0), .int (hg_I a1), .int (hg_I a2), .int (hg_I a3)] w1 r1 := by
  refine z_meti cX5_sheet 5 (some .int) (by decide) (Nat.le_of_ble_eq_true rfl) ?_
  intro p e s m args below meth c A B hr
  exact rX5_sheet_E B hr h
abbrev wxX5_cell : List Cond := Cond.code yX5_cell cX5_cell 4 (some .int) :: wsL_law
def fX5_cell_84   (w : hg_W) (s1 : Int) (s2 : Int) : Option (hg_W × Int) :=
  (hg_as 1 w 12 s1 s2).bind fun w1 =>
  some (w1, wr 1)
def fX5_cell (w : hg_W) (a1 : Int) (a2 : Int) (a3 : Int) : Option (hg_W × Int) :=
  hg_bd (fX5_in w a1 0 3) fun w1 v2 =>
  if wr v2 = 0 then
    (
      some (w1, wr (-2))
    )
  else
    (hg_ag 1 w1 10 a1).bind fun v4 =>
    if wr v4 = wr (-1) then
      (
        some (w1, wr (-11))
      )
    else
      (hg_ag 1 w1 11 a1).bind fun v6 =>
      hg_bd (fX5_in w1 a2 0 (v6 - 1)) fun w8 v9 =>
      if wr v9 = 0 then
        (
          some (w8, wr (-12))
        )
      else
        (hg_ag 1 w8 10 a1).bind fun v11 =>
        if wr v11 = 0 then
          (
            fX5_cell_84 w8 ((40 * a1) + a2) (hg_i2b a3)
          )
        else
          (hg_ag 1 w8 10 a1).bind fun v13 =>
          if wr v13 = wr 1 then
            (
              fX5_cell_84 w8 ((40 * a1) + a2) (hg_i2s a3)
            )
          else
            fX5_cell_84 w8 ((40 * a1) + a2) a3
set_option maxHeartbeats 4000000 in
set_option maxRecDepth 100000 in
abbrev rmX5_cell : Room := { frames := 1, cells := 0, slots := 0, locals := 22 }
set_option maxHeartbeats 4000000 in
set_option maxRecDepth 100000 in
theorem rX5_cell_84 (B : hg_B p s m args meth c cX5_cell RX5 wsL_law 4 D cI cA ad 1 A) (hr : meth.sig.returnType = (some .int)) {w1 : hg_W} {r1 : Int} : ∀ (w : hg_W) (s1 : Int) (s2 : Int), fX5_cell_84 w s1 s2 = some (w1, r1) → hg_At p l e (rmX5_cell) s m args below meth c D cI cA ad 1 A (MQ below (hg_Qi D cI cA ad 1 A w1 r1) args s 0 0 A) 4 w [] 84 [.int (hg_I s2), .int (hg_I s1), .ref (ad 12)] := by
  intro w s1 s2 h
  unfold fX5_cell_84 at h
  obtain ⟨w1, q2, h⟩ := Option.bind_eq_some_iff.mp h
  refine z_iast (Or.inr rfl) B dX5_cell_84 q2 ?_
  refine z_iconst B dX5_cell_85 ?_
  exact z_iret B hr dX5_cell_86 h
set_option maxHeartbeats 4000000 in
set_option maxRecDepth 100000 in
theorem rX5_cell_E (B : hg_B p s m args meth c cX5_cell RX5 wsL_law 4 D cI cA ad 1 A) (hr : meth.sig.returnType = (some .int)) {a1 : Int} {a2 : Int} {a3 : Int} {w1 : hg_W} {r1 : Int} {w : hg_W} (h : fX5_cell w a1 a2 a3 = some (w1, r1)) : hg_At p l e (rmX5_cell) s m args below meth c D cI cA ad 1 A (MQ below (hg_Qi D cI cA ad 1 A w1 r1) args s 0 0 A) 4 w [(0, .ref (ad 0)), (1, .int (hg_I a1)), (2, .int (hg_I a2)), (3, .int (hg_I a3))] 0 [] := by
  unfold fX5_cell at h
  refine z_iload_n B 1 dX5_cell_0 rfl rfl ?_
  refine z_iconst B dX5_cell_1 ?_
  refine z_iconst B dX5_cell_2 ?_
  obtain ⟨w1, v2, q3, h⟩ := hg_bd_some h
  refine z_calliS (As := [.int (hg_I a1), .int (hg_I 0), .int (hg_I 3)]) (n := 3) B dX5_cell_3 (c_X5_in q3) (gl_S (wl_5 14 rfl) (wl_5 15 rfl) (wl_1 5 rfl) (wl_5 16 rfl)) rfl ⟨rfl, rfl⟩ (by decide +kernel) ⟨Nat.le_of_ble_eq_true rfl, Nat.le_of_ble_eq_true rfl⟩ rfl rfl (Nat.le_of_ble_eq_true rfl) ?_
  refine z_if_ne (tgt := 12) B dX5_cell_6 (by decide) h (fun h => ?_) (fun h => ?_)
  · refine z_aload_n B 0 dX5_cell_12 rfl rfl ?_
    refine z_get5 (v := .ref (ad 10)) B 16 dX5_cell_13 inlX5 (by decide) rfl (by decide) (wl_4 11 rfl) rfl rfl ?_
    refine z_iload_n B 1 dX5_cell_16 rfl rfl ?_
    obtain ⟨v4, q5, h⟩ := Option.bind_eq_some_iff.mp h
    refine z_iald (Or.inr rfl) B dX5_cell_17 q5 ?_
    refine z_iconst B dX5_cell_18 ?_
    refine z_icmp_ne (tgt := 25) B dX5_cell_19 (by decide) h (fun h => ?_) (fun h => ?_)
    · refine z_iload_n B 2 dX5_cell_25 rfl rfl ?_
      refine z_iconst B dX5_cell_26 ?_
      refine z_aload_n B 0 dX5_cell_27 rfl rfl ?_
      refine z_get5 (v := .ref (ad 11)) B 17 dX5_cell_28 inlX5 (by decide) rfl (by decide) (wl_4 12 rfl) rfl rfl ?_
      refine z_iload_n B 1 dX5_cell_31 rfl rfl ?_
      obtain ⟨v6, q7, h⟩ := Option.bind_eq_some_iff.mp h
      refine z_iald (Or.inr rfl) B dX5_cell_32 q7 ?_
      refine z_iconst B dX5_cell_33 ?_
      refine z_isub B dX5_cell_34 ?_
      obtain ⟨w8, v9, q10, h⟩ := hg_bd_some h
      refine z_calliS (As := [.int (hg_I a2), .int (hg_I 0), .int (hg_I (v6 - 1))]) (n := 3) B dX5_cell_35 (c_X5_in q10) (gl_S (wl_5 14 rfl) (wl_5 15 rfl) (wl_1 5 rfl) (wl_5 16 rfl)) rfl ⟨rfl, rfl⟩ (by decide +kernel) ⟨Nat.le_of_ble_eq_true rfl, Nat.le_of_ble_eq_true rfl⟩ rfl rfl (Nat.le_of_ble_eq_true rfl) ?_
      refine z_if_ne (tgt := 44) B dX5_cell_38 (by decide) h (fun h => ?_) (fun h => ?_)
      · refine z_aload_n B 0 dX5_cell_44 rfl rfl ?_
        refine z_get5 (v := .ref (ad 12)) B 18 dX5_cell_45 inlX5 (by decide) rfl (by decide) (wl_4 13 rfl) rfl rfl ?_
        refine z_bipush B dX5_cell_48 (by decide) ?_
        refine z_iload_n B 1 dX5_cell_50 rfl rfl ?_
        refine z_imul B dX5_cell_51 ?_
        refine z_iload_n B 2 dX5_cell_52 rfl rfl ?_
        refine z_iadd B dX5_cell_53 ?_
        refine z_aload_n B 0 dX5_cell_54 rfl rfl ?_
        refine z_get5 (v := .ref (ad 10)) B 16 dX5_cell_55 inlX5 (by decide) rfl (by decide) (wl_4 11 rfl) rfl rfl ?_
        refine z_iload_n B 1 dX5_cell_58 rfl rfl ?_
        obtain ⟨v11, q12, h⟩ := Option.bind_eq_some_iff.mp h
        refine z_iald (Or.inr rfl) B dX5_cell_59 q12 ?_
        refine z_if_ne (tgt := 68) B dX5_cell_60 (by decide) h (fun h => ?_) (fun h => ?_)
        · refine z_aload_n B 0 dX5_cell_68 rfl rfl ?_
          refine z_get5 (v := .ref (ad 10)) B 16 dX5_cell_69 inlX5 (by decide) rfl (by decide) (wl_4 11 rfl) rfl rfl ?_
          refine z_iload_n B 1 dX5_cell_72 rfl rfl ?_
          obtain ⟨v13, q14, h⟩ := Option.bind_eq_some_iff.mp h
          refine z_iald (Or.inr rfl) B dX5_cell_73 q14 ?_
          refine z_iconst B dX5_cell_74 ?_
          refine z_icmp_ne (tgt := 83) B dX5_cell_75 (by decide) h (fun h => ?_) (fun h => ?_)
          · refine z_iload_n B 3 dX5_cell_83 rfl rfl ?_
            refine z_lv (lv' := []) B [] rfl ?_
            exact rX5_cell_84 B hr _ _ _ h
          · refine z_iload_n B 3 dX5_cell_78 rfl rfl ?_
            refine z_i2s B dX5_cell_79 ?_
            refine z_goto (tgt := 84) B dX5_cell_80 (by decide) ?_
            refine z_lv (lv' := []) B [] rfl ?_
            exact rX5_cell_84 B hr _ _ _ h
        · refine z_iload_n B 3 dX5_cell_63 rfl rfl ?_
          refine z_i2b B dX5_cell_64 ?_
          refine z_goto (tgt := 84) B dX5_cell_65 (by decide) ?_
          refine z_lv (lv' := []) B [] rfl ?_
          exact rX5_cell_84 B hr _ _ _ h
      · refine z_bipush B dX5_cell_41 (by decide) ?_
        exact z_iret B hr dX5_cell_43 h
    · refine z_bipush B dX5_cell_22 (by decide) ?_
      exact z_iret B hr dX5_cell_24 h
  · refine z_bipush B dX5_cell_9 (by decide) ?_
    exact z_iret B hr dX5_cell_11 h
set_option maxHeartbeats 4000000 in
set_option maxRecDepth 100000 in
theorem c_X5_cell {l : Launch} {D : va_G} {cI cA : ClassId} {ad : Nat → Nat} {a1 : Int} {a2 : Int} {a3 : Int} {w w1 : hg_W} {r1 : Int} (h : fX5_cell w a1 a2 a3 = some (w1, r1)) : hg_Mi l yX5_cell wxX5_cell rmX5_cell D cI cA ad 1 w [.ref (ad 0), .int (hg_I a1), .int (hg_I a2), .int (hg_I a3)] w1 r1 := by
  refine z_meti cX5_cell 4 (some .int) (by decide) (Nat.le_of_ble_eq_true rfl) ?_
  intro p e s m args below meth c A B hr
  exact rX5_cell_E B hr h
abbrev wxX5_copy : List Cond := Cond.code yX5_copy cX5_copy 10 (some .int) :: wsL_law
def fX5_copy_173 (K147 : hg_W → Int → Int → Int → Int → Option (hg_W × Int))  (w : hg_W) (x5 : Int) (x6 : Int) (x7 : Int) (x8 : Int) (s0 : Int) : Option (hg_W × Int) :=
  (hg_ag 1 w 12 (x6 + s0)).bind fun v1 =>
  (hg_as 1 w 12 (x7 + s0) v1).bind fun w3 =>
  K147 w3 x5 x6 x7 (x8 + 1)
def fX5_copy_147   : Nat → hg_W → Int → Int → Int → Int → Option (hg_W × Int)
  | 0, _, _, _, _, _ => none
  | n + 1, w, x5, x6, x7, x8 =>
    if wr x5 ≤ wr x8 then
      (
        some (w, wr x5)
      )
    else
      if wr x7 ≤ wr x6 then
        (
          fX5_copy_173 (fX5_copy_147 n) w x5 x6 x7 x8 x8
        )
      else
        fX5_copy_173 (fX5_copy_147 n) w x5 x6 x7 x8 ((x5 - 1) - x8)
def fX5_copy (w : hg_W) (a1 : Int) (a2 : Int) (a3 : Int) (a4 : Int) (a5 : Int) : Option (hg_W × Int) :=
  hg_bd (fX5_in w a1 0 3) fun w1 v2 =>
  if wr v2 = 0 then
    (
      some (w1, wr (-2))
    )
  else
    hg_bd (fX5_in w1 a3 0 3) fun w4 v5 =>
    if wr v5 = 0 then
      (
        some (w4, wr (-2))
      )
    else
      (hg_ag 1 w4 10 a1).bind fun v7 =>
      if wr v7 = wr (-1) then
        (
          some (w4, wr (-11))
        )
      else
        (hg_ag 1 w4 10 a3).bind fun v9 =>
        if wr v9 = wr (-1) then
          (
            some (w4, wr (-11))
          )
        else
          (hg_ag 1 w4 10 a1).bind fun v11 =>
          (hg_ag 1 w4 10 a3).bind fun v13 =>
          if wr v11 = wr v13 then
            (
              if wr a5 < 0 then
                (
                  some (w4, wr (-12))
                )
              else
                if wr a2 < 0 then
                  (
                    some (w4, wr (-12))
                  )
                else
                  if wr a4 < 0 then
                    (
                      some (w4, wr (-12))
                    )
                  else
                    (hg_ag 1 w4 11 a1).bind fun v15 =>
                    if wr v15 < wr a2 then
                      (
                        some (w4, wr (-12))
                      )
                    else
                      (hg_ag 1 w4 11 a3).bind fun v17 =>
                      if wr v17 < wr a4 then
                        (
                          some (w4, wr (-12))
                        )
                      else
                        (hg_ag 1 w4 11 a1).bind fun v19 =>
                        if wr (v19 - a2) < wr a5 then
                          (
                            some (w4, wr (-12))
                          )
                        else
                          (hg_ag 1 w4 11 a3).bind fun v21 =>
                          if wr a5 ≤ wr (v21 - a4) then
                            (
                              fX5_copy_147 hg_F w4 a5 ((40 * a1) + a2) ((40 * a3) + a4) 0
                            )
                          else
                            some (w4, wr (-12))
            )
          else
            some (w4, wr (-13))
set_option maxHeartbeats 4000000 in
set_option maxRecDepth 100000 in
abbrev rmX5_copy : Room := { frames := 1, cells := 0, slots := 0, locals := 22 }
set_option maxHeartbeats 4000000 in
set_option maxRecDepth 100000 in
theorem rX5_copy_173 (B : hg_B p s m args meth c cX5_copy RX5 wsL_law 10 D cI cA ad 1 A) (hr : meth.sig.returnType = (some .int)) {w1 : hg_W} {r1 : Int} {K147 : hg_W → Int → Int → Int → Int → Option (hg_W × Int)} (hK147 : ∀ (w : hg_W) (x5 : Int) (x6 : Int) (x7 : Int) (x8 : Int), K147 w x5 x6 x7 x8 = some (w1, r1) → hg_At p l e (rmX5_copy) s m args below meth c D cI cA ad 1 A (MQ below (hg_Qi D cI cA ad 1 A w1 r1) args s 0 0 A) 10 w [(0, .ref (ad 0)), (5, .int (hg_I x5)), (6, .int (hg_I x6)), (7, .int (hg_I x7)), (8, .int (hg_I x8))] 147 []) : ∀ (w : hg_W) (x5 : Int) (x6 : Int) (x7 : Int) (x8 : Int) (s0 : Int), fX5_copy_173 K147 w x5 x6 x7 x8 s0 = some (w1, r1) → hg_At p l e (rmX5_copy) s m args below meth c D cI cA ad 1 A (MQ below (hg_Qi D cI cA ad 1 A w1 r1) args s 0 0 A) 10 w [(0, .ref (ad 0)), (5, .int (hg_I x5)), (6, .int (hg_I x6)), (7, .int (hg_I x7)), (8, .int (hg_I x8))] 173 [.int (hg_I s0)] := by
  intro w x5 x6 x7 x8 s0 h
  unfold fX5_copy_173 at h
  refine z_istore B [(9, .int (hg_I s0)), (0, .ref (ad 0)), (5, .int (hg_I x5)), (6, .int (hg_I x6)), (7, .int (hg_I x7)), (8, .int (hg_I x8))] dX5_copy_173 (by decide) rfl ?_
  refine z_aload_n B 1 dX5_copy_175 rfl rfl ?_
  refine z_get5 (v := .ref (ad 12)) B 18 dX5_copy_176 inlX5 (by decide) rfl (by decide) (wl_4 13 rfl) rfl rfl ?_
  refine z_iload B 4 dX5_copy_179 rfl ?_
  refine z_iload B 0 dX5_copy_181 rfl ?_
  refine z_iadd B dX5_copy_183 ?_
  refine z_aload_n B 1 dX5_copy_184 rfl rfl ?_
  refine z_get5 (v := .ref (ad 12)) B 18 dX5_copy_185 inlX5 (by decide) rfl (by decide) (wl_4 13 rfl) rfl rfl ?_
  refine z_iload B 3 dX5_copy_188 rfl ?_
  refine z_iload B 0 dX5_copy_190 rfl ?_
  refine z_iadd B dX5_copy_192 ?_
  obtain ⟨v1, q2, h⟩ := Option.bind_eq_some_iff.mp h
  refine z_iald (Or.inr rfl) B dX5_copy_193 q2 ?_
  obtain ⟨w3, q4, h⟩ := Option.bind_eq_some_iff.mp h
  refine z_iast (Or.inr rfl) B dX5_copy_194 q4 ?_
  refine z_iinc B 5 [(8, .int (hg_I (x8 + 1))), (9, .int (hg_I s0)), (0, .ref (ad 0)), (5, .int (hg_I x5)), (6, .int (hg_I x6)), (7, .int (hg_I x7))] dX5_copy_195 rfl (by decide) rfl ?_
  refine z_goto (tgt := 147) B dX5_copy_198 (by decide) ?_
  refine z_lv (lv' := [(0, .ref (ad 0)), (5, .int (hg_I x5)), (6, .int (hg_I x6)), (7, .int (hg_I x7)), (8, .int (hg_I (x8 + 1)))]) B [2, 3, 4, 5, 0] rfl ?_
  exact hK147 _ _ _ _ _ h
set_option maxHeartbeats 4000000 in
set_option maxRecDepth 100000 in
theorem rX5_copy_147 (B : hg_B p s m args meth c cX5_copy RX5 wsL_law 10 D cI cA ad 1 A) (hr : meth.sig.returnType = (some .int)) {w1 : hg_W} {r1 : Int} : ∀ (n : Nat), ∀ (w : hg_W) (x5 : Int) (x6 : Int) (x7 : Int) (x8 : Int), fX5_copy_147 n w x5 x6 x7 x8 = some (w1, r1) → hg_At p l e (rmX5_copy) s m args below meth c D cI cA ad 1 A (MQ below (hg_Qi D cI cA ad 1 A w1 r1) args s 0 0 A) 10 w [(0, .ref (ad 0)), (5, .int (hg_I x5)), (6, .int (hg_I x6)), (7, .int (hg_I x7)), (8, .int (hg_I x8))] 147 [] := by
  intro n
  induction n with
  | zero =>
    intro w x5 x6 x7 x8 h
    cases h
  | succ n ih =>
    intro w x5 x6 x7 x8 h
    simp only [fX5_copy_147] at h
    refine z_iload B 4 dX5_copy_147 rfl ?_
    refine z_iload B 1 dX5_copy_149 rfl ?_
    refine z_icmp_ge (tgt := 201) B dX5_copy_151 (by decide) h (fun h => ?_) (fun h => ?_)
    · refine z_iload B 1 dX5_copy_201 rfl ?_
      exact z_iret B hr dX5_copy_203 h
    · refine z_iload B 2 dX5_copy_154 rfl ?_
      refine z_iload B 3 dX5_copy_156 rfl ?_
      refine z_icmp_ge (tgt := 171) B dX5_copy_158 (by decide) h (fun h => ?_) (fun h => ?_)
      · refine z_iload B 4 dX5_copy_171 rfl ?_
        exact rX5_copy_173 B hr ih _ _ _ _ _ _ h
      · refine z_iload B 1 dX5_copy_161 rfl ?_
        refine z_iconst B dX5_copy_163 ?_
        refine z_isub B dX5_copy_164 ?_
        refine z_iload B 4 dX5_copy_165 rfl ?_
        refine z_isub B dX5_copy_167 ?_
        refine z_goto (tgt := 173) B dX5_copy_168 (by decide) ?_
        exact rX5_copy_173 B hr ih _ _ _ _ _ _ h
set_option maxHeartbeats 4000000 in
set_option maxRecDepth 100000 in
theorem rX5_copy_E (B : hg_B p s m args meth c cX5_copy RX5 wsL_law 10 D cI cA ad 1 A) (hr : meth.sig.returnType = (some .int)) {a1 : Int} {a2 : Int} {a3 : Int} {a4 : Int} {a5 : Int} {w1 : hg_W} {r1 : Int} {w : hg_W} (h : fX5_copy w a1 a2 a3 a4 a5 = some (w1, r1)) : hg_At p l e (rmX5_copy) s m args below meth c D cI cA ad 1 A (MQ below (hg_Qi D cI cA ad 1 A w1 r1) args s 0 0 A) 10 w [(0, .ref (ad 0)), (1, .int (hg_I a1)), (2, .int (hg_I a2)), (3, .int (hg_I a3)), (4, .int (hg_I a4)), (5, .int (hg_I a5))] 0 [] := by
  unfold fX5_copy at h
  refine z_iload_n B 1 dX5_copy_0 rfl rfl ?_
  refine z_iconst B dX5_copy_1 ?_
  refine z_iconst B dX5_copy_2 ?_
  obtain ⟨w1, v2, q3, h⟩ := hg_bd_some h
  refine z_calliS (As := [.int (hg_I a1), .int (hg_I 0), .int (hg_I 3)]) (n := 3) B dX5_copy_3 (c_X5_in q3) (gl_S (wl_5 14 rfl) (wl_5 15 rfl) (wl_1 5 rfl) (wl_5 16 rfl)) rfl ⟨rfl, rfl⟩ (by decide +kernel) ⟨Nat.le_of_ble_eq_true rfl, Nat.le_of_ble_eq_true rfl⟩ rfl rfl (Nat.le_of_ble_eq_true rfl) ?_
  refine z_if_eq (tgt := 18) B dX5_copy_6 (by decide) h (fun h => ?_) (fun h => ?_)
  · refine z_bipush B dX5_copy_18 (by decide) ?_
    exact z_iret B hr dX5_copy_20 h
  · refine z_iload_n B 3 dX5_copy_9 rfl rfl ?_
    refine z_iconst B dX5_copy_10 ?_
    refine z_iconst B dX5_copy_11 ?_
    obtain ⟨w4, v5, q6, h⟩ := hg_bd_some h
    refine z_calliS (As := [.int (hg_I a3), .int (hg_I 0), .int (hg_I 3)]) (n := 3) B dX5_copy_12 (c_X5_in q6) (gl_S (wl_5 14 rfl) (wl_5 15 rfl) (wl_1 5 rfl) (wl_5 16 rfl)) rfl ⟨rfl, rfl⟩ (by decide +kernel) ⟨Nat.le_of_ble_eq_true rfl, Nat.le_of_ble_eq_true rfl⟩ rfl rfl (Nat.le_of_ble_eq_true rfl) ?_
    refine z_if_ne (tgt := 21) B dX5_copy_15 (by decide) h (fun h => ?_) (fun h => ?_)
    · refine z_aload_n B 0 dX5_copy_21 rfl rfl ?_
      refine z_get5 (v := .ref (ad 10)) B 16 dX5_copy_22 inlX5 (by decide) rfl (by decide) (wl_4 11 rfl) rfl rfl ?_
      refine z_iload_n B 1 dX5_copy_25 rfl rfl ?_
      obtain ⟨v7, q8, h⟩ := Option.bind_eq_some_iff.mp h
      refine z_iald (Or.inr rfl) B dX5_copy_26 q8 ?_
      refine z_iconst B dX5_copy_27 ?_
      refine z_icmp_eq (tgt := 41) B dX5_copy_28 (by decide) h (fun h => ?_) (fun h => ?_)
      · refine z_bipush B dX5_copy_41 (by decide) ?_
        exact z_iret B hr dX5_copy_43 h
      · refine z_aload_n B 0 dX5_copy_31 rfl rfl ?_
        refine z_get5 (v := .ref (ad 10)) B 16 dX5_copy_32 inlX5 (by decide) rfl (by decide) (wl_4 11 rfl) rfl rfl ?_
        refine z_iload_n B 3 dX5_copy_35 rfl rfl ?_
        obtain ⟨v9, q10, h⟩ := Option.bind_eq_some_iff.mp h
        refine z_iald (Or.inr rfl) B dX5_copy_36 q10 ?_
        refine z_iconst B dX5_copy_37 ?_
        refine z_icmp_ne (tgt := 44) B dX5_copy_38 (by decide) h (fun h => ?_) (fun h => ?_)
        · refine z_aload_n B 0 dX5_copy_44 rfl rfl ?_
          refine z_get5 (v := .ref (ad 10)) B 16 dX5_copy_45 inlX5 (by decide) rfl (by decide) (wl_4 11 rfl) rfl rfl ?_
          refine z_iload_n B 1 dX5_copy_48 rfl rfl ?_
          obtain ⟨v11, q12, h⟩ := Option.bind_eq_some_iff.mp h
          refine z_iald (Or.inr rfl) B dX5_copy_49 q12 ?_
          refine z_aload_n B 0 dX5_copy_50 rfl rfl ?_
          refine z_get5 (v := .ref (ad 10)) B 16 dX5_copy_51 inlX5 (by decide) rfl (by decide) (wl_4 11 rfl) rfl rfl ?_
          refine z_iload_n B 3 dX5_copy_54 rfl rfl ?_
          obtain ⟨v13, q14, h⟩ := Option.bind_eq_some_iff.mp h
          refine z_iald (Or.inr rfl) B dX5_copy_55 q14 ?_
          refine z_icmp_eq (tgt := 62) B dX5_copy_56 (by decide) h (fun h => ?_) (fun h => ?_)
          · refine z_iload B 5 dX5_copy_62 rfl ?_
            refine z_if_lt (tgt := 124) B dX5_copy_64 (by decide) h (fun h => ?_) (fun h => ?_)
            · refine z_bipush B dX5_copy_124 (by decide) ?_
              exact z_iret B hr dX5_copy_126 h
            · refine z_iload_n B 2 dX5_copy_67 rfl rfl ?_
              refine z_if_lt (tgt := 124) B dX5_copy_68 (by decide) h (fun h => ?_) (fun h => ?_)
              · refine z_bipush B dX5_copy_124 (by decide) ?_
                exact z_iret B hr dX5_copy_126 h
              · refine z_iload B 4 dX5_copy_71 rfl ?_
                refine z_if_lt (tgt := 124) B dX5_copy_73 (by decide) h (fun h => ?_) (fun h => ?_)
                · refine z_bipush B dX5_copy_124 (by decide) ?_
                  exact z_iret B hr dX5_copy_126 h
                · refine z_iload_n B 2 dX5_copy_76 rfl rfl ?_
                  refine z_aload_n B 0 dX5_copy_77 rfl rfl ?_
                  refine z_get5 (v := .ref (ad 11)) B 17 dX5_copy_78 inlX5 (by decide) rfl (by decide) (wl_4 12 rfl) rfl rfl ?_
                  refine z_iload_n B 1 dX5_copy_81 rfl rfl ?_
                  obtain ⟨v15, q16, h⟩ := Option.bind_eq_some_iff.mp h
                  refine z_iald (Or.inr rfl) B dX5_copy_82 q16 ?_
                  refine z_icmp_gt (tgt := 124) B dX5_copy_83 (by decide) h (fun h => ?_) (fun h => ?_)
                  · refine z_bipush B dX5_copy_124 (by decide) ?_
                    exact z_iret B hr dX5_copy_126 h
                  · refine z_iload B 4 dX5_copy_86 rfl ?_
                    refine z_aload_n B 0 dX5_copy_88 rfl rfl ?_
                    refine z_get5 (v := .ref (ad 11)) B 17 dX5_copy_89 inlX5 (by decide) rfl (by decide) (wl_4 12 rfl) rfl rfl ?_
                    refine z_iload_n B 3 dX5_copy_92 rfl rfl ?_
                    obtain ⟨v17, q18, h⟩ := Option.bind_eq_some_iff.mp h
                    refine z_iald (Or.inr rfl) B dX5_copy_93 q18 ?_
                    refine z_icmp_gt (tgt := 124) B dX5_copy_94 (by decide) h (fun h => ?_) (fun h => ?_)
                    · refine z_bipush B dX5_copy_124 (by decide) ?_
                      exact z_iret B hr dX5_copy_126 h
                    · refine z_iload B 5 dX5_copy_97 rfl ?_
                      refine z_aload_n B 0 dX5_copy_99 rfl rfl ?_
                      refine z_get5 (v := .ref (ad 11)) B 17 dX5_copy_100 inlX5 (by decide) rfl (by decide) (wl_4 12 rfl) rfl rfl ?_
                      refine z_iload_n B 1 dX5_copy_103 rfl rfl ?_
                      obtain ⟨v19, q20, h⟩ := Option.bind_eq_some_iff.mp h
                      refine z_iald (Or.inr rfl) B dX5_copy_104 q20 ?_
                      refine z_iload_n B 2 dX5_copy_105 rfl rfl ?_
                      refine z_isub B dX5_copy_106 ?_
                      refine z_icmp_gt (tgt := 124) B dX5_copy_107 (by decide) h (fun h => ?_) (fun h => ?_)
                      · refine z_bipush B dX5_copy_124 (by decide) ?_
                        exact z_iret B hr dX5_copy_126 h
                      · refine z_iload B 5 dX5_copy_110 rfl ?_
                        refine z_aload_n B 0 dX5_copy_112 rfl rfl ?_
                        refine z_get5 (v := .ref (ad 11)) B 17 dX5_copy_113 inlX5 (by decide) rfl (by decide) (wl_4 12 rfl) rfl rfl ?_
                        refine z_iload_n B 3 dX5_copy_116 rfl rfl ?_
                        obtain ⟨v21, q22, h⟩ := Option.bind_eq_some_iff.mp h
                        refine z_iald (Or.inr rfl) B dX5_copy_117 q22 ?_
                        refine z_iload B 4 dX5_copy_118 rfl ?_
                        refine z_isub B dX5_copy_120 ?_
                        refine z_icmp_le (tgt := 127) B dX5_copy_121 (by decide) h (fun h => ?_) (fun h => ?_)
                        · refine z_bipush B dX5_copy_127 (by decide) ?_
                          refine z_iload_n B 1 dX5_copy_129 rfl rfl ?_
                          refine z_imul B dX5_copy_130 ?_
                          refine z_iload_n B 2 dX5_copy_131 rfl rfl ?_
                          refine z_iadd B dX5_copy_132 ?_
                          refine z_istore B [(6, .int (hg_I ((40 * a1) + a2))), (0, .ref (ad 0)), (1, .int (hg_I a1)), (2, .int (hg_I a2)), (3, .int (hg_I a3)), (4, .int (hg_I a4)), (5, .int (hg_I a5))] dX5_copy_133 (by decide) rfl ?_
                          refine z_bipush B dX5_copy_135 (by decide) ?_
                          refine z_iload_n B 4 dX5_copy_137 rfl rfl ?_
                          refine z_imul B dX5_copy_138 ?_
                          refine z_iload B 5 dX5_copy_139 rfl ?_
                          refine z_iadd B dX5_copy_141 ?_
                          refine z_istore B [(7, .int (hg_I ((40 * a3) + a4))), (6, .int (hg_I ((40 * a1) + a2))), (0, .ref (ad 0)), (1, .int (hg_I a1)), (2, .int (hg_I a2)), (3, .int (hg_I a3)), (4, .int (hg_I a4)), (5, .int (hg_I a5))] dX5_copy_142 (by decide) rfl ?_
                          refine z_iconst B dX5_copy_144 ?_
                          refine z_istore B [(8, .int (hg_I 0)), (7, .int (hg_I ((40 * a3) + a4))), (6, .int (hg_I ((40 * a1) + a2))), (0, .ref (ad 0)), (1, .int (hg_I a1)), (2, .int (hg_I a2)), (3, .int (hg_I a3)), (4, .int (hg_I a4)), (5, .int (hg_I a5))] dX5_copy_145 (by decide) rfl ?_
                          refine z_lv (lv' := [(0, .ref (ad 0)), (5, .int (hg_I a5)), (6, .int (hg_I ((40 * a1) + a2))), (7, .int (hg_I ((40 * a3) + a4))), (8, .int (hg_I 0))]) B [3, 8, 2, 1, 0] rfl ?_
                          exact rX5_copy_147 B hr hg_F _ _ _ _ _ h
                        · refine z_bipush B dX5_copy_124 (by decide) ?_
                          exact z_iret B hr dX5_copy_126 h
          · refine z_bipush B dX5_copy_59 (by decide) ?_
            exact z_iret B hr dX5_copy_61 h
        · refine z_bipush B dX5_copy_41 (by decide) ?_
          exact z_iret B hr dX5_copy_43 h
    · refine z_bipush B dX5_copy_18 (by decide) ?_
      exact z_iret B hr dX5_copy_20 h
set_option maxHeartbeats 4000000 in
set_option maxRecDepth 100000 in
theorem c_X5_copy {l : Launch} {D : va_G} {cI cA : ClassId} {ad : Nat → Nat} {a1 : Int} {a2 : Int} {a3 : Int} {a4 : Int} {a5 : Int} {w w1 : hg_W} {r1 : Int} (h : fX5_copy w a1 a2 a3 a4 a5 = some (w1, r1)) : hg_Mi l yX5_copy wxX5_copy rmX5_copy D cI cA ad 1 w [.ref (ad 0), .int (hg_I a1), .int (hg_I a2), .int (hg_I a3), .int (hg_I a4), .int (hg_I a5)] w1 r1 := by
  refine z_meti cX5_copy 10 (some .int) (by decide) (Nat.le_of_ble_eq_true rfl) ?_
  intro p e s m args below meth c A B hr
  exact rX5_copy_E B hr h
abbrev wxX5_pewBy : List Cond := Cond.code yX5_pewBy cX5_pewBy 9 (some .int) :: wsL_law
def fX5_pewBy_144 (K64 : hg_W → Int → Int → Int → Int → Int → Option (hg_W × Int))  (w : hg_W) (x1 : Int) (x3 : Int) (x4 : Int) (x6 : Int) (s0 : Int) (s1 : Int) : Option (hg_W × Int) :=
  K64 w x1 x3 x4 (s0 + s1) (x6 + 1)
def fX5_pewBy_64   : Nat → hg_W → Int → Int → Int → Int → Int → Option (hg_W × Int)
  | 0, _, _, _, _, _, _ => none
  | n + 1, w, x1, x3, x4, x5, x6 =>
    if wr x4 ≤ wr x6 then
      (
        some (w, wr x5)
      )
    else
      if wr x3 < 0 then
        (
          some (w, wr (-12))
        )
      else
        if wr (x3 + (2 * x6)) < wr x3 then
          (
            some (w, wr (-12))
          )
        else
          (hg_ag 1 w 11 x1).bind fun v1 =>
          if wr (x3 + (2 * x6)) ≤ wr (v1 - 2) then
            (
              (hg_ag 1 w 12 ((40 * x1) + (x3 + (2 * x6)))).bind fun v3 =>
              (hg_ag 1 w 12 (((40 * x1) + (x3 + (2 * x6))) + 1)).bind fun v5 =>
              hg_bd (fX5_person w v3 v5) fun w7 v8 =>
              if wr v8 < 0 then
                (
                  fX5_pewBy_144 (fX5_pewBy_64 n) w7 x1 x3 x4 x6 x5 0
                )
              else
                fX5_pewBy_144 (fX5_pewBy_64 n) w7 x1 x3 x4 x6 x5 1
            )
          else
            some (w, wr (-12))
def fX5_pewBy (w : hg_W) (a1 : Int) (a2 : Int) (a3 : Int) (a4 : Int) : Option (hg_W × Int) :=
  hg_bd (fX5_in w a1 0 3) fun w1 v2 =>
  if wr v2 = 0 then
    (
      some (w1, wr (-2))
    )
  else
    hg_bd (fX5_in w1 a2 0 2) fun w4 v5 =>
    if wr v5 = 0 then
      (
        some (w4, wr (-2))
      )
    else
      hg_bd (fX5_in w4 a4 0 6) fun w7 v8 =>
      if wr v8 = 0 then
        (
          some (w7, wr (-2))
        )
      else
        (hg_ag 1 w7 10 a1).bind fun v10 =>
        if wr v10 = wr (-1) then
          (
            some (w7, wr (-11))
          )
        else
          (hg_ag 1 w7 10 a1).bind fun v12 =>
          if wr v12 = wr a2 then
            (
              fX5_pewBy_64 hg_F w7 a1 a3 a4 0 0
            )
          else
            some (w7, wr (-13))
set_option maxHeartbeats 4000000 in
set_option maxRecDepth 100000 in
abbrev rmX5_pewBy : Room := { frames := 2, cells := 0, slots := 0, locals := 44 }
set_option maxHeartbeats 4000000 in
set_option maxRecDepth 100000 in
theorem rX5_pewBy_144 (B : hg_B p s m args meth c cX5_pewBy RX5 wsL_law 9 D cI cA ad 1 A) (hr : meth.sig.returnType = (some .int)) {w1 : hg_W} {r1 : Int} {K64 : hg_W → Int → Int → Int → Int → Int → Option (hg_W × Int)} (hK64 : ∀ (w : hg_W) (x1 : Int) (x3 : Int) (x4 : Int) (x5 : Int) (x6 : Int), K64 w x1 x3 x4 x5 x6 = some (w1, r1) → hg_At p l e (rmX5_pewBy) s m args below meth c D cI cA ad 1 A (MQ below (hg_Qi D cI cA ad 1 A w1 r1) args s 0 0 A) 9 w [(0, .ref (ad 0)), (1, .int (hg_I x1)), (3, .int (hg_I x3)), (4, .int (hg_I x4)), (5, .int (hg_I x5)), (6, .int (hg_I x6))] 64 []) : ∀ (w : hg_W) (x1 : Int) (x3 : Int) (x4 : Int) (x6 : Int) (s0 : Int) (s1 : Int), fX5_pewBy_144 K64 w x1 x3 x4 x6 s0 s1 = some (w1, r1) → hg_At p l e (rmX5_pewBy) s m args below meth c D cI cA ad 1 A (MQ below (hg_Qi D cI cA ad 1 A w1 r1) args s 0 0 A) 9 w [(0, .ref (ad 0)), (1, .int (hg_I x1)), (3, .int (hg_I x3)), (4, .int (hg_I x4)), (6, .int (hg_I x6))] 144 [.int (hg_I s1), .int (hg_I s0)] := by
  intro w x1 x3 x4 x6 s0 s1 h
  unfold fX5_pewBy_144 at h
  refine z_iadd B dX5_pewBy_144 ?_
  refine z_istore B [(5, .int (hg_I (s0 + s1))), (0, .ref (ad 0)), (1, .int (hg_I x1)), (3, .int (hg_I x3)), (4, .int (hg_I x4)), (6, .int (hg_I x6))] dX5_pewBy_145 (by decide) rfl ?_
  refine z_iinc B 5 [(6, .int (hg_I (x6 + 1))), (5, .int (hg_I (s0 + s1))), (0, .ref (ad 0)), (1, .int (hg_I x1)), (3, .int (hg_I x3)), (4, .int (hg_I x4))] dX5_pewBy_147 rfl (by decide) rfl ?_
  refine z_goto (tgt := 64) B dX5_pewBy_150 (by decide) ?_
  refine z_lv (lv' := [(0, .ref (ad 0)), (1, .int (hg_I x1)), (3, .int (hg_I x3)), (4, .int (hg_I x4)), (5, .int (hg_I (s0 + s1))), (6, .int (hg_I (x6 + 1)))]) B [2, 3, 4, 5, 1, 0] rfl ?_
  exact hK64 _ _ _ _ _ _ h
set_option maxHeartbeats 4000000 in
set_option maxRecDepth 100000 in
theorem rX5_pewBy_64 (B : hg_B p s m args meth c cX5_pewBy RX5 wsL_law 9 D cI cA ad 1 A) (hr : meth.sig.returnType = (some .int)) {w1 : hg_W} {r1 : Int} : ∀ (n : Nat), ∀ (w : hg_W) (x1 : Int) (x3 : Int) (x4 : Int) (x5 : Int) (x6 : Int), fX5_pewBy_64 n w x1 x3 x4 x5 x6 = some (w1, r1) → hg_At p l e (rmX5_pewBy) s m args below meth c D cI cA ad 1 A (MQ below (hg_Qi D cI cA ad 1 A w1 r1) args s 0 0 A) 9 w [(0, .ref (ad 0)), (1, .int (hg_I x1)), (3, .int (hg_I x3)), (4, .int (hg_I x4)), (5, .int (hg_I x5)), (6, .int (hg_I x6))] 64 [] := by
  intro n
  induction n with
  | zero =>
    intro w x1 x3 x4 x5 x6 h
    cases h
  | succ n ih =>
    intro w x1 x3 x4 x5 x6 h
    simp only [fX5_pewBy_64] at h
    refine z_iload B 5 dX5_pewBy_64 rfl ?_
    refine z_iload B 3 dX5_pewBy_66 rfl ?_
    refine z_icmp_ge (tgt := 153) B dX5_pewBy_68 (by decide) h (fun h => ?_) (fun h => ?_)
    · refine z_iload B 4 dX5_pewBy_153 rfl ?_
      exact z_iret B hr dX5_pewBy_155 h
    · refine z_iload_n B 2 dX5_pewBy_71 rfl rfl ?_
      refine z_iconst B dX5_pewBy_72 ?_
      refine z_iload B 5 dX5_pewBy_73 rfl ?_
      refine z_imul B dX5_pewBy_75 ?_
      refine z_iadd B dX5_pewBy_76 ?_
      refine z_istore B [(7, .int (hg_I (x3 + (2 * x6)))), (0, .ref (ad 0)), (1, .int (hg_I x1)), (3, .int (hg_I x3)), (4, .int (hg_I x4)), (5, .int (hg_I x5)), (6, .int (hg_I x6))] dX5_pewBy_77 (by decide) rfl ?_
      refine z_iload_n B 3 dX5_pewBy_79 rfl rfl ?_
      refine z_if_lt (tgt := 102) B dX5_pewBy_80 (by decide) h (fun h => ?_) (fun h => ?_)
      · refine z_bipush B dX5_pewBy_102 (by decide) ?_
        exact z_iret B hr dX5_pewBy_104 h
      · refine z_iload B 0 dX5_pewBy_83 rfl ?_
        refine z_iload_n B 3 dX5_pewBy_85 rfl rfl ?_
        refine z_icmp_lt (tgt := 102) B dX5_pewBy_86 (by decide) h (fun h => ?_) (fun h => ?_)
        · refine z_bipush B dX5_pewBy_102 (by decide) ?_
          exact z_iret B hr dX5_pewBy_104 h
        · refine z_iload B 0 dX5_pewBy_89 rfl ?_
          refine z_aload_n B 1 dX5_pewBy_91 rfl rfl ?_
          refine z_get5 (v := .ref (ad 11)) B 17 dX5_pewBy_92 inlX5 (by decide) rfl (by decide) (wl_4 12 rfl) rfl rfl ?_
          refine z_iload_n B 2 dX5_pewBy_95 rfl rfl ?_
          obtain ⟨v1, q2, h⟩ := Option.bind_eq_some_iff.mp h
          refine z_iald (Or.inr rfl) B dX5_pewBy_96 q2 ?_
          refine z_iconst B dX5_pewBy_97 ?_
          refine z_isub B dX5_pewBy_98 ?_
          refine z_icmp_le (tgt := 105) B dX5_pewBy_99 (by decide) h (fun h => ?_) (fun h => ?_)
          · refine z_bipush B dX5_pewBy_105 (by decide) ?_
            refine z_iload_n B 2 dX5_pewBy_107 rfl rfl ?_
            refine z_imul B dX5_pewBy_108 ?_
            refine z_iload B 0 dX5_pewBy_109 rfl ?_
            refine z_iadd B dX5_pewBy_111 ?_
            refine z_istore B [(8, .int (hg_I ((40 * x1) + (x3 + (2 * x6))))), (7, .int (hg_I (x3 + (2 * x6)))), (0, .ref (ad 0)), (1, .int (hg_I x1)), (3, .int (hg_I x3)), (4, .int (hg_I x4)), (5, .int (hg_I x5)), (6, .int (hg_I x6))] dX5_pewBy_112 (by decide) rfl ?_
            refine z_iload B 6 dX5_pewBy_114 rfl ?_
            refine z_aload_n B 2 dX5_pewBy_116 rfl rfl ?_
            refine z_aload_n B 2 dX5_pewBy_117 rfl rfl ?_
            refine z_get5 (v := .ref (ad 12)) B 18 dX5_pewBy_118 inlX5 (by decide) rfl (by decide) (wl_4 13 rfl) rfl rfl ?_
            refine z_iload B 0 dX5_pewBy_121 rfl ?_
            obtain ⟨v3, q4, h⟩ := Option.bind_eq_some_iff.mp h
            refine z_iald (Or.inr rfl) B dX5_pewBy_123 q4 ?_
            refine z_aload_n B 2 dX5_pewBy_124 rfl rfl ?_
            refine z_get5 (v := .ref (ad 12)) B 18 dX5_pewBy_125 inlX5 (by decide) rfl (by decide) (wl_4 13 rfl) rfl rfl ?_
            refine z_iload B 0 dX5_pewBy_128 rfl ?_
            refine z_iconst B dX5_pewBy_130 ?_
            refine z_iadd B dX5_pewBy_131 ?_
            obtain ⟨v5, q6, h⟩ := Option.bind_eq_some_iff.mp h
            refine z_iald (Or.inr rfl) B dX5_pewBy_132 q6 ?_
            obtain ⟨w7, v8, q9, h⟩ := hg_bd_some h
            refine z_calliV (a := 0) (ci := 5) (N := 37) (T := TX5) (C := RX5) (As := [.int (hg_I v3), .int (hg_I v5)]) (n := 2) B dX5_pewBy_133 (c_X5_person q9) (gl_V (wl_36 0 rfl) (wl_18 6 rfl) (wl_18 7 rfl) (wl_1 5 rfl) (wl_18 8 rfl)) rfl ⟨rfl, rfl⟩ (by decide +kernel) ⟨Nat.le_of_ble_eq_true rfl, Nat.le_of_ble_eq_true rfl⟩ (by decide) rfl (by decide) rfl rfl rfl (Nat.le_of_ble_eq_true rfl) ?_
            refine z_if_lt (tgt := 143) B dX5_pewBy_136 (by decide) h (fun h => ?_) (fun h => ?_)
            · refine z_iconst B dX5_pewBy_143 ?_
              refine z_lv (lv' := [(0, .ref (ad 0)), (1, .int (hg_I x1)), (3, .int (hg_I x3)), (4, .int (hg_I x4)), (6, .int (hg_I x6))]) B [2, 3, 4, 5, 7] rfl ?_
              exact rX5_pewBy_144 B hr ih _ _ _ _ _ _ _ h
            · refine z_iconst B dX5_pewBy_139 ?_
              refine z_goto (tgt := 144) B dX5_pewBy_140 (by decide) ?_
              refine z_lv (lv' := [(0, .ref (ad 0)), (1, .int (hg_I x1)), (3, .int (hg_I x3)), (4, .int (hg_I x4)), (6, .int (hg_I x6))]) B [2, 3, 4, 5, 7] rfl ?_
              exact rX5_pewBy_144 B hr ih _ _ _ _ _ _ _ h
          · refine z_bipush B dX5_pewBy_102 (by decide) ?_
            exact z_iret B hr dX5_pewBy_104 h
set_option maxHeartbeats 4000000 in
set_option maxRecDepth 100000 in
theorem rX5_pewBy_E (B : hg_B p s m args meth c cX5_pewBy RX5 wsL_law 9 D cI cA ad 1 A) (hr : meth.sig.returnType = (some .int)) {a1 : Int} {a2 : Int} {a3 : Int} {a4 : Int} {w1 : hg_W} {r1 : Int} {w : hg_W} (h : fX5_pewBy w a1 a2 a3 a4 = some (w1, r1)) : hg_At p l e (rmX5_pewBy) s m args below meth c D cI cA ad 1 A (MQ below (hg_Qi D cI cA ad 1 A w1 r1) args s 0 0 A) 9 w [(0, .ref (ad 0)), (1, .int (hg_I a1)), (2, .int (hg_I a2)), (3, .int (hg_I a3)), (4, .int (hg_I a4))] 0 [] := by
  unfold fX5_pewBy at h
  refine z_iload_n B 1 dX5_pewBy_0 rfl rfl ?_
  refine z_iconst B dX5_pewBy_1 ?_
  refine z_iconst B dX5_pewBy_2 ?_
  obtain ⟨w1, v2, q3, h⟩ := hg_bd_some h
  refine z_calliS (As := [.int (hg_I a1), .int (hg_I 0), .int (hg_I 3)]) (n := 3) B dX5_pewBy_3 (c_X5_in q3) (gl_S (wl_5 14 rfl) (wl_5 15 rfl) (wl_1 5 rfl) (wl_5 16 rfl)) rfl ⟨rfl, rfl⟩ (by decide +kernel) ⟨Nat.le_of_ble_eq_true rfl, Nat.le_of_ble_eq_true rfl⟩ rfl rfl (Nat.le_of_ble_eq_true rfl) ?_
  refine z_if_eq (tgt := 29) B dX5_pewBy_6 (by decide) h (fun h => ?_) (fun h => ?_)
  · refine z_bipush B dX5_pewBy_29 (by decide) ?_
    exact z_iret B hr dX5_pewBy_31 h
  · refine z_iload_n B 2 dX5_pewBy_9 rfl rfl ?_
    refine z_iconst B dX5_pewBy_10 ?_
    refine z_iconst B dX5_pewBy_11 ?_
    obtain ⟨w4, v5, q6, h⟩ := hg_bd_some h
    refine z_calliS (As := [.int (hg_I a2), .int (hg_I 0), .int (hg_I 2)]) (n := 3) B dX5_pewBy_12 (c_X5_in q6) (gl_S (wl_5 14 rfl) (wl_5 15 rfl) (wl_1 5 rfl) (wl_5 16 rfl)) rfl ⟨rfl, rfl⟩ (by decide +kernel) ⟨Nat.le_of_ble_eq_true rfl, Nat.le_of_ble_eq_true rfl⟩ rfl rfl (Nat.le_of_ble_eq_true rfl) ?_
    refine z_if_eq (tgt := 29) B dX5_pewBy_15 (by decide) h (fun h => ?_) (fun h => ?_)
    · refine z_bipush B dX5_pewBy_29 (by decide) ?_
      exact z_iret B hr dX5_pewBy_31 h
    · refine z_iload B 4 dX5_pewBy_18 rfl ?_
      refine z_iconst B dX5_pewBy_20 ?_
      refine z_bipush B dX5_pewBy_21 (by decide) ?_
      obtain ⟨w7, v8, q9, h⟩ := hg_bd_some h
      refine z_calliS (As := [.int (hg_I a4), .int (hg_I 0), .int (hg_I 6)]) (n := 3) B dX5_pewBy_23 (c_X5_in q9) (gl_S (wl_5 14 rfl) (wl_5 15 rfl) (wl_1 5 rfl) (wl_5 16 rfl)) rfl ⟨rfl, rfl⟩ (by decide +kernel) ⟨Nat.le_of_ble_eq_true rfl, Nat.le_of_ble_eq_true rfl⟩ rfl rfl (Nat.le_of_ble_eq_true rfl) ?_
      refine z_if_ne (tgt := 32) B dX5_pewBy_26 (by decide) h (fun h => ?_) (fun h => ?_)
      · refine z_aload_n B 0 dX5_pewBy_32 rfl rfl ?_
        refine z_get5 (v := .ref (ad 10)) B 16 dX5_pewBy_33 inlX5 (by decide) rfl (by decide) (wl_4 11 rfl) rfl rfl ?_
        refine z_iload_n B 1 dX5_pewBy_36 rfl rfl ?_
        obtain ⟨v10, q11, h⟩ := Option.bind_eq_some_iff.mp h
        refine z_iald (Or.inr rfl) B dX5_pewBy_37 q11 ?_
        refine z_iconst B dX5_pewBy_38 ?_
        refine z_icmp_ne (tgt := 45) B dX5_pewBy_39 (by decide) h (fun h => ?_) (fun h => ?_)
        · refine z_aload_n B 0 dX5_pewBy_45 rfl rfl ?_
          refine z_get5 (v := .ref (ad 10)) B 16 dX5_pewBy_46 inlX5 (by decide) rfl (by decide) (wl_4 11 rfl) rfl rfl ?_
          refine z_iload_n B 1 dX5_pewBy_49 rfl rfl ?_
          obtain ⟨v12, q13, h⟩ := Option.bind_eq_some_iff.mp h
          refine z_iald (Or.inr rfl) B dX5_pewBy_50 q13 ?_
          refine z_iload_n B 2 dX5_pewBy_51 rfl rfl ?_
          refine z_icmp_eq (tgt := 58) B dX5_pewBy_52 (by decide) h (fun h => ?_) (fun h => ?_)
          · refine z_iconst B dX5_pewBy_58 ?_
            refine z_istore B [(5, .int (hg_I 0)), (0, .ref (ad 0)), (1, .int (hg_I a1)), (2, .int (hg_I a2)), (3, .int (hg_I a3)), (4, .int (hg_I a4))] dX5_pewBy_59 (by decide) rfl ?_
            refine z_iconst B dX5_pewBy_61 ?_
            refine z_istore B [(6, .int (hg_I 0)), (5, .int (hg_I 0)), (0, .ref (ad 0)), (1, .int (hg_I a1)), (2, .int (hg_I a2)), (3, .int (hg_I a3)), (4, .int (hg_I a4))] dX5_pewBy_62 (by decide) rfl ?_
            refine z_lv (lv' := [(0, .ref (ad 0)), (1, .int (hg_I a1)), (3, .int (hg_I a3)), (4, .int (hg_I a4)), (5, .int (hg_I 0)), (6, .int (hg_I 0))]) B [2, 3, 5, 6, 1, 0] rfl ?_
            exact rX5_pewBy_64 B hr hg_F _ _ _ _ _ _ h
          · refine z_bipush B dX5_pewBy_55 (by decide) ?_
            exact z_iret B hr dX5_pewBy_57 h
        · refine z_bipush B dX5_pewBy_42 (by decide) ?_
          exact z_iret B hr dX5_pewBy_44 h
      · refine z_bipush B dX5_pewBy_29 (by decide) ?_
        exact z_iret B hr dX5_pewBy_31 h
set_option maxHeartbeats 4000000 in
set_option maxRecDepth 100000 in
theorem c_X5_pewBy {l : Launch} {D : va_G} {cI cA : ClassId} {ad : Nat → Nat} {a1 : Int} {a2 : Int} {a3 : Int} {a4 : Int} {w w1 : hg_W} {r1 : Int} (h : fX5_pewBy w a1 a2 a3 a4 = some (w1, r1)) : hg_Mi l yX5_pewBy wxX5_pewBy rmX5_pewBy D cI cA ad 1 w [.ref (ad 0), .int (hg_I a1), .int (hg_I a2), .int (hg_I a3), .int (hg_I a4)] w1 r1 := by
  refine z_meti cX5_pewBy 9 (some .int) (by decide) (Nat.le_of_ble_eq_true rfl) ?_
  intro p e s m args below meth c A B hr
  exact rX5_pewBy_E B hr h
abbrev wxX5_isUnder : List Cond := Cond.code yX5_isUnder cX5_isUnder 2 (some .boolean) :: wsL_law
def fX5_isUnder_29   (w : hg_W) : Option (hg_W × Int) :=
  if wr 1 = 0 ∨ wr 1 = 1 then some (w, wr 1) else none
def fX5_isUnder_19   (w : hg_W) (x0 : Int) (x1 : Int) : Option (hg_W × Int) :=
  if wr x1 = wr 2 then
    (
      if wr x0 = wr 4 then
        (
          fX5_isUnder_29 w
        )
      else
        if wr 0 = 0 ∨ wr 0 = 1 then some (w, wr 0) else none
    )
  else
    if wr 0 = 0 ∨ wr 0 = 1 then some (w, wr 0) else none
def fX5_isUnder (w : hg_W) (a1 : Int) (a2 : Int) : Option (hg_W × Int) :=
  if wr a2 = 0 then
    (
      fX5_isUnder_29 w
    )
  else
    if wr a1 = wr a2 then
      (
        fX5_isUnder_29 w
      )
    else
      if wr a2 = wr 1 then
        (
          if wr a1 = wr 3 then
            (
              fX5_isUnder_29 w
            )
          else
            fX5_isUnder_19 w a1 a2
        )
      else
        fX5_isUnder_19 w a1 a2
set_option maxHeartbeats 4000000 in
set_option maxRecDepth 100000 in
abbrev rmX5_isUnder : Room := { frames := 0, cells := 0, slots := 0, locals := 0 }
set_option maxHeartbeats 4000000 in
set_option maxRecDepth 100000 in
theorem rX5_isUnder_29 (B : hg_B p s m args meth c cX5_isUnder RX5 wsL_law 2 D cI cA ad 1 A) (hr : meth.sig.returnType = (some .boolean)) {w1 : hg_W} {r1 : Int} : ∀ (w : hg_W), fX5_isUnder_29 w = some (w1, r1) → hg_At p l e (rmX5_isUnder) s m args below meth c D cI cA ad 1 A (MQ below (hg_Qi D cI cA ad 1 A w1 r1) args s 0 0 A) 2 w [] 29 [] := by
  intro w h
  unfold fX5_isUnder_29 at h
  refine z_iconst B dX5_isUnder_29 ?_
  refine z_goto (tgt := 34) B dX5_isUnder_30 (by decide) ?_
  exact z_bret B hr dX5_isUnder_34 h
set_option maxHeartbeats 4000000 in
set_option maxRecDepth 100000 in
theorem rX5_isUnder_19 (B : hg_B p s m args meth c cX5_isUnder RX5 wsL_law 2 D cI cA ad 1 A) (hr : meth.sig.returnType = (some .boolean)) {w1 : hg_W} {r1 : Int} : ∀ (w : hg_W) (x0 : Int) (x1 : Int), fX5_isUnder_19 w x0 x1 = some (w1, r1) → hg_At p l e (rmX5_isUnder) s m args below meth c D cI cA ad 1 A (MQ below (hg_Qi D cI cA ad 1 A w1 r1) args s 0 0 A) 2 w [(0, .int (hg_I x0)), (1, .int (hg_I x1))] 19 [] := by
  intro w x0 x1 h
  unfold fX5_isUnder_19 at h
  refine z_iload_n B 1 dX5_isUnder_19 rfl rfl ?_
  refine z_iconst B dX5_isUnder_20 ?_
  refine z_icmp_ne (tgt := 33) B dX5_isUnder_21 (by decide) h (fun h => ?_) (fun h => ?_)
  · refine z_iconst B dX5_isUnder_33 ?_
    exact z_bret B hr dX5_isUnder_34 h
  · refine z_iload_n B 0 dX5_isUnder_24 rfl rfl ?_
    refine z_iconst B dX5_isUnder_25 ?_
    refine z_icmp_ne (tgt := 33) B dX5_isUnder_26 (by decide) h (fun h => ?_) (fun h => ?_)
    · refine z_iconst B dX5_isUnder_33 ?_
      exact z_bret B hr dX5_isUnder_34 h
    · refine z_lv (lv' := []) B [] rfl ?_
      exact rX5_isUnder_29 B hr _ h
set_option maxHeartbeats 4000000 in
set_option maxRecDepth 100000 in
theorem rX5_isUnder_E (B : hg_B p s m args meth c cX5_isUnder RX5 wsL_law 2 D cI cA ad 1 A) (hr : meth.sig.returnType = (some .boolean)) {a1 : Int} {a2 : Int} {w1 : hg_W} {r1 : Int} {w : hg_W} (h : fX5_isUnder w a1 a2 = some (w1, r1)) : hg_At p l e (rmX5_isUnder) s m args below meth c D cI cA ad 1 A (MQ below (hg_Qi D cI cA ad 1 A w1 r1) args s 0 0 A) 2 w [(0, .int (hg_I a1)), (1, .int (hg_I a2))] 0 [] := by
  unfold fX5_isUnder at h
  refine z_iload_n B 1 dX5_isUnder_0 rfl rfl ?_
  refine z_if_eq (tgt := 29) B dX5_isUnder_1 (by decide) h (fun h => ?_) (fun h => ?_)
  · refine z_lv (lv' := []) B [] rfl ?_
    exact rX5_isUnder_29 B hr _ h
  · refine z_iload_n B 0 dX5_isUnder_4 rfl rfl ?_
    refine z_iload_n B 1 dX5_isUnder_5 rfl rfl ?_
    refine z_icmp_eq (tgt := 29) B dX5_isUnder_6 (by decide) h (fun h => ?_) (fun h => ?_)
    · refine z_lv (lv' := []) B [] rfl ?_
      exact rX5_isUnder_29 B hr _ h
    · refine z_iload_n B 1 dX5_isUnder_9 rfl rfl ?_
      refine z_iconst B dX5_isUnder_10 ?_
      refine z_icmp_ne (tgt := 19) B dX5_isUnder_11 (by decide) h (fun h => ?_) (fun h => ?_)
      · exact rX5_isUnder_19 B hr _ _ _ h
      · refine z_iload_n B 0 dX5_isUnder_14 rfl rfl ?_
        refine z_iconst B dX5_isUnder_15 ?_
        refine z_icmp_eq (tgt := 29) B dX5_isUnder_16 (by decide) h (fun h => ?_) (fun h => ?_)
        · refine z_lv (lv' := []) B [] rfl ?_
          exact rX5_isUnder_29 B hr _ h
        · exact rX5_isUnder_19 B hr _ _ _ h
set_option maxHeartbeats 4000000 in
set_option maxRecDepth 100000 in
theorem c_X5_isUnder {l : Launch} {D : va_G} {cI cA : ClassId} {ad : Nat → Nat} {a1 : Int} {a2 : Int} {w w1 : hg_W} {r1 : Int} (h : fX5_isUnder w a1 a2 = some (w1, r1)) : hg_Mi l yX5_isUnder wxX5_isUnder rmX5_isUnder D cI cA ad 1 w [.int (hg_I a1), .int (hg_I a2)] w1 r1 := by
  refine z_meti cX5_isUnder 2 (some .boolean) (by decide) (Nat.le_of_ble_eq_true rfl) ?_
  intro p e s m args below meth c A B hr
  exact rX5_isUnder_E B hr h
abbrev wxX5_taken : List Cond := Cond.code yX5_taken cX5_taken 3 (some .int) :: wsL_law
def fX5_taken (w : hg_W) (a1 : Int) (a2 : Int) : Option (hg_W × Int) :=
  hg_bd (fX5_in w a2 0 6) fun w1 v2 =>
  if wr v2 = 0 then
    (
      some (w1, wr (-2))
    )
  else
    hg_bd (fX5_in w1 a1 0 11) fun w4 v5 =>
    if wr v5 = 0 then
      (
        some (w4, wr (-12))
      )
    else
      if wr a1 < wr 6 then
        (
          if wr a1 < wr (w4 0 0) then
            (
              if wr 6 ≤ wr a2 then
                (
                  some (w4, wr (-13))
                )
              else
                (hg_ag 1 w4 1 a1).bind fun v7 =>
                hg_bd (fX5_isUnder w4 v7 a2) fun w9 v10 =>
                if wr v10 = 0 then
                  (
                    some (w9, wr (-13))
                  )
                else
                  some (w9, wr a1)
            )
          else
            some (w4, wr (-11))
        )
      else
        if wr a2 = wr 6 then
          (
            (hg_ag 1 w4 4 ((2 * (a1 - 6)) + 1)).bind fun v12 =>
            some (w4, wr v12)
          )
        else
          some (w4, wr (-13))
set_option maxHeartbeats 4000000 in
set_option maxRecDepth 100000 in
abbrev rmX5_taken : Room := { frames := 1, cells := 0, slots := 0, locals := 22 }
set_option maxHeartbeats 4000000 in
set_option maxRecDepth 100000 in
theorem rX5_taken_E (B : hg_B p s m args meth c cX5_taken RX5 wsL_law 3 D cI cA ad 1 A) (hr : meth.sig.returnType = (some .int)) {a1 : Int} {a2 : Int} {w1 : hg_W} {r1 : Int} {w : hg_W} (h : fX5_taken w a1 a2 = some (w1, r1)) : hg_At p l e (rmX5_taken) s m args below meth c D cI cA ad 1 A (MQ below (hg_Qi D cI cA ad 1 A w1 r1) args s 0 0 A) 3 w [(0, .ref (ad 0)), (1, .int (hg_I a1)), (2, .int (hg_I a2))] 0 [] := by
  unfold fX5_taken at h
  refine z_iload_n B 2 dX5_taken_0 rfl rfl ?_
  refine z_iconst B dX5_taken_1 ?_
  refine z_bipush B dX5_taken_2 (by decide) ?_
  obtain ⟨w1, v2, q3, h⟩ := hg_bd_some h
  refine z_calliS (As := [.int (hg_I a2), .int (hg_I 0), .int (hg_I 6)]) (n := 3) B dX5_taken_4 (c_X5_in q3) (gl_S (wl_5 14 rfl) (wl_5 15 rfl) (wl_1 5 rfl) (wl_5 16 rfl)) rfl ⟨rfl, rfl⟩ (by decide +kernel) ⟨Nat.le_of_ble_eq_true rfl, Nat.le_of_ble_eq_true rfl⟩ rfl rfl (Nat.le_of_ble_eq_true rfl) ?_
  refine z_if_ne (tgt := 13) B dX5_taken_7 (by decide) h (fun h => ?_) (fun h => ?_)
  · refine z_iload_n B 1 dX5_taken_13 rfl rfl ?_
    refine z_iconst B dX5_taken_14 ?_
    refine z_bipush B dX5_taken_15 (by decide) ?_
    obtain ⟨w4, v5, q6, h⟩ := hg_bd_some h
    refine z_calliS (As := [.int (hg_I a1), .int (hg_I 0), .int (hg_I 11)]) (n := 3) B dX5_taken_17 (c_X5_in q6) (gl_S (wl_5 14 rfl) (wl_5 15 rfl) (wl_1 5 rfl) (wl_5 16 rfl)) rfl ⟨rfl, rfl⟩ (by decide +kernel) ⟨Nat.le_of_ble_eq_true rfl, Nat.le_of_ble_eq_true rfl⟩ rfl rfl (Nat.le_of_ble_eq_true rfl) ?_
    refine z_if_ne (tgt := 26) B dX5_taken_20 (by decide) h (fun h => ?_) (fun h => ?_)
    · refine z_iload_n B 1 dX5_taken_26 rfl rfl ?_
      refine z_bipush B dX5_taken_27 (by decide) ?_
      refine z_icmp_lt (tgt := 57) B dX5_taken_29 (by decide) h (fun h => ?_) (fun h => ?_)
      · refine z_iload_n B 1 dX5_taken_57 rfl rfl ?_
        refine z_aload_n B 0 dX5_taken_58 rfl rfl ?_
        refine z_get5 (v := .int (hg_I (w4 0 0))) B 0 dX5_taken_59 inlX5 (by decide) rfl (by decide) (wl_7 22 rfl) rfl rfl ?_
        refine z_icmp_lt (tgt := 70) B dX5_taken_62 (by decide) h (fun h => ?_) (fun h => ?_)
        · refine z_iload_n B 2 dX5_taken_70 rfl rfl ?_
          refine z_bipush B dX5_taken_71 (by decide) ?_
          refine z_icmp_ge (tgt := 93) B dX5_taken_73 (by decide) h (fun h => ?_) (fun h => ?_)
          · refine z_bipush B dX5_taken_93 (by decide) ?_
            exact z_iret B hr dX5_taken_95 h
          · refine z_aload_n B 0 dX5_taken_76 rfl rfl ?_
            refine z_get5 (v := .ref (ad 1)) B 1 dX5_taken_77 inlX5 (by decide) rfl (by decide) (wl_4 2 rfl) rfl rfl ?_
            refine z_iload_n B 1 dX5_taken_80 rfl rfl ?_
            obtain ⟨v7, q8, h⟩ := Option.bind_eq_some_iff.mp h
            refine z_iald (Or.inr rfl) B dX5_taken_81 q8 ?_
            refine z_iload_n B 2 dX5_taken_82 rfl rfl ?_
            obtain ⟨w9, v10, q11, h⟩ := hg_bd_some h
            refine z_calliS (As := [.int (hg_I v7), .int (hg_I a2)]) (n := 2) B dX5_taken_83 (c_X5_isUnder q11) (gl_S (wl_36 12 rfl) (wl_36 13 rfl) (wl_1 5 rfl) (wl_36 14 rfl)) rfl ⟨rfl, rfl⟩ (by decide +kernel) ⟨Nat.le_of_ble_eq_true rfl, Nat.le_of_ble_eq_true rfl⟩ rfl rfl (Nat.le_of_ble_eq_true rfl) ?_
            refine z_if_eq (tgt := 93) B dX5_taken_86 (by decide) h (fun h => ?_) (fun h => ?_)
            · refine z_bipush B dX5_taken_93 (by decide) ?_
              exact z_iret B hr dX5_taken_95 h
            · refine z_iload_n B 1 dX5_taken_89 rfl rfl ?_
              refine z_goto (tgt := 95) B dX5_taken_90 (by decide) ?_
              exact z_iret B hr dX5_taken_95 h
        · refine z_bipush B dX5_taken_65 (by decide) ?_
          refine z_goto (tgt := 95) B dX5_taken_67 (by decide) ?_
          exact z_iret B hr dX5_taken_95 h
      · refine z_iload_n B 2 dX5_taken_32 rfl rfl ?_
        refine z_bipush B dX5_taken_33 (by decide) ?_
        refine z_icmp_ne (tgt := 54) B dX5_taken_35 (by decide) h (fun h => ?_) (fun h => ?_)
        · refine z_bipush B dX5_taken_54 (by decide) ?_
          exact z_iret B hr dX5_taken_56 h
        · refine z_aload_n B 0 dX5_taken_38 rfl rfl ?_
          refine z_get5 (v := .ref (ad 4)) B 4 dX5_taken_39 inlX5 (by decide) rfl (by decide) (wl_4 5 rfl) rfl rfl ?_
          refine z_iconst B dX5_taken_42 ?_
          refine z_iload_n B 1 dX5_taken_43 rfl rfl ?_
          refine z_bipush B dX5_taken_44 (by decide) ?_
          refine z_isub B dX5_taken_46 ?_
          refine z_imul B dX5_taken_47 ?_
          refine z_iconst B dX5_taken_48 ?_
          refine z_iadd B dX5_taken_49 ?_
          obtain ⟨v12, q13, h⟩ := Option.bind_eq_some_iff.mp h
          refine z_iald (Or.inr rfl) B dX5_taken_50 q13 ?_
          refine z_goto (tgt := 56) B dX5_taken_51 (by decide) ?_
          exact z_iret B hr dX5_taken_56 h
    · refine z_bipush B dX5_taken_23 (by decide) ?_
      exact z_iret B hr dX5_taken_25 h
  · refine z_bipush B dX5_taken_10 (by decide) ?_
    exact z_iret B hr dX5_taken_12 h
set_option maxHeartbeats 4000000 in
set_option maxRecDepth 100000 in
theorem c_X5_taken {l : Launch} {D : va_G} {cI cA : ClassId} {ad : Nat → Nat} {a1 : Int} {a2 : Int} {w w1 : hg_W} {r1 : Int} (h : fX5_taken w a1 a2 = some (w1, r1)) : hg_Mi l yX5_taken wxX5_taken rmX5_taken D cI cA ad 1 w [.ref (ad 0), .int (hg_I a1), .int (hg_I a2)] w1 r1 := by
  refine z_meti cX5_taken 3 (some .int) (by decide) (Nat.le_of_ble_eq_true rfl) ?_
  intro p e s m args below meth c A B hr
  exact rX5_taken_E B hr h
end G_05_model5
