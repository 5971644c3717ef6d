section G_06_hat4
variable {p : Program} {l : Launch} {e : Env} {s : State} {m : MethodId} {args : Array Value} {below : List Frame} {meth : Method} {c : Code} {D : va_G} {cI cA : ClassId} {ad : Nat → Nat} {A : Nat → Prop}
abbrev wxX4_nextOrder : List Cond := Cond.code yX4_nextOrder cX4_nextOrder 5 (some .boolean) :: wsL_law
def fX4_nextOrder_110   : Nat → hg_W → Int → Int → Int → Option (hg_W × Int)
  | 0, _, _, _, _ => none
  | n + 1, w, x1, x2, x4 =>
    if wr (x1 - x4) ≤ wr (x2 + x4) then
      (
        if wr 1 = 0 ∨ wr 1 = 1 then some (w, wr 1) else none
      )
    else
      hg_bd (fX4_swapInOrder w (x2 + x4) (x1 - x4)) fun w1 _ =>
      fX4_nextOrder_110 n w1 x1 x2 (x4 + 1)
def fX4_nextOrder_101   (w : hg_W) (x1 : Int) (x2 : Int) (x3 : Int) : Option (hg_W × Int) :=
  hg_bd (fX4_swapInOrder w x2 x3) fun w1 _ =>
  fX4_nextOrder_110 hg_F w1 x1 x2 1
def fX4_nextOrder_63   : Nat → hg_W → Int → Int → Int → Int → Option (hg_W × Int)
  | 0, _, _, _, _, _ => none
  | n + 1, w, x1, x2, x3, x4 =>
    if wr 6 ≤ wr x4 then
      (
        fX4_nextOrder_101 w x1 x2 x3
      )
    else
      if wr x3 ≤ wr (x2 + 1) then
        (
          fX4_nextOrder_101 w x1 x2 x3
        )
      else
        (hg_ag 0 w 55 x3).bind fun v1 =>
        (hg_ag 0 w 55 x2).bind fun v3 =>
        if wr v3 ≤ wr v1 then
          (
            fX4_nextOrder_101 w x1 x2 x3
          )
        else
          fX4_nextOrder_63 n w x1 x2 (x3 + (-1)) (x4 + 1)
def fX4_nextOrder_50   (w : hg_W) (x1 : Int) (x2 : Int) : Option (hg_W × Int) :=
  if 0 ≤ wr x2 then
    (
      fX4_nextOrder_63 hg_F w x1 x2 (x1 - 1) 0
    )
  else
    if wr 0 = 0 ∨ wr 0 = 1 then some (w, wr 0) else none
def fX4_nextOrder_14   : Nat → hg_W → Int → Int → Int → Option (hg_W × Int)
  | 0, _, _, _, _ => none
  | n + 1, w, x1, x2, x3 =>
    if wr 6 ≤ wr x3 then
      (
        fX4_nextOrder_50 w x1 x2
      )
    else
      if wr x2 < 0 then
        (
          fX4_nextOrder_50 w x1 x2
        )
      else
        (hg_ag 0 w 55 x2).bind fun v1 =>
        (hg_ag 0 w 55 (x2 + 1)).bind fun v3 =>
        if wr v1 ≤ wr v3 then
          (
            fX4_nextOrder_50 w x1 x2
          )
        else
          fX4_nextOrder_14 n w x1 (x2 + (-1)) (x3 + 1)
def fX4_nextOrder (w : hg_W) : Option (hg_W × Int) :=
  fX4_nextOrder_14 hg_F w (w 19 9) ((w 19 9) - 2) 0
set_option maxHeartbeats 4000000 in
set_option maxRecDepth 100000 in
abbrev rmX4_nextOrder : Room := { frames := 1, cells := 0, slots := 0, locals := 23 }
set_option maxHeartbeats 4000000 in
set_option maxRecDepth 100000 in
theorem rX4_nextOrder_110 (B : hg_B p s m args meth c cX4_nextOrder RX4 wsL_law 5 D cI cA ad 0 A) (hr : meth.sig.returnType = (some .boolean)) {w1 : hg_W} {r1 : Int} : ∀ (n : Nat), ∀ (w : hg_W) (x1 : Int) (x2 : Int) (x4 : Int), fX4_nextOrder_110 n w x1 x2 x4 = some (w1, r1) → hg_At p l e (rmX4_nextOrder) s m args below meth c D cI cA ad 0 A (MQ below (hg_Qi D cI cA ad 0 A w1 r1) args s 0 0 A) 5 w [(0, .ref (ad 0)), (1, .int (hg_I x1)), (2, .int (hg_I x2)), (4, .int (hg_I x4))] 110 [] := by
  intro n
  induction n with
  | zero =>
    intro w x1 x2 x4 h
    cases h
  | succ n ih =>
    intro w x1 x2 x4 h
    simp only [fX4_nextOrder_110] at h
    refine z_iload_n B 2 dX4_nextOrder_110 rfl rfl ?_
    refine z_iload B 3 dX4_nextOrder_111 rfl ?_
    refine z_iadd B dX4_nextOrder_113 ?_
    refine z_iload_n B 1 dX4_nextOrder_114 rfl rfl ?_
    refine z_iload B 3 dX4_nextOrder_115 rfl ?_
    refine z_isub B dX4_nextOrder_117 ?_
    refine z_icmp_ge (tgt := 139) B dX4_nextOrder_118 (by decide) h (fun h => ?_) (fun h => ?_)
    · refine z_iconst B dX4_nextOrder_139 ?_
      exact z_bret B hr dX4_nextOrder_140 h
    · refine z_aload_n B 0 dX4_nextOrder_121 rfl rfl ?_
      refine z_iload_n B 2 dX4_nextOrder_122 rfl rfl ?_
      refine z_iload B 3 dX4_nextOrder_123 rfl ?_
      refine z_iadd B dX4_nextOrder_125 ?_
      refine z_iload_n B 1 dX4_nextOrder_126 rfl rfl ?_
      refine z_iload B 3 dX4_nextOrder_127 rfl ?_
      refine z_isub B dX4_nextOrder_129 ?_
      obtain ⟨w1, v2, q3, h⟩ := hg_bd_some h
      refine z_callvV (a := 0) (ci := 4) (N := 9) (T := TX4) (C := RX4) (As := [.int (hg_I (x2 + x4)), .int (hg_I (x1 - x4))]) (n := 2) B dX4_nextOrder_130 (c_X4_swapInOrder q3) (gl_V (wl_26 8 rfl) (wl_26 9 rfl) (wl_26 10 rfl) (wl_1 2 rfl) (wl_26 11 rfl)) rfl ⟨rfl, rfl⟩ (by decide +kernel) ⟨Nat.le_of_ble_eq_true rfl, Nat.le_of_ble_eq_true rfl⟩ (by decide) rfl (by decide) rfl rfl rfl (Nat.le_of_ble_eq_true rfl) ?_
      refine z_iinc B 3 [(4, .int (hg_I (x4 + 1))), (0, .ref (ad 0)), (1, .int (hg_I x1)), (2, .int (hg_I x2))] dX4_nextOrder_133 rfl (by decide) rfl ?_
      refine z_goto (tgt := 110) B dX4_nextOrder_136 (by decide) ?_
      refine z_lv (lv' := [(0, .ref (ad 0)), (1, .int (hg_I x1)), (2, .int (hg_I x2)), (4, .int (hg_I (x4 + 1)))]) B [1, 2, 3, 0] rfl ?_
      exact ih _ _ _ _ h
set_option maxHeartbeats 4000000 in
set_option maxRecDepth 100000 in
theorem rX4_nextOrder_101 (B : hg_B p s m args meth c cX4_nextOrder RX4 wsL_law 5 D cI cA ad 0 A) (hr : meth.sig.returnType = (some .boolean)) {w1 : hg_W} {r1 : Int} : ∀ (w : hg_W) (x1 : Int) (x2 : Int) (x3 : Int), fX4_nextOrder_101 w x1 x2 x3 = some (w1, r1) → hg_At p l e (rmX4_nextOrder) s m args below meth c D cI cA ad 0 A (MQ below (hg_Qi D cI cA ad 0 A w1 r1) args s 0 0 A) 5 w [(0, .ref (ad 0)), (1, .int (hg_I x1)), (2, .int (hg_I x2)), (3, .int (hg_I x3))] 101 [] := by
  intro w x1 x2 x3 h
  unfold fX4_nextOrder_101 at h
  refine z_aload_n B 0 dX4_nextOrder_101 rfl rfl ?_
  refine z_iload_n B 2 dX4_nextOrder_102 rfl rfl ?_
  refine z_iload_n B 3 dX4_nextOrder_103 rfl rfl ?_
  obtain ⟨w1, v2, q3, h⟩ := hg_bd_some h
  refine z_callvV (a := 0) (ci := 4) (N := 9) (T := TX4) (C := RX4) (As := [.int (hg_I x2), .int (hg_I x3)]) (n := 2) B dX4_nextOrder_104 (c_X4_swapInOrder q3) (gl_V (wl_26 8 rfl) (wl_26 9 rfl) (wl_26 10 rfl) (wl_1 2 rfl) (wl_26 11 rfl)) rfl ⟨rfl, rfl⟩ (by decide +kernel) ⟨Nat.le_of_ble_eq_true rfl, Nat.le_of_ble_eq_true rfl⟩ (by decide) rfl (by decide) rfl rfl rfl (Nat.le_of_ble_eq_true rfl) ?_
  refine z_iconst B dX4_nextOrder_107 ?_
  refine z_istore B [(4, .int (hg_I 1)), (0, .ref (ad 0)), (1, .int (hg_I x1)), (2, .int (hg_I x2)), (3, .int (hg_I x3))] dX4_nextOrder_108 (by decide) rfl ?_
  refine z_lv (lv' := [(0, .ref (ad 0)), (1, .int (hg_I x1)), (2, .int (hg_I x2)), (4, .int (hg_I 1))]) B [1, 2, 3, 0] rfl ?_
  exact rX4_nextOrder_110 B hr hg_F _ _ _ _ h
set_option maxHeartbeats 4000000 in
set_option maxRecDepth 100000 in
theorem rX4_nextOrder_63 (B : hg_B p s m args meth c cX4_nextOrder RX4 wsL_law 5 D cI cA ad 0 A) (hr : meth.sig.returnType = (some .boolean)) {w1 : hg_W} {r1 : Int} : ∀ (n : Nat), ∀ (w : hg_W) (x1 : Int) (x2 : Int) (x3 : Int) (x4 : Int), fX4_nextOrder_63 n w x1 x2 x3 x4 = some (w1, r1) → hg_At p l e (rmX4_nextOrder) s m args below meth c D cI cA ad 0 A (MQ below (hg_Qi D cI cA ad 0 A w1 r1) args s 0 0 A) 5 w [(0, .ref (ad 0)), (1, .int (hg_I x1)), (2, .int (hg_I x2)), (3, .int (hg_I x3)), (4, .int (hg_I x4))] 63 [] := by
  intro n
  induction n with
  | zero =>
    intro w x1 x2 x3 x4 h
    cases h
  | succ n ih =>
    intro w x1 x2 x3 x4 h
    simp only [fX4_nextOrder_63] at h
    refine z_iload B 4 dX4_nextOrder_63 rfl ?_
    refine z_bipush B dX4_nextOrder_65 (by decide) ?_
    refine z_icmp_ge (tgt := 101) B dX4_nextOrder_67 (by decide) h (fun h => ?_) (fun h => ?_)
    · refine z_lv (lv' := [(0, .ref (ad 0)), (1, .int (hg_I x1)), (2, .int (hg_I x2)), (3, .int (hg_I x3))]) B [0, 1, 2, 3] rfl ?_
      exact rX4_nextOrder_101 B hr _ _ _ _ h
    · refine z_iload_n B 3 dX4_nextOrder_70 rfl rfl ?_
      refine z_iload_n B 2 dX4_nextOrder_71 rfl rfl ?_
      refine z_iconst B dX4_nextOrder_72 ?_
      refine z_iadd B dX4_nextOrder_73 ?_
      refine z_icmp_le (tgt := 101) B dX4_nextOrder_74 (by decide) h (fun h => ?_) (fun h => ?_)
      · refine z_lv (lv' := [(0, .ref (ad 0)), (1, .int (hg_I x1)), (2, .int (hg_I x2)), (3, .int (hg_I x3))]) B [0, 1, 2, 3] rfl ?_
        exact rX4_nextOrder_101 B hr _ _ _ _ h
      · refine z_aload_n B 0 dX4_nextOrder_77 rfl rfl ?_
        refine z_get4 (v := .ref (ad 55)) B 8 dX4_nextOrder_78 inlX4 (by decide) rfl (by decide) (wl_2 9 rfl) rfl rfl ?_
        refine z_iload_n B 3 dX4_nextOrder_81 rfl rfl ?_
        obtain ⟨v1, q2, h⟩ := Option.bind_eq_some_iff.mp h
        refine z_iald (Or.inl rfl) B dX4_nextOrder_82 q2 ?_
        refine z_aload_n B 0 dX4_nextOrder_83 rfl rfl ?_
        refine z_get4 (v := .ref (ad 55)) B 8 dX4_nextOrder_84 inlX4 (by decide) rfl (by decide) (wl_2 9 rfl) rfl rfl ?_
        refine z_iload_n B 2 dX4_nextOrder_87 rfl rfl ?_
        obtain ⟨v3, q4, h⟩ := Option.bind_eq_some_iff.mp h
        refine z_iald (Or.inl rfl) B dX4_nextOrder_88 q4 ?_
        refine z_icmp_ge (tgt := 101) B dX4_nextOrder_89 (by decide) h (fun h => ?_) (fun h => ?_)
        · refine z_lv (lv' := [(0, .ref (ad 0)), (1, .int (hg_I x1)), (2, .int (hg_I x2)), (3, .int (hg_I x3))]) B [0, 1, 2, 3] rfl ?_
          exact rX4_nextOrder_101 B hr _ _ _ _ h
        · refine z_iinc B 3 [(3, .int (hg_I (x3 + (-1)))), (0, .ref (ad 0)), (1, .int (hg_I x1)), (2, .int (hg_I x2)), (4, .int (hg_I x4))] dX4_nextOrder_92 rfl (by decide) rfl ?_
          refine z_iinc B 4 [(4, .int (hg_I (x4 + 1))), (3, .int (hg_I (x3 + (-1)))), (0, .ref (ad 0)), (1, .int (hg_I x1)), (2, .int (hg_I x2))] dX4_nextOrder_95 rfl (by decide) rfl ?_
          refine z_goto (tgt := 63) B dX4_nextOrder_98 (by decide) ?_
          refine z_lv (lv' := [(0, .ref (ad 0)), (1, .int (hg_I x1)), (2, .int (hg_I x2)), (3, .int (hg_I (x3 + (-1)))), (4, .int (hg_I (x4 + 1)))]) B [2, 3, 4, 1, 0] rfl ?_
          exact ih _ _ _ _ _ h
set_option maxHeartbeats 4000000 in
set_option maxRecDepth 100000 in
theorem rX4_nextOrder_50 (B : hg_B p s m args meth c cX4_nextOrder RX4 wsL_law 5 D cI cA ad 0 A) (hr : meth.sig.returnType = (some .boolean)) {w1 : hg_W} {r1 : Int} : ∀ (w : hg_W) (x1 : Int) (x2 : Int), fX4_nextOrder_50 w x1 x2 = some (w1, r1) → hg_At p l e (rmX4_nextOrder) s m args below meth c D cI cA ad 0 A (MQ below (hg_Qi D cI cA ad 0 A w1 r1) args s 0 0 A) 5 w [(0, .ref (ad 0)), (1, .int (hg_I x1)), (2, .int (hg_I x2))] 50 [] := by
  intro w x1 x2 h
  unfold fX4_nextOrder_50 at h
  refine z_iload_n B 2 dX4_nextOrder_50 rfl rfl ?_
  refine z_if_ge (tgt := 56) B dX4_nextOrder_51 (by decide) h (fun h => ?_) (fun h => ?_)
  · refine z_iload_n B 1 dX4_nextOrder_56 rfl rfl ?_
    refine z_iconst B dX4_nextOrder_57 ?_
    refine z_isub B dX4_nextOrder_58 ?_
    refine z_istore_n B [(3, .int (hg_I (x1 - 1))), (0, .ref (ad 0)), (1, .int (hg_I x1)), (2, .int (hg_I x2))] dX4_nextOrder_59 rfl (by decide) rfl ?_
    refine z_iconst B dX4_nextOrder_60 ?_
    refine z_istore B [(4, .int (hg_I 0)), (3, .int (hg_I (x1 - 1))), (0, .ref (ad 0)), (1, .int (hg_I x1)), (2, .int (hg_I x2))] dX4_nextOrder_61 (by decide) rfl ?_
    refine z_lv (lv' := [(0, .ref (ad 0)), (1, .int (hg_I x1)), (2, .int (hg_I x2)), (3, .int (hg_I (x1 - 1))), (4, .int (hg_I 0))]) B [2, 3, 4, 1, 0] rfl ?_
    exact rX4_nextOrder_63 B hr hg_F _ _ _ _ _ h
  · refine z_iconst B dX4_nextOrder_54 ?_
    exact z_bret B hr dX4_nextOrder_55 h
set_option maxHeartbeats 4000000 in
set_option maxRecDepth 100000 in
theorem rX4_nextOrder_14 (B : hg_B p s m args meth c cX4_nextOrder RX4 wsL_law 5 D cI cA ad 0 A) (hr : meth.sig.returnType = (some .boolean)) {w1 : hg_W} {r1 : Int} : ∀ (n : Nat), ∀ (w : hg_W) (x1 : Int) (x2 : Int) (x3 : Int), fX4_nextOrder_14 n w x1 x2 x3 = some (w1, r1) → hg_At p l e (rmX4_nextOrder) s m args below meth c D cI cA ad 0 A (MQ below (hg_Qi D cI cA ad 0 A w1 r1) args s 0 0 A) 5 w [(0, .ref (ad 0)), (1, .int (hg_I x1)), (2, .int (hg_I x2)), (3, .int (hg_I x3))] 14 [] := by
  intro n
  induction n with
  | zero =>
    intro w x1 x2 x3 h
    cases h
  | succ n ih =>
    intro w x1 x2 x3 h
    simp only [fX4_nextOrder_14] at h
    refine z_iload_n B 3 dX4_nextOrder_14 rfl rfl ?_
    refine z_bipush B dX4_nextOrder_15 (by decide) ?_
    refine z_icmp_ge (tgt := 50) B dX4_nextOrder_17 (by decide) h (fun h => ?_) (fun h => ?_)
    · refine z_lv (lv' := [(0, .ref (ad 0)), (1, .int (hg_I x1)), (2, .int (hg_I x2))]) B [0, 1, 2] rfl ?_
      exact rX4_nextOrder_50 B hr _ _ _ h
    · refine z_iload_n B 2 dX4_nextOrder_20 rfl rfl ?_
      refine z_if_lt (tgt := 50) B dX4_nextOrder_21 (by decide) h (fun h => ?_) (fun h => ?_)
      · refine z_lv (lv' := [(0, .ref (ad 0)), (1, .int (hg_I x1)), (2, .int (hg_I x2))]) B [0, 1, 2] rfl ?_
        exact rX4_nextOrder_50 B hr _ _ _ h
      · refine z_aload_n B 0 dX4_nextOrder_24 rfl rfl ?_
        refine z_get4 (v := .ref (ad 55)) B 8 dX4_nextOrder_25 inlX4 (by decide) rfl (by decide) (wl_2 9 rfl) rfl rfl ?_
        refine z_iload_n B 2 dX4_nextOrder_28 rfl rfl ?_
        obtain ⟨v1, q2, h⟩ := Option.bind_eq_some_iff.mp h
        refine z_iald (Or.inl rfl) B dX4_nextOrder_29 q2 ?_
        refine z_aload_n B 0 dX4_nextOrder_30 rfl rfl ?_
        refine z_get4 (v := .ref (ad 55)) B 8 dX4_nextOrder_31 inlX4 (by decide) rfl (by decide) (wl_2 9 rfl) rfl rfl ?_
        refine z_iload_n B 2 dX4_nextOrder_34 rfl rfl ?_
        refine z_iconst B dX4_nextOrder_35 ?_
        refine z_iadd B dX4_nextOrder_36 ?_
        obtain ⟨v3, q4, h⟩ := Option.bind_eq_some_iff.mp h
        refine z_iald (Or.inl rfl) B dX4_nextOrder_37 q4 ?_
        refine z_icmp_le (tgt := 50) B dX4_nextOrder_38 (by decide) h (fun h => ?_) (fun h => ?_)
        · refine z_lv (lv' := [(0, .ref (ad 0)), (1, .int (hg_I x1)), (2, .int (hg_I x2))]) B [0, 1, 2] rfl ?_
          exact rX4_nextOrder_50 B hr _ _ _ h
        · refine z_iinc B 2 [(2, .int (hg_I (x2 + (-1)))), (0, .ref (ad 0)), (1, .int (hg_I x1)), (3, .int (hg_I x3))] dX4_nextOrder_41 rfl (by decide) rfl ?_
          refine z_iinc B 3 [(3, .int (hg_I (x3 + 1))), (2, .int (hg_I (x2 + (-1)))), (0, .ref (ad 0)), (1, .int (hg_I x1))] dX4_nextOrder_44 rfl (by decide) rfl ?_
          refine z_goto (tgt := 14) B dX4_nextOrder_47 (by decide) ?_
          refine z_lv (lv' := [(0, .ref (ad 0)), (1, .int (hg_I x1)), (2, .int (hg_I (x2 + (-1)))), (3, .int (hg_I (x3 + 1)))]) B [2, 3, 1, 0] rfl ?_
          exact ih _ _ _ _ h
set_option maxHeartbeats 4000000 in
set_option maxRecDepth 100000 in
theorem rX4_nextOrder_E (B : hg_B p s m args meth c cX4_nextOrder RX4 wsL_law 5 D cI cA ad 0 A) (hr : meth.sig.returnType = (some .boolean)) {w1 : hg_W} {r1 : Int} {w : hg_W} (h : fX4_nextOrder w = some (w1, r1)) : hg_At p l e (rmX4_nextOrder) s m args below meth c D cI cA ad 0 A (MQ below (hg_Qi D cI cA ad 0 A w1 r1) args s 0 0 A) 5 w [(0, .ref (ad 0))] 0 [] := by
  unfold fX4_nextOrder at h
  refine z_aload_n B 0 dX4_nextOrder_0 rfl rfl ?_
  refine z_get4 (v := .ref (ad 19)) B 2 dX4_nextOrder_1 inlX4 (by decide) rfl (by decide) (wl_1 23 rfl) rfl rfl ?_
  refine z_get0 (v := .int (hg_I (w 19 9))) B 9 dX4_nextOrder_4 inlX0 (by decide) rfl (by decide) (wl_7 11 rfl) rfl rfl ?_
  refine z_istore_n B [(1, .int (hg_I (w 19 9))), (0, .ref (ad 0))] dX4_nextOrder_7 rfl (by decide) rfl ?_
  refine z_iload_n B 0 dX4_nextOrder_8 rfl rfl ?_
  refine z_iconst B dX4_nextOrder_9 ?_
  refine z_isub B dX4_nextOrder_10 ?_
  refine z_istore_n B [(2, .int (hg_I ((w 19 9) - 2))), (1, .int (hg_I (w 19 9))), (0, .ref (ad 0))] dX4_nextOrder_11 rfl (by decide) rfl ?_
  refine z_iconst B dX4_nextOrder_12 ?_
  refine z_istore_n B [(3, .int (hg_I 0)), (2, .int (hg_I ((w 19 9) - 2))), (1, .int (hg_I (w 19 9))), (0, .ref (ad 0))] dX4_nextOrder_13 rfl (by decide) rfl ?_
  refine z_lv (lv' := [(0, .ref (ad 0)), (1, .int (hg_I (w 19 9))), (2, .int (hg_I ((w 19 9) - 2))), (3, .int (hg_I 0))]) B [3, 2, 1, 0] rfl ?_
  exact rX4_nextOrder_14 B hr hg_F _ _ _ _ h
set_option maxHeartbeats 4000000 in
set_option maxRecDepth 100000 in
theorem c_X4_nextOrder {l : Launch} {D : va_G} {cI cA : ClassId} {ad : Nat → Nat} {w w1 : hg_W} {r1 : Int} (h : fX4_nextOrder w = some (w1, r1)) : hg_Mi l yX4_nextOrder wxX4_nextOrder rmX4_nextOrder D cI cA ad 0 w [.ref (ad 0)] w1 r1 := by
  refine z_meti cX4_nextOrder 5 (some .boolean) (by decide) (Nat.le_of_ble_eq_true rfl) ?_
  intro p e s m args below meth c A B hr
  exact rX4_nextOrder_E B hr h
abbrev wxX4_seating : List Cond := Cond.code yX4_seating cX4_seating 7 (some .int) :: wsL_law
def fX4_seating_106   (w : hg_W) (x1 : Int) (x2 : Int) (x3 : Int) : Option (hg_W × Int) :=
  if wr x1 = 0 then
    (
      some (w, wr x3)
    )
  else
    some (w, wr x2)
def fX4_seating_94 (K57 : hg_W → Int → Int → Int → Int → Int → Option (hg_W × Int))  (w : hg_W) (x1 : Int) (x2 : Int) (x3 : Int) (x5 : Int) : Option (hg_W × Int) :=
  hg_bd (fX4_nextOrder w) fun w1 v2 =>
  K57 w1 x1 x2 x3 v2 (x5 + 1)
def fX4_seating_57   : Nat → hg_W → Int → Int → Int → Int → Int → Option (hg_W × Int)
  | 0, _, _, _, _, _, _ => none
  | n + 1, w, x1, x2, x3, x4, x5 =>
    if wr 720 ≤ wr x5 then
      (
        fX4_seating_106 w x1 x2 x3
      )
    else
      if wr x4 = 0 then
        (
          fX4_seating_106 w x1 x2 x3
        )
      else
        if wr x2 ≤ 0 then
          (
            fX4_seating_106 w x1 x2 x3
          )
        else
          hg_bd (fX4_differByOrder w) fun w1 v2 =>
          if wr x2 ≤ wr v2 then
            (
              fX4_seating_94 (fX4_seating_57 n) w1 x1 x2 x3 x5
            )
          else
            hg_bd (fX4_digitsOfOrder w1) fun w4 v5 =>
            fX4_seating_94 (fX4_seating_57 n) w4 x1 v2 v5 x5
def fX4_seating_26   : Nat → hg_W → Int → Int → Option (hg_W × Int)
  | 0, _, _, _ => none
  | n + 1, w, x1, x2 =>
    if wr 6 ≤ wr x2 then
      (
        fX4_seating_57 hg_F w x1 10000 0 1 0
      )
    else
      (hg_as 0 w 55 x2 x2).bind fun w1 =>
      fX4_seating_26 n w1 x1 (x2 + 1)
def fX4_seating (w : hg_W) (a1 : Int) : Option (hg_W × Int) :=
  if wr a1 < 0 then
    (
      some (w, wr (-2))
    )
  else
    if wr a1 ≤ wr 1 then
      (
        if wr (w 19 9) = 0 then
          (
            some (w, wr 0)
          )
        else
          fX4_seating_26 hg_F w a1 0
      )
    else
      some (w, wr (-2))
set_option maxHeartbeats 4000000 in
set_option maxRecDepth 100000 in
abbrev rmX4_seating : Room := { frames := 6, cells := 0, slots := 0, locals := 145 }
set_option maxHeartbeats 4000000 in
set_option maxRecDepth 100000 in
theorem rX4_seating_106 (B : hg_B p s m args meth c cX4_seating RX4 wsL_law 7 D cI cA ad 0 A) (hr : meth.sig.returnType = (some .int)) {w1 : hg_W} {r1 : Int} : ∀ (w : hg_W) (x1 : Int) (x2 : Int) (x3 : Int), fX4_seating_106 w x1 x2 x3 = some (w1, r1) → hg_At p l e (rmX4_seating) s m args below meth c D cI cA ad 0 A (MQ below (hg_Qi D cI cA ad 0 A w1 r1) args s 0 0 A) 7 w [(1, .int (hg_I x1)), (2, .int (hg_I x2)), (3, .int (hg_I x3))] 106 [] := by
  intro w x1 x2 x3 h
  unfold fX4_seating_106 at h
  refine z_iload_n B 0 dX4_seating_106 rfl rfl ?_
  refine z_if_ne (tgt := 114) B dX4_seating_107 (by decide) h (fun h => ?_) (fun h => ?_)
  · refine z_iload_n B 1 dX4_seating_114 rfl rfl ?_
    exact z_iret B hr dX4_seating_115 h
  · refine z_iload_n B 2 dX4_seating_110 rfl rfl ?_
    refine z_goto (tgt := 115) B dX4_seating_111 (by decide) ?_
    exact z_iret B hr dX4_seating_115 h
set_option maxHeartbeats 4000000 in
set_option maxRecDepth 100000 in
theorem rX4_seating_94 (B : hg_B p s m args meth c cX4_seating RX4 wsL_law 7 D cI cA ad 0 A) (hr : meth.sig.returnType = (some .int)) {w1 : hg_W} {r1 : Int} {K57 : hg_W → Int → Int → Int → Int → Int → Option (hg_W × Int)} (hK57 : ∀ (w : hg_W) (x1 : Int) (x2 : Int) (x3 : Int) (x4 : Int) (x5 : Int), K57 w x1 x2 x3 x4 x5 = some (w1, r1) → hg_At p l e (rmX4_seating) s m args below meth c D cI cA ad 0 A (MQ below (hg_Qi D cI cA ad 0 A w1 r1) args s 0 0 A) 7 w [(0, .ref (ad 0)), (1, .int (hg_I x1)), (2, .int (hg_I x2)), (3, .int (hg_I x3)), (4, .int (hg_I x4)), (5, .int (hg_I x5))] 57 []) : ∀ (w : hg_W) (x1 : Int) (x2 : Int) (x3 : Int) (x5 : Int), fX4_seating_94 K57 w x1 x2 x3 x5 = some (w1, r1) → hg_At p l e (rmX4_seating) s m args below meth c D cI cA ad 0 A (MQ below (hg_Qi D cI cA ad 0 A w1 r1) args s 0 0 A) 7 w [(0, .ref (ad 0)), (1, .int (hg_I x1)), (2, .int (hg_I x2)), (3, .int (hg_I x3)), (5, .int (hg_I x5))] 94 [] := by
  intro w x1 x2 x3 x5 h
  unfold fX4_seating_94 at h
  refine z_aload_n B 0 dX4_seating_94 rfl rfl ?_
  obtain ⟨w1, v2, q3, h⟩ := hg_bd_some h
  refine z_calliV (a := 0) (ci := 4) (N := 9) (T := TX4) (C := RX4) (As := []) (n := 0) B dX4_seating_95 (c_X4_nextOrder q3) (gl_V (wl_26 4 rfl) (wl_26 5 rfl) (wl_26 6 rfl) (wl_1 2 rfl) (wl_26 7 rfl)) rfl ⟨rfl, rfl⟩ (by decide +kernel) ⟨Nat.le_of_ble_eq_true rfl, Nat.le_of_ble_eq_true rfl⟩ (by decide) rfl (by decide) rfl rfl rfl (Nat.le_of_ble_eq_true rfl) ?_
  refine z_istore B [(4, .int (hg_I v2)), (0, .ref (ad 0)), (1, .int (hg_I x1)), (2, .int (hg_I x2)), (3, .int (hg_I x3)), (5, .int (hg_I x5))] dX4_seating_98 (by decide) rfl ?_
  refine z_iinc B 5 [(5, .int (hg_I (x5 + 1))), (4, .int (hg_I v2)), (0, .ref (ad 0)), (1, .int (hg_I x1)), (2, .int (hg_I x2)), (3, .int (hg_I x3))] dX4_seating_100 rfl (by decide) rfl ?_
  refine z_goto (tgt := 57) B dX4_seating_103 (by decide) ?_
  refine z_lv (lv' := [(0, .ref (ad 0)), (1, .int (hg_I x1)), (2, .int (hg_I x2)), (3, .int (hg_I x3)), (4, .int (hg_I v2)), (5, .int (hg_I (x5 + 1)))]) B [2, 3, 4, 5, 1, 0] rfl ?_
  exact hK57 _ _ _ _ _ _ h
set_option maxHeartbeats 4000000 in
set_option maxRecDepth 100000 in
theorem rX4_seating_57 (B : hg_B p s m args meth c cX4_seating RX4 wsL_law 7 D cI cA ad 0 A) (hr : meth.sig.returnType = (some .int)) {w1 : hg_W} {r1 : Int} : ∀ (n : Nat), ∀ (w : hg_W) (x1 : Int) (x2 : Int) (x3 : Int) (x4 : Int) (x5 : Int), fX4_seating_57 n w x1 x2 x3 x4 x5 = some (w1, r1) → hg_At p l e (rmX4_seating) s m args below meth c D cI cA ad 0 A (MQ below (hg_Qi D cI cA ad 0 A w1 r1) args s 0 0 A) 7 w [(0, .ref (ad 0)), (1, .int (hg_I x1)), (2, .int (hg_I x2)), (3, .int (hg_I x3)), (4, .int (hg_I x4)), (5, .int (hg_I x5))] 57 [] := by
  intro n
  induction n with
  | zero =>
    intro w x1 x2 x3 x4 x5 h
    cases h
  | succ n ih =>
    intro w x1 x2 x3 x4 x5 h
    simp only [fX4_seating_57] at h
    refine z_iload B 5 dX4_seating_57 rfl ?_
    refine z_sipush B dX4_seating_59 (by decide) ?_
    refine z_icmp_ge (tgt := 106) B dX4_seating_62 (by decide) h (fun h => ?_) (fun h => ?_)
    · refine z_lv (lv' := [(1, .int (hg_I x1)), (2, .int (hg_I x2)), (3, .int (hg_I x3))]) B [1, 2, 3] rfl ?_
      exact rX4_seating_106 B hr _ _ _ _ h
    · refine z_iload B 4 dX4_seating_65 rfl ?_
      refine z_if_eq (tgt := 106) B dX4_seating_67 (by decide) h (fun h => ?_) (fun h => ?_)
      · refine z_lv (lv' := [(1, .int (hg_I x1)), (2, .int (hg_I x2)), (3, .int (hg_I x3))]) B [1, 2, 3] rfl ?_
        exact rX4_seating_106 B hr _ _ _ _ h
      · refine z_iload_n B 2 dX4_seating_70 rfl rfl ?_
        refine z_if_le (tgt := 106) B dX4_seating_71 (by decide) h (fun h => ?_) (fun h => ?_)
        · refine z_lv (lv' := [(1, .int (hg_I x1)), (2, .int (hg_I x2)), (3, .int (hg_I x3))]) B [1, 2, 3] rfl ?_
          exact rX4_seating_106 B hr _ _ _ _ h
        · refine z_aload_n B 0 dX4_seating_74 rfl rfl ?_
          obtain ⟨w1, v2, q3, h⟩ := hg_bd_some h
          refine z_calliV (a := 0) (ci := 4) (N := 9) (T := TX4) (C := RX4) (As := []) (n := 0) B dX4_seating_75 (c_X4_differByOrder q3) (gl_V (wl_25 17 rfl) (wl_25 18 rfl) (wl_25 19 rfl) (wl_1 2 rfl) (wl_25 20 rfl)) rfl ⟨rfl, rfl⟩ (by decide +kernel) ⟨Nat.le_of_ble_eq_true rfl, Nat.le_of_ble_eq_true rfl⟩ (by decide) rfl (by decide) rfl rfl rfl (Nat.le_of_ble_eq_true rfl) ?_
          refine z_istore B [(6, .int (hg_I v2)), (0, .ref (ad 0)), (1, .int (hg_I x1)), (2, .int (hg_I x2)), (3, .int (hg_I x3)), (4, .int (hg_I x4)), (5, .int (hg_I x5))] dX4_seating_78 (by decide) rfl ?_
          refine z_iload B 0 dX4_seating_80 rfl ?_
          refine z_iload_n B 3 dX4_seating_82 rfl rfl ?_
          refine z_icmp_ge (tgt := 94) B dX4_seating_83 (by decide) h (fun h => ?_) (fun h => ?_)
          · refine z_lv (lv' := [(0, .ref (ad 0)), (1, .int (hg_I x1)), (2, .int (hg_I x2)), (3, .int (hg_I x3)), (5, .int (hg_I x5))]) B [1, 2, 3, 4, 6] rfl ?_
            exact rX4_seating_94 B hr ih _ _ _ _ _ h
          · refine z_iload B 0 dX4_seating_86 rfl ?_
            refine z_istore_n B [(2, .int (hg_I v2)), (6, .int (hg_I v2)), (0, .ref (ad 0)), (1, .int (hg_I x1)), (3, .int (hg_I x3)), (4, .int (hg_I x4)), (5, .int (hg_I x5))] dX4_seating_88 rfl (by decide) rfl ?_
            refine z_aload_n B 2 dX4_seating_89 rfl rfl ?_
            obtain ⟨w4, v5, q6, h⟩ := hg_bd_some h
            refine z_calliV (a := 0) (ci := 4) (N := 9) (T := TX4) (C := RX4) (As := []) (n := 0) B dX4_seating_90 (c_X4_digitsOfOrder q6) (gl_V (wl_26 0 rfl) (wl_26 1 rfl) (wl_26 2 rfl) (wl_1 2 rfl) (wl_26 3 rfl)) rfl ⟨rfl, rfl⟩ (by decide +kernel) ⟨Nat.le_of_ble_eq_true rfl, Nat.le_of_ble_eq_true rfl⟩ (by decide) rfl (by decide) rfl rfl rfl (Nat.le_of_ble_eq_true rfl) ?_
            refine z_istore_n B [(3, .int (hg_I v5)), (2, .int (hg_I v2)), (6, .int (hg_I v2)), (0, .ref (ad 0)), (1, .int (hg_I x1)), (4, .int (hg_I x4)), (5, .int (hg_I x5))] dX4_seating_93 rfl (by decide) rfl ?_
            refine z_lv (lv' := [(0, .ref (ad 0)), (1, .int (hg_I x1)), (2, .int (hg_I v2)), (3, .int (hg_I v5)), (5, .int (hg_I x5))]) B [3, 4, 1, 0, 6] rfl ?_
            exact rX4_seating_94 B hr ih _ _ _ _ _ h
set_option maxHeartbeats 4000000 in
set_option maxRecDepth 100000 in
theorem rX4_seating_26 (B : hg_B p s m args meth c cX4_seating RX4 wsL_law 7 D cI cA ad 0 A) (hr : meth.sig.returnType = (some .int)) {w1 : hg_W} {r1 : Int} : ∀ (n : Nat), ∀ (w : hg_W) (x1 : Int) (x2 : Int), fX4_seating_26 n w x1 x2 = some (w1, r1) → hg_At p l e (rmX4_seating) s m args below meth c D cI cA ad 0 A (MQ below (hg_Qi D cI cA ad 0 A w1 r1) args s 0 0 A) 7 w [(0, .ref (ad 0)), (1, .int (hg_I x1)), (2, .int (hg_I x2))] 26 [] := by
  intro n
  induction n with
  | zero =>
    intro w x1 x2 h
    cases h
  | succ n ih =>
    intro w x1 x2 h
    simp only [fX4_seating_26] at h
    refine z_iload_n B 2 dX4_seating_26 rfl rfl ?_
    refine z_bipush B dX4_seating_27 (by decide) ?_
    refine z_icmp_ge (tgt := 45) B dX4_seating_29 (by decide) h (fun h => ?_) (fun h => ?_)
    · refine z_sipush B dX4_seating_45 (by decide) ?_
      refine z_istore_n B [(2, .int (hg_I 10000)), (0, .ref (ad 0)), (1, .int (hg_I x1))] dX4_seating_48 rfl (by decide) rfl ?_
      refine z_iconst B dX4_seating_49 ?_
      refine z_istore_n B [(3, .int (hg_I 0)), (2, .int (hg_I 10000)), (0, .ref (ad 0)), (1, .int (hg_I x1))] dX4_seating_50 rfl (by decide) rfl ?_
      refine z_iconst B dX4_seating_51 ?_
      refine z_istore B [(4, .int (hg_I 1)), (3, .int (hg_I 0)), (2, .int (hg_I 10000)), (0, .ref (ad 0)), (1, .int (hg_I x1))] dX4_seating_52 (by decide) rfl ?_
      refine z_iconst B dX4_seating_54 ?_
      refine z_istore B [(5, .int (hg_I 0)), (4, .int (hg_I 1)), (3, .int (hg_I 0)), (2, .int (hg_I 10000)), (0, .ref (ad 0)), (1, .int (hg_I x1))] dX4_seating_55 (by decide) rfl ?_
      refine z_lv (lv' := [(0, .ref (ad 0)), (1, .int (hg_I x1)), (2, .int (hg_I 10000)), (3, .int (hg_I 0)), (4, .int (hg_I 1)), (5, .int (hg_I 0))]) B [4, 5, 3, 2, 1, 0] rfl ?_
      exact rX4_seating_57 B hr hg_F _ _ _ _ _ _ h
    · refine z_aload_n B 0 dX4_seating_32 rfl rfl ?_
      refine z_get4 (v := .ref (ad 55)) B 8 dX4_seating_33 inlX4 (by decide) rfl (by decide) (wl_2 9 rfl) rfl rfl ?_
      refine z_iload_n B 2 dX4_seating_36 rfl rfl ?_
      refine z_iload_n B 2 dX4_seating_37 rfl rfl ?_
      obtain ⟨w1, q2, h⟩ := Option.bind_eq_some_iff.mp h
      refine z_iast (Or.inl rfl) B dX4_seating_38 q2 ?_
      refine z_iinc B 2 [(2, .int (hg_I (x2 + 1))), (0, .ref (ad 0)), (1, .int (hg_I x1))] dX4_seating_39 rfl (by decide) rfl ?_
      refine z_goto (tgt := 26) B dX4_seating_42 (by decide) ?_
      refine z_lv (lv' := [(0, .ref (ad 0)), (1, .int (hg_I x1)), (2, .int (hg_I (x2 + 1)))]) B [1, 2, 0] rfl ?_
      exact ih _ _ _ h
set_option maxHeartbeats 4000000 in
set_option maxRecDepth 100000 in
theorem rX4_seating_E (B : hg_B p s m args meth c cX4_seating RX4 wsL_law 7 D cI cA ad 0 A) (hr : meth.sig.returnType = (some .int)) {a1 : Int} {w1 : hg_W} {r1 : Int} {w : hg_W} (h : fX4_seating w a1 = some (w1, r1)) : hg_At p l e (rmX4_seating) s m args below meth c D cI cA ad 0 A (MQ below (hg_Qi D cI cA ad 0 A w1 r1) args s 0 0 A) 7 w [(0, .ref (ad 0)), (1, .int (hg_I a1))] 0 [] := by
  unfold fX4_seating at h
  refine z_iload_n B 1 dX4_seating_0 rfl rfl ?_
  refine z_if_lt (tgt := 9) B dX4_seating_1 (by decide) h (fun h => ?_) (fun h => ?_)
  · refine z_bipush B dX4_seating_9 (by decide) ?_
    exact z_iret B hr dX4_seating_11 h
  · refine z_iload_n B 1 dX4_seating_4 rfl rfl ?_
    refine z_iconst B dX4_seating_5 ?_
    refine z_icmp_le (tgt := 12) B dX4_seating_6 (by decide) h (fun h => ?_) (fun h => ?_)
    · refine z_aload_n B 0 dX4_seating_12 rfl rfl ?_
      refine z_get4 (v := .ref (ad 19)) B 2 dX4_seating_13 inlX4 (by decide) rfl (by decide) (wl_1 23 rfl) rfl rfl ?_
      refine z_get0 (v := .int (hg_I (w 19 9))) B 9 dX4_seating_16 inlX0 (by decide) rfl (by decide) (wl_7 11 rfl) rfl rfl ?_
      refine z_if_ne (tgt := 24) B dX4_seating_19 (by decide) h (fun h => ?_) (fun h => ?_)
      · refine z_iconst B dX4_seating_24 ?_
        refine z_istore_n B [(2, .int (hg_I 0)), (0, .ref (ad 0)), (1, .int (hg_I a1))] dX4_seating_25 rfl (by decide) rfl ?_
        refine z_lv (lv' := [(0, .ref (ad 0)), (1, .int (hg_I a1)), (2, .int (hg_I 0))]) B [1, 2, 0] rfl ?_
        exact rX4_seating_26 B hr hg_F _ _ _ h
      · refine z_iconst B dX4_seating_22 ?_
        exact z_iret B hr dX4_seating_23 h
    · refine z_bipush B dX4_seating_9 (by decide) ?_
      exact z_iret B hr dX4_seating_11 h
set_option maxHeartbeats 4000000 in
set_option maxRecDepth 100000 in
theorem c_X4_seating {l : Launch} {D : va_G} {cI cA : ClassId} {ad : Nat → Nat} {a1 : Int} {w w1 : hg_W} {r1 : Int} (h : fX4_seating w a1 = some (w1, r1)) : hg_Mi l yX4_seating wxX4_seating rmX4_seating D cI cA ad 0 w [.ref (ad 0), .int (hg_I a1)] w1 r1 := by
  refine z_meti cX4_seating 7 (some .int) (by decide) (Nat.le_of_ble_eq_true rfl) ?_
  intro p e s m args below meth c A B hr
  exact rX4_seating_E B hr h
abbrev wxX4_makeMoreWays : List Cond := Cond.code yX4_makeMoreWays cX4_makeMoreWays 7 none :: wsL_law
def fX4_makeMoreWays_72 (K3 : hg_W → Int → Int → Int → Option (hg_W × Int))  (w : hg_W) (x1 : Int) (x2 : Int) (x4 : Int) : Option (hg_W × Int) :=
  K3 w x1 x2 (x4 + (-1))
def fX4_makeMoreWays_64 (K3 : hg_W → Int → Int → Int → Option (hg_W × Int)) (K20 : hg_W → Int → Int → Int → Int → Int → Option (hg_W × Int))  (w : hg_W) (x1 : Int) (x2 : Int) (x4 : Int) (x5 : Int) (x6 : Int) (s1 : Int) (s2 : Int) (s3 : Int) : Option (hg_W × Int) :=
  (hg_as 0 w 54 s1 (s2 + s3)).bind fun w1 =>
  K20 w1 x1 x2 x4 x5 (x6 + 1)
def fX4_makeMoreWays_20 (K3 : hg_W → Int → Int → Int → Option (hg_W × Int))  : Nat → hg_W → Int → Int → Int → Int → Int → Option (hg_W × Int)
  | 0, _, _, _, _, _, _ => none
  | n + 1, w, x1, x2, x4, x5, x6 =>
    if wr x2 < wr x6 then
      (
        fX4_makeMoreWays_72 K3 w x1 x2 x4
      )
    else
      if wr x4 < wr (x6 * x1) then
        (
          fX4_makeMoreWays_72 K3 w x1 x2 x4
        )
      else
        (hg_ag 0 w 54 x4).bind fun v1 =>
        if wr x1 = 0 then
          (
            fX4_makeMoreWays_64 K3 (fX4_makeMoreWays_20 K3 n) w x1 x2 x4 x5 x6 x4 v1 x5
          )
        else
          (hg_ag 0 w 54 (x4 - (x6 * x1))).bind fun v3 =>
          fX4_makeMoreWays_64 K3 (fX4_makeMoreWays_20 K3 n) w x1 x2 x4 x5 x6 x4 v1 v3
def fX4_makeMoreWays_3   : Nat → hg_W → Int → Int → Int → Option (hg_W × Int)
  | 0, _, _, _, _ => none
  | n + 1, w, x1, x2, x4 =>
    if wr x4 < 0 then
      (
        some (w, 0)
      )
    else
      (hg_ag 0 w 54 x4).bind fun v1 =>
      fX4_makeMoreWays_20 (fX4_makeMoreWays_3 n) hg_F w x1 x2 x4 v1 1
def fX4_makeMoreWays (w : hg_W) (a1 : Int) (a2 : Int) (a3 : Int) : Option (hg_W × Int) :=
  fX4_makeMoreWays_3 hg_F w a1 a2 a3
set_option maxHeartbeats 4000000 in
set_option maxRecDepth 100000 in
abbrev rmX4_makeMoreWays : Room := { frames := 0, cells := 0, slots := 0, locals := 0 }
set_option maxHeartbeats 4000000 in
set_option maxRecDepth 100000 in
theorem rX4_makeMoreWays_72 (B : hg_B p s m args meth c cX4_makeMoreWays RX4 wsL_law 7 D cI cA ad 0 A) (hr : meth.sig.returnType = none) {w1 : hg_W} {r1 : Int} {K3 : hg_W → Int → Int → Int → Option (hg_W × Int)} (hK3 : ∀ (w : hg_W) (x1 : Int) (x2 : Int) (x4 : Int), K3 w x1 x2 x4 = some (w1, r1) → hg_At p l e (rmX4_makeMoreWays) s m args below meth c D cI cA ad 0 A (MQ below (hg_Qv D cI cA ad 0 A w1) args s 0 0 A) 7 w [(0, .ref (ad 0)), (1, .int (hg_I x1)), (2, .int (hg_I x2)), (4, .int (hg_I x4))] 3 []) : ∀ (w : hg_W) (x1 : Int) (x2 : Int) (x4 : Int), fX4_makeMoreWays_72 K3 w x1 x2 x4 = some (w1, r1) → hg_At p l e (rmX4_makeMoreWays) s m args below meth c D cI cA ad 0 A (MQ below (hg_Qv D cI cA ad 0 A w1) args s 0 0 A) 7 w [(0, .ref (ad 0)), (1, .int (hg_I x1)), (2, .int (hg_I x2)), (4, .int (hg_I x4))] 72 [] := by
  intro w x1 x2 x4 h
  unfold fX4_makeMoreWays_72 at h
  refine z_iinc B 3 [(4, .int (hg_I (x4 + (-1)))), (0, .ref (ad 0)), (1, .int (hg_I x1)), (2, .int (hg_I x2))] dX4_makeMoreWays_72 rfl (by decide) rfl ?_
  refine z_goto (tgt := 3) B dX4_makeMoreWays_75 (by decide) ?_
  refine z_lv (lv' := [(0, .ref (ad 0)), (1, .int (hg_I x1)), (2, .int (hg_I x2)), (4, .int (hg_I (x4 + (-1))))]) B [1, 2, 3, 0] rfl ?_
  exact hK3 _ _ _ _ h
set_option maxHeartbeats 4000000 in
set_option maxRecDepth 100000 in
theorem rX4_makeMoreWays_64 (B : hg_B p s m args meth c cX4_makeMoreWays RX4 wsL_law 7 D cI cA ad 0 A) (hr : meth.sig.returnType = none) {w1 : hg_W} {r1 : Int} {K3 : hg_W → Int → Int → Int → Option (hg_W × Int)} {K20 : hg_W → Int → Int → Int → Int → Int → Option (hg_W × Int)} (hK3 : ∀ (w : hg_W) (x1 : Int) (x2 : Int) (x4 : Int), K3 w x1 x2 x4 = some (w1, r1) → hg_At p l e (rmX4_makeMoreWays) s m args below meth c D cI cA ad 0 A (MQ below (hg_Qv D cI cA ad 0 A w1) args s 0 0 A) 7 w [(0, .ref (ad 0)), (1, .int (hg_I x1)), (2, .int (hg_I x2)), (4, .int (hg_I x4))] 3 []) (hK20 : ∀ (w : hg_W) (x1 : Int) (x2 : Int) (x4 : Int) (x5 : Int) (x6 : Int), K20 w x1 x2 x4 x5 x6 = some (w1, r1) → hg_At p l e (rmX4_makeMoreWays) s m args below meth c D cI cA ad 0 A (MQ below (hg_Qv D cI cA ad 0 A w1) args s 0 0 A) 7 w [(0, .ref (ad 0)), (1, .int (hg_I x1)), (2, .int (hg_I x2)), (4, .int (hg_I x4)), (5, .int (hg_I x5)), (6, .int (hg_I x6))] 20 []) : ∀ (w : hg_W) (x1 : Int) (x2 : Int) (x4 : Int) (x5 : Int) (x6 : Int) (s1 : Int) (s2 : Int) (s3 : Int), fX4_makeMoreWays_64 K3 K20 w x1 x2 x4 x5 x6 s1 s2 s3 = some (w1, r1) → hg_At p l e (rmX4_makeMoreWays) s m args below meth c D cI cA ad 0 A (MQ below (hg_Qv D cI cA ad 0 A w1) args s 0 0 A) 7 w [(0, .ref (ad 0)), (1, .int (hg_I x1)), (2, .int (hg_I x2)), (4, .int (hg_I x4)), (5, .int (hg_I x5)), (6, .int (hg_I x6))] 64 [.int (hg_I s3), .int (hg_I s2), .int (hg_I s1), .ref (ad 54)] := by
  intro w x1 x2 x4 x5 x6 s1 s2 s3 h
  unfold fX4_makeMoreWays_64 at h
  refine z_iadd B dX4_makeMoreWays_64 ?_
  obtain ⟨w1, q2, h⟩ := Option.bind_eq_some_iff.mp h
  refine z_iast (Or.inl rfl) B dX4_makeMoreWays_65 q2 ?_
  refine z_iinc B 5 [(6, .int (hg_I (x6 + 1))), (0, .ref (ad 0)), (1, .int (hg_I x1)), (2, .int (hg_I x2)), (4, .int (hg_I x4)), (5, .int (hg_I x5))] dX4_makeMoreWays_66 rfl (by decide) rfl ?_
  refine z_goto (tgt := 20) B dX4_makeMoreWays_69 (by decide) ?_
  refine z_lv (lv' := [(0, .ref (ad 0)), (1, .int (hg_I x1)), (2, .int (hg_I x2)), (4, .int (hg_I x4)), (5, .int (hg_I x5)), (6, .int (hg_I (x6 + 1)))]) B [1, 2, 3, 4, 5, 0] rfl ?_
  exact hK20 _ _ _ _ _ _ h
set_option maxHeartbeats 4000000 in
set_option maxRecDepth 100000 in
theorem rX4_makeMoreWays_20 (B : hg_B p s m args meth c cX4_makeMoreWays RX4 wsL_law 7 D cI cA ad 0 A) (hr : meth.sig.returnType = none) {w1 : hg_W} {r1 : Int} {K3 : hg_W → Int → Int → Int → Option (hg_W × Int)} (hK3 : ∀ (w : hg_W) (x1 : Int) (x2 : Int) (x4 : Int), K3 w x1 x2 x4 = some (w1, r1) → hg_At p l e (rmX4_makeMoreWays) s m args below meth c D cI cA ad 0 A (MQ below (hg_Qv D cI cA ad 0 A w1) args s 0 0 A) 7 w [(0, .ref (ad 0)), (1, .int (hg_I x1)), (2, .int (hg_I x2)), (4, .int (hg_I x4))] 3 []) : ∀ (n : Nat), ∀ (w : hg_W) (x1 : Int) (x2 : Int) (x4 : Int) (x5 : Int) (x6 : Int), fX4_makeMoreWays_20 K3 n w x1 x2 x4 x5 x6 = some (w1, r1) → hg_At p l e (rmX4_makeMoreWays) s m args below meth c D cI cA ad 0 A (MQ below (hg_Qv D cI cA ad 0 A w1) args s 0 0 A) 7 w [(0, .ref (ad 0)), (1, .int (hg_I x1)), (2, .int (hg_I x2)), (4, .int (hg_I x4)), (5, .int (hg_I x5)), (6, .int (hg_I x6))] 20 [] := by
  intro n
  induction n with
  | zero =>
    intro w x1 x2 x4 x5 x6 h
    cases h
  | succ n ih =>
    intro w x1 x2 x4 x5 x6 h
    simp only [fX4_makeMoreWays_20] at h
    refine z_iload B 5 dX4_makeMoreWays_20 rfl ?_
    refine z_iload_n B 2 dX4_makeMoreWays_22 rfl rfl ?_
    refine z_icmp_gt (tgt := 72) B dX4_makeMoreWays_23 (by decide) h (fun h => ?_) (fun h => ?_)
    · refine z_lv (lv' := [(0, .ref (ad 0)), (1, .int (hg_I x1)), (2, .int (hg_I x2)), (4, .int (hg_I x4))]) B [0, 1, 2, 3] rfl ?_
      exact rX4_makeMoreWays_72 B hr hK3 _ _ _ _ h
    · refine z_iload B 5 dX4_makeMoreWays_26 rfl ?_
      refine z_iload_n B 1 dX4_makeMoreWays_28 rfl rfl ?_
      refine z_imul B dX4_makeMoreWays_29 ?_
      refine z_iload B 3 dX4_makeMoreWays_30 rfl ?_
      refine z_icmp_gt (tgt := 72) B dX4_makeMoreWays_32 (by decide) h (fun h => ?_) (fun h => ?_)
      · refine z_lv (lv' := [(0, .ref (ad 0)), (1, .int (hg_I x1)), (2, .int (hg_I x2)), (4, .int (hg_I x4))]) B [0, 1, 2, 3] rfl ?_
        exact rX4_makeMoreWays_72 B hr hK3 _ _ _ _ h
      · refine z_aload_n B 0 dX4_makeMoreWays_35 rfl rfl ?_
        refine z_get4 (v := .ref (ad 54)) B 7 dX4_makeMoreWays_36 inlX4 (by decide) rfl (by decide) (wl_2 8 rfl) rfl rfl ?_
        refine z_iload B 3 dX4_makeMoreWays_39 rfl ?_
        refine z_dup2 B dX4_makeMoreWays_41 rfl rfl ?_
        obtain ⟨v1, q2, h⟩ := Option.bind_eq_some_iff.mp h
        refine z_iald (Or.inl rfl) B dX4_makeMoreWays_42 q2 ?_
        refine z_iload_n B 1 dX4_makeMoreWays_43 rfl rfl ?_
        refine z_if_ne (tgt := 52) B dX4_makeMoreWays_44 (by decide) h (fun h => ?_) (fun h => ?_)
        · refine z_aload_n B 0 dX4_makeMoreWays_52 rfl rfl ?_
          refine z_get4 (v := .ref (ad 54)) B 7 dX4_makeMoreWays_53 inlX4 (by decide) rfl (by decide) (wl_2 8 rfl) rfl rfl ?_
          refine z_iload B 3 dX4_makeMoreWays_56 rfl ?_
          refine z_iload B 5 dX4_makeMoreWays_58 rfl ?_
          refine z_iload_n B 1 dX4_makeMoreWays_60 rfl rfl ?_
          refine z_imul B dX4_makeMoreWays_61 ?_
          refine z_isub B dX4_makeMoreWays_62 ?_
          obtain ⟨v3, q4, h⟩ := Option.bind_eq_some_iff.mp h
          refine z_iald (Or.inl rfl) B dX4_makeMoreWays_63 q4 ?_
          exact rX4_makeMoreWays_64 B hr hK3 ih _ _ _ _ _ _ _ _ _ h
        · refine z_iload B 4 dX4_makeMoreWays_47 rfl ?_
          refine z_goto (tgt := 64) B dX4_makeMoreWays_49 (by decide) ?_
          exact rX4_makeMoreWays_64 B hr hK3 ih _ _ _ _ _ _ _ _ _ h
set_option maxHeartbeats 4000000 in
set_option maxRecDepth 100000 in
theorem rX4_makeMoreWays_3 (B : hg_B p s m args meth c cX4_makeMoreWays RX4 wsL_law 7 D cI cA ad 0 A) (hr : meth.sig.returnType = none) {w1 : hg_W} {r1 : Int} : ∀ (n : Nat), ∀ (w : hg_W) (x1 : Int) (x2 : Int) (x4 : Int), fX4_makeMoreWays_3 n w x1 x2 x4 = some (w1, r1) → hg_At p l e (rmX4_makeMoreWays) s m args below meth c D cI cA ad 0 A (MQ below (hg_Qv D cI cA ad 0 A w1) args s 0 0 A) 7 w [(0, .ref (ad 0)), (1, .int (hg_I x1)), (2, .int (hg_I x2)), (4, .int (hg_I x4))] 3 [] := by
  intro n
  induction n with
  | zero =>
    intro w x1 x2 x4 h
    cases h
  | succ n ih =>
    intro w x1 x2 x4 h
    simp only [fX4_makeMoreWays_3] at h
    refine z_iload B 3 dX4_makeMoreWays_3 rfl ?_
    refine z_if_lt (tgt := 78) B dX4_makeMoreWays_5 (by decide) h (fun h => ?_) (fun h => ?_)
    · exact z_vret B hr dX4_makeMoreWays_78 h
    · refine z_aload_n B 0 dX4_makeMoreWays_8 rfl rfl ?_
      refine z_get4 (v := .ref (ad 54)) B 7 dX4_makeMoreWays_9 inlX4 (by decide) rfl (by decide) (wl_2 8 rfl) rfl rfl ?_
      refine z_iload B 3 dX4_makeMoreWays_12 rfl ?_
      obtain ⟨v1, q2, h⟩ := Option.bind_eq_some_iff.mp h
      refine z_iald (Or.inl rfl) B dX4_makeMoreWays_14 q2 ?_
      refine z_istore B [(5, .int (hg_I v1)), (0, .ref (ad 0)), (1, .int (hg_I x1)), (2, .int (hg_I x2)), (4, .int (hg_I x4))] dX4_makeMoreWays_15 (by decide) rfl ?_
      refine z_iconst B dX4_makeMoreWays_17 ?_
      refine z_istore B [(6, .int (hg_I 1)), (5, .int (hg_I v1)), (0, .ref (ad 0)), (1, .int (hg_I x1)), (2, .int (hg_I x2)), (4, .int (hg_I x4))] dX4_makeMoreWays_18 (by decide) rfl ?_
      refine z_lv (lv' := [(0, .ref (ad 0)), (1, .int (hg_I x1)), (2, .int (hg_I x2)), (4, .int (hg_I x4)), (5, .int (hg_I v1)), (6, .int (hg_I 1))]) B [2, 3, 4, 5, 1, 0] rfl ?_
      exact rX4_makeMoreWays_20 B hr ih hg_F _ _ _ _ _ _ h
set_option maxHeartbeats 4000000 in
set_option maxRecDepth 100000 in
theorem rX4_makeMoreWays_E (B : hg_B p s m args meth c cX4_makeMoreWays RX4 wsL_law 7 D cI cA ad 0 A) (hr : meth.sig.returnType = none) {a1 : Int} {a2 : Int} {a3 : Int} {w1 : hg_W} {r1 : Int} {w : hg_W} (h : fX4_makeMoreWays w a1 a2 a3 = some (w1, r1)) : hg_At p l e (rmX4_makeMoreWays) s m args below meth c D cI cA ad 0 A (MQ below (hg_Qv D cI cA ad 0 A w1) args s 0 0 A) 7 w [(0, .ref (ad 0)), (1, .int (hg_I a1)), (2, .int (hg_I a2)), (3, .int (hg_I a3))] 0 [] := by
  unfold fX4_makeMoreWays at h
  refine z_iload_n B 3 dX4_makeMoreWays_0 rfl rfl ?_
  refine z_istore B [(4, .int (hg_I a3)), (0, .ref (ad 0)), (1, .int (hg_I a1)), (2, .int (hg_I a2)), (3, .int (hg_I a3))] dX4_makeMoreWays_1 (by decide) rfl ?_
  refine z_lv (lv' := [(0, .ref (ad 0)), (1, .int (hg_I a1)), (2, .int (hg_I a2)), (4, .int (hg_I a3))]) B [1, 2, 3, 0] rfl ?_
  exact rX4_makeMoreWays_3 B hr hg_F _ _ _ _ h
set_option maxHeartbeats 4000000 in
set_option maxRecDepth 100000 in
theorem c_X4_makeMoreWays {l : Launch} {D : va_G} {cI cA : ClassId} {ad : Nat → Nat} {a1 : Int} {a2 : Int} {a3 : Int} {w w1 : hg_W} {r1 : Int} (h : fX4_makeMoreWays w a1 a2 a3 = some (w1, r1)) : hg_Mv l yX4_makeMoreWays wxX4_makeMoreWays rmX4_makeMoreWays D cI cA ad 0 w [.ref (ad 0), .int (hg_I a1), .int (hg_I a2), .int (hg_I a3)] w1 := by
  refine z_metv cX4_makeMoreWays 7 none (by decide) (Nat.le_of_ble_eq_true rfl) ?_
  intro p e s m args below meth c A B hr
  exact rX4_makeMoreWays_E B hr h
abbrev wxX4_ways : List Cond := Cond.code yX4_ways cX4_ways 3 (some .int) :: wsL_law
def fX4_ways_43   : Nat → hg_W → Int → Int → Option (hg_W × Int)
  | 0, _, _, _ => none
  | n + 1, w, x1, x2 =>
    if wr 6 ≤ wr x2 then
      (
        (hg_ag 0 w 54 x1).bind fun v1 =>
        some (w, wr v1)
      )
    else
      (hg_ag 0 w 20 x2).bind fun v3 =>
      (hg_ag 0 w 21 x2).bind fun v5 =>
      hg_bd (fX4_makeMoreWays w v3 v5 x1) fun w7 _ =>
      fX4_ways_43 n w7 x1 (x2 + 1)
def fX4_ways_16   : Nat → hg_W → Int → Int → Option (hg_W × Int)
  | 0, _, _, _ => none
  | n + 1, w, x1, x2 =>
    if wr x1 < wr x2 then
      (
        (hg_as 0 w 54 0 1).bind fun w1 =>
        fX4_ways_43 hg_F w1 x1 0
      )
    else
      (hg_as 0 w 54 x2 0).bind fun w3 =>
      fX4_ways_16 n w3 x1 (x2 + 1)
def fX4_ways (w : hg_W) (a1 : Int) : Option (hg_W × Int) :=
  if wr a1 < 0 then
    (
      some (w, wr (-2))
    )
  else
    if wr a1 ≤ wr 999 then
      (
        fX4_ways_16 hg_F w a1 0
      )
    else
      some (w, wr (-2))
set_option maxHeartbeats 4000000 in
set_option maxRecDepth 100000 in
abbrev rmX4_ways : Room := { frames := 1, cells := 0, slots := 0, locals := 26 }
set_option maxHeartbeats 4000000 in
set_option maxRecDepth 100000 in
theorem rX4_ways_43 (B : hg_B p s m args meth c cX4_ways RX4 wsL_law 3 D cI cA ad 0 A) (hr : meth.sig.returnType = (some .int)) {w1 : hg_W} {r1 : Int} : ∀ (n : Nat), ∀ (w : hg_W) (x1 : Int) (x2 : Int), fX4_ways_43 n w x1 x2 = some (w1, r1) → hg_At p l e (rmX4_ways) s m args below meth c D cI cA ad 0 A (MQ below (hg_Qi D cI cA ad 0 A w1 r1) args s 0 0 A) 3 w [(0, .ref (ad 0)), (1, .int (hg_I x1)), (2, .int (hg_I x2))] 43 [] := by
  intro n
  induction n with
  | zero =>
    intro w x1 x2 h
    cases h
  | succ n ih =>
    intro w x1 x2 h
    simp only [fX4_ways_43] at h
    refine z_iload_n B 2 dX4_ways_43 rfl rfl ?_
    refine z_bipush B dX4_ways_44 (by decide) ?_
    refine z_icmp_ge (tgt := 78) B dX4_ways_46 (by decide) h (fun h => ?_) (fun h => ?_)
    · refine z_aload_n B 0 dX4_ways_78 rfl rfl ?_
      refine z_get4 (v := .ref (ad 54)) B 7 dX4_ways_79 inlX4 (by decide) rfl (by decide) (wl_2 8 rfl) rfl rfl ?_
      refine z_iload_n B 1 dX4_ways_82 rfl rfl ?_
      obtain ⟨v1, q2, h⟩ := Option.bind_eq_some_iff.mp h
      refine z_iald (Or.inl rfl) B dX4_ways_83 q2 ?_
      exact z_iret B hr dX4_ways_84 h
    · refine z_aload_n B 0 dX4_ways_49 rfl rfl ?_
      refine z_aload_n B 0 dX4_ways_50 rfl rfl ?_
      refine z_get4 (v := .ref (ad 19)) B 2 dX4_ways_51 inlX4 (by decide) rfl (by decide) (wl_1 23 rfl) rfl rfl ?_
      refine z_get0 (v := .ref (ad 20)) B 1 dX4_ways_54 inlX0 (by decide) rfl (by decide) (wl_8 10 rfl) rfl rfl ?_
      refine z_iload_n B 2 dX4_ways_57 rfl rfl ?_
      obtain ⟨v3, q4, h⟩ := Option.bind_eq_some_iff.mp h
      refine z_iald (Or.inl rfl) B dX4_ways_58 q4 ?_
      refine z_aload_n B 0 dX4_ways_59 rfl rfl ?_
      refine z_get4 (v := .ref (ad 19)) B 2 dX4_ways_60 inlX4 (by decide) rfl (by decide) (wl_1 23 rfl) rfl rfl ?_
      refine z_get0 (v := .ref (ad 21)) B 2 dX4_ways_63 inlX0 (by decide) rfl (by decide) (wl_8 11 rfl) rfl rfl ?_
      refine z_iload_n B 2 dX4_ways_66 rfl rfl ?_
      obtain ⟨v5, q6, h⟩ := Option.bind_eq_some_iff.mp h
      refine z_iald (Or.inl rfl) B dX4_ways_67 q6 ?_
      refine z_iload_n B 1 dX4_ways_68 rfl rfl ?_
      obtain ⟨w7, v8, q9, h⟩ := hg_bd_some h
      refine z_callvV (a := 0) (ci := 4) (N := 9) (T := TX4) (C := RX4) (As := [.int (hg_I v3), .int (hg_I v5), .int (hg_I x1)]) (n := 3) B dX4_ways_69 (c_X4_makeMoreWays q9) (gl_V (wl_27 5 rfl) (wl_27 6 rfl) (wl_27 7 rfl) (wl_1 2 rfl) (wl_27 8 rfl)) rfl ⟨rfl, rfl⟩ (by decide +kernel) ⟨Nat.le_of_ble_eq_true rfl, Nat.le_of_ble_eq_true rfl⟩ (by decide) rfl (by decide) rfl rfl rfl (Nat.le_of_ble_eq_true rfl) ?_
      refine z_iinc B 2 [(2, .int (hg_I (x2 + 1))), (0, .ref (ad 0)), (1, .int (hg_I x1))] dX4_ways_72 rfl (by decide) rfl ?_
      refine z_goto (tgt := 43) B dX4_ways_75 (by decide) ?_
      refine z_lv (lv' := [(0, .ref (ad 0)), (1, .int (hg_I x1)), (2, .int (hg_I (x2 + 1)))]) B [1, 2, 0] rfl ?_
      exact ih _ _ _ h
set_option maxHeartbeats 4000000 in
set_option maxRecDepth 100000 in
theorem rX4_ways_16 (B : hg_B p s m args meth c cX4_ways RX4 wsL_law 3 D cI cA ad 0 A) (hr : meth.sig.returnType = (some .int)) {w1 : hg_W} {r1 : Int} : ∀ (n : Nat), ∀ (w : hg_W) (x1 : Int) (x2 : Int), fX4_ways_16 n w x1 x2 = some (w1, r1) → hg_At p l e (rmX4_ways) s m args below meth c D cI cA ad 0 A (MQ below (hg_Qi D cI cA ad 0 A w1 r1) args s 0 0 A) 3 w [(0, .ref (ad 0)), (1, .int (hg_I x1)), (2, .int (hg_I x2))] 16 [] := by
  intro n
  induction n with
  | zero =>
    intro w x1 x2 h
    cases h
  | succ n ih =>
    intro w x1 x2 h
    simp only [fX4_ways_16] at h
    refine z_iload_n B 2 dX4_ways_16 rfl rfl ?_
    refine z_iload_n B 1 dX4_ways_17 rfl rfl ?_
    refine z_icmp_gt (tgt := 34) B dX4_ways_18 (by decide) h (fun h => ?_) (fun h => ?_)
    · refine z_aload_n B 0 dX4_ways_34 rfl rfl ?_
      refine z_get4 (v := .ref (ad 54)) B 7 dX4_ways_35 inlX4 (by decide) rfl (by decide) (wl_2 8 rfl) rfl rfl ?_
      refine z_iconst B dX4_ways_38 ?_
      refine z_iconst B dX4_ways_39 ?_
      obtain ⟨w1, q2, h⟩ := Option.bind_eq_some_iff.mp h
      refine z_iast (Or.inl rfl) B dX4_ways_40 q2 ?_
      refine z_iconst B dX4_ways_41 ?_
      refine z_istore_n B [(2, .int (hg_I 0)), (0, .ref (ad 0)), (1, .int (hg_I x1))] dX4_ways_42 rfl (by decide) rfl ?_
      refine z_lv (lv' := [(0, .ref (ad 0)), (1, .int (hg_I x1)), (2, .int (hg_I 0))]) B [1, 2, 0] rfl ?_
      exact rX4_ways_43 B hr hg_F _ _ _ h
    · refine z_aload_n B 0 dX4_ways_21 rfl rfl ?_
      refine z_get4 (v := .ref (ad 54)) B 7 dX4_ways_22 inlX4 (by decide) rfl (by decide) (wl_2 8 rfl) rfl rfl ?_
      refine z_iload_n B 2 dX4_ways_25 rfl rfl ?_
      refine z_iconst B dX4_ways_26 ?_
      obtain ⟨w3, q4, h⟩ := Option.bind_eq_some_iff.mp h
      refine z_iast (Or.inl rfl) B dX4_ways_27 q4 ?_
      refine z_iinc B 2 [(2, .int (hg_I (x2 + 1))), (0, .ref (ad 0)), (1, .int (hg_I x1))] dX4_ways_28 rfl (by decide) rfl ?_
      refine z_goto (tgt := 16) B dX4_ways_31 (by decide) ?_
      refine z_lv (lv' := [(0, .ref (ad 0)), (1, .int (hg_I x1)), (2, .int (hg_I (x2 + 1)))]) B [1, 2, 0] rfl ?_
      exact ih _ _ _ h
set_option maxHeartbeats 4000000 in
set_option maxRecDepth 100000 in
theorem rX4_ways_E (B : hg_B p s m args meth c cX4_ways RX4 wsL_law 3 D cI cA ad 0 A) (hr : meth.sig.returnType = (some .int)) {a1 : Int} {w1 : hg_W} {r1 : Int} {w : hg_W} (h : fX4_ways w a1 = some (w1, r1)) : hg_At p l e (rmX4_ways) s m args below meth c D cI cA ad 0 A (MQ below (hg_Qi D cI cA ad 0 A w1 r1) args s 0 0 A) 3 w [(0, .ref (ad 0)), (1, .int (hg_I a1))] 0 [] := by
  unfold fX4_ways at h
  refine z_iload_n B 1 dX4_ways_0 rfl rfl ?_
  refine z_if_lt (tgt := 11) B dX4_ways_1 (by decide) h (fun h => ?_) (fun h => ?_)
  · refine z_bipush B dX4_ways_11 (by decide) ?_
    exact z_iret B hr dX4_ways_13 h
  · refine z_iload_n B 1 dX4_ways_4 rfl rfl ?_
    refine z_sipush B dX4_ways_5 (by decide) ?_
    refine z_icmp_le (tgt := 14) B dX4_ways_8 (by decide) h (fun h => ?_) (fun h => ?_)
    · refine z_iconst B dX4_ways_14 ?_
      refine z_istore_n B [(2, .int (hg_I 0)), (0, .ref (ad 0)), (1, .int (hg_I a1))] dX4_ways_15 rfl (by decide) rfl ?_
      refine z_lv (lv' := [(0, .ref (ad 0)), (1, .int (hg_I a1)), (2, .int (hg_I 0))]) B [1, 2, 0] rfl ?_
      exact rX4_ways_16 B hr hg_F _ _ _ h
    · refine z_bipush B dX4_ways_11 (by decide) ?_
      exact z_iret B hr dX4_ways_13 h
set_option maxHeartbeats 4000000 in
set_option maxRecDepth 100000 in
theorem c_X4_ways {l : Launch} {D : va_G} {cI cA : ClassId} {ad : Nat → Nat} {a1 : Int} {w w1 : hg_W} {r1 : Int} (h : fX4_ways w a1 = some (w1, r1)) : hg_Mi l yX4_ways wxX4_ways rmX4_ways D cI cA ad 0 w [.ref (ad 0), .int (hg_I a1)] w1 r1 := by
  refine z_meti cX4_ways 3 (some .int) (by decide) (Nat.le_of_ble_eq_true rfl) ?_
  intro p e s m args below meth c A B hr
  exact rX4_ways_E B hr h
abbrev wxX4_inLowestTerms : List Cond := Cond.code yX4_inLowestTerms cX4_inLowestTerms 7 (some .long) :: wsL_law
def fX4_inLowestTerms_39   (w : hg_W) (x0 : Int) (x1 : Int) (x2 : Int) (x3 : Int) : Option (hg_W × Int) :=
  if wr x3 = 0 then
    (
      some (w, wl (-4611686018427387904))
    )
  else
    if wr x1 = 0 then
      (
        some (w, wl (-4611686018427387904))
      )
    else
      if wr x2 = 0 then
        (
          if wr x3 = 0 then none else
          some (w, wl (wr (hg_dv x0 x3)))
        )
      else
        if wr x3 = 0 then none else
        some (w, wl (wr (hg_dv x1 x3)))
def fX4_inLowestTerms_8   : Nat → hg_W → Int → Int → Int → Int → Int → Int → Option (hg_W × Int)
  | 0, _, _, _, _, _, _, _ => none
  | n + 1, w, x0, x1, x2, x3, x4, x5 =>
    if wr 100 ≤ wr x5 then
      (
        fX4_inLowestTerms_39 w x0 x1 x2 x3
      )
    else
      if wr x4 = 0 then
        (
          fX4_inLowestTerms_39 w x0 x1 x2 x3
        )
      else
        if wr x4 = 0 then none else
        fX4_inLowestTerms_8 n w x0 x1 x2 x4 (hg_rm x3 x4) (x5 + 1)
def fX4_inLowestTerms (w : hg_W) (a1 : Int) (a2 : Int) (a3 : Int) : Option (hg_W × Int) :=
  fX4_inLowestTerms_8 hg_F w a1 a2 a3 a2 a1 0
set_option maxHeartbeats 4000000 in
set_option maxRecDepth 100000 in
abbrev rmX4_inLowestTerms : Room := { frames := 0, cells := 0, slots := 0, locals := 0 }
set_option maxHeartbeats 4000000 in
set_option maxRecDepth 100000 in
theorem rX4_inLowestTerms_39 (B : hg_B p s m args meth c cX4_inLowestTerms RX4 wsL_law 7 D cI cA ad 0 A) (hr : meth.sig.returnType = (some .long)) {w1 : hg_W} {r1 : Int} : ∀ (w : hg_W) (x0 : Int) (x1 : Int) (x2 : Int) (x3 : Int), fX4_inLowestTerms_39 w x0 x1 x2 x3 = some (w1, r1) → hg_At p l e (rmX4_inLowestTerms) s m args below meth c D cI cA ad 0 A (MQ below (hg_Ql D cI cA ad 0 A w1 r1) args s 0 0 A) 7 w [(0, .int (hg_I x0)), (1, .int (hg_I x1)), (2, .int (hg_I x2)), (3, .int (hg_I x3))] 39 [] := by
  intro w x0 x1 x2 x3 h
  unfold fX4_inLowestTerms_39 at h
  refine z_iload_n B 3 dX4_inLowestTerms_39 rfl rfl ?_
  refine z_if_eq (tgt := 47) B dX4_inLowestTerms_40 (by decide) h (fun h => ?_) (fun h => ?_)
  · refine z_ldc2 (n := -4611686018427387904) (v := -4611686018427387904) B dX4_inLowestTerms_47 (wl_27 21 rfl) (by decide) ?_
    exact z_lret B hr dX4_inLowestTerms_50 h
  · refine z_iload_n B 1 dX4_inLowestTerms_43 rfl rfl ?_
    refine z_if_ne (tgt := 51) B dX4_inLowestTerms_44 (by decide) h (fun h => ?_) (fun h => ?_)
    · refine z_iload_n B 2 dX4_inLowestTerms_51 rfl rfl ?_
      refine z_if_ne (tgt := 62) B dX4_inLowestTerms_52 (by decide) h (fun h => ?_) (fun h => ?_)
      · refine z_iload_n B 1 dX4_inLowestTerms_62 rfl rfl ?_
        refine z_iload_n B 3 dX4_inLowestTerms_63 rfl rfl ?_
        by_cases z1 : wr x3 = 0
        · rw [if_pos z1] at h; cases h
        rw [if_neg z1] at h
        refine z_idiv B dX4_inLowestTerms_64 z1 ?_
        refine z_i2l B dX4_inLowestTerms_65 ?_
        exact z_lret B hr dX4_inLowestTerms_66 h
      · refine z_iload_n B 0 dX4_inLowestTerms_55 rfl rfl ?_
        refine z_iload_n B 3 dX4_inLowestTerms_56 rfl rfl ?_
        by_cases z2 : wr x3 = 0
        · rw [if_pos z2] at h; cases h
        rw [if_neg z2] at h
        refine z_idiv B dX4_inLowestTerms_57 z2 ?_
        refine z_i2l B dX4_inLowestTerms_58 ?_
        refine z_goto (tgt := 66) B dX4_inLowestTerms_59 (by decide) ?_
        exact z_lret B hr dX4_inLowestTerms_66 h
    · refine z_ldc2 (n := -4611686018427387904) (v := -4611686018427387904) B dX4_inLowestTerms_47 (wl_27 21 rfl) (by decide) ?_
      exact z_lret B hr dX4_inLowestTerms_50 h
set_option maxHeartbeats 4000000 in
set_option maxRecDepth 100000 in
theorem rX4_inLowestTerms_8 (B : hg_B p s m args meth c cX4_inLowestTerms RX4 wsL_law 7 D cI cA ad 0 A) (hr : meth.sig.returnType = (some .long)) {w1 : hg_W} {r1 : Int} : ∀ (n : Nat), ∀ (w : hg_W) (x0 : Int) (x1 : Int) (x2 : Int) (x3 : Int) (x4 : Int) (x5 : Int), fX4_inLowestTerms_8 n w x0 x1 x2 x3 x4 x5 = some (w1, r1) → hg_At p l e (rmX4_inLowestTerms) s m args below meth c D cI cA ad 0 A (MQ below (hg_Ql D cI cA ad 0 A w1 r1) args s 0 0 A) 7 w [(0, .int (hg_I x0)), (1, .int (hg_I x1)), (2, .int (hg_I x2)), (3, .int (hg_I x3)), (4, .int (hg_I x4)), (5, .int (hg_I x5))] 8 [] := by
  intro n
  induction n with
  | zero =>
    intro w x0 x1 x2 x3 x4 x5 h
    cases h
  | succ n ih =>
    intro w x0 x1 x2 x3 x4 x5 h
    simp only [fX4_inLowestTerms_8] at h
    refine z_iload B 5 dX4_inLowestTerms_8 rfl ?_
    refine z_bipush B dX4_inLowestTerms_10 (by decide) ?_
    refine z_icmp_ge (tgt := 39) B dX4_inLowestTerms_12 (by decide) h (fun h => ?_) (fun h => ?_)
    · refine z_lv (lv' := [(0, .int (hg_I x0)), (1, .int (hg_I x1)), (2, .int (hg_I x2)), (3, .int (hg_I x3))]) B [0, 1, 2, 3] rfl ?_
      exact rX4_inLowestTerms_39 B hr _ _ _ _ _ h
    · refine z_iload B 4 dX4_inLowestTerms_15 rfl ?_
      refine z_if_eq (tgt := 39) B dX4_inLowestTerms_17 (by decide) h (fun h => ?_) (fun h => ?_)
      · refine z_lv (lv' := [(0, .int (hg_I x0)), (1, .int (hg_I x1)), (2, .int (hg_I x2)), (3, .int (hg_I x3))]) B [0, 1, 2, 3] rfl ?_
        exact rX4_inLowestTerms_39 B hr _ _ _ _ _ h
      · refine z_iload_n B 3 dX4_inLowestTerms_20 rfl rfl ?_
        refine z_iload B 4 dX4_inLowestTerms_21 rfl ?_
        by_cases z1 : wr x4 = 0
        · rw [if_pos z1] at h; cases h
        rw [if_neg z1] at h
        refine z_irem B dX4_inLowestTerms_23 z1 ?_
        refine z_istore B [(6, .int (hg_I (hg_rm x3 x4))), (0, .int (hg_I x0)), (1, .int (hg_I x1)), (2, .int (hg_I x2)), (3, .int (hg_I x3)), (4, .int (hg_I x4)), (5, .int (hg_I x5))] dX4_inLowestTerms_24 (by decide) rfl ?_
        refine z_iload B 5 dX4_inLowestTerms_26 rfl ?_
        refine z_istore_n B [(3, .int (hg_I x4)), (6, .int (hg_I (hg_rm x3 x4))), (0, .int (hg_I x0)), (1, .int (hg_I x1)), (2, .int (hg_I x2)), (4, .int (hg_I x4)), (5, .int (hg_I x5))] dX4_inLowestTerms_28 rfl (by decide) rfl ?_
        refine z_iload B 1 dX4_inLowestTerms_29 rfl ?_
        refine z_istore B [(4, .int (hg_I (hg_rm x3 x4))), (3, .int (hg_I x4)), (6, .int (hg_I (hg_rm x3 x4))), (0, .int (hg_I x0)), (1, .int (hg_I x1)), (2, .int (hg_I x2)), (5, .int (hg_I x5))] dX4_inLowestTerms_31 (by decide) rfl ?_
        refine z_iinc B 6 [(5, .int (hg_I (x5 + 1))), (4, .int (hg_I (hg_rm x3 x4))), (3, .int (hg_I x4)), (6, .int (hg_I (hg_rm x3 x4))), (0, .int (hg_I x0)), (1, .int (hg_I x1)), (2, .int (hg_I x2))] dX4_inLowestTerms_33 rfl (by decide) rfl ?_
        refine z_goto (tgt := 8) B dX4_inLowestTerms_36 (by decide) ?_
        refine z_lv (lv' := [(0, .int (hg_I x0)), (1, .int (hg_I x1)), (2, .int (hg_I x2)), (3, .int (hg_I x4)), (4, .int (hg_I (hg_rm x3 x4))), (5, .int (hg_I (x5 + 1)))]) B [4, 5, 6, 2, 1, 0] rfl ?_
        exact ih _ _ _ _ _ _ _ h
set_option maxHeartbeats 4000000 in
set_option maxRecDepth 100000 in
theorem rX4_inLowestTerms_E (B : hg_B p s m args meth c cX4_inLowestTerms RX4 wsL_law 7 D cI cA ad 0 A) (hr : meth.sig.returnType = (some .long)) {a1 : Int} {a2 : Int} {a3 : Int} {w1 : hg_W} {r1 : Int} {w : hg_W} (h : fX4_inLowestTerms w a1 a2 a3 = some (w1, r1)) : hg_At p l e (rmX4_inLowestTerms) s m args below meth c D cI cA ad 0 A (MQ below (hg_Ql D cI cA ad 0 A w1 r1) args s 0 0 A) 7 w [(0, .int (hg_I a1)), (1, .int (hg_I a2)), (2, .int (hg_I a3))] 0 [] := by
  unfold fX4_inLowestTerms at h
  refine z_iload_n B 1 dX4_inLowestTerms_0 rfl rfl ?_
  refine z_istore_n B [(3, .int (hg_I a2)), (0, .int (hg_I a1)), (1, .int (hg_I a2)), (2, .int (hg_I a3))] dX4_inLowestTerms_1 rfl (by decide) rfl ?_
  refine z_iload_n B 1 dX4_inLowestTerms_2 rfl rfl ?_
  refine z_istore B [(4, .int (hg_I a1)), (3, .int (hg_I a2)), (0, .int (hg_I a1)), (1, .int (hg_I a2)), (2, .int (hg_I a3))] dX4_inLowestTerms_3 (by decide) rfl ?_
  refine z_iconst B dX4_inLowestTerms_5 ?_
  refine z_istore B [(5, .int (hg_I 0)), (4, .int (hg_I a1)), (3, .int (hg_I a2)), (0, .int (hg_I a1)), (1, .int (hg_I a2)), (2, .int (hg_I a3))] dX4_inLowestTerms_6 (by decide) rfl ?_
  refine z_lv (lv' := [(0, .int (hg_I a1)), (1, .int (hg_I a2)), (2, .int (hg_I a3)), (3, .int (hg_I a2)), (4, .int (hg_I a1)), (5, .int (hg_I 0))]) B [3, 4, 5, 2, 1, 0] rfl ?_
  exact rX4_inLowestTerms_8 B hr hg_F _ _ _ _ _ _ _ h
set_option maxHeartbeats 4000000 in
set_option maxRecDepth 100000 in
theorem c_X4_inLowestTerms {l : Launch} {D : va_G} {cI cA : ClassId} {ad : Nat → Nat} {a1 : Int} {a2 : Int} {a3 : Int} {w w1 : hg_W} {r1 : Int} (h : fX4_inLowestTerms w a1 a2 a3 = some (w1, r1)) : hg_Ml l yX4_inLowestTerms wxX4_inLowestTerms rmX4_inLowestTerms D cI cA ad 0 w [.int (hg_I a1), .int (hg_I a2), .int (hg_I a3)] w1 r1 := by
  refine z_metl cX4_inLowestTerms 7 (some .long) (by decide) (Nat.le_of_ble_eq_true rfl) ?_
  intro p e s m args below meth c A B hr
  exact rX4_inLowestTerms_E B hr h
abbrev wxX4_share : List Cond := Cond.code yX4_share cX4_share 5 (some .long) :: wsL_law
def fX4_share_32   : Nat → hg_W → Int → Int → Int → Int → Option (hg_W × Int)
  | 0, _, _, _, _, _ => none
  | n + 1, w, x1, x2, x3, x4 =>
    if wr (w 19 9) ≤ wr x4 then
      (
        (hg_ag 0 w 25 x1).bind fun v1 =>
        hg_bd (fX4_inLowestTerms w v1 x3 x2) fun w3 v4 =>
        some (w3, wl v4)
      )
    else
      (hg_ag 0 w 25 x4).bind fun v6 =>
      fX4_share_32 n w x1 x2 (x3 + v6) (x4 + 1)
def fX4_share (w : hg_W) (a1 : Int) (a2 : Int) : Option (hg_W × Int) :=
  hg_bd (fX4_isThere w a1) fun w1 v2 =>
  if wr v2 = 0 then
    (
      some (w1, wl (-4611686018427387904))
    )
  else
    if wr a2 < 0 then
      (
        some (w1, wl (-4611686018427387904))
      )
    else
      if wr a2 ≤ wr 1 then
        (
          hg_bd (fX0_worthOfAll 19 w1) fun w4 v5 =>
          fX4_share_32 hg_F w4 a1 a2 v5 0
        )
      else
        some (w1, wl (-4611686018427387904))
set_option maxHeartbeats 4000000 in
set_option maxRecDepth 100000 in
abbrev rmX4_share : Room := { frames := 1, cells := 0, slots := 0, locals := 26 }
set_option maxHeartbeats 4000000 in
set_option maxRecDepth 100000 in
theorem rX4_share_32 (B : hg_B p s m args meth c cX4_share RX4 wsL_law 5 D cI cA ad 0 A) (hr : meth.sig.returnType = (some .long)) {w1 : hg_W} {r1 : Int} : ∀ (n : Nat), ∀ (w : hg_W) (x1 : Int) (x2 : Int) (x3 : Int) (x4 : Int), fX4_share_32 n w x1 x2 x3 x4 = some (w1, r1) → hg_At p l e (rmX4_share) s m args below meth c D cI cA ad 0 A (MQ below (hg_Ql D cI cA ad 0 A w1 r1) args s 0 0 A) 5 w [(0, .ref (ad 0)), (1, .int (hg_I x1)), (2, .int (hg_I x2)), (3, .int (hg_I x3)), (4, .int (hg_I x4))] 32 [] := by
  intro n
  induction n with
  | zero =>
    intro w x1 x2 x3 x4 h
    cases h
  | succ n ih =>
    intro w x1 x2 x3 x4 h
    simp only [fX4_share_32] at h
    refine z_iload B 4 dX4_share_32 rfl ?_
    refine z_aload_n B 0 dX4_share_34 rfl rfl ?_
    refine z_get4 (v := .ref (ad 19)) B 2 dX4_share_35 inlX4 (by decide) rfl (by decide) (wl_1 23 rfl) rfl rfl ?_
    refine z_get0 (v := .int (hg_I (w 19 9))) B 9 dX4_share_38 inlX0 (by decide) rfl (by decide) (wl_7 11 rfl) rfl rfl ?_
    refine z_icmp_ge (tgt := 63) B dX4_share_41 (by decide) h (fun h => ?_) (fun h => ?_)
    · refine z_aload_n B 0 dX4_share_63 rfl rfl ?_
      refine z_get4 (v := .ref (ad 19)) B 2 dX4_share_64 inlX4 (by decide) rfl (by decide) (wl_1 23 rfl) rfl rfl ?_
      refine z_get0 (v := .ref (ad 25)) B 6 dX4_share_67 inlX0 (by decide) rfl (by decide) (wl_18 14 rfl) rfl rfl ?_
      refine z_iload_n B 1 dX4_share_70 rfl rfl ?_
      obtain ⟨v1, q2, h⟩ := Option.bind_eq_some_iff.mp h
      refine z_iald (Or.inl rfl) B dX4_share_71 q2 ?_
      refine z_iload_n B 3 dX4_share_72 rfl rfl ?_
      refine z_iload_n B 2 dX4_share_73 rfl rfl ?_
      obtain ⟨w3, v4, q5, h⟩ := hg_bd_some h
      refine z_calllS (As := [.int (hg_I v1), .int (hg_I x3), .int (hg_I x2)]) (n := 3) B dX4_share_74 (c_X4_inLowestTerms q5) (gl_S (wl_27 22 rfl) (wl_27 23 rfl) (wl_1 2 rfl) (wl_28 0 rfl)) rfl ⟨rfl, rfl⟩ (by decide +kernel) ⟨Nat.le_of_ble_eq_true rfl, Nat.le_of_ble_eq_true rfl⟩ rfl rfl (Nat.le_of_ble_eq_true rfl) ?_
      exact z_lret B hr dX4_share_77 h
    · refine z_iload_n B 3 dX4_share_44 rfl rfl ?_
      refine z_aload_n B 0 dX4_share_45 rfl rfl ?_
      refine z_get4 (v := .ref (ad 19)) B 2 dX4_share_46 inlX4 (by decide) rfl (by decide) (wl_1 23 rfl) rfl rfl ?_
      refine z_get0 (v := .ref (ad 25)) B 6 dX4_share_49 inlX0 (by decide) rfl (by decide) (wl_18 14 rfl) rfl rfl ?_
      refine z_iload B 4 dX4_share_52 rfl ?_
      obtain ⟨v6, q7, h⟩ := Option.bind_eq_some_iff.mp h
      refine z_iald (Or.inl rfl) B dX4_share_54 q7 ?_
      refine z_iadd B dX4_share_55 ?_
      refine z_istore_n B [(3, .int (hg_I (x3 + v6))), (0, .ref (ad 0)), (1, .int (hg_I x1)), (2, .int (hg_I x2)), (4, .int (hg_I x4))] dX4_share_56 rfl (by decide) rfl ?_
      refine z_iinc B 4 [(4, .int (hg_I (x4 + 1))), (3, .int (hg_I (x3 + v6))), (0, .ref (ad 0)), (1, .int (hg_I x1)), (2, .int (hg_I x2))] dX4_share_57 rfl (by decide) rfl ?_
      refine z_goto (tgt := 32) B dX4_share_60 (by decide) ?_
      refine z_lv (lv' := [(0, .ref (ad 0)), (1, .int (hg_I x1)), (2, .int (hg_I x2)), (3, .int (hg_I (x3 + v6))), (4, .int (hg_I (x4 + 1)))]) B [2, 3, 4, 1, 0] rfl ?_
      exact ih _ _ _ _ _ h
set_option maxHeartbeats 4000000 in
set_option maxRecDepth 100000 in
theorem rX4_share_E (B : hg_B p s m args meth c cX4_share RX4 wsL_law 5 D cI cA ad 0 A) (hr : meth.sig.returnType = (some .long)) {a1 : Int} {a2 : Int} {w1 : hg_W} {r1 : Int} {w : hg_W} (h : fX4_share w a1 a2 = some (w1, r1)) : hg_At p l e (rmX4_share) s m args below meth c D cI cA ad 0 A (MQ below (hg_Ql D cI cA ad 0 A w1 r1) args s 0 0 A) 5 w [(0, .ref (ad 0)), (1, .int (hg_I a1)), (2, .int (hg_I a2))] 0 [] := by
  unfold fX4_share at h
  refine z_aload_n B 0 dX4_share_0 rfl rfl ?_
  refine z_iload_n B 1 dX4_share_1 rfl rfl ?_
  obtain ⟨w1, v2, q3, h⟩ := hg_bd_some h
  refine z_calliV (a := 0) (ci := 4) (N := 9) (T := TX4) (C := RX4) (As := [.int (hg_I a1)]) (n := 1) B dX4_share_2 (c_X4_isThere q3) (gl_V (wl_15 22 rfl) (wl_15 23 rfl) (wl_16 0 rfl) (wl_1 2 rfl) (wl_16 1 rfl)) rfl ⟨rfl, rfl⟩ (by decide +kernel) ⟨Nat.le_of_ble_eq_true rfl, Nat.le_of_ble_eq_true rfl⟩ (by decide) rfl (by decide) rfl rfl rfl (Nat.le_of_ble_eq_true rfl) ?_
  refine z_if_eq (tgt := 17) B dX4_share_5 (by decide) h (fun h => ?_) (fun h => ?_)
  · refine z_ldc2 (n := -4611686018427387904) (v := -4611686018427387904) B dX4_share_17 (wl_27 21 rfl) (by decide) ?_
    exact z_lret B hr dX4_share_20 h
  · refine z_iload_n B 2 dX4_share_8 rfl rfl ?_
    refine z_if_lt (tgt := 17) B dX4_share_9 (by decide) h (fun h => ?_) (fun h => ?_)
    · refine z_ldc2 (n := -4611686018427387904) (v := -4611686018427387904) B dX4_share_17 (wl_27 21 rfl) (by decide) ?_
      exact z_lret B hr dX4_share_20 h
    · refine z_iload_n B 2 dX4_share_12 rfl rfl ?_
      refine z_iconst B dX4_share_13 ?_
      refine z_icmp_le (tgt := 21) B dX4_share_14 (by decide) h (fun h => ?_) (fun h => ?_)
      · refine z_aload_n B 0 dX4_share_21 rfl rfl ?_
        refine z_get4 (v := .ref (ad 19)) B 2 dX4_share_22 inlX4 (by decide) rfl (by decide) (wl_1 23 rfl) rfl rfl ?_
        obtain ⟨w4, v5, q6, h⟩ := hg_bd_some h
        refine z_calliV (a := 19) (ci := 0) (N := 14) (T := TX0) (C := RX0) (As := []) (n := 0) B dX4_share_25 (c_X0_worthOfAll (by unfold hg_rd; decide) q6) (gl_V (wl_9 7 rfl) (wl_9 8 rfl) (wl_9 9 rfl) (wl_1 22 rfl) (wl_9 10 rfl)) rfl ⟨rfl, rfl⟩ (by decide +kernel) ⟨Nat.le_of_ble_eq_true rfl, Nat.le_of_ble_eq_true rfl⟩ (by decide) rfl (by decide) rfl rfl rfl (Nat.le_of_ble_eq_true rfl) ?_
        refine z_istore_n B [(3, .int (hg_I v5)), (0, .ref (ad 0)), (1, .int (hg_I a1)), (2, .int (hg_I a2))] dX4_share_28 rfl (by decide) rfl ?_
        refine z_iconst B dX4_share_29 ?_
        refine z_istore B [(4, .int (hg_I 0)), (3, .int (hg_I v5)), (0, .ref (ad 0)), (1, .int (hg_I a1)), (2, .int (hg_I a2))] dX4_share_30 (by decide) rfl ?_
        refine z_lv (lv' := [(0, .ref (ad 0)), (1, .int (hg_I a1)), (2, .int (hg_I a2)), (3, .int (hg_I v5)), (4, .int (hg_I 0))]) B [2, 3, 4, 1, 0] rfl ?_
        exact rX4_share_32 B hr hg_F _ _ _ _ _ h
      · refine z_ldc2 (n := -4611686018427387904) (v := -4611686018427387904) B dX4_share_17 (wl_27 21 rfl) (by decide) ?_
        exact z_lret B hr dX4_share_20 h
set_option maxHeartbeats 4000000 in
set_option maxRecDepth 100000 in
theorem c_X4_share {l : Launch} {D : va_G} {cI cA : ClassId} {ad : Nat → Nat} {a1 : Int} {a2 : Int} {w w1 : hg_W} {r1 : Int} (h : fX4_share w a1 a2 = some (w1, r1)) : hg_Ml l yX4_share wxX4_share rmX4_share D cI cA ad 0 w [.ref (ad 0), .int (hg_I a1), .int (hg_I a2)] w1 r1 := by
  refine z_metl cX4_share 5 (some .long) (by decide) (Nat.le_of_ble_eq_true rfl) ?_
  intro p e s m args below meth c A B hr
  exact rX4_share_E B hr h
abbrev wxX4_otherwise : List Cond := Cond.code yX4_otherwise cX4_otherwise 3 (some .int) :: wsL_law
def fX4_otherwise_2   : Nat → hg_W → Int → Int → Option (hg_W × Int)
  | 0, _, _, _ => none
  | n + 1, w, x1, x2 =>
    (hg_ag 0 w 48 x1).bind fun v1 =>
    if wr v1 ≤ wr x2 then
      (
        some (w, wr (-1))
      )
    else
      hg_bd (fX0_goOn 28 w) fun w3 v4 =>
      (hg_ar 49 x1).bind fun c6 =>
      (hg_ag 0 w3 c6 x2).bind fun v8 =>
      if wr (v4 + 1) = wr v8 then
        (
          fX4_otherwise_2 n w3 x1 (x2 + 1)
        )
      else
        some (w3, wr x2)
def fX4_otherwise (w : hg_W) (a1 : Int) : Option (hg_W × Int) :=
  fX4_otherwise_2 hg_F w a1 0
set_option maxHeartbeats 4000000 in
set_option maxRecDepth 100000 in
abbrev rmX4_otherwise : Room := { frames := 6, cells := 0, slots := 0, locals := 141 }
set_option maxHeartbeats 4000000 in
set_option maxRecDepth 100000 in
theorem rX4_otherwise_2 (B : hg_B p s m args meth c cX4_otherwise RX4 wsL_law 3 D cI cA ad 0 A) (hr : meth.sig.returnType = (some .int)) {w1 : hg_W} {r1 : Int} : ∀ (n : Nat), ∀ (w : hg_W) (x1 : Int) (x2 : Int), fX4_otherwise_2 n w x1 x2 = some (w1, r1) → hg_At p l e (rmX4_otherwise) s m args below meth c D cI cA ad 0 A (MQ below (hg_Qi D cI cA ad 0 A w1 r1) args s 0 0 A) 3 w [(0, .ref (ad 0)), (1, .int (hg_I x1)), (2, .int (hg_I x2))] 2 [] := by
  intro n
  induction n with
  | zero =>
    intro w x1 x2 h
    cases h
  | succ n ih =>
    intro w x1 x2 h
    simp only [fX4_otherwise_2] at h
    refine z_iload_n B 2 dX4_otherwise_2 rfl rfl ?_
    refine z_aload_n B 0 dX4_otherwise_3 rfl rfl ?_
    refine z_get4 (v := .ref (ad 46)) B 6 dX4_otherwise_4 inlX4 (by decide) rfl (by decide) (wl_2 6 rfl) rfl rfl ?_
    refine z_get1 (v := .ref (ad 48)) B 1 dX4_otherwise_7 inlX1 (by decide) rfl (by decide) (wl_29 3 rfl) rfl rfl ?_
    refine z_iload_n B 1 dX4_otherwise_10 rfl rfl ?_
    obtain ⟨v1, q2, h⟩ := Option.bind_eq_some_iff.mp h
    refine z_iald (Or.inl rfl) B dX4_otherwise_11 q2 ?_
    refine z_icmp_ge (tgt := 46) B dX4_otherwise_12 (by decide) h (fun h => ?_) (fun h => ?_)
    · refine z_iconst B dX4_otherwise_46 ?_
      exact z_iret B hr dX4_otherwise_47 h
    · refine z_aload_n B 0 dX4_otherwise_15 rfl rfl ?_
      refine z_get4 (v := .ref (ad 28)) B 3 dX4_otherwise_16 inlX4 (by decide) rfl (by decide) (wl_2 0 rfl) rfl rfl ?_
      obtain ⟨w3, v4, q5, h⟩ := hg_bd_some h
      refine z_calliV (a := 28) (ci := 0) (N := 14) (T := TX0) (C := RX0) (As := []) (n := 0) B dX4_otherwise_19 (c_X0_goOn (by unfold hg_rd; decide) q5) (gl_V (wl_21 3 rfl) (wl_21 4 rfl) (wl_21 5 rfl) (wl_1 22 rfl) (wl_21 6 rfl)) rfl ⟨rfl, rfl⟩ (by decide +kernel) ⟨Nat.le_of_ble_eq_true rfl, Nat.le_of_ble_eq_true rfl⟩ (by decide) rfl (by decide) rfl rfl rfl (Nat.le_of_ble_eq_true rfl) ?_
      refine z_iconst B dX4_otherwise_22 ?_
      refine z_iadd B dX4_otherwise_23 ?_
      refine z_aload_n B 0 dX4_otherwise_24 rfl rfl ?_
      refine z_get4 (v := .ref (ad 46)) B 6 dX4_otherwise_25 inlX4 (by decide) rfl (by decide) (wl_2 6 rfl) rfl rfl ?_
      refine z_get1 (v := .ref (ad 49)) B 2 dX4_otherwise_28 inlX1 (by decide) rfl (by decide) (wl_29 4 rfl) rfl rfl ?_
      refine z_iload_n B 1 dX4_otherwise_31 rfl rfl ?_
      obtain ⟨c6, q7, h⟩ := Option.bind_eq_some_iff.mp h
      refine z_aald B rfl dX4_otherwise_32 q7 ?_
      refine z_iload_n B 2 dX4_otherwise_33 rfl rfl ?_
      obtain ⟨v8, q9, h⟩ := Option.bind_eq_some_iff.mp h
      refine z_iald (Or.inl rfl) B dX4_otherwise_34 q9 ?_
      refine z_icmp_eq (tgt := 40) B dX4_otherwise_35 (by decide) h (fun h => ?_) (fun h => ?_)
      · refine z_iinc B 2 [(2, .int (hg_I (x2 + 1))), (0, .ref (ad 0)), (1, .int (hg_I x1))] dX4_otherwise_40 rfl (by decide) rfl ?_
        refine z_goto (tgt := 2) B dX4_otherwise_43 (by decide) ?_
        refine z_lv (lv' := [(0, .ref (ad 0)), (1, .int (hg_I x1)), (2, .int (hg_I (x2 + 1)))]) B [1, 2, 0] rfl ?_
        exact ih _ _ _ h
      · refine z_iload_n B 2 dX4_otherwise_38 rfl rfl ?_
        exact z_iret B hr dX4_otherwise_39 h
set_option maxHeartbeats 4000000 in
set_option maxRecDepth 100000 in
theorem rX4_otherwise_E (B : hg_B p s m args meth c cX4_otherwise RX4 wsL_law 3 D cI cA ad 0 A) (hr : meth.sig.returnType = (some .int)) {a1 : Int} {w1 : hg_W} {r1 : Int} {w : hg_W} (h : fX4_otherwise w a1 = some (w1, r1)) : hg_At p l e (rmX4_otherwise) s m args below meth c D cI cA ad 0 A (MQ below (hg_Qi D cI cA ad 0 A w1 r1) args s 0 0 A) 3 w [(0, .ref (ad 0)), (1, .int (hg_I a1))] 0 [] := by
  unfold fX4_otherwise at h
  refine z_iconst B dX4_otherwise_0 ?_
  refine z_istore_n B [(2, .int (hg_I 0)), (0, .ref (ad 0)), (1, .int (hg_I a1))] dX4_otherwise_1 rfl (by decide) rfl ?_
  refine z_lv (lv' := [(0, .ref (ad 0)), (1, .int (hg_I a1)), (2, .int (hg_I 0))]) B [1, 2, 0] rfl ?_
  exact rX4_otherwise_2 B hr hg_F _ _ _ h
set_option maxHeartbeats 4000000 in
set_option maxRecDepth 100000 in
theorem c_X4_otherwise {l : Launch} {D : va_G} {cI cA : ClassId} {ad : Nat → Nat} {a1 : Int} {w w1 : hg_W} {r1 : Int} (h : fX4_otherwise w a1 = some (w1, r1)) : hg_Mi l yX4_otherwise wxX4_otherwise rmX4_otherwise D cI cA ad 0 w [.ref (ad 0), .int (hg_I a1)] w1 r1 := by
  refine z_meti cX4_otherwise 3 (some .int) (by decide) (Nat.le_of_ble_eq_true rfl) ?_
  intro p e s m args below meth c A B hr
  exact rX4_otherwise_E B hr h
abbrev wxX4_judge : List Cond := Cond.code yX4_judge cX4_judge 3 (some .int) :: wsL_law
def fX4_judge (w : hg_W) (a1 : Int) : Option (hg_W × Int) :=
  hg_bd (fX1_refusalToTell w a1) fun w1 v2 =>
  if wr v2 = 0 then
    (
      hg_bd (fX0_become 28 w1 19) fun w4 _ =>
      hg_bd (fX4_otherwise w4 a1) fun w7 v8 =>
      some (w7, wr v8)
    )
  else
    some (w1, wr v2)
set_option maxHeartbeats 4000000 in
set_option maxRecDepth 100000 in
abbrev rmX4_judge : Room := { frames := 7, cells := 0, slots := 0, locals := 163 }
set_option maxHeartbeats 4000000 in
set_option maxRecDepth 100000 in
theorem rX4_judge_E (B : hg_B p s m args meth c cX4_judge RX4 wsL_law 3 D cI cA ad 0 A) (hr : meth.sig.returnType = (some .int)) {a1 : Int} {w1 : hg_W} {r1 : Int} {w : hg_W} (h : fX4_judge w a1 = some (w1, r1)) : hg_At p l e (rmX4_judge) s m args below meth c D cI cA ad 0 A (MQ below (hg_Qi D cI cA ad 0 A w1 r1) args s 0 0 A) 3 w [(0, .ref (ad 0)), (1, .int (hg_I a1))] 0 [] := by
  unfold fX4_judge at h
  refine z_aload_n B 0 dX4_judge_0 rfl rfl ?_
  refine z_get4 (v := .ref (ad 46)) B 6 dX4_judge_1 inlX4 (by decide) rfl (by decide) (wl_2 6 rfl) rfl rfl ?_
  refine z_iload_n B 1 dX4_judge_4 rfl rfl ?_
  obtain ⟨w1, v2, q3, h⟩ := hg_bd_some h
  refine z_calliV (a := 46) (ci := 1) (N := 3) (T := TX1) (C := RX1) (As := [.int (hg_I a1)]) (n := 1) B dX4_judge_5 (c_X1_refusalToTell q3) (gl_V (wl_28 13 rfl) (wl_28 14 rfl) (wl_28 15 rfl) (wl_2 5 rfl) (wl_28 16 rfl)) rfl ⟨rfl, rfl⟩ (by decide +kernel) ⟨Nat.le_of_ble_eq_true rfl, Nat.le_of_ble_eq_true rfl⟩ (by decide) rfl (by decide) rfl rfl rfl (Nat.le_of_ble_eq_true rfl) ?_
  refine z_istore_n B [(2, .int (hg_I v2)), (0, .ref (ad 0)), (1, .int (hg_I a1))] dX4_judge_8 rfl (by decide) rfl ?_
  refine z_iload_n B 0 dX4_judge_9 rfl rfl ?_
  refine z_if_eq (tgt := 15) B dX4_judge_10 (by decide) h (fun h => ?_) (fun h => ?_)
  · refine z_aload_n B 1 dX4_judge_15 rfl rfl ?_
    refine z_get4 (v := .ref (ad 28)) B 3 dX4_judge_16 inlX4 (by decide) rfl (by decide) (wl_2 0 rfl) rfl rfl ?_
    refine z_aload_n B 1 dX4_judge_19 rfl rfl ?_
    refine z_get4 (v := .ref (ad 19)) B 2 dX4_judge_20 inlX4 (by decide) rfl (by decide) (wl_1 23 rfl) rfl rfl ?_
    obtain ⟨w4, v5, q6, h⟩ := hg_bd_some h
    refine z_callvV (a := 28) (ci := 0) (N := 14) (T := TX0) (C := RX0) (As := [.ref (ad 19)]) (n := 1) B dX4_judge_23 (c_X0_become (by unfold hg_rd; decide) (by unfold hg_rd; decide) q6) (gl_V (wl_23 1 rfl) (wl_23 2 rfl) (wl_23 3 rfl) (wl_1 22 rfl) (wl_23 4 rfl)) rfl ⟨rfl, rfl⟩ (by decide +kernel) ⟨Nat.le_of_ble_eq_true rfl, Nat.le_of_ble_eq_true rfl⟩ (by decide) rfl (by decide) rfl rfl rfl (Nat.le_of_ble_eq_true rfl) ?_
    refine z_aload_n B 1 dX4_judge_26 rfl rfl ?_
    refine z_iload_n B 2 dX4_judge_27 rfl rfl ?_
    obtain ⟨w7, v8, q9, h⟩ := hg_bd_some h
    refine z_calliV (a := 0) (ci := 4) (N := 9) (T := TX4) (C := RX4) (As := [.int (hg_I a1)]) (n := 1) B dX4_judge_28 (c_X4_otherwise q9) (gl_V (wl_28 23 rfl) (wl_29 0 rfl) (wl_29 1 rfl) (wl_1 2 rfl) (wl_29 2 rfl)) rfl ⟨rfl, rfl⟩ (by decide +kernel) ⟨Nat.le_of_ble_eq_true rfl, Nat.le_of_ble_eq_true rfl⟩ (by decide) rfl (by decide) rfl rfl rfl (Nat.le_of_ble_eq_true rfl) ?_
    exact z_iret B hr dX4_judge_31 h
  · refine z_iload_n B 0 dX4_judge_13 rfl rfl ?_
    exact z_iret B hr dX4_judge_14 h
set_option maxHeartbeats 4000000 in
set_option maxRecDepth 100000 in
theorem c_X4_judge {l : Launch} {D : va_G} {cI cA : ClassId} {ad : Nat → Nat} {a1 : Int} {w w1 : hg_W} {r1 : Int} (h : fX4_judge w a1 = some (w1, r1)) : hg_Mi l yX4_judge wxX4_judge rmX4_judge D cI cA ad 0 w [.ref (ad 0), .int (hg_I a1)] w1 r1 := by
  refine z_meti cX4_judge 3 (some .int) (by decide) (Nat.le_of_ble_eq_true rfl) ?_
  intro p e s m args below meth c A B hr
  exact rX4_judge_E B hr h
abbrev wxX4_refusalOfOne : List Cond := Cond.code yX4_refusalOfOne cX4_refusalOfOne 5 (some .int) :: wsL_law
def fX4_refusalOfOne_34   (w : hg_W) : Option (hg_W × Int) :=
  some (w, wr (-7))
def fX4_refusalOfOne (w : hg_W) (a1 : Int) (a2 : Int) (a3 : Int) : Option (hg_W × Int) :=
  hg_bd (fX1_refusalToTell w a1) fun w1 v2 =>
  if wr v2 = 0 then
    (
      if wr a2 = 0 then
        (
          some (w1, wr (-5))
        )
      else
        if wr a3 < 0 then
          (
            fX4_refusalOfOne_34 w1
          )
        else
          if wr a3 ≤ wr 1 then
            (
              some (w1, wr 0)
            )
          else
            fX4_refusalOfOne_34 w1
    )
  else
    some (w1, wr v2)
set_option maxHeartbeats 4000000 in
set_option maxRecDepth 100000 in
abbrev rmX4_refusalOfOne : Room := { frames := 2, cells := 0, slots := 0, locals := 42 }
set_option maxHeartbeats 4000000 in
set_option maxRecDepth 100000 in
theorem rX4_refusalOfOne_34 (B : hg_B p s m args meth c cX4_refusalOfOne RX4 wsL_law 5 D cI cA ad 0 A) (hr : meth.sig.returnType = (some .int)) {w1 : hg_W} {r1 : Int} : ∀ (w : hg_W), fX4_refusalOfOne_34 w = some (w1, r1) → hg_At p l e (rmX4_refusalOfOne) s m args below meth c D cI cA ad 0 A (MQ below (hg_Qi D cI cA ad 0 A w1 r1) args s 0 0 A) 5 w [] 34 [] := by
  intro w h
  unfold fX4_refusalOfOne_34 at h
  refine z_bipush B dX4_refusalOfOne_34 (by decide) ?_
  refine z_goto (tgt := 40) B dX4_refusalOfOne_36 (by decide) ?_
  exact z_iret B hr dX4_refusalOfOne_40 h
set_option maxHeartbeats 4000000 in
set_option maxRecDepth 100000 in
theorem rX4_refusalOfOne_E (B : hg_B p s m args meth c cX4_refusalOfOne RX4 wsL_law 5 D cI cA ad 0 A) (hr : meth.sig.returnType = (some .int)) {a1 : Int} {a2 : Int} {a3 : Int} {w1 : hg_W} {r1 : Int} {w : hg_W} (h : fX4_refusalOfOne w a1 a2 a3 = some (w1, r1)) : hg_At p l e (rmX4_refusalOfOne) s m args below meth c D cI cA ad 0 A (MQ below (hg_Qi D cI cA ad 0 A w1 r1) args s 0 0 A) 5 w [(0, .ref (ad 0)), (1, .int (hg_I a1)), (2, .int (hg_I a2)), (3, .int (hg_I a3))] 0 [] := by
  unfold fX4_refusalOfOne at h
  refine z_aload_n B 0 dX4_refusalOfOne_0 rfl rfl ?_
  refine z_get4 (v := .ref (ad 46)) B 6 dX4_refusalOfOne_1 inlX4 (by decide) rfl (by decide) (wl_2 6 rfl) rfl rfl ?_
  refine z_iload_n B 1 dX4_refusalOfOne_4 rfl rfl ?_
  obtain ⟨w1, v2, q3, h⟩ := hg_bd_some h
  refine z_calliV (a := 46) (ci := 1) (N := 3) (T := TX1) (C := RX1) (As := [.int (hg_I a1)]) (n := 1) B dX4_refusalOfOne_5 (c_X1_refusalToTell q3) (gl_V (wl_28 13 rfl) (wl_28 14 rfl) (wl_28 15 rfl) (wl_2 5 rfl) (wl_28 16 rfl)) rfl ⟨rfl, rfl⟩ (by decide +kernel) ⟨Nat.le_of_ble_eq_true rfl, Nat.le_of_ble_eq_true rfl⟩ (by decide) rfl (by decide) rfl rfl rfl (Nat.le_of_ble_eq_true rfl) ?_
  refine z_istore B [(4, .int (hg_I v2)), (0, .ref (ad 0)), (1, .int (hg_I a1)), (2, .int (hg_I a2)), (3, .int (hg_I a3))] dX4_refusalOfOne_8 (by decide) rfl ?_
  refine z_iload B 0 dX4_refusalOfOne_10 rfl ?_
  refine z_if_eq (tgt := 18) B dX4_refusalOfOne_12 (by decide) h (fun h => ?_) (fun h => ?_)
  · refine z_iload_n B 3 dX4_refusalOfOne_18 rfl rfl ?_
    refine z_if_ne (tgt := 25) B dX4_refusalOfOne_19 (by decide) h (fun h => ?_) (fun h => ?_)
    · refine z_iload_n B 4 dX4_refusalOfOne_25 rfl rfl ?_
      refine z_if_lt (tgt := 34) B dX4_refusalOfOne_26 (by decide) h (fun h => ?_) (fun h => ?_)
      · refine z_lv (lv' := []) B [] rfl ?_
        exact rX4_refusalOfOne_34 B hr _ h
      · refine z_iload_n B 4 dX4_refusalOfOne_29 rfl rfl ?_
        refine z_iconst B dX4_refusalOfOne_30 ?_
        refine z_icmp_le (tgt := 39) B dX4_refusalOfOne_31 (by decide) h (fun h => ?_) (fun h => ?_)
        · refine z_iconst B dX4_refusalOfOne_39 ?_
          exact z_iret B hr dX4_refusalOfOne_40 h
        · refine z_lv (lv' := []) B [] rfl ?_
          exact rX4_refusalOfOne_34 B hr _ h
    · refine z_bipush B dX4_refusalOfOne_22 (by decide) ?_
      exact z_iret B hr dX4_refusalOfOne_24 h
  · refine z_iload B 0 dX4_refusalOfOne_15 rfl ?_
    exact z_iret B hr dX4_refusalOfOne_17 h
set_option maxHeartbeats 4000000 in
set_option maxRecDepth 100000 in
theorem c_X4_refusalOfOne {l : Launch} {D : va_G} {cI cA : ClassId} {ad : Nat → Nat} {a1 : Int} {a2 : Int} {a3 : Int} {w w1 : hg_W} {r1 : Int} (h : fX4_refusalOfOne w a1 a2 a3 = some (w1, r1)) : hg_Mi l yX4_refusalOfOne wxX4_refusalOfOne rmX4_refusalOfOne D cI cA ad 0 w [.ref (ad 0), .int (hg_I a1), .int (hg_I a2), .int (hg_I a3)] w1 r1 := by
  refine z_meti cX4_refusalOfOne 5 (some .int) (by decide) (Nat.le_of_ble_eq_true rfl) ?_
  intro p e s m args below meth c A B hr
  exact rX4_refusalOfOne_E B hr h
abbrev wxX4_kinds : List Cond := Cond.code yX4_kinds cX4_kinds 7 (some .int) :: wsL_law
def fX4_kinds_100 (K27 : hg_W → Int → Int → Int → Int → Int → Option (hg_W × Int))  (w : hg_W) (x1 : Int) (x2 : Int) (x3 : Int) (x5 : Int) (x6 : Int) : Option (hg_W × Int) :=
  K27 w x1 x2 x3 x5 (x6 + 1)
def fX4_kinds_83 (K27 : hg_W → Int → Int → Int → Int → Int → Option (hg_W × Int))  (w : hg_W) (x1 : Int) (x2 : Int) (x3 : Int) (x5 : Int) (x6 : Int) : Option (hg_W × Int) :=
  hg_bd (fX4_otherwise w x1) fun w1 v2 =>
  if 0 ≤ wr v2 then
    (
      fX4_kinds_100 K27 w1 x1 x2 x3 x5 x6
    )
  else
    fX4_kinds_100 K27 w1 x1 x2 x3 (hg_or x5 (hg_shl 1 x6)) x6
def fX4_kinds_40 (K27 : hg_W → Int → Int → Int → Int → Int → Option (hg_W × Int))  (w : hg_W) (x1 : Int) (x2 : Int) (x3 : Int) (x5 : Int) (x6 : Int) (s0 : Int) (s1 : Int) : Option (hg_W × Int) :=
  if wr s1 ≤ wr s0 then
    (
      some (w, wr x5)
    )
  else
    hg_bd (fX0_become 28 w 19) fun w1 _ =>
    if wr x3 = 0 then
      (
        (hg_as 0 w1 31 x2 x6).bind fun w6 =>
        fX4_kinds_83 K27 w6 x1 x2 x3 x5 x6
      )
    else
      (hg_as 0 w1 32 x2 x6).bind fun w4 =>
      fX4_kinds_83 K27 w4 x1 x2 x3 x5 x6
def fX4_kinds_27   : Nat → hg_W → Int → Int → Int → Int → Int → Option (hg_W × Int)
  | 0, _, _, _, _, _, _ => none
  | n + 1, w, x1, x2, x3, x5, x6 =>
    if wr x3 = 0 then
      (
        fX4_kinds_40 (fX4_kinds_27 n) w x1 x2 x3 x5 x6 x6 6
      )
    else
      fX4_kinds_40 (fX4_kinds_27 n) w x1 x2 x3 x5 x6 x6 10
def fX4_kinds (w : hg_W) (a1 : Int) (a2 : Int) (a3 : Int) : Option (hg_W × Int) :=
  hg_bd (fX4_isThere w a2) fun w1 v2 =>
  hg_bd (fX4_refusalOfOne w1 a1 v2 a3) fun w4 v5 =>
  if wr v5 = 0 then
    (
      fX4_kinds_27 hg_F w4 a1 a2 a3 0 0
    )
  else
    some (w4, wr v5)
set_option maxHeartbeats 4000000 in
set_option maxRecDepth 100000 in
abbrev rmX4_kinds : Room := { frames := 7, cells := 0, slots := 0, locals := 163 }
set_option maxHeartbeats 4000000 in
set_option maxRecDepth 100000 in
theorem rX4_kinds_100 (B : hg_B p s m args meth c cX4_kinds RX4 wsL_law 7 D cI cA ad 0 A) (hr : meth.sig.returnType = (some .int)) {w1 : hg_W} {r1 : Int} {K27 : hg_W → Int → Int → Int → Int → Int → Option (hg_W × Int)} (hK27 : ∀ (w : hg_W) (x1 : Int) (x2 : Int) (x3 : Int) (x5 : Int) (x6 : Int), K27 w x1 x2 x3 x5 x6 = some (w1, r1) → hg_At p l e (rmX4_kinds) s m args below meth c D cI cA ad 0 A (MQ below (hg_Qi D cI cA ad 0 A w1 r1) args s 0 0 A) 7 w [(0, .ref (ad 0)), (1, .int (hg_I x1)), (2, .int (hg_I x2)), (3, .int (hg_I x3)), (5, .int (hg_I x5)), (6, .int (hg_I x6))] 27 []) : ∀ (w : hg_W) (x1 : Int) (x2 : Int) (x3 : Int) (x5 : Int) (x6 : Int), fX4_kinds_100 K27 w x1 x2 x3 x5 x6 = some (w1, r1) → hg_At p l e (rmX4_kinds) s m args below meth c D cI cA ad 0 A (MQ below (hg_Qi D cI cA ad 0 A w1 r1) args s 0 0 A) 7 w [(0, .ref (ad 0)), (1, .int (hg_I x1)), (2, .int (hg_I x2)), (3, .int (hg_I x3)), (5, .int (hg_I x5)), (6, .int (hg_I x6))] 100 [] := by
  intro w x1 x2 x3 x5 x6 h
  unfold fX4_kinds_100 at h
  refine z_iinc B 5 [(6, .int (hg_I (x6 + 1))), (0, .ref (ad 0)), (1, .int (hg_I x1)), (2, .int (hg_I x2)), (3, .int (hg_I x3)), (5, .int (hg_I x5))] dX4_kinds_100 rfl (by decide) rfl ?_
  refine z_goto (tgt := 27) B dX4_kinds_103 (by decide) ?_
  refine z_lv (lv' := [(0, .ref (ad 0)), (1, .int (hg_I x1)), (2, .int (hg_I x2)), (3, .int (hg_I x3)), (5, .int (hg_I x5)), (6, .int (hg_I (x6 + 1)))]) B [1, 2, 3, 4, 5, 0] rfl ?_
  exact hK27 _ _ _ _ _ _ h
set_option maxHeartbeats 4000000 in
set_option maxRecDepth 100000 in
theorem rX4_kinds_83 (B : hg_B p s m args meth c cX4_kinds RX4 wsL_law 7 D cI cA ad 0 A) (hr : meth.sig.returnType = (some .int)) {w1 : hg_W} {r1 : Int} {K27 : hg_W → Int → Int → Int → Int → Int → Option (hg_W × Int)} (hK27 : ∀ (w : hg_W) (x1 : Int) (x2 : Int) (x3 : Int) (x5 : Int) (x6 : Int), K27 w x1 x2 x3 x5 x6 = some (w1, r1) → hg_At p l e (rmX4_kinds) s m args below meth c D cI cA ad 0 A (MQ below (hg_Qi D cI cA ad 0 A w1 r1) args s 0 0 A) 7 w [(0, .ref (ad 0)), (1, .int (hg_I x1)), (2, .int (hg_I x2)), (3, .int (hg_I x3)), (5, .int (hg_I x5)), (6, .int (hg_I x6))] 27 []) : ∀ (w : hg_W) (x1 : Int) (x2 : Int) (x3 : Int) (x5 : Int) (x6 : Int), fX4_kinds_83 K27 w x1 x2 x3 x5 x6 = some (w1, r1) → hg_At p l e (rmX4_kinds) s m args below meth c D cI cA ad 0 A (MQ below (hg_Qi D cI cA ad 0 A w1 r1) args s 0 0 A) 7 w [(0, .ref (ad 0)), (1, .int (hg_I x1)), (2, .int (hg_I x2)), (3, .int (hg_I x3)), (5, .int (hg_I x5)), (6, .int (hg_I x6))] 83 [] := by
  intro w x1 x2 x3 x5 x6 h
  unfold fX4_kinds_83 at h
  refine z_aload_n B 0 dX4_kinds_83 rfl rfl ?_
  refine z_iload_n B 1 dX4_kinds_84 rfl rfl ?_
  obtain ⟨w1, v2, q3, h⟩ := hg_bd_some h
  refine z_calliV (a := 0) (ci := 4) (N := 9) (T := TX4) (C := RX4) (As := [.int (hg_I x1)]) (n := 1) B dX4_kinds_85 (c_X4_otherwise q3) (gl_V (wl_28 23 rfl) (wl_29 0 rfl) (wl_29 1 rfl) (wl_1 2 rfl) (wl_29 2 rfl)) rfl ⟨rfl, rfl⟩ (by decide +kernel) ⟨Nat.le_of_ble_eq_true rfl, Nat.le_of_ble_eq_true rfl⟩ (by decide) rfl (by decide) rfl rfl rfl (Nat.le_of_ble_eq_true rfl) ?_
  refine z_if_ge (tgt := 100) B dX4_kinds_88 (by decide) h (fun h => ?_) (fun h => ?_)
  · exact rX4_kinds_100 B hr hK27 _ _ _ _ _ _ h
  · refine z_iload B 4 dX4_kinds_91 rfl ?_
    refine z_iconst B dX4_kinds_93 ?_
    refine z_iload B 5 dX4_kinds_94 rfl ?_
    refine z_ishl B dX4_kinds_96 ?_
    refine z_ior B dX4_kinds_97 ?_
    refine z_istore B [(5, .int (hg_I (hg_or x5 (hg_shl 1 x6)))), (0, .ref (ad 0)), (1, .int (hg_I x1)), (2, .int (hg_I x2)), (3, .int (hg_I x3)), (6, .int (hg_I x6))] dX4_kinds_98 (by decide) rfl ?_
    refine z_lv (lv' := [(0, .ref (ad 0)), (1, .int (hg_I x1)), (2, .int (hg_I x2)), (3, .int (hg_I x3)), (5, .int (hg_I (hg_or x5 (hg_shl 1 x6)))), (6, .int (hg_I x6))]) B [1, 2, 3, 4, 0, 5] rfl ?_
    exact rX4_kinds_100 B hr hK27 _ _ _ _ _ _ h
set_option maxHeartbeats 4000000 in
set_option maxRecDepth 100000 in
theorem rX4_kinds_40 (B : hg_B p s m args meth c cX4_kinds RX4 wsL_law 7 D cI cA ad 0 A) (hr : meth.sig.returnType = (some .int)) {w1 : hg_W} {r1 : Int} {K27 : hg_W → Int → Int → Int → Int → Int → Option (hg_W × Int)} (hK27 : ∀ (w : hg_W) (x1 : Int) (x2 : Int) (x3 : Int) (x5 : Int) (x6 : Int), K27 w x1 x2 x3 x5 x6 = some (w1, r1) → hg_At p l e (rmX4_kinds) s m args below meth c D cI cA ad 0 A (MQ below (hg_Qi D cI cA ad 0 A w1 r1) args s 0 0 A) 7 w [(0, .ref (ad 0)), (1, .int (hg_I x1)), (2, .int (hg_I x2)), (3, .int (hg_I x3)), (5, .int (hg_I x5)), (6, .int (hg_I x6))] 27 []) : ∀ (w : hg_W) (x1 : Int) (x2 : Int) (x3 : Int) (x5 : Int) (x6 : Int) (s0 : Int) (s1 : Int), fX4_kinds_40 K27 w x1 x2 x3 x5 x6 s0 s1 = some (w1, r1) → hg_At p l e (rmX4_kinds) s m args below meth c D cI cA ad 0 A (MQ below (hg_Qi D cI cA ad 0 A w1 r1) args s 0 0 A) 7 w [(0, .ref (ad 0)), (1, .int (hg_I x1)), (2, .int (hg_I x2)), (3, .int (hg_I x3)), (5, .int (hg_I x5)), (6, .int (hg_I x6))] 40 [.int (hg_I s1), .int (hg_I s0)] := by
  intro w x1 x2 x3 x5 x6 s0 s1 h
  unfold fX4_kinds_40 at h
  refine z_icmp_ge (tgt := 106) B dX4_kinds_40 (by decide) h (fun h => ?_) (fun h => ?_)
  · refine z_iload B 4 dX4_kinds_106 rfl ?_
    exact z_iret B hr dX4_kinds_108 h
  · refine z_aload_n B 0 dX4_kinds_43 rfl rfl ?_
    refine z_get4 (v := .ref (ad 28)) B 3 dX4_kinds_44 inlX4 (by decide) rfl (by decide) (wl_2 0 rfl) rfl rfl ?_
    refine z_aload_n B 0 dX4_kinds_47 rfl rfl ?_
    refine z_get4 (v := .ref (ad 19)) B 2 dX4_kinds_48 inlX4 (by decide) rfl (by decide) (wl_1 23 rfl) rfl rfl ?_
    obtain ⟨w1, v2, q3, h⟩ := hg_bd_some h
    refine z_callvV (a := 28) (ci := 0) (N := 14) (T := TX0) (C := RX0) (As := [.ref (ad 19)]) (n := 1) B dX4_kinds_51 (c_X0_become (by unfold hg_rd; decide) (by unfold hg_rd; decide) q3) (gl_V (wl_23 1 rfl) (wl_23 2 rfl) (wl_23 3 rfl) (wl_1 22 rfl) (wl_23 4 rfl)) rfl ⟨rfl, rfl⟩ (by decide +kernel) ⟨Nat.le_of_ble_eq_true rfl, Nat.le_of_ble_eq_true rfl⟩ (by decide) rfl (by decide) rfl rfl rfl (Nat.le_of_ble_eq_true rfl) ?_
    refine z_iload_n B 3 dX4_kinds_54 rfl rfl ?_
    refine z_if_ne (tgt := 72) B dX4_kinds_55 (by decide) h (fun h => ?_) (fun h => ?_)
    · refine z_aload_n B 0 dX4_kinds_72 rfl rfl ?_
      refine z_get4 (v := .ref (ad 28)) B 3 dX4_kinds_73 inlX4 (by decide) rfl (by decide) (wl_2 0 rfl) rfl rfl ?_
      refine z_get0 (v := .ref (ad 32)) B 4 dX4_kinds_76 inlX0 (by decide) rfl (by decide) (wl_19 1 rfl) rfl rfl ?_
      refine z_iload_n B 2 dX4_kinds_79 rfl rfl ?_
      refine z_iload B 5 dX4_kinds_80 rfl ?_
      obtain ⟨w4, q5, h⟩ := Option.bind_eq_some_iff.mp h
      refine z_iast (Or.inl rfl) B dX4_kinds_82 q5 ?_
      exact rX4_kinds_83 B hr hK27 _ _ _ _ _ _ h
    · refine z_aload_n B 0 dX4_kinds_58 rfl rfl ?_
      refine z_get4 (v := .ref (ad 28)) B 3 dX4_kinds_59 inlX4 (by decide) rfl (by decide) (wl_2 0 rfl) rfl rfl ?_
      refine z_get0 (v := .ref (ad 31)) B 3 dX4_kinds_62 inlX0 (by decide) rfl (by decide) (wl_19 0 rfl) rfl rfl ?_
      refine z_iload_n B 2 dX4_kinds_65 rfl rfl ?_
      refine z_iload B 5 dX4_kinds_66 rfl ?_
      obtain ⟨w6, q7, h⟩ := Option.bind_eq_some_iff.mp h
      refine z_iast (Or.inl rfl) B dX4_kinds_68 q7 ?_
      refine z_goto (tgt := 83) B dX4_kinds_69 (by decide) ?_
      exact rX4_kinds_83 B hr hK27 _ _ _ _ _ _ h
set_option maxHeartbeats 4000000 in
set_option maxRecDepth 100000 in
theorem rX4_kinds_27 (B : hg_B p s m args meth c cX4_kinds RX4 wsL_law 7 D cI cA ad 0 A) (hr : meth.sig.returnType = (some .int)) {w1 : hg_W} {r1 : Int} : ∀ (n : Nat), ∀ (w : hg_W) (x1 : Int) (x2 : Int) (x3 : Int) (x5 : Int) (x6 : Int), fX4_kinds_27 n w x1 x2 x3 x5 x6 = some (w1, r1) → hg_At p l e (rmX4_kinds) s m args below meth c D cI cA ad 0 A (MQ below (hg_Qi D cI cA ad 0 A w1 r1) args s 0 0 A) 7 w [(0, .ref (ad 0)), (1, .int (hg_I x1)), (2, .int (hg_I x2)), (3, .int (hg_I x3)), (5, .int (hg_I x5)), (6, .int (hg_I x6))] 27 [] := by
  intro n
  induction n with
  | zero =>
    intro w x1 x2 x3 x5 x6 h
    cases h
  | succ n ih =>
    intro w x1 x2 x3 x5 x6 h
    simp only [fX4_kinds_27] at h
    refine z_iload B 5 dX4_kinds_27 rfl ?_
    refine z_iload_n B 3 dX4_kinds_29 rfl rfl ?_
    refine z_if_ne (tgt := 38) B dX4_kinds_30 (by decide) h (fun h => ?_) (fun h => ?_)
    · refine z_bipush B dX4_kinds_38 (by decide) ?_
      exact rX4_kinds_40 B hr ih _ _ _ _ _ _ _ _ h
    · refine z_bipush B dX4_kinds_33 (by decide) ?_
      refine z_goto (tgt := 40) B dX4_kinds_35 (by decide) ?_
      exact rX4_kinds_40 B hr ih _ _ _ _ _ _ _ _ h
set_option maxHeartbeats 4000000 in
set_option maxRecDepth 100000 in
theorem rX4_kinds_E (B : hg_B p s m args meth c cX4_kinds RX4 wsL_law 7 D cI cA ad 0 A) (hr : meth.sig.returnType = (some .int)) {a1 : Int} {a2 : Int} {a3 : Int} {w1 : hg_W} {r1 : Int} {w : hg_W} (h : fX4_kinds w a1 a2 a3 = some (w1, r1)) : hg_At p l e (rmX4_kinds) s m args below meth c D cI cA ad 0 A (MQ below (hg_Qi D cI cA ad 0 A w1 r1) args s 0 0 A) 7 w [(0, .ref (ad 0)), (1, .int (hg_I a1)), (2, .int (hg_I a2)), (3, .int (hg_I a3))] 0 [] := by
  unfold fX4_kinds at h
  refine z_aload_n B 0 dX4_kinds_0 rfl rfl ?_
  refine z_iload_n B 1 dX4_kinds_1 rfl rfl ?_
  refine z_aload_n B 0 dX4_kinds_2 rfl rfl ?_
  refine z_iload_n B 2 dX4_kinds_3 rfl rfl ?_
  obtain ⟨w1, v2, q3, h⟩ := hg_bd_some h
  refine z_calliV (a := 0) (ci := 4) (N := 9) (T := TX4) (C := RX4) (As := [.int (hg_I a2)]) (n := 1) B dX4_kinds_4 (c_X4_isThere q3) (gl_V (wl_15 22 rfl) (wl_15 23 rfl) (wl_16 0 rfl) (wl_1 2 rfl) (wl_16 1 rfl)) rfl ⟨rfl, rfl⟩ (by decide +kernel) ⟨Nat.le_of_ble_eq_true rfl, Nat.le_of_ble_eq_true rfl⟩ (by decide) rfl (by decide) rfl rfl rfl (Nat.le_of_ble_eq_true rfl) ?_
  refine z_iload_n B 3 dX4_kinds_7 rfl rfl ?_
  obtain ⟨w4, v5, q6, h⟩ := hg_bd_some h
  refine z_calliV (a := 0) (ci := 4) (N := 9) (T := TX4) (C := RX4) (As := [.int (hg_I a1), .int (hg_I v2), .int (hg_I a3)]) (n := 3) B dX4_kinds_8 (c_X4_refusalOfOne q6) (gl_V (wl_30 1 rfl) (wl_30 2 rfl) (wl_30 3 rfl) (wl_1 2 rfl) (wl_30 4 rfl)) rfl ⟨rfl, rfl⟩ (by decide +kernel) ⟨Nat.le_of_ble_eq_true rfl, Nat.le_of_ble_eq_true rfl⟩ (by decide) rfl (by decide) rfl rfl rfl (Nat.le_of_ble_eq_true rfl) ?_
  refine z_istore B [(4, .int (hg_I v5)), (0, .ref (ad 0)), (1, .int (hg_I a1)), (2, .int (hg_I a2)), (3, .int (hg_I a3))] dX4_kinds_11 (by decide) rfl ?_
  refine z_iload B 0 dX4_kinds_13 rfl ?_
  refine z_if_eq (tgt := 21) B dX4_kinds_15 (by decide) h (fun h => ?_) (fun h => ?_)
  · refine z_iconst B dX4_kinds_21 ?_
    refine z_istore B [(5, .int (hg_I 0)), (4, .int (hg_I v5)), (0, .ref (ad 0)), (1, .int (hg_I a1)), (2, .int (hg_I a2)), (3, .int (hg_I a3))] dX4_kinds_22 (by decide) rfl ?_
    refine z_iconst B dX4_kinds_24 ?_
    refine z_istore B [(6, .int (hg_I 0)), (5, .int (hg_I 0)), (4, .int (hg_I v5)), (0, .ref (ad 0)), (1, .int (hg_I a1)), (2, .int (hg_I a2)), (3, .int (hg_I a3))] dX4_kinds_25 (by decide) rfl ?_
    refine z_lv (lv' := [(0, .ref (ad 0)), (1, .int (hg_I a1)), (2, .int (hg_I a2)), (3, .int (hg_I a3)), (5, .int (hg_I 0)), (6, .int (hg_I 0))]) B [3, 4, 5, 6, 1, 0] rfl ?_
    exact rX4_kinds_27 B hr hg_F _ _ _ _ _ _ h
  · refine z_iload B 0 dX4_kinds_18 rfl ?_
    exact z_iret B hr dX4_kinds_20 h
set_option maxHeartbeats 4000000 in
set_option maxRecDepth 100000 in
theorem c_X4_kinds {l : Launch} {D : va_G} {cI cA : ClassId} {ad : Nat → Nat} {a1 : Int} {a2 : Int} {a3 : Int} {w w1 : hg_W} {r1 : Int} (h : fX4_kinds w a1 a2 a3 = some (w1, r1)) : hg_Mi l yX4_kinds wxX4_kinds rmX4_kinds D cI cA ad 0 w [.ref (ad 0), .int (hg_I a1), .int (hg_I a2), .int (hg_I a3)] w1 r1 := by
  refine z_meti cX4_kinds 7 (some .int) (by decide) (Nat.le_of_ble_eq_true rfl) ?_
  intro p e s m args below meth c A B hr
  exact rX4_kinds_E B hr h
abbrev wxX4_prides : List Cond := Cond.code yX4_prides cX4_prides 8 (some .int) :: wsL_law
def fX4_prides_73 (K31 : hg_W → Int → Int → Int → Int → Int → Int → Option (hg_W × Int))  (w : hg_W) (x1 : Int) (x2 : Int) (x3 : Int) (x5 : Int) (x6 : Int) (x7 : Int) : Option (hg_W × Int) :=
  K31 w x1 x2 x3 x5 x6 (x7 + (-1))
def fX4_prides_31   : Nat → hg_W → Int → Int → Int → Int → Int → Int → Option (hg_W × Int)
  | 0, _, _, _, _, _, _, _ => none
  | n + 1, w, x1, x2, x3, x5, x6, x7 =>
    if wr x7 < 0 then
      (
        if wr x3 = 0 then
          (
            some (w, wr x5)
          )
        else
          some (w, wr x6)
      )
    else
      hg_bd (fX0_become 28 w 19) fun w1 _ =>
      (hg_as 0 w1 33 x2 x7).bind fun w4 =>
      hg_bd (fX4_otherwise w4 x1) fun w6 v7 =>
      if 0 ≤ wr v7 then
        (
          fX4_prides_73 (fX4_prides_31 n) w6 x1 x2 x3 x5 x6 x7
        )
      else
        fX4_prides_73 (fX4_prides_31 n) w6 x1 x2 x3 (x5 + 1) x7 x7
def fX4_prides (w : hg_W) (a1 : Int) (a2 : Int) (a3 : Int) : Option (hg_W × Int) :=
  hg_bd (fX4_isThere w a2) fun w1 v2 =>
  hg_bd (fX4_refusalOfOne w1 a1 v2 a3) fun w4 v5 =>
  if wr v5 = 0 then
    (
      fX4_prides_31 hg_F w4 a1 a2 a3 0 (-1) 99
    )
  else
    some (w4, wr v5)
set_option maxHeartbeats 4000000 in
set_option maxRecDepth 100000 in
abbrev rmX4_prides : Room := { frames := 7, cells := 0, slots := 0, locals := 163 }
set_option maxHeartbeats 4000000 in
set_option maxRecDepth 100000 in
theorem rX4_prides_73 (B : hg_B p s m args meth c cX4_prides RX4 wsL_law 8 D cI cA ad 0 A) (hr : meth.sig.returnType = (some .int)) {w1 : hg_W} {r1 : Int} {K31 : hg_W → Int → Int → Int → Int → Int → Int → Option (hg_W × Int)} (hK31 : ∀ (w : hg_W) (x1 : Int) (x2 : Int) (x3 : Int) (x5 : Int) (x6 : Int) (x7 : Int), K31 w x1 x2 x3 x5 x6 x7 = some (w1, r1) → hg_At p l e (rmX4_prides) s m args below meth c D cI cA ad 0 A (MQ below (hg_Qi D cI cA ad 0 A w1 r1) args s 0 0 A) 8 w [(0, .ref (ad 0)), (1, .int (hg_I x1)), (2, .int (hg_I x2)), (3, .int (hg_I x3)), (5, .int (hg_I x5)), (6, .int (hg_I x6)), (7, .int (hg_I x7))] 31 []) : ∀ (w : hg_W) (x1 : Int) (x2 : Int) (x3 : Int) (x5 : Int) (x6 : Int) (x7 : Int), fX4_prides_73 K31 w x1 x2 x3 x5 x6 x7 = some (w1, r1) → hg_At p l e (rmX4_prides) s m args below meth c D cI cA ad 0 A (MQ below (hg_Qi D cI cA ad 0 A w1 r1) args s 0 0 A) 8 w [(0, .ref (ad 0)), (1, .int (hg_I x1)), (2, .int (hg_I x2)), (3, .int (hg_I x3)), (5, .int (hg_I x5)), (6, .int (hg_I x6)), (7, .int (hg_I x7))] 73 [] := by
  intro w x1 x2 x3 x5 x6 x7 h
  unfold fX4_prides_73 at h
  refine z_iinc B 6 [(7, .int (hg_I (x7 + (-1)))), (0, .ref (ad 0)), (1, .int (hg_I x1)), (2, .int (hg_I x2)), (3, .int (hg_I x3)), (5, .int (hg_I x5)), (6, .int (hg_I x6))] dX4_prides_73 rfl (by decide) rfl ?_
  refine z_goto (tgt := 31) B dX4_prides_76 (by decide) ?_
  refine z_lv (lv' := [(0, .ref (ad 0)), (1, .int (hg_I x1)), (2, .int (hg_I x2)), (3, .int (hg_I x3)), (5, .int (hg_I x5)), (6, .int (hg_I x6)), (7, .int (hg_I (x7 + (-1))))]) B [1, 2, 3, 4, 5, 6, 0] rfl ?_
  exact hK31 _ _ _ _ _ _ _ h
set_option maxHeartbeats 4000000 in
set_option maxRecDepth 100000 in
theorem rX4_prides_31 (B : hg_B p s m args meth c cX4_prides RX4 wsL_law 8 D cI cA ad 0 A) (hr : meth.sig.returnType = (some .int)) {w1 : hg_W} {r1 : Int} : ∀ (n : Nat), ∀ (w : hg_W) (x1 : Int) (x2 : Int) (x3 : Int) (x5 : Int) (x6 : Int) (x7 : Int), fX4_prides_31 n w x1 x2 x3 x5 x6 x7 = some (w1, r1) → hg_At p l e (rmX4_prides) s m args below meth c D cI cA ad 0 A (MQ below (hg_Qi D cI cA ad 0 A w1 r1) args s 0 0 A) 8 w [(0, .ref (ad 0)), (1, .int (hg_I x1)), (2, .int (hg_I x2)), (3, .int (hg_I x3)), (5, .int (hg_I x5)), (6, .int (hg_I x6)), (7, .int (hg_I x7))] 31 [] := by
  intro n
  induction n with
  | zero =>
    intro w x1 x2 x3 x5 x6 x7 h
    cases h
  | succ n ih =>
    intro w x1 x2 x3 x5 x6 x7 h
    simp only [fX4_prides_31] at h
    refine z_iload B 6 dX4_prides_31 rfl ?_
    refine z_if_lt (tgt := 79) B dX4_prides_33 (by decide) h (fun h => ?_) (fun h => ?_)
    · refine z_iload_n B 3 dX4_prides_79 rfl rfl ?_
      refine z_if_ne (tgt := 88) B dX4_prides_80 (by decide) h (fun h => ?_) (fun h => ?_)
      · refine z_iload B 5 dX4_prides_88 rfl ?_
        exact z_iret B hr dX4_prides_90 h
      · refine z_iload B 4 dX4_prides_83 rfl ?_
        refine z_goto (tgt := 90) B dX4_prides_85 (by decide) ?_
        exact z_iret B hr dX4_prides_90 h
    · refine z_aload_n B 0 dX4_prides_36 rfl rfl ?_
      refine z_get4 (v := .ref (ad 28)) B 3 dX4_prides_37 inlX4 (by decide) rfl (by decide) (wl_2 0 rfl) rfl rfl ?_
      refine z_aload_n B 0 dX4_prides_40 rfl rfl ?_
      refine z_get4 (v := .ref (ad 19)) B 2 dX4_prides_41 inlX4 (by decide) rfl (by decide) (wl_1 23 rfl) rfl rfl ?_
      obtain ⟨w1, v2, q3, h⟩ := hg_bd_some h
      refine z_callvV (a := 28) (ci := 0) (N := 14) (T := TX0) (C := RX0) (As := [.ref (ad 19)]) (n := 1) B dX4_prides_44 (c_X0_become (by unfold hg_rd; decide) (by unfold hg_rd; decide) q3) (gl_V (wl_23 1 rfl) (wl_23 2 rfl) (wl_23 3 rfl) (wl_1 22 rfl) (wl_23 4 rfl)) rfl ⟨rfl, rfl⟩ (by decide +kernel) ⟨Nat.le_of_ble_eq_true rfl, Nat.le_of_ble_eq_true rfl⟩ (by decide) rfl (by decide) rfl rfl rfl (Nat.le_of_ble_eq_true rfl) ?_
      refine z_aload_n B 0 dX4_prides_47 rfl rfl ?_
      refine z_get4 (v := .ref (ad 28)) B 3 dX4_prides_48 inlX4 (by decide) rfl (by decide) (wl_2 0 rfl) rfl rfl ?_
      refine z_get0 (v := .ref (ad 33)) B 5 dX4_prides_51 inlX0 (by decide) rfl (by decide) (wl_18 13 rfl) rfl rfl ?_
      refine z_iload_n B 2 dX4_prides_54 rfl rfl ?_
      refine z_iload B 6 dX4_prides_55 rfl ?_
      obtain ⟨w4, q5, h⟩ := Option.bind_eq_some_iff.mp h
      refine z_iast (Or.inl rfl) B dX4_prides_57 q5 ?_
      refine z_aload_n B 0 dX4_prides_58 rfl rfl ?_
      refine z_iload_n B 1 dX4_prides_59 rfl rfl ?_
      obtain ⟨w6, v7, q8, h⟩ := hg_bd_some h
      refine z_calliV (a := 0) (ci := 4) (N := 9) (T := TX4) (C := RX4) (As := [.int (hg_I x1)]) (n := 1) B dX4_prides_60 (c_X4_otherwise q8) (gl_V (wl_28 23 rfl) (wl_29 0 rfl) (wl_29 1 rfl) (wl_1 2 rfl) (wl_29 2 rfl)) rfl ⟨rfl, rfl⟩ (by decide +kernel) ⟨Nat.le_of_ble_eq_true rfl, Nat.le_of_ble_eq_true rfl⟩ (by decide) rfl (by decide) rfl rfl rfl (Nat.le_of_ble_eq_true rfl) ?_
      refine z_if_ge (tgt := 73) B dX4_prides_63 (by decide) h (fun h => ?_) (fun h => ?_)
      · exact rX4_prides_73 B hr ih _ _ _ _ _ _ _ h
      · refine z_iinc B 4 [(5, .int (hg_I (x5 + 1))), (0, .ref (ad 0)), (1, .int (hg_I x1)), (2, .int (hg_I x2)), (3, .int (hg_I x3)), (6, .int (hg_I x6)), (7, .int (hg_I x7))] dX4_prides_66 rfl (by decide) rfl ?_
        refine z_iload B 6 dX4_prides_69 rfl ?_
        refine z_istore B [(6, .int (hg_I x7)), (5, .int (hg_I (x5 + 1))), (0, .ref (ad 0)), (1, .int (hg_I x1)), (2, .int (hg_I x2)), (3, .int (hg_I x3)), (7, .int (hg_I x7))] dX4_prides_71 (by decide) rfl ?_
        refine z_lv (lv' := [(0, .ref (ad 0)), (1, .int (hg_I x1)), (2, .int (hg_I x2)), (3, .int (hg_I x3)), (5, .int (hg_I (x5 + 1))), (6, .int (hg_I x7)), (7, .int (hg_I x7))]) B [2, 3, 4, 5, 1, 0, 6] rfl ?_
        exact rX4_prides_73 B hr ih _ _ _ _ _ _ _ h
set_option maxHeartbeats 4000000 in
set_option maxRecDepth 100000 in
theorem rX4_prides_E (B : hg_B p s m args meth c cX4_prides RX4 wsL_law 8 D cI cA ad 0 A) (hr : meth.sig.returnType = (some .int)) {a1 : Int} {a2 : Int} {a3 : Int} {w1 : hg_W} {r1 : Int} {w : hg_W} (h : fX4_prides w a1 a2 a3 = some (w1, r1)) : hg_At p l e (rmX4_prides) s m args below meth c D cI cA ad 0 A (MQ below (hg_Qi D cI cA ad 0 A w1 r1) args s 0 0 A) 8 w [(0, .ref (ad 0)), (1, .int (hg_I a1)), (2, .int (hg_I a2)), (3, .int (hg_I a3))] 0 [] := by
  unfold fX4_prides at h
  refine z_aload_n B 0 dX4_prides_0 rfl rfl ?_
  refine z_iload_n B 1 dX4_prides_1 rfl rfl ?_
  refine z_aload_n B 0 dX4_prides_2 rfl rfl ?_
  refine z_iload_n B 2 dX4_prides_3 rfl rfl ?_
  obtain ⟨w1, v2, q3, h⟩ := hg_bd_some h
  refine z_calliV (a := 0) (ci := 4) (N := 9) (T := TX4) (C := RX4) (As := [.int (hg_I a2)]) (n := 1) B dX4_prides_4 (c_X4_isThere q3) (gl_V (wl_15 22 rfl) (wl_15 23 rfl) (wl_16 0 rfl) (wl_1 2 rfl) (wl_16 1 rfl)) rfl ⟨rfl, rfl⟩ (by decide +kernel) ⟨Nat.le_of_ble_eq_true rfl, Nat.le_of_ble_eq_true rfl⟩ (by decide) rfl (by decide) rfl rfl rfl (Nat.le_of_ble_eq_true rfl) ?_
  refine z_iload_n B 3 dX4_prides_7 rfl rfl ?_
  obtain ⟨w4, v5, q6, h⟩ := hg_bd_some h
  refine z_calliV (a := 0) (ci := 4) (N := 9) (T := TX4) (C := RX4) (As := [.int (hg_I a1), .int (hg_I v2), .int (hg_I a3)]) (n := 3) B dX4_prides_8 (c_X4_refusalOfOne q6) (gl_V (wl_30 1 rfl) (wl_30 2 rfl) (wl_30 3 rfl) (wl_1 2 rfl) (wl_30 4 rfl)) rfl ⟨rfl, rfl⟩ (by decide +kernel) ⟨Nat.le_of_ble_eq_true rfl, Nat.le_of_ble_eq_true rfl⟩ (by decide) rfl (by decide) rfl rfl rfl (Nat.le_of_ble_eq_true rfl) ?_
  refine z_istore B [(4, .int (hg_I v5)), (0, .ref (ad 0)), (1, .int (hg_I a1)), (2, .int (hg_I a2)), (3, .int (hg_I a3))] dX4_prides_11 (by decide) rfl ?_
  refine z_iload B 0 dX4_prides_13 rfl ?_
  refine z_if_eq (tgt := 21) B dX4_prides_15 (by decide) h (fun h => ?_) (fun h => ?_)
  · refine z_iconst B dX4_prides_21 ?_
    refine z_istore B [(5, .int (hg_I 0)), (4, .int (hg_I v5)), (0, .ref (ad 0)), (1, .int (hg_I a1)), (2, .int (hg_I a2)), (3, .int (hg_I a3))] dX4_prides_22 (by decide) rfl ?_
    refine z_iconst B dX4_prides_24 ?_
    refine z_istore B [(6, .int (hg_I (-1))), (5, .int (hg_I 0)), (4, .int (hg_I v5)), (0, .ref (ad 0)), (1, .int (hg_I a1)), (2, .int (hg_I a2)), (3, .int (hg_I a3))] dX4_prides_25 (by decide) rfl ?_
    refine z_bipush B dX4_prides_27 (by decide) ?_
    refine z_istore B [(7, .int (hg_I 99)), (6, .int (hg_I (-1))), (5, .int (hg_I 0)), (4, .int (hg_I v5)), (0, .ref (ad 0)), (1, .int (hg_I a1)), (2, .int (hg_I a2)), (3, .int (hg_I a3))] dX4_prides_29 (by decide) rfl ?_
    refine z_lv (lv' := [(0, .ref (ad 0)), (1, .int (hg_I a1)), (2, .int (hg_I a2)), (3, .int (hg_I a3)), (5, .int (hg_I 0)), (6, .int (hg_I (-1))), (7, .int (hg_I 99))]) B [4, 5, 6, 7, 2, 1, 0] rfl ?_
    exact rX4_prides_31 B hr hg_F _ _ _ _ _ _ _ h
  · refine z_iload B 0 dX4_prides_18 rfl ?_
    exact z_iret B hr dX4_prides_20 h
set_option maxHeartbeats 4000000 in
set_option maxRecDepth 100000 in
theorem c_X4_prides {l : Launch} {D : va_G} {cI cA : ClassId} {ad : Nat → Nat} {a1 : Int} {a2 : Int} {a3 : Int} {w w1 : hg_W} {r1 : Int} (h : fX4_prides w a1 a2 a3 = some (w1, r1)) : hg_Mi l yX4_prides wxX4_prides rmX4_prides D cI cA ad 0 w [.ref (ad 0), .int (hg_I a1), .int (hg_I a2), .int (hg_I a3)] w1 r1 := by
  refine z_meti cX4_prides 8 (some .int) (by decide) (Nat.le_of_ble_eq_true rfl) ?_
  intro p e s m args below meth c A B hr
  exact rX4_prides_E B hr h
abbrev wxX4_hats : List Cond := Cond.code yX4_hats cX4_hats 8 (some .int) :: wsL_law
def fX4_hats_71 (K30 : hg_W → Int → Int → Int → Int → Int → Int → Option (hg_W × Int))  (w : hg_W) (x1 : Int) (x2 : Int) (x3 : Int) (x5 : Int) (x6 : Int) (x7 : Int) : Option (hg_W × Int) :=
  K30 w x1 x2 x3 x5 x6 (x7 + (-1))
def fX4_hats_30   : Nat → hg_W → Int → Int → Int → Int → Int → Int → Option (hg_W × Int)
  | 0, _, _, _, _, _, _, _ => none
  | n + 1, w, x1, x2, x3, x5, x6, x7 =>
    if wr x7 < 0 then
      (
        if wr x3 = 0 then
          (
            some (w, wr x5)
          )
        else
          some (w, wr x6)
      )
    else
      hg_bd (fX0_become 28 w 19) fun w1 _ =>
      hg_bd (fX0_setInHat 28 w1 x2 x7) fun w4 _ =>
      hg_bd (fX4_otherwise w4 x1) fun w7 v8 =>
      if 0 ≤ wr v8 then
        (
          fX4_hats_71 (fX4_hats_30 n) w7 x1 x2 x3 x5 x6 x7
        )
      else
        fX4_hats_71 (fX4_hats_30 n) w7 x1 x2 x3 (x5 + 1) x7 x7
def fX4_hats (w : hg_W) (a1 : Int) (a2 : Int) (a3 : Int) : Option (hg_W × Int) :=
  hg_bd (fX4_isSort w a2) fun w1 v2 =>
  hg_bd (fX4_refusalOfOne w1 a1 v2 a3) fun w4 v5 =>
  if wr v5 = 0 then
    (
      fX4_hats_30 hg_F w4 a1 a2 a3 0 (-1) 20
    )
  else
    some (w4, wr v5)
set_option maxHeartbeats 4000000 in
set_option maxRecDepth 100000 in
abbrev rmX4_hats : Room := { frames := 7, cells := 0, slots := 0, locals := 163 }
set_option maxHeartbeats 4000000 in
set_option maxRecDepth 100000 in
theorem rX4_hats_71 (B : hg_B p s m args meth c cX4_hats RX4 wsL_law 8 D cI cA ad 0 A) (hr : meth.sig.returnType = (some .int)) {w1 : hg_W} {r1 : Int} {K30 : hg_W → Int → Int → Int → Int → Int → Int → Option (hg_W × Int)} (hK30 : ∀ (w : hg_W) (x1 : Int) (x2 : Int) (x3 : Int) (x5 : Int) (x6 : Int) (x7 : Int), K30 w x1 x2 x3 x5 x6 x7 = some (w1, r1) → hg_At p l e (rmX4_hats) s m args below meth c D cI cA ad 0 A (MQ below (hg_Qi D cI cA ad 0 A w1 r1) args s 0 0 A) 8 w [(0, .ref (ad 0)), (1, .int (hg_I x1)), (2, .int (hg_I x2)), (3, .int (hg_I x3)), (5, .int (hg_I x5)), (6, .int (hg_I x6)), (7, .int (hg_I x7))] 30 []) : ∀ (w : hg_W) (x1 : Int) (x2 : Int) (x3 : Int) (x5 : Int) (x6 : Int) (x7 : Int), fX4_hats_71 K30 w x1 x2 x3 x5 x6 x7 = some (w1, r1) → hg_At p l e (rmX4_hats) s m args below meth c D cI cA ad 0 A (MQ below (hg_Qi D cI cA ad 0 A w1 r1) args s 0 0 A) 8 w [(0, .ref (ad 0)), (1, .int (hg_I x1)), (2, .int (hg_I x2)), (3, .int (hg_I x3)), (5, .int (hg_I x5)), (6, .int (hg_I x6)), (7, .int (hg_I x7))] 71 [] := by
  intro w x1 x2 x3 x5 x6 x7 h
  unfold fX4_hats_71 at h
  refine z_iinc B 6 [(7, .int (hg_I (x7 + (-1)))), (0, .ref (ad 0)), (1, .int (hg_I x1)), (2, .int (hg_I x2)), (3, .int (hg_I x3)), (5, .int (hg_I x5)), (6, .int (hg_I x6))] dX4_hats_71 rfl (by decide) rfl ?_
  refine z_goto (tgt := 30) B dX4_hats_74 (by decide) ?_
  refine z_lv (lv' := [(0, .ref (ad 0)), (1, .int (hg_I x1)), (2, .int (hg_I x2)), (3, .int (hg_I x3)), (5, .int (hg_I x5)), (6, .int (hg_I x6)), (7, .int (hg_I (x7 + (-1))))]) B [1, 2, 3, 4, 5, 6, 0] rfl ?_
  exact hK30 _ _ _ _ _ _ _ h
set_option maxHeartbeats 4000000 in
set_option maxRecDepth 100000 in
theorem rX4_hats_30 (B : hg_B p s m args meth c cX4_hats RX4 wsL_law 8 D cI cA ad 0 A) (hr : meth.sig.returnType = (some .int)) {w1 : hg_W} {r1 : Int} : ∀ (n : Nat), ∀ (w : hg_W) (x1 : Int) (x2 : Int) (x3 : Int) (x5 : Int) (x6 : Int) (x7 : Int), fX4_hats_30 n w x1 x2 x3 x5 x6 x7 = some (w1, r1) → hg_At p l e (rmX4_hats) s m args below meth c D cI cA ad 0 A (MQ below (hg_Qi D cI cA ad 0 A w1 r1) args s 0 0 A) 8 w [(0, .ref (ad 0)), (1, .int (hg_I x1)), (2, .int (hg_I x2)), (3, .int (hg_I x3)), (5, .int (hg_I x5)), (6, .int (hg_I x6)), (7, .int (hg_I x7))] 30 [] := by
  intro n
  induction n with
  | zero =>
    intro w x1 x2 x3 x5 x6 x7 h
    cases h
  | succ n ih =>
    intro w x1 x2 x3 x5 x6 x7 h
    simp only [fX4_hats_30] at h
    refine z_iload B 6 dX4_hats_30 rfl ?_
    refine z_if_lt (tgt := 77) B dX4_hats_32 (by decide) h (fun h => ?_) (fun h => ?_)
    · refine z_iload_n B 3 dX4_hats_77 rfl rfl ?_
      refine z_if_ne (tgt := 86) B dX4_hats_78 (by decide) h (fun h => ?_) (fun h => ?_)
      · refine z_iload B 5 dX4_hats_86 rfl ?_
        exact z_iret B hr dX4_hats_88 h
      · refine z_iload B 4 dX4_hats_81 rfl ?_
        refine z_goto (tgt := 88) B dX4_hats_83 (by decide) ?_
        exact z_iret B hr dX4_hats_88 h
    · refine z_aload_n B 0 dX4_hats_35 rfl rfl ?_
      refine z_get4 (v := .ref (ad 28)) B 3 dX4_hats_36 inlX4 (by decide) rfl (by decide) (wl_2 0 rfl) rfl rfl ?_
      refine z_aload_n B 0 dX4_hats_39 rfl rfl ?_
      refine z_get4 (v := .ref (ad 19)) B 2 dX4_hats_40 inlX4 (by decide) rfl (by decide) (wl_1 23 rfl) rfl rfl ?_
      obtain ⟨w1, v2, q3, h⟩ := hg_bd_some h
      refine z_callvV (a := 28) (ci := 0) (N := 14) (T := TX0) (C := RX0) (As := [.ref (ad 19)]) (n := 1) B dX4_hats_43 (c_X0_become (by unfold hg_rd; decide) (by unfold hg_rd; decide) q3) (gl_V (wl_23 1 rfl) (wl_23 2 rfl) (wl_23 3 rfl) (wl_1 22 rfl) (wl_23 4 rfl)) rfl ⟨rfl, rfl⟩ (by decide +kernel) ⟨Nat.le_of_ble_eq_true rfl, Nat.le_of_ble_eq_true rfl⟩ (by decide) rfl (by decide) rfl rfl rfl (Nat.le_of_ble_eq_true rfl) ?_
      refine z_aload_n B 0 dX4_hats_46 rfl rfl ?_
      refine z_get4 (v := .ref (ad 28)) B 3 dX4_hats_47 inlX4 (by decide) rfl (by decide) (wl_2 0 rfl) rfl rfl ?_
      refine z_iload_n B 2 dX4_hats_50 rfl rfl ?_
      refine z_iload B 6 dX4_hats_51 rfl ?_
      obtain ⟨w4, v5, q6, h⟩ := hg_bd_some h
      refine z_callvV (a := 28) (ci := 0) (N := 14) (T := TX0) (C := RX0) (As := [.int (hg_I x2), .int (hg_I x7)]) (n := 2) B dX4_hats_53 (c_X0_setInHat (by unfold hg_rd; decide) q6) (gl_V (wl_8 15 rfl) (wl_8 16 rfl) (wl_8 17 rfl) (wl_1 22 rfl) (wl_8 18 rfl)) rfl ⟨rfl, rfl⟩ (by decide +kernel) ⟨Nat.le_of_ble_eq_true rfl, Nat.le_of_ble_eq_true rfl⟩ (by decide) rfl (by decide) rfl rfl rfl (Nat.le_of_ble_eq_true rfl) ?_
      refine z_aload_n B 0 dX4_hats_56 rfl rfl ?_
      refine z_iload_n B 1 dX4_hats_57 rfl rfl ?_
      obtain ⟨w7, v8, q9, h⟩ := hg_bd_some h
      refine z_calliV (a := 0) (ci := 4) (N := 9) (T := TX4) (C := RX4) (As := [.int (hg_I x1)]) (n := 1) B dX4_hats_58 (c_X4_otherwise q9) (gl_V (wl_28 23 rfl) (wl_29 0 rfl) (wl_29 1 rfl) (wl_1 2 rfl) (wl_29 2 rfl)) rfl ⟨rfl, rfl⟩ (by decide +kernel) ⟨Nat.le_of_ble_eq_true rfl, Nat.le_of_ble_eq_true rfl⟩ (by decide) rfl (by decide) rfl rfl rfl (Nat.le_of_ble_eq_true rfl) ?_
      refine z_if_ge (tgt := 71) B dX4_hats_61 (by decide) h (fun h => ?_) (fun h => ?_)
      · exact rX4_hats_71 B hr ih _ _ _ _ _ _ _ h
      · refine z_iinc B 4 [(5, .int (hg_I (x5 + 1))), (0, .ref (ad 0)), (1, .int (hg_I x1)), (2, .int (hg_I x2)), (3, .int (hg_I x3)), (6, .int (hg_I x6)), (7, .int (hg_I x7))] dX4_hats_64 rfl (by decide) rfl ?_
        refine z_iload B 6 dX4_hats_67 rfl ?_
        refine z_istore B [(6, .int (hg_I x7)), (5, .int (hg_I (x5 + 1))), (0, .ref (ad 0)), (1, .int (hg_I x1)), (2, .int (hg_I x2)), (3, .int (hg_I x3)), (7, .int (hg_I x7))] dX4_hats_69 (by decide) rfl ?_
        refine z_lv (lv' := [(0, .ref (ad 0)), (1, .int (hg_I x1)), (2, .int (hg_I x2)), (3, .int (hg_I x3)), (5, .int (hg_I (x5 + 1))), (6, .int (hg_I x7)), (7, .int (hg_I x7))]) B [2, 3, 4, 5, 1, 0, 6] rfl ?_
        exact rX4_hats_71 B hr ih _ _ _ _ _ _ _ h
set_option maxHeartbeats 4000000 in
set_option maxRecDepth 100000 in
theorem rX4_hats_E (B : hg_B p s m args meth c cX4_hats RX4 wsL_law 8 D cI cA ad 0 A) (hr : meth.sig.returnType = (some .int)) {a1 : Int} {a2 : Int} {a3 : Int} {w1 : hg_W} {r1 : Int} {w : hg_W} (h : fX4_hats w a1 a2 a3 = some (w1, r1)) : hg_At p l e (rmX4_hats) s m args below meth c D cI cA ad 0 A (MQ below (hg_Qi D cI cA ad 0 A w1 r1) args s 0 0 A) 8 w [(0, .ref (ad 0)), (1, .int (hg_I a1)), (2, .int (hg_I a2)), (3, .int (hg_I a3))] 0 [] := by
  unfold fX4_hats at h
  refine z_aload_n B 0 dX4_hats_0 rfl rfl ?_
  refine z_iload_n B 1 dX4_hats_1 rfl rfl ?_
  refine z_iload_n B 2 dX4_hats_2 rfl rfl ?_
  obtain ⟨w1, v2, q3, h⟩ := hg_bd_some h
  refine z_calliS (As := [.int (hg_I a2)]) (n := 1) B dX4_hats_3 (c_X4_isSort q3) (gl_S (wl_8 12 rfl) (wl_8 13 rfl) (wl_1 2 rfl) (wl_8 14 rfl)) rfl ⟨rfl, rfl⟩ (by decide +kernel) ⟨Nat.le_of_ble_eq_true rfl, Nat.le_of_ble_eq_true rfl⟩ rfl rfl (Nat.le_of_ble_eq_true rfl) ?_
  refine z_iload_n B 3 dX4_hats_6 rfl rfl ?_
  obtain ⟨w4, v5, q6, h⟩ := hg_bd_some h
  refine z_calliV (a := 0) (ci := 4) (N := 9) (T := TX4) (C := RX4) (As := [.int (hg_I a1), .int (hg_I v2), .int (hg_I a3)]) (n := 3) B dX4_hats_7 (c_X4_refusalOfOne q6) (gl_V (wl_30 1 rfl) (wl_30 2 rfl) (wl_30 3 rfl) (wl_1 2 rfl) (wl_30 4 rfl)) rfl ⟨rfl, rfl⟩ (by decide +kernel) ⟨Nat.le_of_ble_eq_true rfl, Nat.le_of_ble_eq_true rfl⟩ (by decide) rfl (by decide) rfl rfl rfl (Nat.le_of_ble_eq_true rfl) ?_
  refine z_istore B [(4, .int (hg_I v5)), (0, .ref (ad 0)), (1, .int (hg_I a1)), (2, .int (hg_I a2)), (3, .int (hg_I a3))] dX4_hats_10 (by decide) rfl ?_
  refine z_iload B 0 dX4_hats_12 rfl ?_
  refine z_if_eq (tgt := 20) B dX4_hats_14 (by decide) h (fun h => ?_) (fun h => ?_)
  · refine z_iconst B dX4_hats_20 ?_
    refine z_istore B [(5, .int (hg_I 0)), (4, .int (hg_I v5)), (0, .ref (ad 0)), (1, .int (hg_I a1)), (2, .int (hg_I a2)), (3, .int (hg_I a3))] dX4_hats_21 (by decide) rfl ?_
    refine z_iconst B dX4_hats_23 ?_
    refine z_istore B [(6, .int (hg_I (-1))), (5, .int (hg_I 0)), (4, .int (hg_I v5)), (0, .ref (ad 0)), (1, .int (hg_I a1)), (2, .int (hg_I a2)), (3, .int (hg_I a3))] dX4_hats_24 (by decide) rfl ?_
    refine z_bipush B dX4_hats_26 (by decide) ?_
    refine z_istore B [(7, .int (hg_I 20)), (6, .int (hg_I (-1))), (5, .int (hg_I 0)), (4, .int (hg_I v5)), (0, .ref (ad 0)), (1, .int (hg_I a1)), (2, .int (hg_I a2)), (3, .int (hg_I a3))] dX4_hats_28 (by decide) rfl ?_
    refine z_lv (lv' := [(0, .ref (ad 0)), (1, .int (hg_I a1)), (2, .int (hg_I a2)), (3, .int (hg_I a3)), (5, .int (hg_I 0)), (6, .int (hg_I (-1))), (7, .int (hg_I 20))]) B [4, 5, 6, 7, 2, 1, 0] rfl ?_
    exact rX4_hats_30 B hr hg_F _ _ _ _ _ _ _ h
  · refine z_iload B 0 dX4_hats_17 rfl ?_
    exact z_iret B hr dX4_hats_19 h
set_option maxHeartbeats 4000000 in
set_option maxRecDepth 100000 in
theorem c_X4_hats {l : Launch} {D : va_G} {cI cA : ClassId} {ad : Nat → Nat} {a1 : Int} {a2 : Int} {a3 : Int} {w w1 : hg_W} {r1 : Int} (h : fX4_hats w a1 a2 a3 = some (w1, r1)) : hg_Mi l yX4_hats wxX4_hats rmX4_hats D cI cA ad 0 w [.ref (ad 0), .int (hg_I a1), .int (hg_I a2), .int (hg_I a3)] w1 r1 := by
  refine z_meti cX4_hats 8 (some .int) (by decide) (Nat.le_of_ble_eq_true rfl) ?_
  intro p e s m args below meth c A B hr
  exact rX4_hats_E B hr h
abbrev wxX4_starts : List Cond := Cond.code yX4_starts cX4_starts 5 (some .int) :: wsL_law
def fX4_starts_67 (K20 : hg_W → Int → Int → Int → Option (hg_W × Int))  (w : hg_W) (x1 : Int) (x3 : Int) (x4 : Int) : Option (hg_W × Int) :=
  K20 w x1 x3 (x4 + 1)
def fX4_starts_20   : Nat → hg_W → Int → Int → Int → Option (hg_W × Int)
  | 0, _, _, _, _ => none
  | n + 1, w, x1, x3, x4 =>
    if wr (w 19 9) ≤ wr x4 then
      (
        some (w, wr x3)
      )
    else
      hg_bd (fX0_become 28 w 19) fun w1 _ =>
      (hg_pt w1 28 11 x4).bind fun w4 =>
      hg_bd (fX4_otherwise w4 x1) fun w6 v7 =>
      if 0 ≤ wr v7 then
        (
          fX4_starts_67 (fX4_starts_20 n) w6 x1 x3 x4
        )
      else
        fX4_starts_67 (fX4_starts_20 n) w6 x1 (hg_or x3 (hg_shl 1 x4)) x4
def fX4_starts (w : hg_W) (a1 : Int) : Option (hg_W × Int) :=
  hg_bd (fX1_refusalToTell w a1) fun w1 v2 =>
  if wr v2 = 0 then
    (
      fX4_starts_20 hg_F w1 a1 0 0
    )
  else
    some (w1, wr v2)
set_option maxHeartbeats 4000000 in
set_option maxRecDepth 100000 in
abbrev rmX4_starts : Room := { frames := 7, cells := 0, slots := 0, locals := 163 }
set_option maxHeartbeats 4000000 in
set_option maxRecDepth 100000 in
theorem rX4_starts_67 (B : hg_B p s m args meth c cX4_starts RX4 wsL_law 5 D cI cA ad 0 A) (hr : meth.sig.returnType = (some .int)) {w1 : hg_W} {r1 : Int} {K20 : hg_W → Int → Int → Int → Option (hg_W × Int)} (hK20 : ∀ (w : hg_W) (x1 : Int) (x3 : Int) (x4 : Int), K20 w x1 x3 x4 = some (w1, r1) → hg_At p l e (rmX4_starts) s m args below meth c D cI cA ad 0 A (MQ below (hg_Qi D cI cA ad 0 A w1 r1) args s 0 0 A) 5 w [(0, .ref (ad 0)), (1, .int (hg_I x1)), (3, .int (hg_I x3)), (4, .int (hg_I x4))] 20 []) : ∀ (w : hg_W) (x1 : Int) (x3 : Int) (x4 : Int), fX4_starts_67 K20 w x1 x3 x4 = some (w1, r1) → hg_At p l e (rmX4_starts) s m args below meth c D cI cA ad 0 A (MQ below (hg_Qi D cI cA ad 0 A w1 r1) args s 0 0 A) 5 w [(0, .ref (ad 0)), (1, .int (hg_I x1)), (3, .int (hg_I x3)), (4, .int (hg_I x4))] 67 [] := by
  intro w x1 x3 x4 h
  unfold fX4_starts_67 at h
  refine z_iinc B 3 [(4, .int (hg_I (x4 + 1))), (0, .ref (ad 0)), (1, .int (hg_I x1)), (3, .int (hg_I x3))] dX4_starts_67 rfl (by decide) rfl ?_
  refine z_goto (tgt := 20) B dX4_starts_70 (by decide) ?_
  refine z_lv (lv' := [(0, .ref (ad 0)), (1, .int (hg_I x1)), (3, .int (hg_I x3)), (4, .int (hg_I (x4 + 1)))]) B [1, 2, 3, 0] rfl ?_
  exact hK20 _ _ _ _ h
set_option maxHeartbeats 4000000 in
set_option maxRecDepth 100000 in
theorem rX4_starts_20 (B : hg_B p s m args meth c cX4_starts RX4 wsL_law 5 D cI cA ad 0 A) (hr : meth.sig.returnType = (some .int)) {w1 : hg_W} {r1 : Int} : ∀ (n : Nat), ∀ (w : hg_W) (x1 : Int) (x3 : Int) (x4 : Int), fX4_starts_20 n w x1 x3 x4 = some (w1, r1) → hg_At p l e (rmX4_starts) s m args below meth c D cI cA ad 0 A (MQ below (hg_Qi D cI cA ad 0 A w1 r1) args s 0 0 A) 5 w [(0, .ref (ad 0)), (1, .int (hg_I x1)), (3, .int (hg_I x3)), (4, .int (hg_I x4))] 20 [] := by
  intro n
  induction n with
  | zero =>
    intro w x1 x3 x4 h
    cases h
  | succ n ih =>
    intro w x1 x3 x4 h
    simp only [fX4_starts_20] at h
    refine z_iload B 3 dX4_starts_20 rfl ?_
    refine z_aload_n B 0 dX4_starts_22 rfl rfl ?_
    refine z_get4 (v := .ref (ad 19)) B 2 dX4_starts_23 inlX4 (by decide) rfl (by decide) (wl_1 23 rfl) rfl rfl ?_
    refine z_get0 (v := .int (hg_I (w 19 9))) B 9 dX4_starts_26 inlX0 (by decide) rfl (by decide) (wl_7 11 rfl) rfl rfl ?_
    refine z_icmp_ge (tgt := 73) B dX4_starts_29 (by decide) h (fun h => ?_) (fun h => ?_)
    · refine z_iload_n B 2 dX4_starts_73 rfl rfl ?_
      exact z_iret B hr dX4_starts_74 h
    · refine z_aload_n B 0 dX4_starts_32 rfl rfl ?_
      refine z_get4 (v := .ref (ad 28)) B 3 dX4_starts_33 inlX4 (by decide) rfl (by decide) (wl_2 0 rfl) rfl rfl ?_
      refine z_aload_n B 0 dX4_starts_36 rfl rfl ?_
      refine z_get4 (v := .ref (ad 19)) B 2 dX4_starts_37 inlX4 (by decide) rfl (by decide) (wl_1 23 rfl) rfl rfl ?_
      obtain ⟨w1, v2, q3, h⟩ := hg_bd_some h
      refine z_callvV (a := 28) (ci := 0) (N := 14) (T := TX0) (C := RX0) (As := [.ref (ad 19)]) (n := 1) B dX4_starts_40 (c_X0_become (by unfold hg_rd; decide) (by unfold hg_rd; decide) q3) (gl_V (wl_23 1 rfl) (wl_23 2 rfl) (wl_23 3 rfl) (wl_1 22 rfl) (wl_23 4 rfl)) rfl ⟨rfl, rfl⟩ (by decide +kernel) ⟨Nat.le_of_ble_eq_true rfl, Nat.le_of_ble_eq_true rfl⟩ (by decide) rfl (by decide) rfl rfl rfl (Nat.le_of_ble_eq_true rfl) ?_
      refine z_aload_n B 0 dX4_starts_43 rfl rfl ?_
      refine z_get4 (v := .ref (ad 28)) B 3 dX4_starts_44 inlX4 (by decide) rfl (by decide) (wl_2 0 rfl) rfl rfl ?_
      refine z_iload B 3 dX4_starts_47 rfl ?_
      obtain ⟨w4, q5, h⟩ := Option.bind_eq_some_iff.mp h
      refine z_put0 B 11 dX4_starts_49 inlX0 (by decide) rfl (by decide) (wl_7 17 rfl) rfl rfl .int (by decide +kernel) rfl rfl hg_fs0_11 q5 ?_
      refine z_aload_n B 0 dX4_starts_52 rfl rfl ?_
      refine z_iload_n B 1 dX4_starts_53 rfl rfl ?_
      obtain ⟨w6, v7, q8, h⟩ := hg_bd_some h
      refine z_calliV (a := 0) (ci := 4) (N := 9) (T := TX4) (C := RX4) (As := [.int (hg_I x1)]) (n := 1) B dX4_starts_54 (c_X4_otherwise q8) (gl_V (wl_28 23 rfl) (wl_29 0 rfl) (wl_29 1 rfl) (wl_1 2 rfl) (wl_29 2 rfl)) rfl ⟨rfl, rfl⟩ (by decide +kernel) ⟨Nat.le_of_ble_eq_true rfl, Nat.le_of_ble_eq_true rfl⟩ (by decide) rfl (by decide) rfl rfl rfl (Nat.le_of_ble_eq_true rfl) ?_
      refine z_if_ge (tgt := 67) B dX4_starts_57 (by decide) h (fun h => ?_) (fun h => ?_)
      · exact rX4_starts_67 B hr ih _ _ _ _ h
      · refine z_iload_n B 2 dX4_starts_60 rfl rfl ?_
        refine z_iconst B dX4_starts_61 ?_
        refine z_iload B 3 dX4_starts_62 rfl ?_
        refine z_ishl B dX4_starts_64 ?_
        refine z_ior B dX4_starts_65 ?_
        refine z_istore_n B [(3, .int (hg_I (hg_or x3 (hg_shl 1 x4)))), (0, .ref (ad 0)), (1, .int (hg_I x1)), (4, .int (hg_I x4))] dX4_starts_66 rfl (by decide) rfl ?_
        refine z_lv (lv' := [(0, .ref (ad 0)), (1, .int (hg_I x1)), (3, .int (hg_I (hg_or x3 (hg_shl 1 x4)))), (4, .int (hg_I x4))]) B [1, 2, 0, 3] rfl ?_
        exact rX4_starts_67 B hr ih _ _ _ _ h
set_option maxHeartbeats 4000000 in
set_option maxRecDepth 100000 in
theorem rX4_starts_E (B : hg_B p s m args meth c cX4_starts RX4 wsL_law 5 D cI cA ad 0 A) (hr : meth.sig.returnType = (some .int)) {a1 : Int} {w1 : hg_W} {r1 : Int} {w : hg_W} (h : fX4_starts w a1 = some (w1, r1)) : hg_At p l e (rmX4_starts) s m args below meth c D cI cA ad 0 A (MQ below (hg_Qi D cI cA ad 0 A w1 r1) args s 0 0 A) 5 w [(0, .ref (ad 0)), (1, .int (hg_I a1))] 0 [] := by
  unfold fX4_starts at h
  refine z_aload_n B 0 dX4_starts_0 rfl rfl ?_
  refine z_get4 (v := .ref (ad 46)) B 6 dX4_starts_1 inlX4 (by decide) rfl (by decide) (wl_2 6 rfl) rfl rfl ?_
  refine z_iload_n B 1 dX4_starts_4 rfl rfl ?_
  obtain ⟨w1, v2, q3, h⟩ := hg_bd_some h
  refine z_calliV (a := 46) (ci := 1) (N := 3) (T := TX1) (C := RX1) (As := [.int (hg_I a1)]) (n := 1) B dX4_starts_5 (c_X1_refusalToTell q3) (gl_V (wl_28 13 rfl) (wl_28 14 rfl) (wl_28 15 rfl) (wl_2 5 rfl) (wl_28 16 rfl)) rfl ⟨rfl, rfl⟩ (by decide +kernel) ⟨Nat.le_of_ble_eq_true rfl, Nat.le_of_ble_eq_true rfl⟩ (by decide) rfl (by decide) rfl rfl rfl (Nat.le_of_ble_eq_true rfl) ?_
  refine z_istore_n B [(2, .int (hg_I v2)), (0, .ref (ad 0)), (1, .int (hg_I a1))] dX4_starts_8 rfl (by decide) rfl ?_
  refine z_iload_n B 0 dX4_starts_9 rfl rfl ?_
  refine z_if_eq (tgt := 15) B dX4_starts_10 (by decide) h (fun h => ?_) (fun h => ?_)
  · refine z_iconst B dX4_starts_15 ?_
    refine z_istore_n B [(3, .int (hg_I 0)), (2, .int (hg_I v2)), (0, .ref (ad 0)), (1, .int (hg_I a1))] dX4_starts_16 rfl (by decide) rfl ?_
    refine z_iconst B dX4_starts_17 ?_
    refine z_istore B [(4, .int (hg_I 0)), (3, .int (hg_I 0)), (2, .int (hg_I v2)), (0, .ref (ad 0)), (1, .int (hg_I a1))] dX4_starts_18 (by decide) rfl ?_
    refine z_lv (lv' := [(0, .ref (ad 0)), (1, .int (hg_I a1)), (3, .int (hg_I 0)), (4, .int (hg_I 0))]) B [3, 4, 1, 0] rfl ?_
    exact rX4_starts_20 B hr hg_F _ _ _ _ h
  · refine z_iload_n B 0 dX4_starts_13 rfl rfl ?_
    exact z_iret B hr dX4_starts_14 h
set_option maxHeartbeats 4000000 in
set_option maxRecDepth 100000 in
theorem c_X4_starts {l : Launch} {D : va_G} {cI cA : ClassId} {ad : Nat → Nat} {a1 : Int} {w w1 : hg_W} {r1 : Int} (h : fX4_starts w a1 = some (w1, r1)) : hg_Mi l yX4_starts wxX4_starts rmX4_starts D cI cA ad 0 w [.ref (ad 0), .int (hg_I a1)] w1 r1 := by
  refine z_meti cX4_starts 5 (some .int) (by decide) (Nat.le_of_ble_eq_true rfl) ?_
  intro p e s m args below meth c A B hr
  exact rX4_starts_E B hr h
abbrev wxX4_laws : List Cond := Cond.code yX4_laws cX4_laws 5 (some .int) :: wsL_law
def fX4_laws_67 (K20 : hg_W → Int → Int → Int → Option (hg_W × Int))  (w : hg_W) (x1 : Int) (x3 : Int) (x4 : Int) : Option (hg_W × Int) :=
  K20 w x1 x3 (x4 + 1)
def fX4_laws_20   : Nat → hg_W → Int → Int → Int → Option (hg_W × Int)
  | 0, _, _, _, _ => none
  | n + 1, w, x1, x3, x4 =>
    if wr (w 1 3) ≤ wr x4 then
      (
        some (w, wr x3)
      )
    else
      hg_bd (fX0_become 28 w 19) fun w1 _ =>
      (hg_pt w1 28 13 x4).bind fun w4 =>
      hg_bd (fX4_otherwise w4 x1) fun w6 v7 =>
      if 0 ≤ wr v7 then
        (
          fX4_laws_67 (fX4_laws_20 n) w6 x1 x3 x4
        )
      else
        fX4_laws_67 (fX4_laws_20 n) w6 x1 (hg_or x3 (hg_shl 1 x4)) x4
def fX4_laws (w : hg_W) (a1 : Int) : Option (hg_W × Int) :=
  hg_bd (fX1_refusalToTell w a1) fun w1 v2 =>
  if wr v2 = 0 then
    (
      fX4_laws_20 hg_F w1 a1 0 0
    )
  else
    some (w1, wr v2)
set_option maxHeartbeats 4000000 in
set_option maxRecDepth 100000 in
abbrev rmX4_laws : Room := { frames := 7, cells := 0, slots := 0, locals := 163 }
set_option maxHeartbeats 4000000 in
set_option maxRecDepth 100000 in
theorem rX4_laws_67 (B : hg_B p s m args meth c cX4_laws RX4 wsL_law 5 D cI cA ad 0 A) (hr : meth.sig.returnType = (some .int)) {w1 : hg_W} {r1 : Int} {K20 : hg_W → Int → Int → Int → Option (hg_W × Int)} (hK20 : ∀ (w : hg_W) (x1 : Int) (x3 : Int) (x4 : Int), K20 w x1 x3 x4 = some (w1, r1) → hg_At p l e (rmX4_laws) s m args below meth c D cI cA ad 0 A (MQ below (hg_Qi D cI cA ad 0 A w1 r1) args s 0 0 A) 5 w [(0, .ref (ad 0)), (1, .int (hg_I x1)), (3, .int (hg_I x3)), (4, .int (hg_I x4))] 20 []) : ∀ (w : hg_W) (x1 : Int) (x3 : Int) (x4 : Int), fX4_laws_67 K20 w x1 x3 x4 = some (w1, r1) → hg_At p l e (rmX4_laws) s m args below meth c D cI cA ad 0 A (MQ below (hg_Qi D cI cA ad 0 A w1 r1) args s 0 0 A) 5 w [(0, .ref (ad 0)), (1, .int (hg_I x1)), (3, .int (hg_I x3)), (4, .int (hg_I x4))] 67 [] := by
  intro w x1 x3 x4 h
  unfold fX4_laws_67 at h
  refine z_iinc B 3 [(4, .int (hg_I (x4 + 1))), (0, .ref (ad 0)), (1, .int (hg_I x1)), (3, .int (hg_I x3))] dX4_laws_67 rfl (by decide) rfl ?_
  refine z_goto (tgt := 20) B dX4_laws_70 (by decide) ?_
  refine z_lv (lv' := [(0, .ref (ad 0)), (1, .int (hg_I x1)), (3, .int (hg_I x3)), (4, .int (hg_I (x4 + 1)))]) B [1, 2, 3, 0] rfl ?_
  exact hK20 _ _ _ _ h
set_option maxHeartbeats 4000000 in
set_option maxRecDepth 100000 in
theorem rX4_laws_20 (B : hg_B p s m args meth c cX4_laws RX4 wsL_law 5 D cI cA ad 0 A) (hr : meth.sig.returnType = (some .int)) {w1 : hg_W} {r1 : Int} : ∀ (n : Nat), ∀ (w : hg_W) (x1 : Int) (x3 : Int) (x4 : Int), fX4_laws_20 n w x1 x3 x4 = some (w1, r1) → hg_At p l e (rmX4_laws) s m args below meth c D cI cA ad 0 A (MQ below (hg_Qi D cI cA ad 0 A w1 r1) args s 0 0 A) 5 w [(0, .ref (ad 0)), (1, .int (hg_I x1)), (3, .int (hg_I x3)), (4, .int (hg_I x4))] 20 [] := by
  intro n
  induction n with
  | zero =>
    intro w x1 x3 x4 h
    cases h
  | succ n ih =>
    intro w x1 x3 x4 h
    simp only [fX4_laws_20] at h
    refine z_iload B 3 dX4_laws_20 rfl ?_
    refine z_aload_n B 0 dX4_laws_22 rfl rfl ?_
    refine z_get4 (v := .ref (ad 1)) B 0 dX4_laws_23 inlX4 (by decide) rfl (by decide) (wl_1 15 rfl) rfl rfl ?_
    refine z_get3 (v := .int (hg_I (w 1 3))) B 3 dX4_laws_26 inlX3 (by decide) rfl (by decide) (wl_7 14 rfl) rfl rfl ?_
    refine z_icmp_ge (tgt := 73) B dX4_laws_29 (by decide) h (fun h => ?_) (fun h => ?_)
    · refine z_iload_n B 2 dX4_laws_73 rfl rfl ?_
      exact z_iret B hr dX4_laws_74 h
    · refine z_aload_n B 0 dX4_laws_32 rfl rfl ?_
      refine z_get4 (v := .ref (ad 28)) B 3 dX4_laws_33 inlX4 (by decide) rfl (by decide) (wl_2 0 rfl) rfl rfl ?_
      refine z_aload_n B 0 dX4_laws_36 rfl rfl ?_
      refine z_get4 (v := .ref (ad 19)) B 2 dX4_laws_37 inlX4 (by decide) rfl (by decide) (wl_1 23 rfl) rfl rfl ?_
      obtain ⟨w1, v2, q3, h⟩ := hg_bd_some h
      refine z_callvV (a := 28) (ci := 0) (N := 14) (T := TX0) (C := RX0) (As := [.ref (ad 19)]) (n := 1) B dX4_laws_40 (c_X0_become (by unfold hg_rd; decide) (by unfold hg_rd; decide) q3) (gl_V (wl_23 1 rfl) (wl_23 2 rfl) (wl_23 3 rfl) (wl_1 22 rfl) (wl_23 4 rfl)) rfl ⟨rfl, rfl⟩ (by decide +kernel) ⟨Nat.le_of_ble_eq_true rfl, Nat.le_of_ble_eq_true rfl⟩ (by decide) rfl (by decide) rfl rfl rfl (Nat.le_of_ble_eq_true rfl) ?_
      refine z_aload_n B 0 dX4_laws_43 rfl rfl ?_
      refine z_get4 (v := .ref (ad 28)) B 3 dX4_laws_44 inlX4 (by decide) rfl (by decide) (wl_2 0 rfl) rfl rfl ?_
      refine z_iload B 3 dX4_laws_47 rfl ?_
      obtain ⟨w4, q5, h⟩ := Option.bind_eq_some_iff.mp h
      refine z_put0 B 13 dX4_laws_49 inlX0 (by decide) rfl (by decide) (wl_7 15 rfl) rfl rfl .int (by decide +kernel) rfl rfl hg_fs0_13 q5 ?_
      refine z_aload_n B 0 dX4_laws_52 rfl rfl ?_
      refine z_iload_n B 1 dX4_laws_53 rfl rfl ?_
      obtain ⟨w6, v7, q8, h⟩ := hg_bd_some h
      refine z_calliV (a := 0) (ci := 4) (N := 9) (T := TX4) (C := RX4) (As := [.int (hg_I x1)]) (n := 1) B dX4_laws_54 (c_X4_otherwise q8) (gl_V (wl_28 23 rfl) (wl_29 0 rfl) (wl_29 1 rfl) (wl_1 2 rfl) (wl_29 2 rfl)) rfl ⟨rfl, rfl⟩ (by decide +kernel) ⟨Nat.le_of_ble_eq_true rfl, Nat.le_of_ble_eq_true rfl⟩ (by decide) rfl (by decide) rfl rfl rfl (Nat.le_of_ble_eq_true rfl) ?_
      refine z_if_ge (tgt := 67) B dX4_laws_57 (by decide) h (fun h => ?_) (fun h => ?_)
      · exact rX4_laws_67 B hr ih _ _ _ _ h
      · refine z_iload_n B 2 dX4_laws_60 rfl rfl ?_
        refine z_iconst B dX4_laws_61 ?_
        refine z_iload B 3 dX4_laws_62 rfl ?_
        refine z_ishl B dX4_laws_64 ?_
        refine z_ior B dX4_laws_65 ?_
        refine z_istore_n B [(3, .int (hg_I (hg_or x3 (hg_shl 1 x4)))), (0, .ref (ad 0)), (1, .int (hg_I x1)), (4, .int (hg_I x4))] dX4_laws_66 rfl (by decide) rfl ?_
        refine z_lv (lv' := [(0, .ref (ad 0)), (1, .int (hg_I x1)), (3, .int (hg_I (hg_or x3 (hg_shl 1 x4)))), (4, .int (hg_I x4))]) B [1, 2, 0, 3] rfl ?_
        exact rX4_laws_67 B hr ih _ _ _ _ h
set_option maxHeartbeats 4000000 in
set_option maxRecDepth 100000 in
theorem rX4_laws_E (B : hg_B p s m args meth c cX4_laws RX4 wsL_law 5 D cI cA ad 0 A) (hr : meth.sig.returnType = (some .int)) {a1 : Int} {w1 : hg_W} {r1 : Int} {w : hg_W} (h : fX4_laws w a1 = some (w1, r1)) : hg_At p l e (rmX4_laws) s m args below meth c D cI cA ad 0 A (MQ below (hg_Qi D cI cA ad 0 A w1 r1) args s 0 0 A) 5 w [(0, .ref (ad 0)), (1, .int (hg_I a1))] 0 [] := by
  unfold fX4_laws at h
  refine z_aload_n B 0 dX4_laws_0 rfl rfl ?_
  refine z_get4 (v := .ref (ad 46)) B 6 dX4_laws_1 inlX4 (by decide) rfl (by decide) (wl_2 6 rfl) rfl rfl ?_
  refine z_iload_n B 1 dX4_laws_4 rfl rfl ?_
  obtain ⟨w1, v2, q3, h⟩ := hg_bd_some h
  refine z_calliV (a := 46) (ci := 1) (N := 3) (T := TX1) (C := RX1) (As := [.int (hg_I a1)]) (n := 1) B dX4_laws_5 (c_X1_refusalToTell q3) (gl_V (wl_28 13 rfl) (wl_28 14 rfl) (wl_28 15 rfl) (wl_2 5 rfl) (wl_28 16 rfl)) rfl ⟨rfl, rfl⟩ (by decide +kernel) ⟨Nat.le_of_ble_eq_true rfl, Nat.le_of_ble_eq_true rfl⟩ (by decide) rfl (by decide) rfl rfl rfl (Nat.le_of_ble_eq_true rfl) ?_
  refine z_istore_n B [(2, .int (hg_I v2)), (0, .ref (ad 0)), (1, .int (hg_I a1))] dX4_laws_8 rfl (by decide) rfl ?_
  refine z_iload_n B 0 dX4_laws_9 rfl rfl ?_
  refine z_if_eq (tgt := 15) B dX4_laws_10 (by decide) h (fun h => ?_) (fun h => ?_)
  · refine z_iconst B dX4_laws_15 ?_
    refine z_istore_n B [(3, .int (hg_I 0)), (2, .int (hg_I v2)), (0, .ref (ad 0)), (1, .int (hg_I a1))] dX4_laws_16 rfl (by decide) rfl ?_
    refine z_iconst B dX4_laws_17 ?_
    refine z_istore B [(4, .int (hg_I 0)), (3, .int (hg_I 0)), (2, .int (hg_I v2)), (0, .ref (ad 0)), (1, .int (hg_I a1))] dX4_laws_18 (by decide) rfl ?_
    refine z_lv (lv' := [(0, .ref (ad 0)), (1, .int (hg_I a1)), (3, .int (hg_I 0)), (4, .int (hg_I 0))]) B [3, 4, 1, 0] rfl ?_
    exact rX4_laws_20 B hr hg_F _ _ _ _ h
  · refine z_iload_n B 0 dX4_laws_13 rfl rfl ?_
    exact z_iret B hr dX4_laws_14 h
set_option maxHeartbeats 4000000 in
set_option maxRecDepth 100000 in
theorem c_X4_laws {l : Launch} {D : va_G} {cI cA : ClassId} {ad : Nat → Nat} {a1 : Int} {w w1 : hg_W} {r1 : Int} (h : fX4_laws w a1 = some (w1, r1)) : hg_Mi l yX4_laws wxX4_laws rmX4_laws D cI cA ad 0 w [.ref (ad 0), .int (hg_I a1)] w1 r1 := by
  refine z_meti cX4_laws 5 (some .int) (by decide) (Nat.le_of_ble_eq_true rfl) ?_
  intro p e s m args below meth c A B hr
  exact rX4_laws_E B hr h
abbrev wxX4_film : List Cond := Cond.code yX4_film cX4_film 4 (some .int) :: wsL_law
def fX4_film_46   : Nat → hg_W → Int → Int → Int → Option (hg_W × Int)
  | 0, _, _, _, _ => none
  | n + 1, w, x1, x2, x3 =>
    if wr x2 ≤ wr x3 then
      (
        some (w, wr x2)
      )
    else
      (hg_ar 49 x1).bind fun c1 =>
      hg_bd (fX0_goOn 28 w) fun w3 v4 =>
      (hg_as 0 w3 c1 x3 (v4 + 1)).bind fun w6 =>
      fX4_film_46 n w6 x1 x2 (x3 + 1)
def fX4_film (w : hg_W) (a1 : Int) (a2 : Int) : Option (hg_W × Int) :=
  hg_bd (fX4_isSheet w a1) fun w1 v2 =>
  if wr v2 = 0 then
    (
      some (w1, wr (-2))
    )
  else
    if wr a2 < 0 then
      (
        some (w1, wr (-7))
      )
    else
      if wr a2 ≤ wr 30 then
        (
          hg_bd (fX1_become w1 a1 0 a2) fun w4 _ =>
          hg_bd (fX0_become 28 w4 19) fun w7 _ =>
          fX4_film_46 hg_F w7 a1 a2 0
        )
      else
        some (w1, wr (-7))
set_option maxHeartbeats 4000000 in
set_option maxRecDepth 100000 in
abbrev rmX4_film : Room := { frames := 6, cells := 0, slots := 0, locals := 141 }
set_option maxHeartbeats 4000000 in
set_option maxRecDepth 100000 in
theorem rX4_film_46 (B : hg_B p s m args meth c cX4_film RX4 wsL_law 4 D cI cA ad 0 A) (hr : meth.sig.returnType = (some .int)) {w1 : hg_W} {r1 : Int} : ∀ (n : Nat), ∀ (w : hg_W) (x1 : Int) (x2 : Int) (x3 : Int), fX4_film_46 n w x1 x2 x3 = some (w1, r1) → hg_At p l e (rmX4_film) s m args below meth c D cI cA ad 0 A (MQ below (hg_Qi D cI cA ad 0 A w1 r1) args s 0 0 A) 4 w [(0, .ref (ad 0)), (1, .int (hg_I x1)), (2, .int (hg_I x2)), (3, .int (hg_I x3))] 46 [] := by
  intro n
  induction n with
  | zero =>
    intro w x1 x2 x3 h
    cases h
  | succ n ih =>
    intro w x1 x2 x3 h
    simp only [fX4_film_46] at h
    refine z_iload_n B 3 dX4_film_46 rfl rfl ?_
    refine z_iload_n B 2 dX4_film_47 rfl rfl ?_
    refine z_icmp_ge (tgt := 77) B dX4_film_48 (by decide) h (fun h => ?_) (fun h => ?_)
    · refine z_iload_n B 2 dX4_film_77 rfl rfl ?_
      exact z_iret B hr dX4_film_78 h
    · refine z_aload_n B 0 dX4_film_51 rfl rfl ?_
      refine z_get4 (v := .ref (ad 46)) B 6 dX4_film_52 inlX4 (by decide) rfl (by decide) (wl_2 6 rfl) rfl rfl ?_
      refine z_get1 (v := .ref (ad 49)) B 2 dX4_film_55 inlX1 (by decide) rfl (by decide) (wl_29 4 rfl) rfl rfl ?_
      refine z_iload_n B 1 dX4_film_58 rfl rfl ?_
      obtain ⟨c1, q2, h⟩ := Option.bind_eq_some_iff.mp h
      refine z_aald B rfl dX4_film_59 q2 ?_
      refine z_iload_n B 3 dX4_film_60 rfl rfl ?_
      refine z_aload_n B 0 dX4_film_61 rfl rfl ?_
      refine z_get4 (v := .ref (ad 28)) B 3 dX4_film_62 inlX4 (by decide) rfl (by decide) (wl_2 0 rfl) rfl rfl ?_
      obtain ⟨w3, v4, q5, h⟩ := hg_bd_some h
      refine z_calliV (a := 28) (ci := 0) (N := 14) (T := TX0) (C := RX0) (As := []) (n := 0) B dX4_film_65 (c_X0_goOn (by unfold hg_rd; decide) q5) (gl_V (wl_21 3 rfl) (wl_21 4 rfl) (wl_21 5 rfl) (wl_1 22 rfl) (wl_21 6 rfl)) rfl ⟨rfl, rfl⟩ (by decide +kernel) ⟨Nat.le_of_ble_eq_true rfl, Nat.le_of_ble_eq_true rfl⟩ (by decide) rfl (by decide) rfl rfl rfl (Nat.le_of_ble_eq_true rfl) ?_
      refine z_iconst B dX4_film_68 ?_
      refine z_iadd B dX4_film_69 ?_
      obtain ⟨w6, q7, h⟩ := Option.bind_eq_some_iff.mp h
      refine z_iast (Or.inl rfl) B dX4_film_70 q7 ?_
      refine z_iinc B 3 [(3, .int (hg_I (x3 + 1))), (0, .ref (ad 0)), (1, .int (hg_I x1)), (2, .int (hg_I x2))] dX4_film_71 rfl (by decide) rfl ?_
      refine z_goto (tgt := 46) B dX4_film_74 (by decide) ?_
      refine z_lv (lv' := [(0, .ref (ad 0)), (1, .int (hg_I x1)), (2, .int (hg_I x2)), (3, .int (hg_I (x3 + 1)))]) B [1, 2, 3, 0] rfl ?_
      exact ih _ _ _ _ h
set_option maxHeartbeats 4000000 in
set_option maxRecDepth 100000 in
theorem rX4_film_E (B : hg_B p s m args meth c cX4_film RX4 wsL_law 4 D cI cA ad 0 A) (hr : meth.sig.returnType = (some .int)) {a1 : Int} {a2 : Int} {w1 : hg_W} {r1 : Int} {w : hg_W} (h : fX4_film w a1 a2 = some (w1, r1)) : hg_At p l e (rmX4_film) s m args below meth c D cI cA ad 0 A (MQ below (hg_Qi D cI cA ad 0 A w1 r1) args s 0 0 A) 4 w [(0, .ref (ad 0)), (1, .int (hg_I a1)), (2, .int (hg_I a2))] 0 [] := by
  unfold fX4_film at h
  refine z_iload_n B 1 dX4_film_0 rfl rfl ?_
  obtain ⟨w1, v2, q3, h⟩ := hg_bd_some h
  refine z_calliS (As := [.int (hg_I a1)]) (n := 1) B dX4_film_1 (c_X4_isSheet q3) (gl_S (wl_31 21 rfl) (wl_28 17 rfl) (wl_1 2 rfl) (wl_28 18 rfl)) rfl ⟨rfl, rfl⟩ (by decide +kernel) ⟨Nat.le_of_ble_eq_true rfl, Nat.le_of_ble_eq_true rfl⟩ rfl rfl (Nat.le_of_ble_eq_true rfl) ?_
  refine z_if_ne (tgt := 10) B dX4_film_4 (by decide) h (fun h => ?_) (fun h => ?_)
  · refine z_iload_n B 2 dX4_film_10 rfl rfl ?_
    refine z_if_lt (tgt := 20) B dX4_film_11 (by decide) h (fun h => ?_) (fun h => ?_)
    · refine z_bipush B dX4_film_20 (by decide) ?_
      exact z_iret B hr dX4_film_22 h
    · refine z_iload_n B 2 dX4_film_14 rfl rfl ?_
      refine z_bipush B dX4_film_15 (by decide) ?_
      refine z_icmp_le (tgt := 23) B dX4_film_17 (by decide) h (fun h => ?_) (fun h => ?_)
      · refine z_aload_n B 0 dX4_film_23 rfl rfl ?_
        refine z_get4 (v := .ref (ad 46)) B 6 dX4_film_24 inlX4 (by decide) rfl (by decide) (wl_2 6 rfl) rfl rfl ?_
        refine z_iload_n B 1 dX4_film_27 rfl rfl ?_
        refine z_iconst B dX4_film_28 ?_
        refine z_iload_n B 2 dX4_film_29 rfl rfl ?_
        obtain ⟨w4, v5, q6, h⟩ := hg_bd_some h
        refine z_callvV (a := 46) (ci := 1) (N := 3) (T := TX1) (C := RX1) (As := [.int (hg_I a1), .int (hg_I 0), .int (hg_I a2)]) (n := 3) B dX4_film_30 (c_X1_become q6) (gl_V (wl_31 22 rfl) (wl_31 23 rfl) (wl_32 0 rfl) (wl_2 5 rfl) (wl_32 1 rfl)) rfl ⟨rfl, rfl⟩ (by decide +kernel) ⟨Nat.le_of_ble_eq_true rfl, Nat.le_of_ble_eq_true rfl⟩ (by decide) rfl (by decide) rfl rfl rfl (Nat.le_of_ble_eq_true rfl) ?_
        refine z_aload_n B 0 dX4_film_33 rfl rfl ?_
        refine z_get4 (v := .ref (ad 28)) B 3 dX4_film_34 inlX4 (by decide) rfl (by decide) (wl_2 0 rfl) rfl rfl ?_
        refine z_aload_n B 0 dX4_film_37 rfl rfl ?_
        refine z_get4 (v := .ref (ad 19)) B 2 dX4_film_38 inlX4 (by decide) rfl (by decide) (wl_1 23 rfl) rfl rfl ?_
        obtain ⟨w7, v8, q9, h⟩ := hg_bd_some h
        refine z_callvV (a := 28) (ci := 0) (N := 14) (T := TX0) (C := RX0) (As := [.ref (ad 19)]) (n := 1) B dX4_film_41 (c_X0_become (by unfold hg_rd; decide) (by unfold hg_rd; decide) q9) (gl_V (wl_23 1 rfl) (wl_23 2 rfl) (wl_23 3 rfl) (wl_1 22 rfl) (wl_23 4 rfl)) rfl ⟨rfl, rfl⟩ (by decide +kernel) ⟨Nat.le_of_ble_eq_true rfl, Nat.le_of_ble_eq_true rfl⟩ (by decide) rfl (by decide) rfl rfl rfl (Nat.le_of_ble_eq_true rfl) ?_
        refine z_iconst B dX4_film_44 ?_
        refine z_istore_n B [(3, .int (hg_I 0)), (0, .ref (ad 0)), (1, .int (hg_I a1)), (2, .int (hg_I a2))] dX4_film_45 rfl (by decide) rfl ?_
        refine z_lv (lv' := [(0, .ref (ad 0)), (1, .int (hg_I a1)), (2, .int (hg_I a2)), (3, .int (hg_I 0))]) B [1, 2, 3, 0] rfl ?_
        exact rX4_film_46 B hr hg_F _ _ _ _ h
      · refine z_bipush B dX4_film_20 (by decide) ?_
        exact z_iret B hr dX4_film_22 h
  · refine z_bipush B dX4_film_7 (by decide) ?_
    exact z_iret B hr dX4_film_9 h
set_option maxHeartbeats 4000000 in
set_option maxRecDepth 100000 in
theorem c_X4_film {l : Launch} {D : va_G} {cI cA : ClassId} {ad : Nat → Nat} {a1 : Int} {a2 : Int} {w w1 : hg_W} {r1 : Int} (h : fX4_film w a1 a2 = some (w1, r1)) : hg_Mi l yX4_film wxX4_film rmX4_film D cI cA ad 0 w [.ref (ad 0), .int (hg_I a1), .int (hg_I a2)] w1 r1 := by
  refine z_meti cX4_film 4 (some .int) (by decide) (Nat.le_of_ble_eq_true rfl) ?_
  intro p e s m args below meth c A B hr
  exact rX4_film_E B hr h
end G_06_hat4
