section G_06_hat3
variable {p : Program} {l : Launch} {e : Env} {s : State} {m : MethodId} {args : Array Value} {below : List Frame} {meth : Method} {c : Code} {D : va_G} {cI cA : ClassId} {ad : Nat → Nat} {A : Nat → Prop}
abbrev wxX4_feed : List Cond := Cond.code yX4_feed cX4_feed 7 (some .int) :: wsL_law
def fX4_feed_132   (w : hg_W) : Option (hg_W × Int) :=
  some (w, wr (w 17 1))
def fX4_feed_118   (w : hg_W) (x1 : Int) (x6 : Int) : Option (hg_W × Int) :=
  if wr x1 ≤ wr 4 then
    (
      fX4_feed_132 w
    )
  else
    hg_bd (fX2_add w x6) fun w1 _ =>
    fX4_feed_132 w1
def fX4_feed_104   (w : hg_W) (x1 : Int) (x5 : Int) (x6 : Int) : Option (hg_W × Int) :=
  if wr x1 ≤ wr 3 then
    (
      fX4_feed_118 w x1 x6
    )
  else
    hg_bd (fX2_add w x5) fun w1 _ =>
    fX4_feed_118 w1 x1 x6
def fX4_feed_90   (w : hg_W) (x1 : Int) (x4 : Int) (x5 : Int) (x6 : Int) : Option (hg_W × Int) :=
  if wr x1 ≤ wr 2 then
    (
      fX4_feed_104 w x1 x5 x6
    )
  else
    hg_bd (fX2_add w x4) fun w1 _ =>
    fX4_feed_104 w1 x1 x5 x6
def fX4_feed (w : hg_W) (a1 : Int) (a2 : Int) (a3 : Int) (a4 : Int) (a5 : Int) (a6 : Int) : Option (hg_W × Int) :=
  if wr a1 < wr 1 then
    (
      some (w, wr (-2))
    )
  else
    if wr 5 < wr a1 then
      (
        some (w, wr (-2))
      )
    else
      hg_bd (fX4_isByte w a2) fun w1 v2 =>
      if wr v2 = 0 then
        (
          some (w1, wr (-2))
        )
      else
        hg_bd (fX4_isByte w1 a3) fun w4 v5 =>
        if wr v5 = 0 then
          (
            some (w4, wr (-2))
          )
        else
          hg_bd (fX4_isByte w4 a4) fun w7 v8 =>
          if wr v8 = 0 then
            (
              some (w7, wr (-2))
            )
          else
            hg_bd (fX4_isByte w7 a5) fun w10 v11 =>
            if wr v11 = 0 then
              (
                some (w10, wr (-2))
              )
            else
              hg_bd (fX4_isByte w10 a6) fun w13 v14 =>
              if wr v14 = 0 then
                (
                  some (w13, wr (-2))
                )
              else
                if wr ((w13 17 1) + a1) ≤ wr 160 then
                  (
                    hg_bd (fX2_add w13 a2) fun w16 _ =>
                    if wr a1 ≤ wr 1 then
                      (
                        fX4_feed_90 w16 a1 a4 a5 a6
                      )
                    else
                      hg_bd (fX2_add w16 a3) fun w19 _ =>
                      fX4_feed_90 w19 a1 a4 a5 a6
                  )
                else
                  some (w13, wr (-4))
set_option maxHeartbeats 4000000 in
set_option maxRecDepth 100000 in
abbrev rmX4_feed : Room := { frames := 1, cells := 0, slots := 0, locals := 21 }
set_option maxHeartbeats 4000000 in
set_option maxRecDepth 100000 in
theorem rX4_feed_132 (B : hg_B p s m args meth c cX4_feed RX4 wsL_law 7 D cI cA ad 0 A) (hr : meth.sig.returnType = (some .int)) {w1 : hg_W} {r1 : Int} : ∀ (w : hg_W), fX4_feed_132 w = some (w1, r1) → hg_At p l e (rmX4_feed) s m args below meth c D cI cA ad 0 A (MQ below (hg_Qi D cI cA ad 0 A w1 r1) args s 0 0 A) 7 w [(0, .ref (ad 0))] 132 [] := by
  intro w h
  unfold fX4_feed_132 at h
  refine z_aload_n B 0 dX4_feed_132 rfl rfl ?_
  refine z_get4 (v := .ref (ad 17)) B 1 dX4_feed_133 inlX4 (by decide) rfl (by decide) (wl_1 19 rfl) rfl rfl ?_
  refine z_get2 (v := .int (hg_I (w 17 1))) B 1 dX4_feed_136 inlX2 (by decide) rfl (by decide) (wl_7 16 rfl) rfl rfl ?_
  exact z_iret B hr dX4_feed_139 h
set_option maxHeartbeats 4000000 in
set_option maxRecDepth 100000 in
theorem rX4_feed_118 (B : hg_B p s m args meth c cX4_feed RX4 wsL_law 7 D cI cA ad 0 A) (hr : meth.sig.returnType = (some .int)) {w1 : hg_W} {r1 : Int} : ∀ (w : hg_W) (x1 : Int) (x6 : Int), fX4_feed_118 w x1 x6 = some (w1, r1) → hg_At p l e (rmX4_feed) s m args below meth c D cI cA ad 0 A (MQ below (hg_Qi D cI cA ad 0 A w1 r1) args s 0 0 A) 7 w [(0, .ref (ad 0)), (1, .int (hg_I x1)), (6, .int (hg_I x6))] 118 [] := by
  intro w x1 x6 h
  unfold fX4_feed_118 at h
  refine z_iload_n B 1 dX4_feed_118 rfl rfl ?_
  refine z_iconst B dX4_feed_119 ?_
  refine z_icmp_le (tgt := 132) B dX4_feed_120 (by decide) h (fun h => ?_) (fun h => ?_)
  · refine z_lv (lv' := [(0, .ref (ad 0))]) B [0] rfl ?_
    exact rX4_feed_132 B hr _ h
  · refine z_aload_n B 0 dX4_feed_123 rfl rfl ?_
    refine z_get4 (v := .ref (ad 17)) B 1 dX4_feed_124 inlX4 (by decide) rfl (by decide) (wl_1 19 rfl) rfl rfl ?_
    refine z_iload B 2 dX4_feed_127 rfl ?_
    obtain ⟨w1, v2, q3, h⟩ := hg_bd_some h
    refine z_callvV (a := 17) (ci := 2) (N := 9) (T := TX2) (C := RX2) (As := [.int (hg_I x6)]) (n := 1) B dX4_feed_129 (c_X2_add q3) (gl_V (wl_10 2 rfl) (wl_10 3 rfl) (wl_10 4 rfl) (wl_1 18 rfl) (wl_10 5 rfl)) rfl ⟨rfl, rfl⟩ (by decide +kernel) ⟨Nat.le_of_ble_eq_true rfl, Nat.le_of_ble_eq_true rfl⟩ (by decide) rfl (by decide) rfl rfl rfl (Nat.le_of_ble_eq_true rfl) ?_
    refine z_lv (lv' := [(0, .ref (ad 0))]) B [0] rfl ?_
    exact rX4_feed_132 B hr _ h
set_option maxHeartbeats 4000000 in
set_option maxRecDepth 100000 in
theorem rX4_feed_104 (B : hg_B p s m args meth c cX4_feed RX4 wsL_law 7 D cI cA ad 0 A) (hr : meth.sig.returnType = (some .int)) {w1 : hg_W} {r1 : Int} : ∀ (w : hg_W) (x1 : Int) (x5 : Int) (x6 : Int), fX4_feed_104 w x1 x5 x6 = some (w1, r1) → hg_At p l e (rmX4_feed) s m args below meth c D cI cA ad 0 A (MQ below (hg_Qi D cI cA ad 0 A w1 r1) args s 0 0 A) 7 w [(0, .ref (ad 0)), (1, .int (hg_I x1)), (5, .int (hg_I x5)), (6, .int (hg_I x6))] 104 [] := by
  intro w x1 x5 x6 h
  unfold fX4_feed_104 at h
  refine z_iload_n B 1 dX4_feed_104 rfl rfl ?_
  refine z_iconst B dX4_feed_105 ?_
  refine z_icmp_le (tgt := 118) B dX4_feed_106 (by decide) h (fun h => ?_) (fun h => ?_)
  · refine z_lv (lv' := [(0, .ref (ad 0)), (1, .int (hg_I x1)), (6, .int (hg_I x6))]) B [0, 1, 3] rfl ?_
    exact rX4_feed_118 B hr _ _ _ h
  · refine z_aload_n B 0 dX4_feed_109 rfl rfl ?_
    refine z_get4 (v := .ref (ad 17)) B 1 dX4_feed_110 inlX4 (by decide) rfl (by decide) (wl_1 19 rfl) rfl rfl ?_
    refine z_iload B 2 dX4_feed_113 rfl ?_
    obtain ⟨w1, v2, q3, h⟩ := hg_bd_some h
    refine z_callvV (a := 17) (ci := 2) (N := 9) (T := TX2) (C := RX2) (As := [.int (hg_I x5)]) (n := 1) B dX4_feed_115 (c_X2_add q3) (gl_V (wl_10 2 rfl) (wl_10 3 rfl) (wl_10 4 rfl) (wl_1 18 rfl) (wl_10 5 rfl)) rfl ⟨rfl, rfl⟩ (by decide +kernel) ⟨Nat.le_of_ble_eq_true rfl, Nat.le_of_ble_eq_true rfl⟩ (by decide) rfl (by decide) rfl rfl rfl (Nat.le_of_ble_eq_true rfl) ?_
    refine z_lv (lv' := [(0, .ref (ad 0)), (1, .int (hg_I x1)), (6, .int (hg_I x6))]) B [0, 1, 3] rfl ?_
    exact rX4_feed_118 B hr _ _ _ h
set_option maxHeartbeats 4000000 in
set_option maxRecDepth 100000 in
theorem rX4_feed_90 (B : hg_B p s m args meth c cX4_feed RX4 wsL_law 7 D cI cA ad 0 A) (hr : meth.sig.returnType = (some .int)) {w1 : hg_W} {r1 : Int} : ∀ (w : hg_W) (x1 : Int) (x4 : Int) (x5 : Int) (x6 : Int), fX4_feed_90 w x1 x4 x5 x6 = some (w1, r1) → hg_At p l e (rmX4_feed) s m args below meth c D cI cA ad 0 A (MQ below (hg_Qi D cI cA ad 0 A w1 r1) args s 0 0 A) 7 w [(0, .ref (ad 0)), (1, .int (hg_I x1)), (4, .int (hg_I x4)), (5, .int (hg_I x5)), (6, .int (hg_I x6))] 90 [] := by
  intro w x1 x4 x5 x6 h
  unfold fX4_feed_90 at h
  refine z_iload_n B 1 dX4_feed_90 rfl rfl ?_
  refine z_iconst B dX4_feed_91 ?_
  refine z_icmp_le (tgt := 104) B dX4_feed_92 (by decide) h (fun h => ?_) (fun h => ?_)
  · refine z_lv (lv' := [(0, .ref (ad 0)), (1, .int (hg_I x1)), (5, .int (hg_I x5)), (6, .int (hg_I x6))]) B [0, 1, 3, 4] rfl ?_
    exact rX4_feed_104 B hr _ _ _ _ h
  · refine z_aload_n B 0 dX4_feed_95 rfl rfl ?_
    refine z_get4 (v := .ref (ad 17)) B 1 dX4_feed_96 inlX4 (by decide) rfl (by decide) (wl_1 19 rfl) rfl rfl ?_
    refine z_iload B 2 dX4_feed_99 rfl ?_
    obtain ⟨w1, v2, q3, h⟩ := hg_bd_some h
    refine z_callvV (a := 17) (ci := 2) (N := 9) (T := TX2) (C := RX2) (As := [.int (hg_I x4)]) (n := 1) B dX4_feed_101 (c_X2_add q3) (gl_V (wl_10 2 rfl) (wl_10 3 rfl) (wl_10 4 rfl) (wl_1 18 rfl) (wl_10 5 rfl)) rfl ⟨rfl, rfl⟩ (by decide +kernel) ⟨Nat.le_of_ble_eq_true rfl, Nat.le_of_ble_eq_true rfl⟩ (by decide) rfl (by decide) rfl rfl rfl (Nat.le_of_ble_eq_true rfl) ?_
    refine z_lv (lv' := [(0, .ref (ad 0)), (1, .int (hg_I x1)), (5, .int (hg_I x5)), (6, .int (hg_I x6))]) B [0, 1, 3, 4] rfl ?_
    exact rX4_feed_104 B hr _ _ _ _ h
set_option maxHeartbeats 4000000 in
set_option maxRecDepth 100000 in
theorem rX4_feed_E (B : hg_B p s m args meth c cX4_feed RX4 wsL_law 7 D cI cA ad 0 A) (hr : meth.sig.returnType = (some .int)) {a1 : Int} {a2 : Int} {a3 : Int} {a4 : Int} {a5 : Int} {a6 : Int} {w1 : hg_W} {r1 : Int} {w : hg_W} (h : fX4_feed w a1 a2 a3 a4 a5 a6 = some (w1, r1)) : hg_At p l e (rmX4_feed) s m args below meth c D cI cA ad 0 A (MQ below (hg_Qi D cI cA ad 0 A w1 r1) args s 0 0 A) 7 w [(0, .ref (ad 0)), (1, .int (hg_I a1)), (2, .int (hg_I a2)), (3, .int (hg_I a3)), (4, .int (hg_I a4)), (5, .int (hg_I a5)), (6, .int (hg_I a6))] 0 [] := by
  unfold fX4_feed at h
  refine z_iload_n B 1 dX4_feed_0 rfl rfl ?_
  refine z_iconst B dX4_feed_1 ?_
  refine z_icmp_lt (tgt := 48) B dX4_feed_2 (by decide) h (fun h => ?_) (fun h => ?_)
  · refine z_bipush B dX4_feed_48 (by decide) ?_
    exact z_iret B hr dX4_feed_50 h
  · refine z_iload_n B 1 dX4_feed_5 rfl rfl ?_
    refine z_iconst B dX4_feed_6 ?_
    refine z_icmp_gt (tgt := 48) B dX4_feed_7 (by decide) h (fun h => ?_) (fun h => ?_)
    · refine z_bipush B dX4_feed_48 (by decide) ?_
      exact z_iret B hr dX4_feed_50 h
    · refine z_iload_n B 2 dX4_feed_10 rfl rfl ?_
      obtain ⟨w1, v2, q3, h⟩ := hg_bd_some h
      refine z_calliS (As := [.int (hg_I a2)]) (n := 1) B dX4_feed_11 (c_X4_isByte q3) (gl_S (wl_9 23 rfl) (wl_10 0 rfl) (wl_1 2 rfl) (wl_10 1 rfl)) rfl ⟨rfl, rfl⟩ (by decide +kernel) ⟨Nat.le_of_ble_eq_true rfl, Nat.le_of_ble_eq_true rfl⟩ rfl rfl (Nat.le_of_ble_eq_true rfl) ?_
      refine z_if_eq (tgt := 48) B dX4_feed_14 (by decide) h (fun h => ?_) (fun h => ?_)
      · refine z_bipush B dX4_feed_48 (by decide) ?_
        exact z_iret B hr dX4_feed_50 h
      · refine z_iload_n B 3 dX4_feed_17 rfl rfl ?_
        obtain ⟨w4, v5, q6, h⟩ := hg_bd_some h
        refine z_calliS (As := [.int (hg_I a3)]) (n := 1) B dX4_feed_18 (c_X4_isByte q6) (gl_S (wl_9 23 rfl) (wl_10 0 rfl) (wl_1 2 rfl) (wl_10 1 rfl)) rfl ⟨rfl, rfl⟩ (by decide +kernel) ⟨Nat.le_of_ble_eq_true rfl, Nat.le_of_ble_eq_true rfl⟩ rfl rfl (Nat.le_of_ble_eq_true rfl) ?_
        refine z_if_eq (tgt := 48) B dX4_feed_21 (by decide) h (fun h => ?_) (fun h => ?_)
        · refine z_bipush B dX4_feed_48 (by decide) ?_
          exact z_iret B hr dX4_feed_50 h
        · refine z_iload B 4 dX4_feed_24 rfl ?_
          obtain ⟨w7, v8, q9, h⟩ := hg_bd_some h
          refine z_calliS (As := [.int (hg_I a4)]) (n := 1) B dX4_feed_26 (c_X4_isByte q9) (gl_S (wl_9 23 rfl) (wl_10 0 rfl) (wl_1 2 rfl) (wl_10 1 rfl)) rfl ⟨rfl, rfl⟩ (by decide +kernel) ⟨Nat.le_of_ble_eq_true rfl, Nat.le_of_ble_eq_true rfl⟩ rfl rfl (Nat.le_of_ble_eq_true rfl) ?_
          refine z_if_eq (tgt := 48) B dX4_feed_29 (by decide) h (fun h => ?_) (fun h => ?_)
          · refine z_bipush B dX4_feed_48 (by decide) ?_
            exact z_iret B hr dX4_feed_50 h
          · refine z_iload B 5 dX4_feed_32 rfl ?_
            obtain ⟨w10, v11, q12, h⟩ := hg_bd_some h
            refine z_calliS (As := [.int (hg_I a5)]) (n := 1) B dX4_feed_34 (c_X4_isByte q12) (gl_S (wl_9 23 rfl) (wl_10 0 rfl) (wl_1 2 rfl) (wl_10 1 rfl)) rfl ⟨rfl, rfl⟩ (by decide +kernel) ⟨Nat.le_of_ble_eq_true rfl, Nat.le_of_ble_eq_true rfl⟩ rfl rfl (Nat.le_of_ble_eq_true rfl) ?_
            refine z_if_eq (tgt := 48) B dX4_feed_37 (by decide) h (fun h => ?_) (fun h => ?_)
            · refine z_bipush B dX4_feed_48 (by decide) ?_
              exact z_iret B hr dX4_feed_50 h
            · refine z_iload B 6 dX4_feed_40 rfl ?_
              obtain ⟨w13, v14, q15, h⟩ := hg_bd_some h
              refine z_calliS (As := [.int (hg_I a6)]) (n := 1) B dX4_feed_42 (c_X4_isByte q15) (gl_S (wl_9 23 rfl) (wl_10 0 rfl) (wl_1 2 rfl) (wl_10 1 rfl)) rfl ⟨rfl, rfl⟩ (by decide +kernel) ⟨Nat.le_of_ble_eq_true rfl, Nat.le_of_ble_eq_true rfl⟩ rfl rfl (Nat.le_of_ble_eq_true rfl) ?_
              refine z_if_ne (tgt := 51) B dX4_feed_45 (by decide) h (fun h => ?_) (fun h => ?_)
              · refine z_aload_n B 0 dX4_feed_51 rfl rfl ?_
                refine z_get4 (v := .ref (ad 17)) B 1 dX4_feed_52 inlX4 (by decide) rfl (by decide) (wl_1 19 rfl) rfl rfl ?_
                refine z_get2 (v := .int (hg_I (w13 17 1))) B 1 dX4_feed_55 inlX2 (by decide) rfl (by decide) (wl_7 16 rfl) rfl rfl ?_
                refine z_iload_n B 1 dX4_feed_58 rfl rfl ?_
                refine z_iadd B dX4_feed_59 ?_
                refine z_sipush B dX4_feed_60 (by decide) ?_
                refine z_icmp_le (tgt := 69) B dX4_feed_63 (by decide) h (fun h => ?_) (fun h => ?_)
                · refine z_aload_n B 0 dX4_feed_69 rfl rfl ?_
                  refine z_get4 (v := .ref (ad 17)) B 1 dX4_feed_70 inlX4 (by decide) rfl (by decide) (wl_1 19 rfl) rfl rfl ?_
                  refine z_iload_n B 2 dX4_feed_73 rfl rfl ?_
                  obtain ⟨w16, v17, q18, h⟩ := hg_bd_some h
                  refine z_callvV (a := 17) (ci := 2) (N := 9) (T := TX2) (C := RX2) (As := [.int (hg_I a2)]) (n := 1) B dX4_feed_74 (c_X2_add q18) (gl_V (wl_10 2 rfl) (wl_10 3 rfl) (wl_10 4 rfl) (wl_1 18 rfl) (wl_10 5 rfl)) rfl ⟨rfl, rfl⟩ (by decide +kernel) ⟨Nat.le_of_ble_eq_true rfl, Nat.le_of_ble_eq_true rfl⟩ (by decide) rfl (by decide) rfl rfl rfl (Nat.le_of_ble_eq_true rfl) ?_
                  refine z_iload_n B 1 dX4_feed_77 rfl rfl ?_
                  refine z_iconst B dX4_feed_78 ?_
                  refine z_icmp_le (tgt := 90) B dX4_feed_79 (by decide) h (fun h => ?_) (fun h => ?_)
                  · refine z_lv (lv' := [(0, .ref (ad 0)), (1, .int (hg_I a1)), (4, .int (hg_I a4)), (5, .int (hg_I a5)), (6, .int (hg_I a6))]) B [0, 1, 4, 5, 6] rfl ?_
                    exact rX4_feed_90 B hr _ _ _ _ _ h
                  · refine z_aload_n B 0 dX4_feed_82 rfl rfl ?_
                    refine z_get4 (v := .ref (ad 17)) B 1 dX4_feed_83 inlX4 (by decide) rfl (by decide) (wl_1 19 rfl) rfl rfl ?_
                    refine z_iload_n B 3 dX4_feed_86 rfl rfl ?_
                    obtain ⟨w19, v20, q21, h⟩ := hg_bd_some h
                    refine z_callvV (a := 17) (ci := 2) (N := 9) (T := TX2) (C := RX2) (As := [.int (hg_I a3)]) (n := 1) B dX4_feed_87 (c_X2_add q21) (gl_V (wl_10 2 rfl) (wl_10 3 rfl) (wl_10 4 rfl) (wl_1 18 rfl) (wl_10 5 rfl)) rfl ⟨rfl, rfl⟩ (by decide +kernel) ⟨Nat.le_of_ble_eq_true rfl, Nat.le_of_ble_eq_true rfl⟩ (by decide) rfl (by decide) rfl rfl rfl (Nat.le_of_ble_eq_true rfl) ?_
                    refine z_lv (lv' := [(0, .ref (ad 0)), (1, .int (hg_I a1)), (4, .int (hg_I a4)), (5, .int (hg_I a5)), (6, .int (hg_I a6))]) B [0, 1, 4, 5, 6] rfl ?_
                    exact rX4_feed_90 B hr _ _ _ _ _ h
                · refine z_bipush B dX4_feed_66 (by decide) ?_
                  exact z_iret B hr dX4_feed_68 h
              · refine z_bipush B dX4_feed_48 (by decide) ?_
                exact z_iret B hr dX4_feed_50 h
set_option maxHeartbeats 4000000 in
set_option maxRecDepth 100000 in
theorem c_X4_feed {l : Launch} {D : va_G} {cI cA : ClassId} {ad : Nat → Nat} {a1 : Int} {a2 : Int} {a3 : Int} {a4 : Int} {a5 : Int} {a6 : Int} {w w1 : hg_W} {r1 : Int} (h : fX4_feed w a1 a2 a3 a4 a5 a6 = some (w1, r1)) : hg_Mi l yX4_feed wxX4_feed rmX4_feed D cI cA ad 0 w [.ref (ad 0), .int (hg_I a1), .int (hg_I a2), .int (hg_I a3), .int (hg_I a4), .int (hg_I a5), .int (hg_I a6)] w1 r1 := by
  refine z_meti cX4_feed 7 (some .int) (by decide) (Nat.le_of_ble_eq_true rfl) ?_
  intro p e s m args below meth c A B hr
  exact rX4_feed_E B hr h
abbrev wxX4_text : List Cond := Cond.code yX4_text cX4_text 3 (some .int) :: wsL_law
def fX4_text (w : hg_W) : Option (hg_W × Int) :=
  if wr (w 1 3) < 0 then
    (
      some (w, wr (-4))
    )
  else
    if wr (w 1 3) < wr 6 then
      (
        (hg_ar 2 (w 1 3)).bind fun c1 =>
        (hg_ar 9 (w 1 3)).bind fun c3 =>
        hg_bd (fX2_read w c1 c3) fun w5 v6 =>
        (hg_pt w5 17 1 0).bind fun w8 =>
        if wr v6 < 0 then
          (
            (hg_pt w8 1 3 ((w 1 3) + 1)).bind fun w10 =>
            some (w10, wr (w 1 3))
          )
        else
          some (w8, wr ((-100) - v6))
      )
    else
      some (w, wr (-4))
set_option maxHeartbeats 4000000 in
set_option maxRecDepth 100000 in
abbrev rmX4_text : Room := { frames := 78, cells := 0, slots := 0, locals := 2057 }
set_option maxHeartbeats 4000000 in
set_option maxRecDepth 100000 in
theorem rX4_text_E (B : hg_B p s m args meth c cX4_text RX4 wsL_law 3 D cI cA ad 0 A) (hr : meth.sig.returnType = (some .int)) {w1 : hg_W} {r1 : Int} {w : hg_W} (h : fX4_text w = some (w1, r1)) : hg_At p l e (rmX4_text) s m args below meth c D cI cA ad 0 A (MQ below (hg_Qi D cI cA ad 0 A w1 r1) args s 0 0 A) 3 w [(0, .ref (ad 0))] 0 [] := by
  unfold fX4_text at h
  refine z_aload_n B 0 dX4_text_0 rfl rfl ?_
  refine z_get4 (v := .ref (ad 1)) B 0 dX4_text_1 inlX4 (by decide) rfl (by decide) (wl_1 15 rfl) rfl rfl ?_
  refine z_get3 (v := .int (hg_I (w 1 3))) B 3 dX4_text_4 inlX3 (by decide) rfl (by decide) (wl_7 14 rfl) rfl rfl ?_
  refine z_istore_n B [(1, .int (hg_I (w 1 3))), (0, .ref (ad 0))] dX4_text_7 rfl (by decide) rfl ?_
  refine z_iload_n B 0 dX4_text_8 rfl rfl ?_
  refine z_if_lt (tgt := 18) B dX4_text_9 (by decide) h (fun h => ?_) (fun h => ?_)
  · refine z_bipush B dX4_text_18 (by decide) ?_
    exact z_iret B hr dX4_text_20 h
  · refine z_iload_n B 0 dX4_text_12 rfl rfl ?_
    refine z_bipush B dX4_text_13 (by decide) ?_
    refine z_icmp_lt (tgt := 21) B dX4_text_15 (by decide) h (fun h => ?_) (fun h => ?_)
    · refine z_aload_n B 1 dX4_text_21 rfl rfl ?_
      refine z_get4 (v := .ref (ad 17)) B 1 dX4_text_22 inlX4 (by decide) rfl (by decide) (wl_1 19 rfl) rfl rfl ?_
      refine z_aload_n B 1 dX4_text_25 rfl rfl ?_
      refine z_get4 (v := .ref (ad 1)) B 0 dX4_text_26 inlX4 (by decide) rfl (by decide) (wl_1 15 rfl) rfl rfl ?_
      refine z_get3 (v := .ref (ad 2)) B 0 dX4_text_29 inlX3 (by decide) rfl (by decide) (wl_10 18 rfl) rfl rfl ?_
      refine z_iload_n B 0 dX4_text_32 rfl rfl ?_
      obtain ⟨c1, q2, h⟩ := Option.bind_eq_some_iff.mp h
      refine z_aald B rfl dX4_text_33 q2 ?_
      refine z_aload_n B 1 dX4_text_34 rfl rfl ?_
      refine z_get4 (v := .ref (ad 1)) B 0 dX4_text_35 inlX4 (by decide) rfl (by decide) (wl_1 15 rfl) rfl rfl ?_
      refine z_get3 (v := .ref (ad 9)) B 1 dX4_text_38 inlX3 (by decide) rfl (by decide) (wl_10 19 rfl) rfl rfl ?_
      refine z_iload_n B 0 dX4_text_41 rfl rfl ?_
      obtain ⟨c3, q4, h⟩ := Option.bind_eq_some_iff.mp h
      refine z_aald B rfl dX4_text_42 q4 ?_
      obtain ⟨w5, v6, q7, h⟩ := hg_bd_some h
      refine z_calliV (a := 17) (ci := 2) (N := 9) (T := TX2) (C := RX2) (As := [.ref (ad c1), .ref (ad c3)]) (n := 2) B dX4_text_43 (c_X2_read q7) (gl_V (wl_10 20 rfl) (wl_10 21 rfl) (wl_10 22 rfl) (wl_1 18 rfl) (wl_10 23 rfl)) rfl ⟨rfl, rfl⟩ (by decide +kernel) ⟨Nat.le_of_ble_eq_true rfl, Nat.le_of_ble_eq_true rfl⟩ (by decide) rfl (by decide) rfl rfl rfl (Nat.le_of_ble_eq_true rfl) ?_
      refine z_istore_n B [(2, .int (hg_I v6)), (1, .int (hg_I (w 1 3))), (0, .ref (ad 0))] dX4_text_46 rfl (by decide) rfl ?_
      refine z_aload_n B 2 dX4_text_47 rfl rfl ?_
      refine z_get4 (v := .ref (ad 17)) B 1 dX4_text_48 inlX4 (by decide) rfl (by decide) (wl_1 19 rfl) rfl rfl ?_
      refine z_iconst B dX4_text_51 ?_
      obtain ⟨w8, q9, h⟩ := Option.bind_eq_some_iff.mp h
      refine z_put2 B 1 dX4_text_52 inlX2 (by decide) rfl (by decide) (wl_7 16 rfl) rfl rfl .int (by decide +kernel) rfl rfl hg_fs2_1 q9 ?_
      refine z_iload_n B 0 dX4_text_55 rfl rfl ?_
      refine z_if_lt (tgt := 64) B dX4_text_56 (by decide) h (fun h => ?_) (fun h => ?_)
      · refine z_aload_n B 2 dX4_text_64 rfl rfl ?_
        refine z_get4 (v := .ref (ad 1)) B 0 dX4_text_65 inlX4 (by decide) rfl (by decide) (wl_1 15 rfl) rfl rfl ?_
        refine z_iload_n B 1 dX4_text_68 rfl rfl ?_
        refine z_iconst B dX4_text_69 ?_
        refine z_iadd B dX4_text_70 ?_
        obtain ⟨w10, q11, h⟩ := Option.bind_eq_some_iff.mp h
        refine z_put3 B 3 dX4_text_71 inlX3 (by decide) rfl (by decide) (wl_7 14 rfl) rfl rfl .int (by decide +kernel) rfl rfl hg_fs3_3 q11 ?_
        refine z_iload_n B 1 dX4_text_74 rfl rfl ?_
        exact z_iret B hr dX4_text_75 h
      · refine z_bipush B dX4_text_59 (by decide) ?_
        refine z_iload_n B 0 dX4_text_61 rfl rfl ?_
        refine z_isub B dX4_text_62 ?_
        exact z_iret B hr dX4_text_63 h
    · refine z_bipush B dX4_text_18 (by decide) ?_
      exact z_iret B hr dX4_text_20 h
set_option maxHeartbeats 4000000 in
set_option maxRecDepth 100000 in
theorem c_X4_text {l : Launch} {D : va_G} {cI cA : ClassId} {ad : Nat → Nat} {w w1 : hg_W} {r1 : Int} (h : fX4_text w = some (w1, r1)) : hg_Mi l yX4_text wxX4_text rmX4_text D cI cA ad 0 w [.ref (ad 0)] w1 r1 := by
  refine z_meti cX4_text 3 (some .int) (by decide) (Nat.le_of_ble_eq_true rfl) ?_
  intro p e s m args below meth c A B hr
  exact rX4_text_E B hr h
abbrev wxX4_force : List Cond := Cond.code yX4_force cX4_force 3 (some .int) :: wsL_law
def fX4_force (w : hg_W) (a1 : Int) : Option (hg_W × Int) :=
  if wr a1 < 0 then
    (
      some (w, wr (-2))
    )
  else
    if wr a1 < wr (w 1 3) then
      (
        (hg_pt w 19 13 a1).bind fun w1 =>
        some (w1, wr (w 19 13))
      )
    else
      some (w, wr (-2))
set_option maxHeartbeats 4000000 in
set_option maxRecDepth 100000 in
abbrev rmX4_force : Room := { frames := 0, cells := 0, slots := 0, locals := 0 }
set_option maxHeartbeats 4000000 in
set_option maxRecDepth 100000 in
theorem rX4_force_E (B : hg_B p s m args meth c cX4_force RX4 wsL_law 3 D cI cA ad 0 A) (hr : meth.sig.returnType = (some .int)) {a1 : Int} {w1 : hg_W} {r1 : Int} {w : hg_W} (h : fX4_force w a1 = some (w1, r1)) : hg_At p l e (rmX4_force) s m args below meth c D cI cA ad 0 A (MQ below (hg_Qi D cI cA ad 0 A w1 r1) args s 0 0 A) 3 w [(0, .ref (ad 0)), (1, .int (hg_I a1))] 0 [] := by
  unfold fX4_force at h
  refine z_iload_n B 1 dX4_force_0 rfl rfl ?_
  refine z_if_lt (tgt := 15) B dX4_force_1 (by decide) h (fun h => ?_) (fun h => ?_)
  · refine z_bipush B dX4_force_15 (by decide) ?_
    exact z_iret B hr dX4_force_17 h
  · refine z_iload_n B 1 dX4_force_4 rfl rfl ?_
    refine z_aload_n B 0 dX4_force_5 rfl rfl ?_
    refine z_get4 (v := .ref (ad 1)) B 0 dX4_force_6 inlX4 (by decide) rfl (by decide) (wl_1 15 rfl) rfl rfl ?_
    refine z_get3 (v := .int (hg_I (w 1 3))) B 3 dX4_force_9 inlX3 (by decide) rfl (by decide) (wl_7 14 rfl) rfl rfl ?_
    refine z_icmp_lt (tgt := 18) B dX4_force_12 (by decide) h (fun h => ?_) (fun h => ?_)
    · refine z_aload_n B 0 dX4_force_18 rfl rfl ?_
      refine z_get4 (v := .ref (ad 19)) B 2 dX4_force_19 inlX4 (by decide) rfl (by decide) (wl_1 23 rfl) rfl rfl ?_
      refine z_get0 (v := .int (hg_I (w 19 13))) B 13 dX4_force_22 inlX0 (by decide) rfl (by decide) (wl_7 15 rfl) rfl rfl ?_
      refine z_istore_n B [(2, .int (hg_I (w 19 13))), (0, .ref (ad 0)), (1, .int (hg_I a1))] dX4_force_25 rfl (by decide) rfl ?_
      refine z_aload_n B 1 dX4_force_26 rfl rfl ?_
      refine z_get4 (v := .ref (ad 19)) B 2 dX4_force_27 inlX4 (by decide) rfl (by decide) (wl_1 23 rfl) rfl rfl ?_
      refine z_iload_n B 2 dX4_force_30 rfl rfl ?_
      obtain ⟨w1, q2, h⟩ := Option.bind_eq_some_iff.mp h
      refine z_put0 B 13 dX4_force_31 inlX0 (by decide) rfl (by decide) (wl_7 15 rfl) rfl rfl .int (by decide +kernel) rfl rfl hg_fs0_13 q2 ?_
      refine z_iload_n B 0 dX4_force_34 rfl rfl ?_
      exact z_iret B hr dX4_force_35 h
    · refine z_bipush B dX4_force_15 (by decide) ?_
      exact z_iret B hr dX4_force_17 h
set_option maxHeartbeats 4000000 in
set_option maxRecDepth 100000 in
theorem c_X4_force {l : Launch} {D : va_G} {cI cA : ClassId} {ad : Nat → Nat} {a1 : Int} {w w1 : hg_W} {r1 : Int} (h : fX4_force w a1 = some (w1, r1)) : hg_Mi l yX4_force wxX4_force rmX4_force D cI cA ad 0 w [.ref (ad 0), .int (hg_I a1)] w1 r1 := by
  refine z_meti cX4_force 3 (some .int) (by decide) (Nat.le_of_ble_eq_true rfl) ?_
  intro p e s m args below meth c A B hr
  exact rX4_force_E B hr h
abbrev wxX4_isThere : List Cond := Cond.code yX4_isThere cX4_isThere 2 (some .boolean) :: wsL_law
def fX4_isThere (w : hg_W) (a1 : Int) : Option (hg_W × Int) :=
  if wr a1 < 0 then
    (
      if wr 0 = 0 ∨ wr 0 = 1 then some (w, wr 0) else none
    )
  else
    if wr (w 19 9) ≤ wr a1 then
      (
        if wr 0 = 0 ∨ wr 0 = 1 then some (w, wr 0) else none
      )
    else
      if wr 1 = 0 ∨ wr 1 = 1 then some (w, wr 1) else none
set_option maxHeartbeats 4000000 in
set_option maxRecDepth 100000 in
abbrev rmX4_isThere : Room := { frames := 0, cells := 0, slots := 0, locals := 0 }
set_option maxHeartbeats 4000000 in
set_option maxRecDepth 100000 in
theorem rX4_isThere_E (B : hg_B p s m args meth c cX4_isThere RX4 wsL_law 2 D cI cA ad 0 A) (hr : meth.sig.returnType = (some .boolean)) {a1 : Int} {w1 : hg_W} {r1 : Int} {w : hg_W} (h : fX4_isThere w a1 = some (w1, r1)) : hg_At p l e (rmX4_isThere) s m args below meth c D cI cA ad 0 A (MQ below (hg_Qi D cI cA ad 0 A w1 r1) args s 0 0 A) 2 w [(0, .ref (ad 0)), (1, .int (hg_I a1))] 0 [] := by
  unfold fX4_isThere at h
  refine z_iload_n B 1 dX4_isThere_0 rfl rfl ?_
  refine z_if_lt (tgt := 19) B dX4_isThere_1 (by decide) h (fun h => ?_) (fun h => ?_)
  · refine z_iconst B dX4_isThere_19 ?_
    exact z_bret B hr dX4_isThere_20 h
  · refine z_iload_n B 1 dX4_isThere_4 rfl rfl ?_
    refine z_aload_n B 0 dX4_isThere_5 rfl rfl ?_
    refine z_get4 (v := .ref (ad 19)) B 2 dX4_isThere_6 inlX4 (by decide) rfl (by decide) (wl_1 23 rfl) rfl rfl ?_
    refine z_get0 (v := .int (hg_I (w 19 9))) B 9 dX4_isThere_9 inlX0 (by decide) rfl (by decide) (wl_7 11 rfl) rfl rfl ?_
    refine z_icmp_ge (tgt := 19) B dX4_isThere_12 (by decide) h (fun h => ?_) (fun h => ?_)
    · refine z_iconst B dX4_isThere_19 ?_
      exact z_bret B hr dX4_isThere_20 h
    · refine z_iconst B dX4_isThere_15 ?_
      refine z_goto (tgt := 20) B dX4_isThere_16 (by decide) ?_
      exact z_bret B hr dX4_isThere_20 h
set_option maxHeartbeats 4000000 in
set_option maxRecDepth 100000 in
theorem c_X4_isThere {l : Launch} {D : va_G} {cI cA : ClassId} {ad : Nat → Nat} {a1 : Int} {w w1 : hg_W} {r1 : Int} (h : fX4_isThere w a1 = some (w1, r1)) : hg_Mi l yX4_isThere wxX4_isThere rmX4_isThere D cI cA ad 0 w [.ref (ad 0), .int (hg_I a1)] w1 r1 := by
  refine z_meti cX4_isThere 2 (some .boolean) (by decide) (Nat.le_of_ble_eq_true rfl) ?_
  intro p e s m args below meth c A B hr
  exact rX4_isThere_E B hr h
abbrev wxX4_asks : List Cond := Cond.code yX4_asks cX4_asks 4 (some .int) :: wsL_law
def fX4_asks_33   (w : hg_W) (x1 : Int) (x2 : Int) (x3 : Int) : Option (hg_W × Int) :=
  hg_bd (fX0_says 19 w x1 x2 x3) fun w1 v2 =>
  some (w1, wr v2)
def fX4_asks (w : hg_W) (a1 : Int) (a2 : Int) (a3 : Int) : Option (hg_W × Int) :=
  if wr a1 < 0 then
    (
      some (w, wr (-1000))
    )
  else
    if wr 3 ≤ wr a1 then
      (
        some (w, wr (-1000))
      )
    else
      hg_bd (fX4_isThere w a2) fun w1 v2 =>
      if wr v2 = 0 then
        (
          some (w1, wr (-1000))
        )
      else
        if wr a3 = wr (-1) then
          (
            fX4_asks_33 w1 a1 a2 a3
          )
        else
          hg_bd (fX4_isSort w1 a3) fun w4 v5 =>
          if wr v5 = 0 then
            (
              some (w4, wr (-1000))
            )
          else
            fX4_asks_33 w4 a1 a2 a3
set_option maxHeartbeats 4000000 in
set_option maxRecDepth 100000 in
abbrev rmX4_asks : Room := { frames := 3, cells := 0, slots := 0, locals := 74 }
set_option maxHeartbeats 4000000 in
set_option maxRecDepth 100000 in
theorem rX4_asks_33 (B : hg_B p s m args meth c cX4_asks RX4 wsL_law 4 D cI cA ad 0 A) (hr : meth.sig.returnType = (some .int)) {w1 : hg_W} {r1 : Int} : ∀ (w : hg_W) (x1 : Int) (x2 : Int) (x3 : Int), fX4_asks_33 w x1 x2 x3 = some (w1, r1) → hg_At p l e (rmX4_asks) s m args below meth c D cI cA ad 0 A (MQ below (hg_Qi D cI cA ad 0 A w1 r1) args s 0 0 A) 4 w [(0, .ref (ad 0)), (1, .int (hg_I x1)), (2, .int (hg_I x2)), (3, .int (hg_I x3))] 33 [] := by
  intro w x1 x2 x3 h
  unfold fX4_asks_33 at h
  refine z_aload_n B 0 dX4_asks_33 rfl rfl ?_
  refine z_get4 (v := .ref (ad 19)) B 2 dX4_asks_34 inlX4 (by decide) rfl (by decide) (wl_1 23 rfl) rfl rfl ?_
  refine z_iload_n B 1 dX4_asks_37 rfl rfl ?_
  refine z_iload_n B 2 dX4_asks_38 rfl rfl ?_
  refine z_iload_n B 3 dX4_asks_39 rfl rfl ?_
  obtain ⟨w1, v2, q3, h⟩ := hg_bd_some h
  refine z_calliV (a := 19) (ci := 0) (N := 14) (T := TX0) (C := RX0) (As := [.int (hg_I x1), .int (hg_I x2), .int (hg_I x3)]) (n := 3) B dX4_asks_40 (c_X0_says (by unfold hg_rd; decide) q3) (gl_V (wl_16 2 rfl) (wl_16 3 rfl) (wl_16 4 rfl) (wl_1 22 rfl) (wl_16 5 rfl)) rfl ⟨rfl, rfl⟩ (by decide +kernel) ⟨Nat.le_of_ble_eq_true rfl, Nat.le_of_ble_eq_true rfl⟩ (by decide) rfl (by decide) rfl rfl rfl (Nat.le_of_ble_eq_true rfl) ?_
  exact z_iret B hr dX4_asks_43 h
set_option maxHeartbeats 4000000 in
set_option maxRecDepth 100000 in
theorem rX4_asks_E (B : hg_B p s m args meth c cX4_asks RX4 wsL_law 4 D cI cA ad 0 A) (hr : meth.sig.returnType = (some .int)) {a1 : Int} {a2 : Int} {a3 : Int} {w1 : hg_W} {r1 : Int} {w : hg_W} (h : fX4_asks w a1 a2 a3 = some (w1, r1)) : hg_At p l e (rmX4_asks) s m args below meth c D cI cA ad 0 A (MQ below (hg_Qi D cI cA ad 0 A w1 r1) args s 0 0 A) 4 w [(0, .ref (ad 0)), (1, .int (hg_I a1)), (2, .int (hg_I a2)), (3, .int (hg_I a3))] 0 [] := by
  unfold fX4_asks at h
  refine z_iload_n B 1 dX4_asks_0 rfl rfl ?_
  refine z_if_lt (tgt := 29) B dX4_asks_1 (by decide) h (fun h => ?_) (fun h => ?_)
  · refine z_sipush B dX4_asks_29 (by decide) ?_
    exact z_iret B hr dX4_asks_32 h
  · refine z_iload_n B 1 dX4_asks_4 rfl rfl ?_
    refine z_iconst B dX4_asks_5 ?_
    refine z_icmp_ge (tgt := 29) B dX4_asks_6 (by decide) h (fun h => ?_) (fun h => ?_)
    · refine z_sipush B dX4_asks_29 (by decide) ?_
      exact z_iret B hr dX4_asks_32 h
    · refine z_aload_n B 0 dX4_asks_9 rfl rfl ?_
      refine z_iload_n B 2 dX4_asks_10 rfl rfl ?_
      obtain ⟨w1, v2, q3, h⟩ := hg_bd_some h
      refine z_calliV (a := 0) (ci := 4) (N := 9) (T := TX4) (C := RX4) (As := [.int (hg_I a2)]) (n := 1) B dX4_asks_11 (c_X4_isThere q3) (gl_V (wl_15 22 rfl) (wl_15 23 rfl) (wl_16 0 rfl) (wl_1 2 rfl) (wl_16 1 rfl)) rfl ⟨rfl, rfl⟩ (by decide +kernel) ⟨Nat.le_of_ble_eq_true rfl, Nat.le_of_ble_eq_true rfl⟩ (by decide) rfl (by decide) rfl rfl rfl (Nat.le_of_ble_eq_true rfl) ?_
      refine z_if_eq (tgt := 29) B dX4_asks_14 (by decide) h (fun h => ?_) (fun h => ?_)
      · refine z_sipush B dX4_asks_29 (by decide) ?_
        exact z_iret B hr dX4_asks_32 h
      · refine z_iload_n B 3 dX4_asks_17 rfl rfl ?_
        refine z_iconst B dX4_asks_18 ?_
        refine z_icmp_eq (tgt := 33) B dX4_asks_19 (by decide) h (fun h => ?_) (fun h => ?_)
        · exact rX4_asks_33 B hr _ _ _ _ h
        · refine z_iload_n B 3 dX4_asks_22 rfl rfl ?_
          obtain ⟨w4, v5, q6, h⟩ := hg_bd_some h
          refine z_calliS (As := [.int (hg_I a3)]) (n := 1) B dX4_asks_23 (c_X4_isSort q6) (gl_S (wl_8 12 rfl) (wl_8 13 rfl) (wl_1 2 rfl) (wl_8 14 rfl)) rfl ⟨rfl, rfl⟩ (by decide +kernel) ⟨Nat.le_of_ble_eq_true rfl, Nat.le_of_ble_eq_true rfl⟩ rfl rfl (Nat.le_of_ble_eq_true rfl) ?_
          refine z_if_ne (tgt := 33) B dX4_asks_26 (by decide) h (fun h => ?_) (fun h => ?_)
          · exact rX4_asks_33 B hr _ _ _ _ h
          · refine z_sipush B dX4_asks_29 (by decide) ?_
            exact z_iret B hr dX4_asks_32 h
set_option maxHeartbeats 4000000 in
set_option maxRecDepth 100000 in
theorem c_X4_asks {l : Launch} {D : va_G} {cI cA : ClassId} {ad : Nat → Nat} {a1 : Int} {a2 : Int} {a3 : Int} {w w1 : hg_W} {r1 : Int} (h : fX4_asks w a1 a2 a3 = some (w1, r1)) : hg_Mi l yX4_asks wxX4_asks rmX4_asks D cI cA ad 0 w [.ref (ad 0), .int (hg_I a1), .int (hg_I a2), .int (hg_I a3)] w1 r1 := by
  refine z_meti cX4_asks 4 (some .int) (by decide) (Nat.le_of_ble_eq_true rfl) ?_
  intro p e s m args below meth c A B hr
  exact rX4_asks_E B hr h
abbrev wxX4_person : List Cond := Cond.code yX4_person cX4_person 3 (some .int) :: wsL_law
def fX4_person (w : hg_W) (a1 : Int) (a2 : Int) : Option (hg_W × Int) :=
  if wr a1 < 0 then
    (
      some (w, wr (-2))
    )
  else
    if wr 60 ≤ wr a1 then
      (
        some (w, wr (-2))
      )
    else
      if wr a2 < 0 then
        (
          some (w, wr (-2))
        )
      else
        if wr a2 ≤ wr 99 then
          (
            hg_bd (fX0_comes 19 w a1 a2) fun w1 v2 =>
            some (w1, wr v2)
          )
        else
          some (w, wr (-2))
set_option maxHeartbeats 4000000 in
set_option maxRecDepth 100000 in
abbrev rmX4_person : Room := { frames := 1, cells := 0, slots := 0, locals := 23 }
set_option maxHeartbeats 4000000 in
set_option maxRecDepth 100000 in
theorem rX4_person_E (B : hg_B p s m args meth c cX4_person RX4 wsL_law 3 D cI cA ad 0 A) (hr : meth.sig.returnType = (some .int)) {a1 : Int} {a2 : Int} {w1 : hg_W} {r1 : Int} {w : hg_W} (h : fX4_person w a1 a2 = some (w1, r1)) : hg_At p l e (rmX4_person) s m args below meth c D cI cA ad 0 A (MQ below (hg_Qi D cI cA ad 0 A w1 r1) args s 0 0 A) 3 w [(0, .ref (ad 0)), (1, .int (hg_I a1)), (2, .int (hg_I a2))] 0 [] := by
  unfold fX4_person at h
  refine z_iload_n B 1 dX4_person_0 rfl rfl ?_
  refine z_if_lt (tgt := 20) B dX4_person_1 (by decide) h (fun h => ?_) (fun h => ?_)
  · refine z_bipush B dX4_person_20 (by decide) ?_
    exact z_iret B hr dX4_person_22 h
  · refine z_iload_n B 1 dX4_person_4 rfl rfl ?_
    refine z_bipush B dX4_person_5 (by decide) ?_
    refine z_icmp_ge (tgt := 20) B dX4_person_7 (by decide) h (fun h => ?_) (fun h => ?_)
    · refine z_bipush B dX4_person_20 (by decide) ?_
      exact z_iret B hr dX4_person_22 h
    · refine z_iload_n B 2 dX4_person_10 rfl rfl ?_
      refine z_if_lt (tgt := 20) B dX4_person_11 (by decide) h (fun h => ?_) (fun h => ?_)
      · refine z_bipush B dX4_person_20 (by decide) ?_
        exact z_iret B hr dX4_person_22 h
      · refine z_iload_n B 2 dX4_person_14 rfl rfl ?_
        refine z_bipush B dX4_person_15 (by decide) ?_
        refine z_icmp_le (tgt := 23) B dX4_person_17 (by decide) h (fun h => ?_) (fun h => ?_)
        · refine z_aload_n B 0 dX4_person_23 rfl rfl ?_
          refine z_get4 (v := .ref (ad 19)) B 2 dX4_person_24 inlX4 (by decide) rfl (by decide) (wl_1 23 rfl) rfl rfl ?_
          refine z_iload_n B 1 dX4_person_27 rfl rfl ?_
          refine z_iload_n B 2 dX4_person_28 rfl rfl ?_
          obtain ⟨w1, v2, q3, h⟩ := hg_bd_some h
          refine z_calliV (a := 19) (ci := 0) (N := 14) (T := TX0) (C := RX0) (As := [.int (hg_I a1), .int (hg_I a2)]) (n := 2) B dX4_person_29 (c_X0_comes (by unfold hg_rd; decide) q3) (gl_V (wl_18 0 rfl) (wl_18 1 rfl) (wl_18 2 rfl) (wl_1 22 rfl) (wl_18 3 rfl)) rfl ⟨rfl, rfl⟩ (by decide +kernel) ⟨Nat.le_of_ble_eq_true rfl, Nat.le_of_ble_eq_true rfl⟩ (by decide) rfl (by decide) rfl rfl rfl (Nat.le_of_ble_eq_true rfl) ?_
          exact z_iret B hr dX4_person_32 h
        · refine z_bipush B dX4_person_20 (by decide) ?_
          exact z_iret B hr dX4_person_22 h
set_option maxHeartbeats 4000000 in
set_option maxRecDepth 100000 in
theorem c_X4_person {l : Launch} {D : va_G} {cI cA : ClassId} {ad : Nat → Nat} {a1 : Int} {a2 : Int} {w w1 : hg_W} {r1 : Int} (h : fX4_person w a1 a2 = some (w1, r1)) : hg_Mi l yX4_person wxX4_person rmX4_person D cI cA ad 0 w [.ref (ad 0), .int (hg_I a1), .int (hg_I a2)] w1 r1 := by
  refine z_meti cX4_person 3 (some .int) (by decide) (Nat.le_of_ble_eq_true rfl) ?_
  intro p e s m args below meth c A B hr
  exact rX4_person_E B hr h
abbrev wxX4_put : List Cond := Cond.code yX4_put cX4_put 6 (some .int) :: wsL_law
def fX4_put_64   (w : hg_W) (x1 : Int) (x3 : Int) (s0 : Nat) : Option (hg_W × Int) :=
  (hg_ag 0 w s0 x1).bind fun v1 =>
  (hg_as 0 w s0 x1 x3).bind fun w3 =>
  some (w3, wr v1)
def fX4_put_37   (w : hg_W) (x1 : Int) (x2 : Int) (x3 : Int) (s0 : Int) (s1 : Int) : Option (hg_W × Int) :=
  if wr s0 ≤ wr s1 then
    (
      if wr x2 = 0 then
        (
          fX4_put_64 w x1 x3 24
        )
      else
        fX4_put_64 w x1 x3 25
    )
  else
    some (w, wr (-7))
def fX4_put (w : hg_W) (a1 : Int) (a2 : Int) (a3 : Int) : Option (hg_W × Int) :=
  hg_bd (fX4_isThere w a1) fun w1 v2 =>
  if wr v2 = 0 then
    (
      some (w1, wr (-5))
    )
  else
    if wr a2 < 0 then
      (
        some (w1, wr (-7))
      )
    else
      if wr 1 < wr a2 then
        (
          some (w1, wr (-7))
        )
      else
        if wr a3 < 0 then
          (
            some (w1, wr (-7))
          )
        else
          if wr a2 = 0 then
            (
              fX4_put_37 w1 a1 a2 a3 a3 99
            )
          else
            fX4_put_37 w1 a1 a2 a3 a3 9999
set_option maxHeartbeats 4000000 in
set_option maxRecDepth 100000 in
abbrev rmX4_put : Room := { frames := 1, cells := 0, slots := 0, locals := 21 }
set_option maxHeartbeats 4000000 in
set_option maxRecDepth 100000 in
theorem rX4_put_64 (B : hg_B p s m args meth c cX4_put RX4 wsL_law 6 D cI cA ad 0 A) (hr : meth.sig.returnType = (some .int)) {w1 : hg_W} {r1 : Int} : ∀ (w : hg_W) (x1 : Int) (x3 : Int) (s0 : Nat), fX4_put_64 w x1 x3 s0 = some (w1, r1) → hg_At p l e (rmX4_put) s m args below meth c D cI cA ad 0 A (MQ below (hg_Qi D cI cA ad 0 A w1 r1) args s 0 0 A) 6 w [(1, .int (hg_I x1)), (3, .int (hg_I x3))] 64 [.ref (ad s0)] := by
  intro w x1 x3 s0 h
  unfold fX4_put_64 at h
  refine z_astore B [(4, .ref (ad s0)), (1, .int (hg_I x1)), (3, .int (hg_I x3))] dX4_put_64 (by decide) rfl ?_
  refine z_aload B 0 dX4_put_66 rfl ?_
  refine z_iload_n B 1 dX4_put_68 rfl rfl ?_
  obtain ⟨v1, q2, h⟩ := Option.bind_eq_some_iff.mp h
  refine z_iald (Or.inl rfl) B dX4_put_69 q2 ?_
  refine z_istore B [(5, .int (hg_I v1)), (4, .ref (ad s0)), (1, .int (hg_I x1)), (3, .int (hg_I x3))] dX4_put_70 (by decide) rfl ?_
  refine z_aload B 1 dX4_put_72 rfl ?_
  refine z_iload_n B 2 dX4_put_74 rfl rfl ?_
  refine z_iload_n B 3 dX4_put_75 rfl rfl ?_
  obtain ⟨w3, q4, h⟩ := Option.bind_eq_some_iff.mp h
  refine z_iast (Or.inl rfl) B dX4_put_76 q4 ?_
  refine z_iload B 0 dX4_put_77 rfl ?_
  exact z_iret B hr dX4_put_79 h
set_option maxHeartbeats 4000000 in
set_option maxRecDepth 100000 in
theorem rX4_put_37 (B : hg_B p s m args meth c cX4_put RX4 wsL_law 6 D cI cA ad 0 A) (hr : meth.sig.returnType = (some .int)) {w1 : hg_W} {r1 : Int} : ∀ (w : hg_W) (x1 : Int) (x2 : Int) (x3 : Int) (s0 : Int) (s1 : Int), fX4_put_37 w x1 x2 x3 s0 s1 = some (w1, r1) → hg_At p l e (rmX4_put) s m args below meth c D cI cA ad 0 A (MQ below (hg_Qi D cI cA ad 0 A w1 r1) args s 0 0 A) 6 w [(0, .ref (ad 0)), (1, .int (hg_I x1)), (2, .int (hg_I x2)), (3, .int (hg_I x3))] 37 [.int (hg_I s1), .int (hg_I s0)] := by
  intro w x1 x2 x3 s0 s1 h
  unfold fX4_put_37 at h
  refine z_icmp_le (tgt := 43) B dX4_put_37 (by decide) h (fun h => ?_) (fun h => ?_)
  · refine z_iload_n B 2 dX4_put_43 rfl rfl ?_
    refine z_if_ne (tgt := 57) B dX4_put_44 (by decide) h (fun h => ?_) (fun h => ?_)
    · refine z_aload_n B 0 dX4_put_57 rfl rfl ?_
      refine z_get4 (v := .ref (ad 19)) B 2 dX4_put_58 inlX4 (by decide) rfl (by decide) (wl_1 23 rfl) rfl rfl ?_
      refine z_get0 (v := .ref (ad 25)) B 6 dX4_put_61 inlX0 (by decide) rfl (by decide) (wl_18 14 rfl) rfl rfl ?_
      refine z_lv (lv' := [(1, .int (hg_I x1)), (3, .int (hg_I x3))]) B [1, 3] rfl ?_
      exact rX4_put_64 B hr _ _ _ _ h
    · refine z_aload_n B 0 dX4_put_47 rfl rfl ?_
      refine z_get4 (v := .ref (ad 19)) B 2 dX4_put_48 inlX4 (by decide) rfl (by decide) (wl_1 23 rfl) rfl rfl ?_
      refine z_get0 (v := .ref (ad 24)) B 5 dX4_put_51 inlX0 (by decide) rfl (by decide) (wl_18 13 rfl) rfl rfl ?_
      refine z_goto (tgt := 64) B dX4_put_54 (by decide) ?_
      refine z_lv (lv' := [(1, .int (hg_I x1)), (3, .int (hg_I x3))]) B [1, 3] rfl ?_
      exact rX4_put_64 B hr _ _ _ _ h
  · refine z_bipush B dX4_put_40 (by decide) ?_
    exact z_iret B hr dX4_put_42 h
set_option maxHeartbeats 4000000 in
set_option maxRecDepth 100000 in
theorem rX4_put_E (B : hg_B p s m args meth c cX4_put RX4 wsL_law 6 D cI cA ad 0 A) (hr : meth.sig.returnType = (some .int)) {a1 : Int} {a2 : Int} {a3 : Int} {w1 : hg_W} {r1 : Int} {w : hg_W} (h : fX4_put w a1 a2 a3 = some (w1, r1)) : hg_At p l e (rmX4_put) s m args below meth c D cI cA ad 0 A (MQ below (hg_Qi D cI cA ad 0 A w1 r1) args s 0 0 A) 6 w [(0, .ref (ad 0)), (1, .int (hg_I a1)), (2, .int (hg_I a2)), (3, .int (hg_I a3))] 0 [] := by
  unfold fX4_put at h
  refine z_aload_n B 0 dX4_put_0 rfl rfl ?_
  refine z_iload_n B 1 dX4_put_1 rfl rfl ?_
  obtain ⟨w1, v2, q3, h⟩ := hg_bd_some h
  refine z_calliV (a := 0) (ci := 4) (N := 9) (T := TX4) (C := RX4) (As := [.int (hg_I a1)]) (n := 1) B dX4_put_2 (c_X4_isThere q3) (gl_V (wl_15 22 rfl) (wl_15 23 rfl) (wl_16 0 rfl) (wl_1 2 rfl) (wl_16 1 rfl)) rfl ⟨rfl, rfl⟩ (by decide +kernel) ⟨Nat.le_of_ble_eq_true rfl, Nat.le_of_ble_eq_true rfl⟩ (by decide) rfl (by decide) rfl rfl rfl (Nat.le_of_ble_eq_true rfl) ?_
  refine z_if_ne (tgt := 11) B dX4_put_5 (by decide) h (fun h => ?_) (fun h => ?_)
  · refine z_iload_n B 2 dX4_put_11 rfl rfl ?_
    refine z_if_lt (tgt := 40) B dX4_put_12 (by decide) h (fun h => ?_) (fun h => ?_)
    · refine z_bipush B dX4_put_40 (by decide) ?_
      exact z_iret B hr dX4_put_42 h
    · refine z_iload_n B 2 dX4_put_15 rfl rfl ?_
      refine z_iconst B dX4_put_16 ?_
      refine z_icmp_gt (tgt := 40) B dX4_put_17 (by decide) h (fun h => ?_) (fun h => ?_)
      · refine z_bipush B dX4_put_40 (by decide) ?_
        exact z_iret B hr dX4_put_42 h
      · refine z_iload_n B 3 dX4_put_20 rfl rfl ?_
        refine z_if_lt (tgt := 40) B dX4_put_21 (by decide) h (fun h => ?_) (fun h => ?_)
        · refine z_bipush B dX4_put_40 (by decide) ?_
          exact z_iret B hr dX4_put_42 h
        · refine z_iload_n B 3 dX4_put_24 rfl rfl ?_
          refine z_iload_n B 2 dX4_put_25 rfl rfl ?_
          refine z_if_ne (tgt := 34) B dX4_put_26 (by decide) h (fun h => ?_) (fun h => ?_)
          · refine z_sipush B dX4_put_34 (by decide) ?_
            exact rX4_put_37 B hr _ _ _ _ _ _ h
          · refine z_bipush B dX4_put_29 (by decide) ?_
            refine z_goto (tgt := 37) B dX4_put_31 (by decide) ?_
            exact rX4_put_37 B hr _ _ _ _ _ _ h
  · refine z_bipush B dX4_put_8 (by decide) ?_
    exact z_iret B hr dX4_put_10 h
set_option maxHeartbeats 4000000 in
set_option maxRecDepth 100000 in
theorem c_X4_put {l : Launch} {D : va_G} {cI cA : ClassId} {ad : Nat → Nat} {a1 : Int} {a2 : Int} {a3 : Int} {w w1 : hg_W} {r1 : Int} (h : fX4_put w a1 a2 a3 = some (w1, r1)) : hg_Mi l yX4_put wxX4_put rmX4_put D cI cA ad 0 w [.ref (ad 0), .int (hg_I a1), .int (hg_I a2), .int (hg_I a3)] w1 r1 := by
  refine z_meti cX4_put 6 (some .int) (by decide) (Nat.le_of_ble_eq_true rfl) ?_
  intro p e s m args below meth c A B hr
  exact rX4_put_E B hr h
abbrev wxX4_told : List Cond := Cond.code yX4_told cX4_told 3 (some .int) :: wsL_law
def fX4_told (w : hg_W) (a1 : Int) (a2 : Int) : Option (hg_W × Int) :=
  hg_bd (fX4_isThere w a1) fun w1 v2 =>
  if wr v2 = 0 then
    (
      some (w1, wr (-5))
    )
  else
    if wr a2 = 0 then
      (
        (hg_ag 0 w1 24 a1).bind fun v5 =>
        some (w1, wr v5)
      )
    else
    if wr a2 = 1 then
      (
        (hg_ag 0 w1 25 a1).bind fun v8 =>
        some (w1, wr v8)
      )
    else
    if wr a2 = 2 then
      (
        (hg_ag 0 w1 26 a1).bind fun v11 =>
        some (w1, wr v11)
      )
    else
    if wr a2 = 3 then
      (
        (hg_ag 0 w1 22 a1).bind fun v14 =>
        some (w1, wr v14)
      )
    else
    if wr a2 = 4 then
      (
        (hg_ag 0 w1 23 a1).bind fun v17 =>
        some (w1, wr v17)
      )
    else
    if wr a2 = 5 then
      (
        hg_bd (fX0_takes 19 w1 a1) fun w20 v21 =>
        some (w20, wr v21)
      )
    else
    if wr a2 = 6 then
      (
        hg_bd (fX0_takes 19 w1 a1) fun w24 v25 =>
        hg_bd (fX0_coinUpTo 19 w24 v25) fun w27 v28 =>
        some (w27, wr v28)
      )
    else
    some (w1, wr (-7))
set_option maxHeartbeats 4000000 in
set_option maxRecDepth 100000 in
abbrev rmX4_told : Room := { frames := 4, cells := 0, slots := 0, locals := 95 }
set_option maxHeartbeats 4000000 in
set_option maxRecDepth 100000 in
theorem rX4_told_E (B : hg_B p s m args meth c cX4_told RX4 wsL_law 3 D cI cA ad 0 A) (hr : meth.sig.returnType = (some .int)) {a1 : Int} {a2 : Int} {w1 : hg_W} {r1 : Int} {w : hg_W} (h : fX4_told w a1 a2 = some (w1, r1)) : hg_At p l e (rmX4_told) s m args below meth c D cI cA ad 0 A (MQ below (hg_Qi D cI cA ad 0 A w1 r1) args s 0 0 A) 3 w [(0, .ref (ad 0)), (1, .int (hg_I a1)), (2, .int (hg_I a2))] 0 [] := by
  unfold fX4_told at h
  refine z_aload_n B 0 dX4_told_0 rfl rfl ?_
  refine z_iload_n B 1 dX4_told_1 rfl rfl ?_
  obtain ⟨w1, v2, q3, h⟩ := hg_bd_some h
  refine z_calliV (a := 0) (ci := 4) (N := 9) (T := TX4) (C := RX4) (As := [.int (hg_I a1)]) (n := 1) B dX4_told_2 (c_X4_isThere q3) (gl_V (wl_15 22 rfl) (wl_15 23 rfl) (wl_16 0 rfl) (wl_1 2 rfl) (wl_16 1 rfl)) rfl ⟨rfl, rfl⟩ (by decide +kernel) ⟨Nat.le_of_ble_eq_true rfl, Nat.le_of_ble_eq_true rfl⟩ (by decide) rfl (by decide) rfl rfl rfl (Nat.le_of_ble_eq_true rfl) ?_
  refine z_if_ne (tgt := 11) B dX4_told_5 (by decide) h (fun h => ?_) (fun h => ?_)
  · refine z_iload_n B 2 dX4_told_11 rfl rfl ?_
    by_cases z4 : wr a2 = 0
    · rw [if_pos z4] at h
      refine z_tabIn (off := 44) (tgt := 56) B dX4_told_12 z4 (by decide) rfl (by decide) ?_
      refine z_aload_n B 0 dX4_told_56 rfl rfl ?_
      refine z_get4 (v := .ref (ad 19)) B 2 dX4_told_57 inlX4 (by decide) rfl (by decide) (wl_1 23 rfl) rfl rfl ?_
      refine z_get0 (v := .ref (ad 24)) B 5 dX4_told_60 inlX0 (by decide) rfl (by decide) (wl_18 13 rfl) rfl rfl ?_
      refine z_iload_n B 1 dX4_told_63 rfl rfl ?_
      obtain ⟨v5, q6, h⟩ := Option.bind_eq_some_iff.mp h
      refine z_iald (Or.inl rfl) B dX4_told_64 q6 ?_
      exact z_iret B hr dX4_told_65 h
    rw [if_neg z4] at h
    by_cases z7 : wr a2 = 1
    · rw [if_pos z7] at h
      refine z_tabIn (off := 54) (tgt := 66) B dX4_told_12 z7 (by decide) rfl (by decide) ?_
      refine z_aload_n B 0 dX4_told_66 rfl rfl ?_
      refine z_get4 (v := .ref (ad 19)) B 2 dX4_told_67 inlX4 (by decide) rfl (by decide) (wl_1 23 rfl) rfl rfl ?_
      refine z_get0 (v := .ref (ad 25)) B 6 dX4_told_70 inlX0 (by decide) rfl (by decide) (wl_18 14 rfl) rfl rfl ?_
      refine z_iload_n B 1 dX4_told_73 rfl rfl ?_
      obtain ⟨v8, q9, h⟩ := Option.bind_eq_some_iff.mp h
      refine z_iald (Or.inl rfl) B dX4_told_74 q9 ?_
      exact z_iret B hr dX4_told_75 h
    rw [if_neg z7] at h
    by_cases z10 : wr a2 = 2
    · rw [if_pos z10] at h
      refine z_tabIn (off := 64) (tgt := 76) B dX4_told_12 z10 (by decide) rfl (by decide) ?_
      refine z_aload_n B 0 dX4_told_76 rfl rfl ?_
      refine z_get4 (v := .ref (ad 19)) B 2 dX4_told_77 inlX4 (by decide) rfl (by decide) (wl_1 23 rfl) rfl rfl ?_
      refine z_get0 (v := .ref (ad 26)) B 7 dX4_told_80 inlX0 (by decide) rfl (by decide) (wl_18 23 rfl) rfl rfl ?_
      refine z_iload_n B 1 dX4_told_83 rfl rfl ?_
      obtain ⟨v11, q12, h⟩ := Option.bind_eq_some_iff.mp h
      refine z_iald (Or.inl rfl) B dX4_told_84 q12 ?_
      exact z_iret B hr dX4_told_85 h
    rw [if_neg z10] at h
    by_cases z13 : wr a2 = 3
    · rw [if_pos z13] at h
      refine z_tabIn (off := 74) (tgt := 86) B dX4_told_12 z13 (by decide) rfl (by decide) ?_
      refine z_aload_n B 0 dX4_told_86 rfl rfl ?_
      refine z_get4 (v := .ref (ad 19)) B 2 dX4_told_87 inlX4 (by decide) rfl (by decide) (wl_1 23 rfl) rfl rfl ?_
      refine z_get0 (v := .ref (ad 22)) B 3 dX4_told_90 inlX0 (by decide) rfl (by decide) (wl_19 0 rfl) rfl rfl ?_
      refine z_iload_n B 1 dX4_told_93 rfl rfl ?_
      obtain ⟨v14, q15, h⟩ := Option.bind_eq_some_iff.mp h
      refine z_iald (Or.inl rfl) B dX4_told_94 q15 ?_
      exact z_iret B hr dX4_told_95 h
    rw [if_neg z13] at h
    by_cases z16 : wr a2 = 4
    · rw [if_pos z16] at h
      refine z_tabIn (off := 84) (tgt := 96) B dX4_told_12 z16 (by decide) rfl (by decide) ?_
      refine z_aload_n B 0 dX4_told_96 rfl rfl ?_
      refine z_get4 (v := .ref (ad 19)) B 2 dX4_told_97 inlX4 (by decide) rfl (by decide) (wl_1 23 rfl) rfl rfl ?_
      refine z_get0 (v := .ref (ad 23)) B 4 dX4_told_100 inlX0 (by decide) rfl (by decide) (wl_19 1 rfl) rfl rfl ?_
      refine z_iload_n B 1 dX4_told_103 rfl rfl ?_
      obtain ⟨v17, q18, h⟩ := Option.bind_eq_some_iff.mp h
      refine z_iald (Or.inl rfl) B dX4_told_104 q18 ?_
      exact z_iret B hr dX4_told_105 h
    rw [if_neg z16] at h
    by_cases z19 : wr a2 = 5
    · rw [if_pos z19] at h
      refine z_tabIn (off := 94) (tgt := 106) B dX4_told_12 z19 (by decide) rfl (by decide) ?_
      refine z_aload_n B 0 dX4_told_106 rfl rfl ?_
      refine z_get4 (v := .ref (ad 19)) B 2 dX4_told_107 inlX4 (by decide) rfl (by decide) (wl_1 23 rfl) rfl rfl ?_
      refine z_iload_n B 1 dX4_told_110 rfl rfl ?_
      obtain ⟨w20, v21, q22, h⟩ := hg_bd_some h
      refine z_calliV (a := 19) (ci := 0) (N := 14) (T := TX0) (C := RX0) (As := [.int (hg_I a1)]) (n := 1) B dX4_told_111 (c_X0_takes (by unfold hg_rd; decide) q22) (gl_V (wl_19 2 rfl) (wl_19 3 rfl) (wl_19 4 rfl) (wl_1 22 rfl) (wl_19 5 rfl)) rfl ⟨rfl, rfl⟩ (by decide +kernel) ⟨Nat.le_of_ble_eq_true rfl, Nat.le_of_ble_eq_true rfl⟩ (by decide) rfl (by decide) rfl rfl rfl (Nat.le_of_ble_eq_true rfl) ?_
      exact z_iret B hr dX4_told_114 h
    rw [if_neg z19] at h
    by_cases z23 : wr a2 = 6
    · rw [if_pos z23] at h
      refine z_tabIn (off := 103) (tgt := 115) B dX4_told_12 z23 (by decide) rfl (by decide) ?_
      refine z_aload_n B 0 dX4_told_115 rfl rfl ?_
      refine z_get4 (v := .ref (ad 19)) B 2 dX4_told_116 inlX4 (by decide) rfl (by decide) (wl_1 23 rfl) rfl rfl ?_
      refine z_aload_n B 0 dX4_told_119 rfl rfl ?_
      refine z_get4 (v := .ref (ad 19)) B 2 dX4_told_120 inlX4 (by decide) rfl (by decide) (wl_1 23 rfl) rfl rfl ?_
      refine z_iload_n B 1 dX4_told_123 rfl rfl ?_
      obtain ⟨w24, v25, q26, h⟩ := hg_bd_some h
      refine z_calliV (a := 19) (ci := 0) (N := 14) (T := TX0) (C := RX0) (As := [.int (hg_I a1)]) (n := 1) B dX4_told_124 (c_X0_takes (by unfold hg_rd; decide) q26) (gl_V (wl_19 2 rfl) (wl_19 3 rfl) (wl_19 4 rfl) (wl_1 22 rfl) (wl_19 5 rfl)) rfl ⟨rfl, rfl⟩ (by decide +kernel) ⟨Nat.le_of_ble_eq_true rfl, Nat.le_of_ble_eq_true rfl⟩ (by decide) rfl (by decide) rfl rfl rfl (Nat.le_of_ble_eq_true rfl) ?_
      obtain ⟨w27, v28, q29, h⟩ := hg_bd_some h
      refine z_calliV (a := 19) (ci := 0) (N := 14) (T := TX0) (C := RX0) (As := [.int (hg_I v25)]) (n := 1) B dX4_told_127 (c_X0_coinUpTo (by unfold hg_rd; decide) q29) (gl_V (wl_19 7 rfl) (wl_19 8 rfl) (wl_19 9 rfl) (wl_1 22 rfl) (wl_19 10 rfl)) rfl ⟨rfl, rfl⟩ (by decide +kernel) ⟨Nat.le_of_ble_eq_true rfl, Nat.le_of_ble_eq_true rfl⟩ (by decide) rfl (by decide) rfl rfl rfl (Nat.le_of_ble_eq_true rfl) ?_
      exact z_iret B hr dX4_told_130 h
    rw [if_neg z23] at h
    refine z_tabOut (tgt := 131) B dX4_told_12 (by omega) (by decide) ?_
    refine z_bipush B dX4_told_131 (by decide) ?_
    exact z_iret B hr dX4_told_133 h
  · refine z_bipush B dX4_told_8 (by decide) ?_
    exact z_iret B hr dX4_told_10 h
set_option maxHeartbeats 4000000 in
set_option maxRecDepth 100000 in
theorem c_X4_told {l : Launch} {D : va_G} {cI cA : ClassId} {ad : Nat → Nat} {a1 : Int} {a2 : Int} {w w1 : hg_W} {r1 : Int} (h : fX4_told w a1 a2 = some (w1, r1)) : hg_Mi l yX4_told wxX4_told rmX4_told D cI cA ad 0 w [.ref (ad 0), .int (hg_I a1), .int (hg_I a2)] w1 r1 := by
  refine z_meti cX4_told 3 (some .int) (by decide) (Nat.le_of_ble_eq_true rfl) ?_
  intro p e s m args below meth c A B hr
  exact rX4_told_E B hr h
abbrev wxX4_coin : List Cond := Cond.code yX4_coin cX4_coin 4 (some .int) :: wsL_law
def fX4_coin (w : hg_W) (a1 : Int) (a2 : Int) (a3 : Int) : Option (hg_W × Int) :=
  hg_bd (fX4_isThere w a1) fun w1 v2 =>
  if wr v2 = 0 then
    (
      some (w1, wr (-5))
    )
  else
    hg_bd (fX4_isSort w1 a2) fun w4 v5 =>
    if wr v5 = 0 then
      (
        some (w4, wr (-6))
      )
    else
      if wr a3 < 0 then
        (
          some (w4, wr (-7))
        )
      else
        if wr a3 ≤ wr 1 then
          (
            if wr a3 = 0 then
              (
                hg_bd (fX0_sounds 19 w4 a1 a2) fun w10 v11 =>
                some (w10, wr v11)
              )
            else
              hg_bd (fX0_costs 19 w4 a1 a2) fun w7 v8 =>
              some (w7, wr (1000 + v8))
          )
        else
          some (w4, wr (-7))
set_option maxHeartbeats 4000000 in
set_option maxRecDepth 100000 in
abbrev rmX4_coin : Room := { frames := 4, cells := 0, slots := 0, locals := 96 }
set_option maxHeartbeats 4000000 in
set_option maxRecDepth 100000 in
theorem rX4_coin_E (B : hg_B p s m args meth c cX4_coin RX4 wsL_law 4 D cI cA ad 0 A) (hr : meth.sig.returnType = (some .int)) {a1 : Int} {a2 : Int} {a3 : Int} {w1 : hg_W} {r1 : Int} {w : hg_W} (h : fX4_coin w a1 a2 a3 = some (w1, r1)) : hg_At p l e (rmX4_coin) s m args below meth c D cI cA ad 0 A (MQ below (hg_Qi D cI cA ad 0 A w1 r1) args s 0 0 A) 4 w [(0, .ref (ad 0)), (1, .int (hg_I a1)), (2, .int (hg_I a2)), (3, .int (hg_I a3))] 0 [] := by
  unfold fX4_coin at h
  refine z_aload_n B 0 dX4_coin_0 rfl rfl ?_
  refine z_iload_n B 1 dX4_coin_1 rfl rfl ?_
  obtain ⟨w1, v2, q3, h⟩ := hg_bd_some h
  refine z_calliV (a := 0) (ci := 4) (N := 9) (T := TX4) (C := RX4) (As := [.int (hg_I a1)]) (n := 1) B dX4_coin_2 (c_X4_isThere q3) (gl_V (wl_15 22 rfl) (wl_15 23 rfl) (wl_16 0 rfl) (wl_1 2 rfl) (wl_16 1 rfl)) rfl ⟨rfl, rfl⟩ (by decide +kernel) ⟨Nat.le_of_ble_eq_true rfl, Nat.le_of_ble_eq_true rfl⟩ (by decide) rfl (by decide) rfl rfl rfl (Nat.le_of_ble_eq_true rfl) ?_
  refine z_if_ne (tgt := 11) B dX4_coin_5 (by decide) h (fun h => ?_) (fun h => ?_)
  · refine z_iload_n B 2 dX4_coin_11 rfl rfl ?_
    obtain ⟨w4, v5, q6, h⟩ := hg_bd_some h
    refine z_calliS (As := [.int (hg_I a2)]) (n := 1) B dX4_coin_12 (c_X4_isSort q6) (gl_S (wl_8 12 rfl) (wl_8 13 rfl) (wl_1 2 rfl) (wl_8 14 rfl)) rfl ⟨rfl, rfl⟩ (by decide +kernel) ⟨Nat.le_of_ble_eq_true rfl, Nat.le_of_ble_eq_true rfl⟩ rfl rfl (Nat.le_of_ble_eq_true rfl) ?_
    refine z_if_ne (tgt := 21) B dX4_coin_15 (by decide) h (fun h => ?_) (fun h => ?_)
    · refine z_iload_n B 3 dX4_coin_21 rfl rfl ?_
      refine z_if_lt (tgt := 30) B dX4_coin_22 (by decide) h (fun h => ?_) (fun h => ?_)
      · refine z_bipush B dX4_coin_30 (by decide) ?_
        exact z_iret B hr dX4_coin_32 h
      · refine z_iload_n B 3 dX4_coin_25 rfl rfl ?_
        refine z_iconst B dX4_coin_26 ?_
        refine z_icmp_le (tgt := 33) B dX4_coin_27 (by decide) h (fun h => ?_) (fun h => ?_)
        · refine z_iload_n B 3 dX4_coin_33 rfl rfl ?_
          refine z_if_ne (tgt := 49) B dX4_coin_34 (by decide) h (fun h => ?_) (fun h => ?_)
          · refine z_sipush B dX4_coin_49 (by decide) ?_
            refine z_aload_n B 0 dX4_coin_52 rfl rfl ?_
            refine z_get4 (v := .ref (ad 19)) B 2 dX4_coin_53 inlX4 (by decide) rfl (by decide) (wl_1 23 rfl) rfl rfl ?_
            refine z_iload_n B 1 dX4_coin_56 rfl rfl ?_
            refine z_iload_n B 2 dX4_coin_57 rfl rfl ?_
            obtain ⟨w7, v8, q9, h⟩ := hg_bd_some h
            refine z_calliV (a := 19) (ci := 0) (N := 14) (T := TX0) (C := RX0) (As := [.int (hg_I a1), .int (hg_I a2)]) (n := 2) B dX4_coin_58 (c_X0_costs (by unfold hg_rd; decide) q9) (gl_V (wl_20 7 rfl) (wl_20 8 rfl) (wl_20 9 rfl) (wl_1 22 rfl) (wl_20 10 rfl)) rfl ⟨rfl, rfl⟩ (by decide +kernel) ⟨Nat.le_of_ble_eq_true rfl, Nat.le_of_ble_eq_true rfl⟩ (by decide) rfl (by decide) rfl rfl rfl (Nat.le_of_ble_eq_true rfl) ?_
            refine z_iadd B dX4_coin_61 ?_
            exact z_iret B hr dX4_coin_62 h
          · refine z_aload_n B 0 dX4_coin_37 rfl rfl ?_
            refine z_get4 (v := .ref (ad 19)) B 2 dX4_coin_38 inlX4 (by decide) rfl (by decide) (wl_1 23 rfl) rfl rfl ?_
            refine z_iload_n B 1 dX4_coin_41 rfl rfl ?_
            refine z_iload_n B 2 dX4_coin_42 rfl rfl ?_
            obtain ⟨w10, v11, q12, h⟩ := hg_bd_some h
            refine z_calliV (a := 19) (ci := 0) (N := 14) (T := TX0) (C := RX0) (As := [.int (hg_I a1), .int (hg_I a2)]) (n := 2) B dX4_coin_43 (c_X0_sounds (by unfold hg_rd; decide) q12) (gl_V (wl_20 3 rfl) (wl_20 4 rfl) (wl_20 5 rfl) (wl_1 22 rfl) (wl_20 6 rfl)) rfl ⟨rfl, rfl⟩ (by decide +kernel) ⟨Nat.le_of_ble_eq_true rfl, Nat.le_of_ble_eq_true rfl⟩ (by decide) rfl (by decide) rfl rfl rfl (Nat.le_of_ble_eq_true rfl) ?_
            refine z_goto (tgt := 62) B dX4_coin_46 (by decide) ?_
            exact z_iret B hr dX4_coin_62 h
        · refine z_bipush B dX4_coin_30 (by decide) ?_
          exact z_iret B hr dX4_coin_32 h
    · refine z_bipush B dX4_coin_18 (by decide) ?_
      exact z_iret B hr dX4_coin_20 h
  · refine z_bipush B dX4_coin_8 (by decide) ?_
    exact z_iret B hr dX4_coin_10 h
set_option maxHeartbeats 4000000 in
set_option maxRecDepth 100000 in
theorem c_X4_coin {l : Launch} {D : va_G} {cI cA : ClassId} {ad : Nat → Nat} {a1 : Int} {a2 : Int} {a3 : Int} {w w1 : hg_W} {r1 : Int} (h : fX4_coin w a1 a2 a3 = some (w1, r1)) : hg_Mi l yX4_coin wxX4_coin rmX4_coin D cI cA ad 0 w [.ref (ad 0), .int (hg_I a1), .int (hg_I a2), .int (hg_I a3)] w1 r1 := by
  refine z_meti cX4_coin 4 (some .int) (by decide) (Nat.le_of_ble_eq_true rfl) ?_
  intro p e s m args below meth c A B hr
  exact rX4_coin_E B hr h
abbrev wxX4_pass : List Cond := Cond.code yX4_pass cX4_pass 1 (some .int) :: wsL_law
def fX4_pass (w : hg_W) : Option (hg_W × Int) :=
  if wr (w 19 9) = 0 then
    (
      some (w, wr (-3))
    )
  else
    if wr (w 19 10) = 0 then
      (
        some (w, wr (-3))
      )
    else
      hg_bd (fX0_goOn 19 w) fun w1 v2 =>
      some (w1, wr v2)
set_option maxHeartbeats 4000000 in
set_option maxRecDepth 100000 in
abbrev rmX4_pass : Room := { frames := 6, cells := 0, slots := 0, locals := 141 }
set_option maxHeartbeats 4000000 in
set_option maxRecDepth 100000 in
theorem rX4_pass_E (B : hg_B p s m args meth c cX4_pass RX4 wsL_law 1 D cI cA ad 0 A) (hr : meth.sig.returnType = (some .int)) {w1 : hg_W} {r1 : Int} {w : hg_W} (h : fX4_pass w = some (w1, r1)) : hg_At p l e (rmX4_pass) s m args below meth c D cI cA ad 0 A (MQ below (hg_Qi D cI cA ad 0 A w1 r1) args s 0 0 A) 1 w [(0, .ref (ad 0))] 0 [] := by
  unfold fX4_pass at h
  refine z_aload_n B 0 dX4_pass_0 rfl rfl ?_
  refine z_get4 (v := .ref (ad 19)) B 2 dX4_pass_1 inlX4 (by decide) rfl (by decide) (wl_1 23 rfl) rfl rfl ?_
  refine z_get0 (v := .int (hg_I (w 19 9))) B 9 dX4_pass_4 inlX0 (by decide) rfl (by decide) (wl_7 11 rfl) rfl rfl ?_
  refine z_if_eq (tgt := 20) B dX4_pass_7 (by decide) h (fun h => ?_) (fun h => ?_)
  · refine z_bipush B dX4_pass_20 (by decide) ?_
    exact z_iret B hr dX4_pass_22 h
  · refine z_aload_n B 0 dX4_pass_10 rfl rfl ?_
    refine z_get4 (v := .ref (ad 19)) B 2 dX4_pass_11 inlX4 (by decide) rfl (by decide) (wl_1 23 rfl) rfl rfl ?_
    refine z_get0 (v := .int (hg_I (w 19 10))) B 10 dX4_pass_14 inlX0 (by decide) rfl (by decide) (wl_7 12 rfl) rfl rfl ?_
    refine z_if_ne (tgt := 23) B dX4_pass_17 (by decide) h (fun h => ?_) (fun h => ?_)
    · refine z_aload_n B 0 dX4_pass_23 rfl rfl ?_
      refine z_get4 (v := .ref (ad 19)) B 2 dX4_pass_24 inlX4 (by decide) rfl (by decide) (wl_1 23 rfl) rfl rfl ?_
      obtain ⟨w1, v2, q3, h⟩ := hg_bd_some h
      refine z_calliV (a := 19) (ci := 0) (N := 14) (T := TX0) (C := RX0) (As := []) (n := 0) B dX4_pass_27 (c_X0_goOn (by unfold hg_rd; decide) q3) (gl_V (wl_21 3 rfl) (wl_21 4 rfl) (wl_21 5 rfl) (wl_1 22 rfl) (wl_21 6 rfl)) rfl ⟨rfl, rfl⟩ (by decide +kernel) ⟨Nat.le_of_ble_eq_true rfl, Nat.le_of_ble_eq_true rfl⟩ (by decide) rfl (by decide) rfl rfl rfl (Nat.le_of_ble_eq_true rfl) ?_
      exact z_iret B hr dX4_pass_30 h
    · refine z_bipush B dX4_pass_20 (by decide) ?_
      exact z_iret B hr dX4_pass_22 h
set_option maxHeartbeats 4000000 in
set_option maxRecDepth 100000 in
theorem c_X4_pass {l : Launch} {D : va_G} {cI cA : ClassId} {ad : Nat → Nat} {w w1 : hg_W} {r1 : Int} (h : fX4_pass w = some (w1, r1)) : hg_Mi l yX4_pass wxX4_pass rmX4_pass D cI cA ad 0 w [.ref (ad 0)] w1 r1 := by
  refine z_meti cX4_pass 1 (some .int) (by decide) (Nat.le_of_ble_eq_true rfl) ?_
  intro p e s m args below meth c A B hr
  exact rX4_pass_E B hr h
abbrev wxX4_hand : List Cond := Cond.code yX4_hand cX4_hand 3 (some .int) :: wsL_law
def fX4_hand (w : hg_W) (a1 : Int) : Option (hg_W × Int) :=
  hg_bd (fX4_isThere w a1) fun w1 v2 =>
  if wr v2 = 0 then
    (
      some (w1, wr (-5))
    )
  else
    (hg_pt w1 19 11 a1).bind fun w4 =>
    some (w4, wr (w1 19 11))
set_option maxHeartbeats 4000000 in
set_option maxRecDepth 100000 in
abbrev rmX4_hand : Room := { frames := 1, cells := 0, slots := 0, locals := 21 }
set_option maxHeartbeats 4000000 in
set_option maxRecDepth 100000 in
theorem rX4_hand_E (B : hg_B p s m args meth c cX4_hand RX4 wsL_law 3 D cI cA ad 0 A) (hr : meth.sig.returnType = (some .int)) {a1 : Int} {w1 : hg_W} {r1 : Int} {w : hg_W} (h : fX4_hand w a1 = some (w1, r1)) : hg_At p l e (rmX4_hand) s m args below meth c D cI cA ad 0 A (MQ below (hg_Qi D cI cA ad 0 A w1 r1) args s 0 0 A) 3 w [(0, .ref (ad 0)), (1, .int (hg_I a1))] 0 [] := by
  unfold fX4_hand at h
  refine z_aload_n B 0 dX4_hand_0 rfl rfl ?_
  refine z_iload_n B 1 dX4_hand_1 rfl rfl ?_
  obtain ⟨w1, v2, q3, h⟩ := hg_bd_some h
  refine z_calliV (a := 0) (ci := 4) (N := 9) (T := TX4) (C := RX4) (As := [.int (hg_I a1)]) (n := 1) B dX4_hand_2 (c_X4_isThere q3) (gl_V (wl_15 22 rfl) (wl_15 23 rfl) (wl_16 0 rfl) (wl_1 2 rfl) (wl_16 1 rfl)) rfl ⟨rfl, rfl⟩ (by decide +kernel) ⟨Nat.le_of_ble_eq_true rfl, Nat.le_of_ble_eq_true rfl⟩ (by decide) rfl (by decide) rfl rfl rfl (Nat.le_of_ble_eq_true rfl) ?_
  refine z_if_ne (tgt := 11) B dX4_hand_5 (by decide) h (fun h => ?_) (fun h => ?_)
  · refine z_aload_n B 0 dX4_hand_11 rfl rfl ?_
    refine z_get4 (v := .ref (ad 19)) B 2 dX4_hand_12 inlX4 (by decide) rfl (by decide) (wl_1 23 rfl) rfl rfl ?_
    refine z_get0 (v := .int (hg_I (w1 19 11))) B 11 dX4_hand_15 inlX0 (by decide) rfl (by decide) (wl_7 17 rfl) rfl rfl ?_
    refine z_istore_n B [(2, .int (hg_I (w1 19 11))), (0, .ref (ad 0)), (1, .int (hg_I a1))] dX4_hand_18 rfl (by decide) rfl ?_
    refine z_aload_n B 1 dX4_hand_19 rfl rfl ?_
    refine z_get4 (v := .ref (ad 19)) B 2 dX4_hand_20 inlX4 (by decide) rfl (by decide) (wl_1 23 rfl) rfl rfl ?_
    refine z_iload_n B 2 dX4_hand_23 rfl rfl ?_
    obtain ⟨w4, q5, h⟩ := Option.bind_eq_some_iff.mp h
    refine z_put0 B 11 dX4_hand_24 inlX0 (by decide) rfl (by decide) (wl_7 17 rfl) rfl rfl .int (by decide +kernel) rfl rfl hg_fs0_11 q5 ?_
    refine z_iload_n B 0 dX4_hand_27 rfl rfl ?_
    exact z_iret B hr dX4_hand_28 h
  · refine z_bipush B dX4_hand_8 (by decide) ?_
    exact z_iret B hr dX4_hand_10 h
set_option maxHeartbeats 4000000 in
set_option maxRecDepth 100000 in
theorem c_X4_hand {l : Launch} {D : va_G} {cI cA : ClassId} {ad : Nat → Nat} {a1 : Int} {w w1 : hg_W} {r1 : Int} (h : fX4_hand w a1 = some (w1, r1)) : hg_Mi l yX4_hand wxX4_hand rmX4_hand D cI cA ad 0 w [.ref (ad 0), .int (hg_I a1)] w1 r1 := by
  refine z_meti cX4_hand 3 (some .int) (by decide) (Nat.le_of_ble_eq_true rfl) ?_
  intro p e s m args below meth c A B hr
  exact rX4_hand_E B hr h
abbrev wxX4_isAskedOfRun : List Cond := Cond.code yX4_isAskedOfRun cX4_isAskedOfRun 2 (some .boolean) :: wsL_law
def fX4_isAskedOfRun_32   (w : hg_W) : Option (hg_W × Int) :=
  if wr 1 = 0 ∨ wr 1 = 1 then some (w, wr 1) else none
def fX4_isAskedOfRun_9   (w : hg_W) (x1 : Int) : Option (hg_W × Int) :=
  if wr x1 < wr 10 then
    (
      if wr 0 = 0 ∨ wr 0 = 1 then some (w, wr 0) else none
    )
  else
    if wr 40 ≤ wr x1 then
      (
        if wr 0 = 0 ∨ wr 0 = 1 then some (w, wr 0) else none
      )
    else
      hg_bd (fX4_isThere w (hg_rm x1 10)) fun w1 v2 =>
      if wr v2 = 0 then
        (
          if wr 0 = 0 ∨ wr 0 = 1 then some (w1, wr 0) else none
        )
      else
        fX4_isAskedOfRun_32 w1
def fX4_isAskedOfRun (w : hg_W) (a1 : Int) : Option (hg_W × Int) :=
  if wr a1 < 0 then
    (
      fX4_isAskedOfRun_9 w a1
    )
  else
    if wr a1 ≤ wr 2 then
      (
        fX4_isAskedOfRun_32 w
      )
    else
      fX4_isAskedOfRun_9 w a1
set_option maxHeartbeats 4000000 in
set_option maxRecDepth 100000 in
abbrev rmX4_isAskedOfRun : Room := { frames := 1, cells := 0, slots := 0, locals := 21 }
set_option maxHeartbeats 4000000 in
set_option maxRecDepth 100000 in
theorem rX4_isAskedOfRun_32 (B : hg_B p s m args meth c cX4_isAskedOfRun RX4 wsL_law 2 D cI cA ad 0 A) (hr : meth.sig.returnType = (some .boolean)) {w1 : hg_W} {r1 : Int} : ∀ (w : hg_W), fX4_isAskedOfRun_32 w = some (w1, r1) → hg_At p l e (rmX4_isAskedOfRun) s m args below meth c D cI cA ad 0 A (MQ below (hg_Qi D cI cA ad 0 A w1 r1) args s 0 0 A) 2 w [] 32 [] := by
  intro w h
  unfold fX4_isAskedOfRun_32 at h
  refine z_iconst B dX4_isAskedOfRun_32 ?_
  refine z_goto (tgt := 37) B dX4_isAskedOfRun_33 (by decide) ?_
  exact z_bret B hr dX4_isAskedOfRun_37 h
set_option maxHeartbeats 4000000 in
set_option maxRecDepth 100000 in
theorem rX4_isAskedOfRun_9 (B : hg_B p s m args meth c cX4_isAskedOfRun RX4 wsL_law 2 D cI cA ad 0 A) (hr : meth.sig.returnType = (some .boolean)) {w1 : hg_W} {r1 : Int} : ∀ (w : hg_W) (x1 : Int), fX4_isAskedOfRun_9 w x1 = some (w1, r1) → hg_At p l e (rmX4_isAskedOfRun) s m args below meth c D cI cA ad 0 A (MQ below (hg_Qi D cI cA ad 0 A w1 r1) args s 0 0 A) 2 w [(0, .ref (ad 0)), (1, .int (hg_I x1))] 9 [] := by
  intro w x1 h
  unfold fX4_isAskedOfRun_9 at h
  refine z_iload_n B 1 dX4_isAskedOfRun_9 rfl rfl ?_
  refine z_bipush B dX4_isAskedOfRun_10 (by decide) ?_
  refine z_icmp_lt (tgt := 36) B dX4_isAskedOfRun_12 (by decide) h (fun h => ?_) (fun h => ?_)
  · refine z_iconst B dX4_isAskedOfRun_36 ?_
    exact z_bret B hr dX4_isAskedOfRun_37 h
  · refine z_iload_n B 1 dX4_isAskedOfRun_15 rfl rfl ?_
    refine z_bipush B dX4_isAskedOfRun_16 (by decide) ?_
    refine z_icmp_ge (tgt := 36) B dX4_isAskedOfRun_18 (by decide) h (fun h => ?_) (fun h => ?_)
    · refine z_iconst B dX4_isAskedOfRun_36 ?_
      exact z_bret B hr dX4_isAskedOfRun_37 h
    · refine z_aload_n B 0 dX4_isAskedOfRun_21 rfl rfl ?_
      refine z_iload_n B 1 dX4_isAskedOfRun_22 rfl rfl ?_
      refine z_bipush B dX4_isAskedOfRun_23 (by decide) ?_
      refine z_irem B dX4_isAskedOfRun_25 (by decide) ?_
      obtain ⟨w1, v2, q3, h⟩ := hg_bd_some h
      refine z_calliV (a := 0) (ci := 4) (N := 9) (T := TX4) (C := RX4) (As := [.int (hg_I (hg_rm x1 10))]) (n := 1) B dX4_isAskedOfRun_26 (c_X4_isThere q3) (gl_V (wl_15 22 rfl) (wl_15 23 rfl) (wl_16 0 rfl) (wl_1 2 rfl) (wl_16 1 rfl)) rfl ⟨rfl, rfl⟩ (by decide +kernel) ⟨Nat.le_of_ble_eq_true rfl, Nat.le_of_ble_eq_true rfl⟩ (by decide) rfl (by decide) rfl rfl rfl (Nat.le_of_ble_eq_true rfl) ?_
      refine z_if_eq (tgt := 36) B dX4_isAskedOfRun_29 (by decide) h (fun h => ?_) (fun h => ?_)
      · refine z_iconst B dX4_isAskedOfRun_36 ?_
        exact z_bret B hr dX4_isAskedOfRun_37 h
      · refine z_lv (lv' := []) B [] rfl ?_
        exact rX4_isAskedOfRun_32 B hr _ h
set_option maxHeartbeats 4000000 in
set_option maxRecDepth 100000 in
theorem rX4_isAskedOfRun_E (B : hg_B p s m args meth c cX4_isAskedOfRun RX4 wsL_law 2 D cI cA ad 0 A) (hr : meth.sig.returnType = (some .boolean)) {a1 : Int} {w1 : hg_W} {r1 : Int} {w : hg_W} (h : fX4_isAskedOfRun w a1 = some (w1, r1)) : hg_At p l e (rmX4_isAskedOfRun) s m args below meth c D cI cA ad 0 A (MQ below (hg_Qi D cI cA ad 0 A w1 r1) args s 0 0 A) 2 w [(0, .ref (ad 0)), (1, .int (hg_I a1))] 0 [] := by
  unfold fX4_isAskedOfRun at h
  refine z_iload_n B 1 dX4_isAskedOfRun_0 rfl rfl ?_
  refine z_if_lt (tgt := 9) B dX4_isAskedOfRun_1 (by decide) h (fun h => ?_) (fun h => ?_)
  · exact rX4_isAskedOfRun_9 B hr _ _ h
  · refine z_iload_n B 1 dX4_isAskedOfRun_4 rfl rfl ?_
    refine z_iconst B dX4_isAskedOfRun_5 ?_
    refine z_icmp_le (tgt := 32) B dX4_isAskedOfRun_6 (by decide) h (fun h => ?_) (fun h => ?_)
    · refine z_lv (lv' := []) B [] rfl ?_
      exact rX4_isAskedOfRun_32 B hr _ h
    · exact rX4_isAskedOfRun_9 B hr _ _ h
set_option maxHeartbeats 4000000 in
set_option maxRecDepth 100000 in
theorem c_X4_isAskedOfRun {l : Launch} {D : va_G} {cI cA : ClassId} {ad : Nat → Nat} {a1 : Int} {w w1 : hg_W} {r1 : Int} (h : fX4_isAskedOfRun w a1 = some (w1, r1)) : hg_Mi l yX4_isAskedOfRun wxX4_isAskedOfRun rmX4_isAskedOfRun D cI cA ad 0 w [.ref (ad 0), .int (hg_I a1)] w1 r1 := by
  refine z_meti cX4_isAskedOfRun 2 (some .boolean) (by decide) (Nat.le_of_ble_eq_true rfl) ?_
  intro p e s m args below meth c A B hr
  exact rX4_isAskedOfRun_E B hr h
abbrev wxX4_run : List Cond := Cond.code yX4_run cX4_run 4 (some .int) :: wsL_law
def fX4_run (w : hg_W) (a1 : Int) (a2 : Int) : Option (hg_W × Int) :=
  if wr a1 < 0 then
    (
      some (w, wr (-2))
    )
  else
    if wr 120 < wr a1 then
      (
        some (w, wr (-2))
      )
    else
      hg_bd (fX4_isAskedOfRun w a2) fun w1 v2 =>
      if wr v2 = 0 then
        (
          some (w1, wr (-2))
        )
      else
        hg_bd (fX0_become 28 w1 19) fun w4 _ =>
        hg_bd (fX0_goWhileCoins 28 w4 a1) fun w7 v8 =>
        if wr a2 = 0 then
          (
            some (w7, wr (w7 28 10))
          )
        else
        if wr a2 = 1 then
          (
            hg_bd (fX0_worthOfAll 28 w7) fun w12 v13 =>
            some (w12, wr v13)
          )
        else
        if wr a2 = 2 then
          (
            some (w7, wr (w7 28 11))
          )
        else
        if wr (hg_dv a2 10) = 1 then
          (
            (hg_ag 0 w7 34 (hg_rm a2 10)).bind fun v17 =>
            some (w7, wr v17)
          )
        else
        if wr (hg_dv a2 10) = 2 then
          (
            (hg_ag 0 w7 33 (hg_rm a2 10)).bind fun v20 =>
            some (w7, wr v20)
          )
        else
        (hg_ag 0 w7 35 (hg_rm a2 10)).bind fun v22 =>
        some (w7, wr v22)
set_option maxHeartbeats 4000000 in
set_option maxRecDepth 100000 in
abbrev rmX4_run : Room := { frames := 7, cells := 0, slots := 0, locals := 164 }
set_option maxHeartbeats 4000000 in
set_option maxRecDepth 100000 in
theorem rX4_run_E (B : hg_B p s m args meth c cX4_run RX4 wsL_law 4 D cI cA ad 0 A) (hr : meth.sig.returnType = (some .int)) {a1 : Int} {a2 : Int} {w1 : hg_W} {r1 : Int} {w : hg_W} (h : fX4_run w a1 a2 = some (w1, r1)) : hg_At p l e (rmX4_run) s m args below meth c D cI cA ad 0 A (MQ below (hg_Qi D cI cA ad 0 A w1 r1) args s 0 0 A) 4 w [(0, .ref (ad 0)), (1, .int (hg_I a1)), (2, .int (hg_I a2))] 0 [] := by
  unfold fX4_run at h
  refine z_iload_n B 1 dX4_run_0 rfl rfl ?_
  refine z_if_lt (tgt := 18) B dX4_run_1 (by decide) h (fun h => ?_) (fun h => ?_)
  · refine z_bipush B dX4_run_18 (by decide) ?_
    exact z_iret B hr dX4_run_20 h
  · refine z_iload_n B 1 dX4_run_4 rfl rfl ?_
    refine z_bipush B dX4_run_5 (by decide) ?_
    refine z_icmp_gt (tgt := 18) B dX4_run_7 (by decide) h (fun h => ?_) (fun h => ?_)
    · refine z_bipush B dX4_run_18 (by decide) ?_
      exact z_iret B hr dX4_run_20 h
    · refine z_aload_n B 0 dX4_run_10 rfl rfl ?_
      refine z_iload_n B 2 dX4_run_11 rfl rfl ?_
      obtain ⟨w1, v2, q3, h⟩ := hg_bd_some h
      refine z_calliV (a := 0) (ci := 4) (N := 9) (T := TX4) (C := RX4) (As := [.int (hg_I a2)]) (n := 1) B dX4_run_12 (c_X4_isAskedOfRun q3) (gl_V (wl_22 21 rfl) (wl_22 22 rfl) (wl_22 23 rfl) (wl_1 2 rfl) (wl_23 0 rfl)) rfl ⟨rfl, rfl⟩ (by decide +kernel) ⟨Nat.le_of_ble_eq_true rfl, Nat.le_of_ble_eq_true rfl⟩ (by decide) rfl (by decide) rfl rfl rfl (Nat.le_of_ble_eq_true rfl) ?_
      refine z_if_ne (tgt := 21) B dX4_run_15 (by decide) h (fun h => ?_) (fun h => ?_)
      · refine z_aload_n B 0 dX4_run_21 rfl rfl ?_
        refine z_get4 (v := .ref (ad 28)) B 3 dX4_run_22 inlX4 (by decide) rfl (by decide) (wl_2 0 rfl) rfl rfl ?_
        refine z_aload_n B 0 dX4_run_25 rfl rfl ?_
        refine z_get4 (v := .ref (ad 19)) B 2 dX4_run_26 inlX4 (by decide) rfl (by decide) (wl_1 23 rfl) rfl rfl ?_
        obtain ⟨w4, v5, q6, h⟩ := hg_bd_some h
        refine z_callvV (a := 28) (ci := 0) (N := 14) (T := TX0) (C := RX0) (As := [.ref (ad 19)]) (n := 1) B dX4_run_29 (c_X0_become (by unfold hg_rd; decide) (by unfold hg_rd; decide) q6) (gl_V (wl_23 1 rfl) (wl_23 2 rfl) (wl_23 3 rfl) (wl_1 22 rfl) (wl_23 4 rfl)) rfl ⟨rfl, rfl⟩ (by decide +kernel) ⟨Nat.le_of_ble_eq_true rfl, Nat.le_of_ble_eq_true rfl⟩ (by decide) rfl (by decide) rfl rfl rfl (Nat.le_of_ble_eq_true rfl) ?_
        refine z_aload_n B 0 dX4_run_32 rfl rfl ?_
        refine z_get4 (v := .ref (ad 28)) B 3 dX4_run_33 inlX4 (by decide) rfl (by decide) (wl_2 0 rfl) rfl rfl ?_
        refine z_iload_n B 1 dX4_run_36 rfl rfl ?_
        obtain ⟨w7, v8, q9, h⟩ := hg_bd_some h
        refine z_calliV (a := 28) (ci := 0) (N := 14) (T := TX0) (C := RX0) (As := [.int (hg_I a1)]) (n := 1) B dX4_run_37 (c_X0_goWhileCoins (by unfold hg_rd; decide) q9) (gl_V (wl_23 9 rfl) (wl_23 10 rfl) (wl_23 11 rfl) (wl_1 22 rfl) (wl_23 12 rfl)) rfl ⟨rfl, rfl⟩ (by decide +kernel) ⟨Nat.le_of_ble_eq_true rfl, Nat.le_of_ble_eq_true rfl⟩ (by decide) rfl (by decide) rfl rfl rfl (Nat.le_of_ble_eq_true rfl) ?_
        refine z_pop B dX4_run_40 rfl ?_
        refine z_iload_n B 2 dX4_run_41 rfl rfl ?_
        by_cases z10 : wr a2 = 0
        · rw [if_pos z10] at h
          refine z_tabIn (off := 26) (tgt := 68) B dX4_run_42 z10 (by decide) rfl (by decide) ?_
          refine z_aload_n B 0 dX4_run_68 rfl rfl ?_
          refine z_get4 (v := .ref (ad 28)) B 3 dX4_run_69 inlX4 (by decide) rfl (by decide) (wl_2 0 rfl) rfl rfl ?_
          refine z_get0 (v := .int (hg_I (w7 28 10))) B 10 dX4_run_72 inlX0 (by decide) rfl (by decide) (wl_7 12 rfl) rfl rfl ?_
          exact z_iret B hr dX4_run_75 h
        rw [if_neg z10] at h
        by_cases z11 : wr a2 = 1
        · rw [if_pos z11] at h
          refine z_tabIn (off := 34) (tgt := 76) B dX4_run_42 z11 (by decide) rfl (by decide) ?_
          refine z_aload_n B 0 dX4_run_76 rfl rfl ?_
          refine z_get4 (v := .ref (ad 28)) B 3 dX4_run_77 inlX4 (by decide) rfl (by decide) (wl_2 0 rfl) rfl rfl ?_
          obtain ⟨w12, v13, q14, h⟩ := hg_bd_some h
          refine z_calliV (a := 28) (ci := 0) (N := 14) (T := TX0) (C := RX0) (As := []) (n := 0) B dX4_run_80 (c_X0_worthOfAll (by unfold hg_rd; decide) q14) (gl_V (wl_9 7 rfl) (wl_9 8 rfl) (wl_9 9 rfl) (wl_1 22 rfl) (wl_9 10 rfl)) rfl ⟨rfl, rfl⟩ (by decide +kernel) ⟨Nat.le_of_ble_eq_true rfl, Nat.le_of_ble_eq_true rfl⟩ (by decide) rfl (by decide) rfl rfl rfl (Nat.le_of_ble_eq_true rfl) ?_
          exact z_iret B hr dX4_run_83 h
        rw [if_neg z11] at h
        by_cases z15 : wr a2 = 2
        · rw [if_pos z15] at h
          refine z_tabIn (off := 42) (tgt := 84) B dX4_run_42 z15 (by decide) rfl (by decide) ?_
          refine z_aload_n B 0 dX4_run_84 rfl rfl ?_
          refine z_get4 (v := .ref (ad 28)) B 3 dX4_run_85 inlX4 (by decide) rfl (by decide) (wl_2 0 rfl) rfl rfl ?_
          refine z_get0 (v := .int (hg_I (w7 28 11))) B 11 dX4_run_88 inlX0 (by decide) rfl (by decide) (wl_7 17 rfl) rfl rfl ?_
          exact z_iret B hr dX4_run_91 h
        rw [if_neg z15] at h
        refine z_tabOut (tgt := 92) B dX4_run_42 (by omega) (by decide) ?_
        refine z_iload_n B 2 dX4_run_92 rfl rfl ?_
        refine z_bipush B dX4_run_93 (by decide) ?_
        refine z_irem B dX4_run_95 (by decide) ?_
        refine z_istore_n B [(3, .int (hg_I (hg_rm a2 10))), (0, .ref (ad 0)), (1, .int (hg_I a1)), (2, .int (hg_I a2))] dX4_run_96 rfl (by decide) rfl ?_
        refine z_iload_n B 3 dX4_run_97 rfl rfl ?_
        refine z_bipush B dX4_run_98 (by decide) ?_
        refine z_idiv B dX4_run_100 (by decide) ?_
        by_cases z16 : wr (hg_dv a2 10) = 1
        · rw [if_pos z16] at h
          refine z_look (off := 27) (tgt := 128) B dX4_run_101 (by decide +kernel) (by rw [z16]; rfl) (by decide) ?_
          refine z_aload_n B 1 dX4_run_128 rfl rfl ?_
          refine z_get4 (v := .ref (ad 28)) B 3 dX4_run_129 inlX4 (by decide) rfl (by decide) (wl_2 0 rfl) rfl rfl ?_
          refine z_get0 (v := .ref (ad 34)) B 6 dX4_run_132 inlX0 (by decide) rfl (by decide) (wl_18 14 rfl) rfl rfl ?_
          refine z_iload_n B 0 dX4_run_135 rfl rfl ?_
          obtain ⟨v17, q18, h⟩ := Option.bind_eq_some_iff.mp h
          refine z_iald (Or.inl rfl) B dX4_run_136 q18 ?_
          exact z_iret B hr dX4_run_137 h
        rw [if_neg z16] at h
        by_cases z19 : wr (hg_dv a2 10) = 2
        · rw [if_pos z19] at h
          refine z_look (off := 37) (tgt := 138) B dX4_run_101 (by decide +kernel) (by rw [z19]; rfl) (by decide) ?_
          refine z_aload_n B 1 dX4_run_138 rfl rfl ?_
          refine z_get4 (v := .ref (ad 28)) B 3 dX4_run_139 inlX4 (by decide) rfl (by decide) (wl_2 0 rfl) rfl rfl ?_
          refine z_get0 (v := .ref (ad 33)) B 5 dX4_run_142 inlX0 (by decide) rfl (by decide) (wl_18 13 rfl) rfl rfl ?_
          refine z_iload_n B 0 dX4_run_145 rfl rfl ?_
          obtain ⟨v20, q21, h⟩ := Option.bind_eq_some_iff.mp h
          refine z_iald (Or.inl rfl) B dX4_run_146 q21 ?_
          exact z_iret B hr dX4_run_147 h
        rw [if_neg z19] at h
        refine z_look (off := 47) (tgt := 148) B dX4_run_101 (by decide +kernel) (by simp [Op.lookupswitch.offset, (show ¬ ((1 : Int) = wr (hg_dv a2 10)) from fun q => z16 q.symm), (show ¬ ((2 : Int) = wr (hg_dv a2 10)) from fun q => z19 q.symm)]) (by decide) ?_
        refine z_aload_n B 1 dX4_run_148 rfl rfl ?_
        refine z_get4 (v := .ref (ad 28)) B 3 dX4_run_149 inlX4 (by decide) rfl (by decide) (wl_2 0 rfl) rfl rfl ?_
        refine z_get0 (v := .ref (ad 35)) B 7 dX4_run_152 inlX0 (by decide) rfl (by decide) (wl_18 23 rfl) rfl rfl ?_
        refine z_iload_n B 0 dX4_run_155 rfl rfl ?_
        obtain ⟨v22, q23, h⟩ := Option.bind_eq_some_iff.mp h
        refine z_iald (Or.inl rfl) B dX4_run_156 q23 ?_
        exact z_iret B hr dX4_run_157 h
      · refine z_bipush B dX4_run_18 (by decide) ?_
        exact z_iret B hr dX4_run_20 h
set_option maxHeartbeats 4000000 in
set_option maxRecDepth 100000 in
theorem c_X4_run {l : Launch} {D : va_G} {cI cA : ClassId} {ad : Nat → Nat} {a1 : Int} {a2 : Int} {w w1 : hg_W} {r1 : Int} (h : fX4_run w a1 a2 = some (w1, r1)) : hg_Mi l yX4_run wxX4_run rmX4_run D cI cA ad 0 w [.ref (ad 0), .int (hg_I a1), .int (hg_I a2)] w1 r1 := by
  refine z_meti cX4_run 4 (some .int) (by decide) (Nat.le_of_ble_eq_true rfl) ?_
  intro p e s m args below meth c A B hr
  exact rX4_run_E B hr h
abbrev wxX4_firstMost : List Cond := Cond.code yX4_firstMost cX4_firstMost 4 (some .int) :: wsL_law
def fX4_firstMost_30 (K4 : hg_W → Nat → Int → Int → Int → Option (hg_W × Int))  (w : hg_W) (x0 : Nat) (x1 : Int) (x2 : Int) (x3 : Int) : Option (hg_W × Int) :=
  K4 w x0 x1 x2 (x3 + 1)
def fX4_firstMost_28 (K4 : hg_W → Nat → Int → Int → Int → Option (hg_W × Int))  (w : hg_W) (x0 : Nat) (x1 : Int) (x3 : Int) : Option (hg_W × Int) :=
  fX4_firstMost_30 K4 w x0 x1 x3 x3
def fX4_firstMost_4   : Nat → hg_W → Nat → Int → Int → Int → Option (hg_W × Int)
  | 0, _, _, _, _, _ => none
  | n + 1, w, x0, x1, x2, x3 =>
    if wr x1 ≤ wr x3 then
      (
        some (w, wr x2)
      )
    else
      (hg_al 0 x0).bind fun v1 =>
      if wr v1 ≤ wr x3 then
        (
          some (w, wr x2)
        )
      else
        if wr x2 < 0 then
          (
            fX4_firstMost_28 (fX4_firstMost_4 n) w x0 x1 x3
          )
        else
          (hg_ag 0 w x0 x3).bind fun v3 =>
          (hg_ag 0 w x0 x2).bind fun v5 =>
          if wr v3 ≤ wr v5 then
            (
              fX4_firstMost_30 (fX4_firstMost_4 n) w x0 x1 x2 x3
            )
          else
            fX4_firstMost_28 (fX4_firstMost_4 n) w x0 x1 x3
def fX4_firstMost (w : hg_W) (a1 : Nat) (a2 : Int) : Option (hg_W × Int) :=
  fX4_firstMost_4 hg_F w a1 a2 (-1) 0
set_option maxHeartbeats 4000000 in
set_option maxRecDepth 100000 in
abbrev rmX4_firstMost : Room := { frames := 0, cells := 0, slots := 0, locals := 0 }
set_option maxHeartbeats 4000000 in
set_option maxRecDepth 100000 in
theorem rX4_firstMost_30 (B : hg_B p s m args meth c cX4_firstMost RX4 wsL_law 4 D cI cA ad 0 A) (hr : meth.sig.returnType = (some .int)) {w1 : hg_W} {r1 : Int} {K4 : hg_W → Nat → Int → Int → Int → Option (hg_W × Int)} (hK4 : ∀ (w : hg_W) (x0 : Nat) (x1 : Int) (x2 : Int) (x3 : Int), K4 w x0 x1 x2 x3 = some (w1, r1) → hg_At p l e (rmX4_firstMost) s m args below meth c D cI cA ad 0 A (MQ below (hg_Qi D cI cA ad 0 A w1 r1) args s 0 0 A) 4 w [(0, .ref (ad x0)), (1, .int (hg_I x1)), (2, .int (hg_I x2)), (3, .int (hg_I x3))] 4 []) : ∀ (w : hg_W) (x0 : Nat) (x1 : Int) (x2 : Int) (x3 : Int), fX4_firstMost_30 K4 w x0 x1 x2 x3 = some (w1, r1) → hg_At p l e (rmX4_firstMost) s m args below meth c D cI cA ad 0 A (MQ below (hg_Qi D cI cA ad 0 A w1 r1) args s 0 0 A) 4 w [(0, .ref (ad x0)), (1, .int (hg_I x1)), (2, .int (hg_I x2)), (3, .int (hg_I x3))] 30 [] := by
  intro w x0 x1 x2 x3 h
  unfold fX4_firstMost_30 at h
  refine z_iinc B 3 [(3, .int (hg_I (x3 + 1))), (0, .ref (ad x0)), (1, .int (hg_I x1)), (2, .int (hg_I x2))] dX4_firstMost_30 rfl (by decide) rfl ?_
  refine z_goto (tgt := 4) B dX4_firstMost_33 (by decide) ?_
  refine z_lv (lv' := [(0, .ref (ad x0)), (1, .int (hg_I x1)), (2, .int (hg_I x2)), (3, .int (hg_I (x3 + 1)))]) B [1, 2, 3, 0] rfl ?_
  exact hK4 _ _ _ _ _ h
set_option maxHeartbeats 4000000 in
set_option maxRecDepth 100000 in
theorem rX4_firstMost_28 (B : hg_B p s m args meth c cX4_firstMost RX4 wsL_law 4 D cI cA ad 0 A) (hr : meth.sig.returnType = (some .int)) {w1 : hg_W} {r1 : Int} {K4 : hg_W → Nat → Int → Int → Int → Option (hg_W × Int)} (hK4 : ∀ (w : hg_W) (x0 : Nat) (x1 : Int) (x2 : Int) (x3 : Int), K4 w x0 x1 x2 x3 = some (w1, r1) → hg_At p l e (rmX4_firstMost) s m args below meth c D cI cA ad 0 A (MQ below (hg_Qi D cI cA ad 0 A w1 r1) args s 0 0 A) 4 w [(0, .ref (ad x0)), (1, .int (hg_I x1)), (2, .int (hg_I x2)), (3, .int (hg_I x3))] 4 []) : ∀ (w : hg_W) (x0 : Nat) (x1 : Int) (x3 : Int), fX4_firstMost_28 K4 w x0 x1 x3 = some (w1, r1) → hg_At p l e (rmX4_firstMost) s m args below meth c D cI cA ad 0 A (MQ below (hg_Qi D cI cA ad 0 A w1 r1) args s 0 0 A) 4 w [(0, .ref (ad x0)), (1, .int (hg_I x1)), (3, .int (hg_I x3))] 28 [] := by
  intro w x0 x1 x3 h
  unfold fX4_firstMost_28 at h
  refine z_iload_n B 2 dX4_firstMost_28 rfl rfl ?_
  refine z_istore_n B [(2, .int (hg_I x3)), (0, .ref (ad x0)), (1, .int (hg_I x1)), (3, .int (hg_I x3))] dX4_firstMost_29 rfl (by decide) rfl ?_
  refine z_lv (lv' := [(0, .ref (ad x0)), (1, .int (hg_I x1)), (2, .int (hg_I x3)), (3, .int (hg_I x3))]) B [1, 2, 0, 3] rfl ?_
  exact rX4_firstMost_30 B hr hK4 _ _ _ _ _ h
set_option maxHeartbeats 4000000 in
set_option maxRecDepth 100000 in
theorem rX4_firstMost_4 (B : hg_B p s m args meth c cX4_firstMost RX4 wsL_law 4 D cI cA ad 0 A) (hr : meth.sig.returnType = (some .int)) {w1 : hg_W} {r1 : Int} : ∀ (n : Nat), ∀ (w : hg_W) (x0 : Nat) (x1 : Int) (x2 : Int) (x3 : Int), fX4_firstMost_4 n w x0 x1 x2 x3 = some (w1, r1) → hg_At p l e (rmX4_firstMost) s m args below meth c D cI cA ad 0 A (MQ below (hg_Qi D cI cA ad 0 A w1 r1) args s 0 0 A) 4 w [(0, .ref (ad x0)), (1, .int (hg_I x1)), (2, .int (hg_I x2)), (3, .int (hg_I x3))] 4 [] := by
  intro n
  induction n with
  | zero =>
    intro w x0 x1 x2 x3 h
    cases h
  | succ n ih =>
    intro w x0 x1 x2 x3 h
    simp only [fX4_firstMost_4] at h
    refine z_iload_n B 3 dX4_firstMost_4 rfl rfl ?_
    refine z_iload_n B 1 dX4_firstMost_5 rfl rfl ?_
    refine z_icmp_ge (tgt := 36) B dX4_firstMost_6 (by decide) h (fun h => ?_) (fun h => ?_)
    · refine z_iload_n B 2 dX4_firstMost_36 rfl rfl ?_
      exact z_iret B hr dX4_firstMost_37 h
    · refine z_iload_n B 3 dX4_firstMost_9 rfl rfl ?_
      refine z_aload_n B 0 dX4_firstMost_10 rfl rfl ?_
      obtain ⟨v1, q2, h⟩ := Option.bind_eq_some_iff.mp h
      refine z_alen (Or.inl rfl) B dX4_firstMost_11 q2 ?_
      refine z_icmp_ge (tgt := 36) B dX4_firstMost_12 (by decide) h (fun h => ?_) (fun h => ?_)
      · refine z_iload_n B 2 dX4_firstMost_36 rfl rfl ?_
        exact z_iret B hr dX4_firstMost_37 h
      · refine z_iload_n B 2 dX4_firstMost_15 rfl rfl ?_
        refine z_if_lt (tgt := 28) B dX4_firstMost_16 (by decide) h (fun h => ?_) (fun h => ?_)
        · refine z_lv (lv' := [(0, .ref (ad x0)), (1, .int (hg_I x1)), (3, .int (hg_I x3))]) B [0, 1, 3] rfl ?_
          exact rX4_firstMost_28 B hr ih _ _ _ _ h
        · refine z_aload_n B 0 dX4_firstMost_19 rfl rfl ?_
          refine z_iload_n B 3 dX4_firstMost_20 rfl rfl ?_
          obtain ⟨v3, q4, h⟩ := Option.bind_eq_some_iff.mp h
          refine z_iald (Or.inl rfl) B dX4_firstMost_21 q4 ?_
          refine z_aload_n B 0 dX4_firstMost_22 rfl rfl ?_
          refine z_iload_n B 2 dX4_firstMost_23 rfl rfl ?_
          obtain ⟨v5, q6, h⟩ := Option.bind_eq_some_iff.mp h
          refine z_iald (Or.inl rfl) B dX4_firstMost_24 q6 ?_
          refine z_icmp_le (tgt := 30) B dX4_firstMost_25 (by decide) h (fun h => ?_) (fun h => ?_)
          · exact rX4_firstMost_30 B hr ih _ _ _ _ _ h
          · refine z_lv (lv' := [(0, .ref (ad x0)), (1, .int (hg_I x1)), (3, .int (hg_I x3))]) B [0, 1, 3] rfl ?_
            exact rX4_firstMost_28 B hr ih _ _ _ _ h
set_option maxHeartbeats 4000000 in
set_option maxRecDepth 100000 in
theorem rX4_firstMost_E (B : hg_B p s m args meth c cX4_firstMost RX4 wsL_law 4 D cI cA ad 0 A) (hr : meth.sig.returnType = (some .int)) {a1 : Nat} {a2 : Int} {w1 : hg_W} {r1 : Int} {w : hg_W} (h : fX4_firstMost w a1 a2 = some (w1, r1)) : hg_At p l e (rmX4_firstMost) s m args below meth c D cI cA ad 0 A (MQ below (hg_Qi D cI cA ad 0 A w1 r1) args s 0 0 A) 4 w [(0, .ref (ad a1)), (1, .int (hg_I a2))] 0 [] := by
  unfold fX4_firstMost at h
  refine z_iconst B dX4_firstMost_0 ?_
  refine z_istore_n B [(2, .int (hg_I (-1))), (0, .ref (ad a1)), (1, .int (hg_I a2))] dX4_firstMost_1 rfl (by decide) rfl ?_
  refine z_iconst B dX4_firstMost_2 ?_
  refine z_istore_n B [(3, .int (hg_I 0)), (2, .int (hg_I (-1))), (0, .ref (ad a1)), (1, .int (hg_I a2))] dX4_firstMost_3 rfl (by decide) rfl ?_
  refine z_lv (lv' := [(0, .ref (ad a1)), (1, .int (hg_I a2)), (2, .int (hg_I (-1))), (3, .int (hg_I 0))]) B [2, 3, 1, 0] rfl ?_
  exact rX4_firstMost_4 B hr hg_F _ _ _ _ _ h
set_option maxHeartbeats 4000000 in
set_option maxRecDepth 100000 in
theorem c_X4_firstMost {l : Launch} {D : va_G} {cI cA : ClassId} {ad : Nat → Nat} {a1 : Nat} {a2 : Int} {w w1 : hg_W} {r1 : Int} (h : fX4_firstMost w a1 a2 = some (w1, r1)) : hg_Mi l yX4_firstMost wxX4_firstMost rmX4_firstMost D cI cA ad 0 w [.ref (ad a1), .int (hg_I a2)] w1 r1 := by
  refine z_meti cX4_firstMost 4 (some .int) (by decide) (Nat.le_of_ble_eq_true rfl) ?_
  intro p e s m args below meth c A B hr
  exact rX4_firstMost_E B hr h
abbrev wxX4_end : List Cond := Cond.code yX4_end cX4_end 3 (some .int) :: wsL_law
def fX4_end (w : hg_W) (a1 : Int) : Option (hg_W × Int) :=
  if wr a1 < 0 then
    (
      some (w, wr (-2))
    )
  else
    if wr a1 ≤ wr 2 then
      (
        hg_bd (fX0_become 28 w 19) fun w1 _ =>
        hg_bd (fX0_goWhileCoins 28 w1 120) fun w4 v5 =>
        if wr a1 = 0 then
          (
            some (w4, wr v5)
          )
        else
        if wr a1 = 1 then
          (
            hg_bd (fX4_firstMost w4 34 (w4 28 9)) fun w9 v10 =>
            some (w9, wr v10)
          )
        else
        hg_bd (fX4_firstMost w4 35 (w4 28 9)) fun w12 v13 =>
        some (w12, wr v13)
      )
    else
      some (w, wr (-2))
set_option maxHeartbeats 4000000 in
set_option maxRecDepth 100000 in
abbrev rmX4_end : Room := { frames := 7, cells := 0, slots := 0, locals := 164 }
set_option maxHeartbeats 4000000 in
set_option maxRecDepth 100000 in
theorem rX4_end_E (B : hg_B p s m args meth c cX4_end RX4 wsL_law 3 D cI cA ad 0 A) (hr : meth.sig.returnType = (some .int)) {a1 : Int} {w1 : hg_W} {r1 : Int} {w : hg_W} (h : fX4_end w a1 = some (w1, r1)) : hg_At p l e (rmX4_end) s m args below meth c D cI cA ad 0 A (MQ below (hg_Qi D cI cA ad 0 A w1 r1) args s 0 0 A) 3 w [(0, .ref (ad 0)), (1, .int (hg_I a1))] 0 [] := by
  unfold fX4_end at h
  refine z_iload_n B 1 dX4_end_0 rfl rfl ?_
  refine z_if_lt (tgt := 9) B dX4_end_1 (by decide) h (fun h => ?_) (fun h => ?_)
  · refine z_bipush B dX4_end_9 (by decide) ?_
    exact z_iret B hr dX4_end_11 h
  · refine z_iload_n B 1 dX4_end_4 rfl rfl ?_
    refine z_iconst B dX4_end_5 ?_
    refine z_icmp_le (tgt := 12) B dX4_end_6 (by decide) h (fun h => ?_) (fun h => ?_)
    · refine z_aload_n B 0 dX4_end_12 rfl rfl ?_
      refine z_get4 (v := .ref (ad 28)) B 3 dX4_end_13 inlX4 (by decide) rfl (by decide) (wl_2 0 rfl) rfl rfl ?_
      refine z_aload_n B 0 dX4_end_16 rfl rfl ?_
      refine z_get4 (v := .ref (ad 19)) B 2 dX4_end_17 inlX4 (by decide) rfl (by decide) (wl_1 23 rfl) rfl rfl ?_
      obtain ⟨w1, v2, q3, h⟩ := hg_bd_some h
      refine z_callvV (a := 28) (ci := 0) (N := 14) (T := TX0) (C := RX0) (As := [.ref (ad 19)]) (n := 1) B dX4_end_20 (c_X0_become (by unfold hg_rd; decide) (by unfold hg_rd; decide) q3) (gl_V (wl_23 1 rfl) (wl_23 2 rfl) (wl_23 3 rfl) (wl_1 22 rfl) (wl_23 4 rfl)) rfl ⟨rfl, rfl⟩ (by decide +kernel) ⟨Nat.le_of_ble_eq_true rfl, Nat.le_of_ble_eq_true rfl⟩ (by decide) rfl (by decide) rfl rfl rfl (Nat.le_of_ble_eq_true rfl) ?_
      refine z_aload_n B 0 dX4_end_23 rfl rfl ?_
      refine z_get4 (v := .ref (ad 28)) B 3 dX4_end_24 inlX4 (by decide) rfl (by decide) (wl_2 0 rfl) rfl rfl ?_
      refine z_bipush B dX4_end_27 (by decide) ?_
      obtain ⟨w4, v5, q6, h⟩ := hg_bd_some h
      refine z_calliV (a := 28) (ci := 0) (N := 14) (T := TX0) (C := RX0) (As := [.int (hg_I 120)]) (n := 1) B dX4_end_29 (c_X0_goWhileCoins (by unfold hg_rd; decide) q6) (gl_V (wl_23 9 rfl) (wl_23 10 rfl) (wl_23 11 rfl) (wl_1 22 rfl) (wl_23 12 rfl)) rfl ⟨rfl, rfl⟩ (by decide +kernel) ⟨Nat.le_of_ble_eq_true rfl, Nat.le_of_ble_eq_true rfl⟩ (by decide) rfl (by decide) rfl rfl rfl (Nat.le_of_ble_eq_true rfl) ?_
      refine z_istore_n B [(2, .int (hg_I v5)), (0, .ref (ad 0)), (1, .int (hg_I a1))] dX4_end_32 rfl (by decide) rfl ?_
      refine z_iload_n B 2 dX4_end_33 rfl rfl ?_
      by_cases z7 : wr a1 = 0
      · rw [if_pos z7] at h
        refine z_look (off := 26) (tgt := 60) B dX4_end_34 (by decide +kernel) (by rw [z7]; rfl) (by decide) ?_
        refine z_iload_n B 0 dX4_end_60 rfl rfl ?_
        exact z_iret B hr dX4_end_61 h
      rw [if_neg z7] at h
      by_cases z8 : wr a1 = 1
      · rw [if_pos z8] at h
        refine z_look (off := 28) (tgt := 62) B dX4_end_34 (by decide +kernel) (by rw [z8]; rfl) (by decide) ?_
        refine z_aload_n B 1 dX4_end_62 rfl rfl ?_
        refine z_get4 (v := .ref (ad 28)) B 3 dX4_end_63 inlX4 (by decide) rfl (by decide) (wl_2 0 rfl) rfl rfl ?_
        refine z_get0 (v := .ref (ad 34)) B 6 dX4_end_66 inlX0 (by decide) rfl (by decide) (wl_18 14 rfl) rfl rfl ?_
        refine z_aload_n B 1 dX4_end_69 rfl rfl ?_
        refine z_get4 (v := .ref (ad 28)) B 3 dX4_end_70 inlX4 (by decide) rfl (by decide) (wl_2 0 rfl) rfl rfl ?_
        refine z_get0 (v := .int (hg_I (w4 28 9))) B 9 dX4_end_73 inlX0 (by decide) rfl (by decide) (wl_7 11 rfl) rfl rfl ?_
        obtain ⟨w9, v10, q11, h⟩ := hg_bd_some h
        refine z_calliS (As := [.ref (ad 34), .int (hg_I (w4 28 9))]) (n := 2) B dX4_end_76 (c_X4_firstMost q11) (gl_S (wl_24 10 rfl) (wl_24 11 rfl) (wl_1 2 rfl) (wl_24 12 rfl)) rfl ⟨rfl, rfl⟩ (by decide +kernel) ⟨Nat.le_of_ble_eq_true rfl, Nat.le_of_ble_eq_true rfl⟩ rfl rfl (Nat.le_of_ble_eq_true rfl) ?_
        exact z_iret B hr dX4_end_79 h
      rw [if_neg z8] at h
      refine z_look (off := 46) (tgt := 80) B dX4_end_34 (by decide +kernel) (by simp [Op.lookupswitch.offset, (show ¬ ((0 : Int) = wr a1) from fun q => z7 q.symm), (show ¬ ((1 : Int) = wr a1) from fun q => z8 q.symm)]) (by decide) ?_
      refine z_aload_n B 1 dX4_end_80 rfl rfl ?_
      refine z_get4 (v := .ref (ad 28)) B 3 dX4_end_81 inlX4 (by decide) rfl (by decide) (wl_2 0 rfl) rfl rfl ?_
      refine z_get0 (v := .ref (ad 35)) B 7 dX4_end_84 inlX0 (by decide) rfl (by decide) (wl_18 23 rfl) rfl rfl ?_
      refine z_aload_n B 1 dX4_end_87 rfl rfl ?_
      refine z_get4 (v := .ref (ad 28)) B 3 dX4_end_88 inlX4 (by decide) rfl (by decide) (wl_2 0 rfl) rfl rfl ?_
      refine z_get0 (v := .int (hg_I (w4 28 9))) B 9 dX4_end_91 inlX0 (by decide) rfl (by decide) (wl_7 11 rfl) rfl rfl ?_
      obtain ⟨w12, v13, q14, h⟩ := hg_bd_some h
      refine z_calliS (As := [.ref (ad 35), .int (hg_I (w4 28 9))]) (n := 2) B dX4_end_94 (c_X4_firstMost q14) (gl_S (wl_24 10 rfl) (wl_24 11 rfl) (wl_1 2 rfl) (wl_24 12 rfl)) rfl ⟨rfl, rfl⟩ (by decide +kernel) ⟨Nat.le_of_ble_eq_true rfl, Nat.le_of_ble_eq_true rfl⟩ rfl rfl (Nat.le_of_ble_eq_true rfl) ?_
      exact z_iret B hr dX4_end_97 h
    · refine z_bipush B dX4_end_9 (by decide) ?_
      exact z_iret B hr dX4_end_11 h
set_option maxHeartbeats 4000000 in
set_option maxRecDepth 100000 in
theorem c_X4_end {l : Launch} {D : va_G} {cI cA : ClassId} {ad : Nat → Nat} {a1 : Int} {w w1 : hg_W} {r1 : Int} (h : fX4_end w a1 = some (w1, r1)) : hg_Mi l yX4_end wxX4_end rmX4_end D cI cA ad 0 w [.ref (ad 0), .int (hg_I a1)] w1 r1 := by
  refine z_meti cX4_end 3 (some .int) (by decide) (Nat.le_of_ble_eq_true rfl) ?_
  intro p e s m args below meth c A B hr
  exact rX4_end_E B hr h
abbrev wxX4_first : List Cond := Cond.code yX4_first cX4_first 6 (some .int) :: wsL_law
def fX4_first_101 (K31 : hg_W → Int → Int → Int → Int → Int → Option (hg_W × Int))  (w : hg_W) (x1 : Int) (x2 : Int) (x3 : Int) (x4 : Int) (x5 : Int) : Option (hg_W × Int) :=
  K31 w x1 x2 x3 x4 (x5 + 1)
def fX4_first_31   : Nat → hg_W → Int → Int → Int → Int → Int → Option (hg_W × Int)
  | 0, _, _, _, _, _, _ => none
  | n + 1, w, x1, x2, x3, x4, x5 =>
    if wr (w 19 9) ≤ wr x5 then
      (
        if wr x2 = 0 then
          (
            some (w, wr x3)
          )
        else
          some (w, wr x4)
      )
    else
      hg_bd (fX0_become 28 w 19) fun w1 _ =>
      (hg_pt w1 28 11 x5).bind fun w4 =>
      hg_bd (fX0_goWhileCoins 28 w4 120) fun w6 v7 =>
      (hg_ag 0 w6 34 x1).bind fun v9 =>
      if wr v9 ≤ wr x4 then
        (
          fX4_first_101 (fX4_first_31 n) w6 x1 x2 x3 x4 x5
        )
      else
        (hg_ag 0 w6 34 x1).bind fun v11 =>
        fX4_first_101 (fX4_first_31 n) w6 x1 x2 x5 v11 x5
def fX4_first (w : hg_W) (a1 : Int) (a2 : Int) : Option (hg_W × Int) :=
  hg_bd (fX4_isThere w a1) fun w1 v2 =>
  if wr v2 = 0 then
    (
      some (w1, wr (-5))
    )
  else
    if wr a2 < 0 then
      (
        some (w1, wr (-7))
      )
    else
      if wr a2 ≤ wr 1 then
        (
          fX4_first_31 hg_F w1 a1 a2 (-1) (-1) 0
        )
      else
        some (w1, wr (-7))
set_option maxHeartbeats 4000000 in
set_option maxRecDepth 100000 in
abbrev rmX4_first : Room := { frames := 7, cells := 0, slots := 0, locals := 164 }
set_option maxHeartbeats 4000000 in
set_option maxRecDepth 100000 in
theorem rX4_first_101 (B : hg_B p s m args meth c cX4_first RX4 wsL_law 6 D cI cA ad 0 A) (hr : meth.sig.returnType = (some .int)) {w1 : hg_W} {r1 : Int} {K31 : hg_W → Int → Int → Int → Int → Int → Option (hg_W × Int)} (hK31 : ∀ (w : hg_W) (x1 : Int) (x2 : Int) (x3 : Int) (x4 : Int) (x5 : Int), K31 w x1 x2 x3 x4 x5 = some (w1, r1) → hg_At p l e (rmX4_first) s m args below meth c D cI cA ad 0 A (MQ below (hg_Qi D cI cA ad 0 A w1 r1) args s 0 0 A) 6 w [(0, .ref (ad 0)), (1, .int (hg_I x1)), (2, .int (hg_I x2)), (3, .int (hg_I x3)), (4, .int (hg_I x4)), (5, .int (hg_I x5))] 31 []) : ∀ (w : hg_W) (x1 : Int) (x2 : Int) (x3 : Int) (x4 : Int) (x5 : Int), fX4_first_101 K31 w x1 x2 x3 x4 x5 = some (w1, r1) → hg_At p l e (rmX4_first) s m args below meth c D cI cA ad 0 A (MQ below (hg_Qi D cI cA ad 0 A w1 r1) args s 0 0 A) 6 w [(0, .ref (ad 0)), (1, .int (hg_I x1)), (2, .int (hg_I x2)), (3, .int (hg_I x3)), (4, .int (hg_I x4)), (5, .int (hg_I x5))] 101 [] := by
  intro w x1 x2 x3 x4 x5 h
  unfold fX4_first_101 at h
  refine z_iinc B 5 [(5, .int (hg_I (x5 + 1))), (0, .ref (ad 0)), (1, .int (hg_I x1)), (2, .int (hg_I x2)), (3, .int (hg_I x3)), (4, .int (hg_I x4))] dX4_first_101 rfl (by decide) rfl ?_
  refine z_goto (tgt := 31) B dX4_first_104 (by decide) ?_
  refine z_lv (lv' := [(0, .ref (ad 0)), (1, .int (hg_I x1)), (2, .int (hg_I x2)), (3, .int (hg_I x3)), (4, .int (hg_I x4)), (5, .int (hg_I (x5 + 1)))]) B [1, 2, 3, 4, 5, 0] rfl ?_
  exact hK31 _ _ _ _ _ _ h
set_option maxHeartbeats 4000000 in
set_option maxRecDepth 100000 in
theorem rX4_first_31 (B : hg_B p s m args meth c cX4_first RX4 wsL_law 6 D cI cA ad 0 A) (hr : meth.sig.returnType = (some .int)) {w1 : hg_W} {r1 : Int} : ∀ (n : Nat), ∀ (w : hg_W) (x1 : Int) (x2 : Int) (x3 : Int) (x4 : Int) (x5 : Int), fX4_first_31 n w x1 x2 x3 x4 x5 = some (w1, r1) → hg_At p l e (rmX4_first) s m args below meth c D cI cA ad 0 A (MQ below (hg_Qi D cI cA ad 0 A w1 r1) args s 0 0 A) 6 w [(0, .ref (ad 0)), (1, .int (hg_I x1)), (2, .int (hg_I x2)), (3, .int (hg_I x3)), (4, .int (hg_I x4)), (5, .int (hg_I x5))] 31 [] := by
  intro n
  induction n with
  | zero =>
    intro w x1 x2 x3 x4 x5 h
    cases h
  | succ n ih =>
    intro w x1 x2 x3 x4 x5 h
    simp only [fX4_first_31] at h
    refine z_iload B 5 dX4_first_31 rfl ?_
    refine z_aload_n B 0 dX4_first_33 rfl rfl ?_
    refine z_get4 (v := .ref (ad 19)) B 2 dX4_first_34 inlX4 (by decide) rfl (by decide) (wl_1 23 rfl) rfl rfl ?_
    refine z_get0 (v := .int (hg_I (w 19 9))) B 9 dX4_first_37 inlX0 (by decide) rfl (by decide) (wl_7 11 rfl) rfl rfl ?_
    refine z_icmp_ge (tgt := 107) B dX4_first_40 (by decide) h (fun h => ?_) (fun h => ?_)
    · refine z_iload_n B 2 dX4_first_107 rfl rfl ?_
      refine z_if_ne (tgt := 115) B dX4_first_108 (by decide) h (fun h => ?_) (fun h => ?_)
      · refine z_iload B 4 dX4_first_115 rfl ?_
        exact z_iret B hr dX4_first_117 h
      · refine z_iload_n B 3 dX4_first_111 rfl rfl ?_
        refine z_goto (tgt := 117) B dX4_first_112 (by decide) ?_
        exact z_iret B hr dX4_first_117 h
    · refine z_aload_n B 0 dX4_first_43 rfl rfl ?_
      refine z_get4 (v := .ref (ad 28)) B 3 dX4_first_44 inlX4 (by decide) rfl (by decide) (wl_2 0 rfl) rfl rfl ?_
      refine z_aload_n B 0 dX4_first_47 rfl rfl ?_
      refine z_get4 (v := .ref (ad 19)) B 2 dX4_first_48 inlX4 (by decide) rfl (by decide) (wl_1 23 rfl) rfl rfl ?_
      obtain ⟨w1, v2, q3, h⟩ := hg_bd_some h
      refine z_callvV (a := 28) (ci := 0) (N := 14) (T := TX0) (C := RX0) (As := [.ref (ad 19)]) (n := 1) B dX4_first_51 (c_X0_become (by unfold hg_rd; decide) (by unfold hg_rd; decide) q3) (gl_V (wl_23 1 rfl) (wl_23 2 rfl) (wl_23 3 rfl) (wl_1 22 rfl) (wl_23 4 rfl)) rfl ⟨rfl, rfl⟩ (by decide +kernel) ⟨Nat.le_of_ble_eq_true rfl, Nat.le_of_ble_eq_true rfl⟩ (by decide) rfl (by decide) rfl rfl rfl (Nat.le_of_ble_eq_true rfl) ?_
      refine z_aload_n B 0 dX4_first_54 rfl rfl ?_
      refine z_get4 (v := .ref (ad 28)) B 3 dX4_first_55 inlX4 (by decide) rfl (by decide) (wl_2 0 rfl) rfl rfl ?_
      refine z_iload B 5 dX4_first_58 rfl ?_
      obtain ⟨w4, q5, h⟩ := Option.bind_eq_some_iff.mp h
      refine z_put0 B 11 dX4_first_60 inlX0 (by decide) rfl (by decide) (wl_7 17 rfl) rfl rfl .int (by decide +kernel) rfl rfl hg_fs0_11 q5 ?_
      refine z_aload_n B 0 dX4_first_63 rfl rfl ?_
      refine z_get4 (v := .ref (ad 28)) B 3 dX4_first_64 inlX4 (by decide) rfl (by decide) (wl_2 0 rfl) rfl rfl ?_
      refine z_bipush B dX4_first_67 (by decide) ?_
      obtain ⟨w6, v7, q8, h⟩ := hg_bd_some h
      refine z_calliV (a := 28) (ci := 0) (N := 14) (T := TX0) (C := RX0) (As := [.int (hg_I 120)]) (n := 1) B dX4_first_69 (c_X0_goWhileCoins (by unfold hg_rd; decide) q8) (gl_V (wl_23 9 rfl) (wl_23 10 rfl) (wl_23 11 rfl) (wl_1 22 rfl) (wl_23 12 rfl)) rfl ⟨rfl, rfl⟩ (by decide +kernel) ⟨Nat.le_of_ble_eq_true rfl, Nat.le_of_ble_eq_true rfl⟩ (by decide) rfl (by decide) rfl rfl rfl (Nat.le_of_ble_eq_true rfl) ?_
      refine z_pop B dX4_first_72 rfl ?_
      refine z_aload_n B 0 dX4_first_73 rfl rfl ?_
      refine z_get4 (v := .ref (ad 28)) B 3 dX4_first_74 inlX4 (by decide) rfl (by decide) (wl_2 0 rfl) rfl rfl ?_
      refine z_get0 (v := .ref (ad 34)) B 6 dX4_first_77 inlX0 (by decide) rfl (by decide) (wl_18 14 rfl) rfl rfl ?_
      refine z_iload_n B 1 dX4_first_80 rfl rfl ?_
      obtain ⟨v9, q10, h⟩ := Option.bind_eq_some_iff.mp h
      refine z_iald (Or.inl rfl) B dX4_first_81 q10 ?_
      refine z_iload B 4 dX4_first_82 rfl ?_
      refine z_icmp_le (tgt := 101) B dX4_first_84 (by decide) h (fun h => ?_) (fun h => ?_)
      · exact rX4_first_101 B hr ih _ _ _ _ _ _ h
      · refine z_iload B 5 dX4_first_87 rfl ?_
        refine z_istore_n B [(3, .int (hg_I x5)), (0, .ref (ad 0)), (1, .int (hg_I x1)), (2, .int (hg_I x2)), (4, .int (hg_I x4)), (5, .int (hg_I x5))] dX4_first_89 rfl (by decide) rfl ?_
        refine z_aload_n B 1 dX4_first_90 rfl rfl ?_
        refine z_get4 (v := .ref (ad 28)) B 3 dX4_first_91 inlX4 (by decide) rfl (by decide) (wl_2 0 rfl) rfl rfl ?_
        refine z_get0 (v := .ref (ad 34)) B 6 dX4_first_94 inlX0 (by decide) rfl (by decide) (wl_18 14 rfl) rfl rfl ?_
        refine z_iload_n B 2 dX4_first_97 rfl rfl ?_
        obtain ⟨v11, q12, h⟩ := Option.bind_eq_some_iff.mp h
        refine z_iald (Or.inl rfl) B dX4_first_98 q12 ?_
        refine z_istore B [(4, .int (hg_I v11)), (3, .int (hg_I x5)), (0, .ref (ad 0)), (1, .int (hg_I x1)), (2, .int (hg_I x2)), (5, .int (hg_I x5))] dX4_first_99 (by decide) rfl ?_
        refine z_lv (lv' := [(0, .ref (ad 0)), (1, .int (hg_I x1)), (2, .int (hg_I x2)), (3, .int (hg_I x5)), (4, .int (hg_I v11)), (5, .int (hg_I x5))]) B [2, 3, 4, 1, 0, 5] rfl ?_
        exact rX4_first_101 B hr ih _ _ _ _ _ _ h
set_option maxHeartbeats 4000000 in
set_option maxRecDepth 100000 in
theorem rX4_first_E (B : hg_B p s m args meth c cX4_first RX4 wsL_law 6 D cI cA ad 0 A) (hr : meth.sig.returnType = (some .int)) {a1 : Int} {a2 : Int} {w1 : hg_W} {r1 : Int} {w : hg_W} (h : fX4_first w a1 a2 = some (w1, r1)) : hg_At p l e (rmX4_first) s m args below meth c D cI cA ad 0 A (MQ below (hg_Qi D cI cA ad 0 A w1 r1) args s 0 0 A) 6 w [(0, .ref (ad 0)), (1, .int (hg_I a1)), (2, .int (hg_I a2))] 0 [] := by
  unfold fX4_first at h
  refine z_aload_n B 0 dX4_first_0 rfl rfl ?_
  refine z_iload_n B 1 dX4_first_1 rfl rfl ?_
  obtain ⟨w1, v2, q3, h⟩ := hg_bd_some h
  refine z_calliV (a := 0) (ci := 4) (N := 9) (T := TX4) (C := RX4) (As := [.int (hg_I a1)]) (n := 1) B dX4_first_2 (c_X4_isThere q3) (gl_V (wl_15 22 rfl) (wl_15 23 rfl) (wl_16 0 rfl) (wl_1 2 rfl) (wl_16 1 rfl)) rfl ⟨rfl, rfl⟩ (by decide +kernel) ⟨Nat.le_of_ble_eq_true rfl, Nat.le_of_ble_eq_true rfl⟩ (by decide) rfl (by decide) rfl rfl rfl (Nat.le_of_ble_eq_true rfl) ?_
  refine z_if_ne (tgt := 11) B dX4_first_5 (by decide) h (fun h => ?_) (fun h => ?_)
  · refine z_iload_n B 2 dX4_first_11 rfl rfl ?_
    refine z_if_lt (tgt := 20) B dX4_first_12 (by decide) h (fun h => ?_) (fun h => ?_)
    · refine z_bipush B dX4_first_20 (by decide) ?_
      exact z_iret B hr dX4_first_22 h
    · refine z_iload_n B 2 dX4_first_15 rfl rfl ?_
      refine z_iconst B dX4_first_16 ?_
      refine z_icmp_le (tgt := 23) B dX4_first_17 (by decide) h (fun h => ?_) (fun h => ?_)
      · refine z_iconst B dX4_first_23 ?_
        refine z_istore_n B [(3, .int (hg_I (-1))), (0, .ref (ad 0)), (1, .int (hg_I a1)), (2, .int (hg_I a2))] dX4_first_24 rfl (by decide) rfl ?_
        refine z_iconst B dX4_first_25 ?_
        refine z_istore B [(4, .int (hg_I (-1))), (3, .int (hg_I (-1))), (0, .ref (ad 0)), (1, .int (hg_I a1)), (2, .int (hg_I a2))] dX4_first_26 (by decide) rfl ?_
        refine z_iconst B dX4_first_28 ?_
        refine z_istore B [(5, .int (hg_I 0)), (4, .int (hg_I (-1))), (3, .int (hg_I (-1))), (0, .ref (ad 0)), (1, .int (hg_I a1)), (2, .int (hg_I a2))] dX4_first_29 (by decide) rfl ?_
        refine z_lv (lv' := [(0, .ref (ad 0)), (1, .int (hg_I a1)), (2, .int (hg_I a2)), (3, .int (hg_I (-1))), (4, .int (hg_I (-1))), (5, .int (hg_I 0))]) B [3, 4, 5, 2, 1, 0] rfl ?_
        exact rX4_first_31 B hr hg_F _ _ _ _ _ _ h
      · refine z_bipush B dX4_first_20 (by decide) ?_
        exact z_iret B hr dX4_first_22 h
  · refine z_bipush B dX4_first_8 (by decide) ?_
    exact z_iret B hr dX4_first_10 h
set_option maxHeartbeats 4000000 in
set_option maxRecDepth 100000 in
theorem c_X4_first {l : Launch} {D : va_G} {cI cA : ClassId} {ad : Nat → Nat} {a1 : Int} {a2 : Int} {w w1 : hg_W} {r1 : Int} (h : fX4_first w a1 a2 = some (w1, r1)) : hg_Mi l yX4_first wxX4_first rmX4_first D cI cA ad 0 w [.ref (ad 0), .int (hg_I a1), .int (hg_I a2)] w1 r1 := by
  refine z_meti cX4_first 6 (some .int) (by decide) (Nat.le_of_ble_eq_true rfl) ?_
  intro p e s m args below meth c A B hr
  exact rX4_first_E B hr h
abbrev wxX4_vicar : List Cond := Cond.code yX4_vicar cX4_vicar 4 (some .int) :: wsL_law
def fX4_vicar_104 (K25 : hg_W → Int → Int → Int → Option (hg_W × Int))  (w : hg_W) (x1 : Int) (x2 : Int) (x3 : Int) : Option (hg_W × Int) :=
  K25 w x1 x2 (x3 + 1)
def fX4_vicar_25   : Nat → hg_W → Int → Int → Int → Option (hg_W × Int)
  | 0, _, _, _, _ => none
  | n + 1, w, x1, x2, x3 =>
    if wr 6 ≤ wr x3 then
      (
        some (w, wr (-1))
      )
    else
      (hg_ag 0 w 21 x3).bind fun v1 =>
      if wr 20 ≤ wr v1 then
        (
          fX4_vicar_104 (fX4_vicar_25 n) w x1 x2 x3
        )
      else
        hg_bd (fX0_become 28 w 19) fun w3 _ =>
        (hg_ag 0 w3 21 x3).bind fun v6 =>
        hg_bd (fX0_setInHat 28 w3 x3 (v6 + 1)) fun w8 _ =>
        hg_bd (fX0_goWhileCoins 28 w8 120) fun w11 v12 =>
        if wr v12 = wr x1 then
          (
            if wr x2 = 0 then
              (
                some (w11, wr x3)
              )
            else
              some (w11, wr (w11 28 11))
          )
        else
          fX4_vicar_104 (fX4_vicar_25 n) w11 x1 x2 x3
def fX4_vicar (w : hg_W) (a1 : Int) (a2 : Int) : Option (hg_W × Int) :=
  hg_bd (fX4_isThere w a1) fun w1 v2 =>
  if wr v2 = 0 then
    (
      some (w1, wr (-5))
    )
  else
    if wr a2 < 0 then
      (
        some (w1, wr (-7))
      )
    else
      if wr a2 ≤ wr 1 then
        (
          fX4_vicar_25 hg_F w1 a1 a2 0
        )
      else
        some (w1, wr (-7))
set_option maxHeartbeats 4000000 in
set_option maxRecDepth 100000 in
abbrev rmX4_vicar : Room := { frames := 7, cells := 0, slots := 0, locals := 164 }
set_option maxHeartbeats 4000000 in
set_option maxRecDepth 100000 in
theorem rX4_vicar_104 (B : hg_B p s m args meth c cX4_vicar RX4 wsL_law 4 D cI cA ad 0 A) (hr : meth.sig.returnType = (some .int)) {w1 : hg_W} {r1 : Int} {K25 : hg_W → Int → Int → Int → Option (hg_W × Int)} (hK25 : ∀ (w : hg_W) (x1 : Int) (x2 : Int) (x3 : Int), K25 w x1 x2 x3 = some (w1, r1) → hg_At p l e (rmX4_vicar) s m args below meth c D cI cA ad 0 A (MQ below (hg_Qi D cI cA ad 0 A w1 r1) args s 0 0 A) 4 w [(0, .ref (ad 0)), (1, .int (hg_I x1)), (2, .int (hg_I x2)), (3, .int (hg_I x3))] 25 []) : ∀ (w : hg_W) (x1 : Int) (x2 : Int) (x3 : Int), fX4_vicar_104 K25 w x1 x2 x3 = some (w1, r1) → hg_At p l e (rmX4_vicar) s m args below meth c D cI cA ad 0 A (MQ below (hg_Qi D cI cA ad 0 A w1 r1) args s 0 0 A) 4 w [(0, .ref (ad 0)), (1, .int (hg_I x1)), (2, .int (hg_I x2)), (3, .int (hg_I x3))] 104 [] := by
  intro w x1 x2 x3 h
  unfold fX4_vicar_104 at h
  refine z_iinc B 3 [(3, .int (hg_I (x3 + 1))), (0, .ref (ad 0)), (1, .int (hg_I x1)), (2, .int (hg_I x2))] dX4_vicar_104 rfl (by decide) rfl ?_
  refine z_goto (tgt := 25) B dX4_vicar_107 (by decide) ?_
  refine z_lv (lv' := [(0, .ref (ad 0)), (1, .int (hg_I x1)), (2, .int (hg_I x2)), (3, .int (hg_I (x3 + 1)))]) B [1, 2, 3, 0] rfl ?_
  exact hK25 _ _ _ _ h
set_option maxHeartbeats 4000000 in
set_option maxRecDepth 100000 in
theorem rX4_vicar_25 (B : hg_B p s m args meth c cX4_vicar RX4 wsL_law 4 D cI cA ad 0 A) (hr : meth.sig.returnType = (some .int)) {w1 : hg_W} {r1 : Int} : ∀ (n : Nat), ∀ (w : hg_W) (x1 : Int) (x2 : Int) (x3 : Int), fX4_vicar_25 n w x1 x2 x3 = some (w1, r1) → hg_At p l e (rmX4_vicar) s m args below meth c D cI cA ad 0 A (MQ below (hg_Qi D cI cA ad 0 A w1 r1) args s 0 0 A) 4 w [(0, .ref (ad 0)), (1, .int (hg_I x1)), (2, .int (hg_I x2)), (3, .int (hg_I x3))] 25 [] := by
  intro n
  induction n with
  | zero =>
    intro w x1 x2 x3 h
    cases h
  | succ n ih =>
    intro w x1 x2 x3 h
    simp only [fX4_vicar_25] at h
    refine z_iload_n B 3 dX4_vicar_25 rfl rfl ?_
    refine z_bipush B dX4_vicar_26 (by decide) ?_
    refine z_icmp_ge (tgt := 110) B dX4_vicar_28 (by decide) h (fun h => ?_) (fun h => ?_)
    · refine z_iconst B dX4_vicar_110 ?_
      exact z_iret B hr dX4_vicar_111 h
    · refine z_aload_n B 0 dX4_vicar_31 rfl rfl ?_
      refine z_get4 (v := .ref (ad 19)) B 2 dX4_vicar_32 inlX4 (by decide) rfl (by decide) (wl_1 23 rfl) rfl rfl ?_
      refine z_get0 (v := .ref (ad 21)) B 2 dX4_vicar_35 inlX0 (by decide) rfl (by decide) (wl_8 11 rfl) rfl rfl ?_
      refine z_iload_n B 3 dX4_vicar_38 rfl rfl ?_
      obtain ⟨v1, q2, h⟩ := Option.bind_eq_some_iff.mp h
      refine z_iald (Or.inl rfl) B dX4_vicar_39 q2 ?_
      refine z_bipush B dX4_vicar_40 (by decide) ?_
      refine z_icmp_ge (tgt := 104) B dX4_vicar_42 (by decide) h (fun h => ?_) (fun h => ?_)
      · exact rX4_vicar_104 B hr ih _ _ _ _ h
      · refine z_aload_n B 0 dX4_vicar_45 rfl rfl ?_
        refine z_get4 (v := .ref (ad 28)) B 3 dX4_vicar_46 inlX4 (by decide) rfl (by decide) (wl_2 0 rfl) rfl rfl ?_
        refine z_aload_n B 0 dX4_vicar_49 rfl rfl ?_
        refine z_get4 (v := .ref (ad 19)) B 2 dX4_vicar_50 inlX4 (by decide) rfl (by decide) (wl_1 23 rfl) rfl rfl ?_
        obtain ⟨w3, v4, q5, h⟩ := hg_bd_some h
        refine z_callvV (a := 28) (ci := 0) (N := 14) (T := TX0) (C := RX0) (As := [.ref (ad 19)]) (n := 1) B dX4_vicar_53 (c_X0_become (by unfold hg_rd; decide) (by unfold hg_rd; decide) q5) (gl_V (wl_23 1 rfl) (wl_23 2 rfl) (wl_23 3 rfl) (wl_1 22 rfl) (wl_23 4 rfl)) rfl ⟨rfl, rfl⟩ (by decide +kernel) ⟨Nat.le_of_ble_eq_true rfl, Nat.le_of_ble_eq_true rfl⟩ (by decide) rfl (by decide) rfl rfl rfl (Nat.le_of_ble_eq_true rfl) ?_
        refine z_aload_n B 0 dX4_vicar_56 rfl rfl ?_
        refine z_get4 (v := .ref (ad 28)) B 3 dX4_vicar_57 inlX4 (by decide) rfl (by decide) (wl_2 0 rfl) rfl rfl ?_
        refine z_iload_n B 3 dX4_vicar_60 rfl rfl ?_
        refine z_aload_n B 0 dX4_vicar_61 rfl rfl ?_
        refine z_get4 (v := .ref (ad 19)) B 2 dX4_vicar_62 inlX4 (by decide) rfl (by decide) (wl_1 23 rfl) rfl rfl ?_
        refine z_get0 (v := .ref (ad 21)) B 2 dX4_vicar_65 inlX0 (by decide) rfl (by decide) (wl_8 11 rfl) rfl rfl ?_
        refine z_iload_n B 3 dX4_vicar_68 rfl rfl ?_
        obtain ⟨v6, q7, h⟩ := Option.bind_eq_some_iff.mp h
        refine z_iald (Or.inl rfl) B dX4_vicar_69 q7 ?_
        refine z_iconst B dX4_vicar_70 ?_
        refine z_iadd B dX4_vicar_71 ?_
        obtain ⟨w8, v9, q10, h⟩ := hg_bd_some h
        refine z_callvV (a := 28) (ci := 0) (N := 14) (T := TX0) (C := RX0) (As := [.int (hg_I x3), .int (hg_I (v6 + 1))]) (n := 2) B dX4_vicar_72 (c_X0_setInHat (by unfold hg_rd; decide) q10) (gl_V (wl_8 15 rfl) (wl_8 16 rfl) (wl_8 17 rfl) (wl_1 22 rfl) (wl_8 18 rfl)) rfl ⟨rfl, rfl⟩ (by decide +kernel) ⟨Nat.le_of_ble_eq_true rfl, Nat.le_of_ble_eq_true rfl⟩ (by decide) rfl (by decide) rfl rfl rfl (Nat.le_of_ble_eq_true rfl) ?_
        refine z_aload_n B 0 dX4_vicar_75 rfl rfl ?_
        refine z_get4 (v := .ref (ad 28)) B 3 dX4_vicar_76 inlX4 (by decide) rfl (by decide) (wl_2 0 rfl) rfl rfl ?_
        refine z_bipush B dX4_vicar_79 (by decide) ?_
        obtain ⟨w11, v12, q13, h⟩ := hg_bd_some h
        refine z_calliV (a := 28) (ci := 0) (N := 14) (T := TX0) (C := RX0) (As := [.int (hg_I 120)]) (n := 1) B dX4_vicar_81 (c_X0_goWhileCoins (by unfold hg_rd; decide) q13) (gl_V (wl_23 9 rfl) (wl_23 10 rfl) (wl_23 11 rfl) (wl_1 22 rfl) (wl_23 12 rfl)) rfl ⟨rfl, rfl⟩ (by decide +kernel) ⟨Nat.le_of_ble_eq_true rfl, Nat.le_of_ble_eq_true rfl⟩ (by decide) rfl (by decide) rfl rfl rfl (Nat.le_of_ble_eq_true rfl) ?_
        refine z_iload_n B 1 dX4_vicar_84 rfl rfl ?_
        refine z_icmp_ne (tgt := 104) B dX4_vicar_85 (by decide) h (fun h => ?_) (fun h => ?_)
        · exact rX4_vicar_104 B hr ih _ _ _ _ h
        · refine z_iload_n B 2 dX4_vicar_88 rfl rfl ?_
          refine z_if_ne (tgt := 96) B dX4_vicar_89 (by decide) h (fun h => ?_) (fun h => ?_)
          · refine z_aload_n B 0 dX4_vicar_96 rfl rfl ?_
            refine z_get4 (v := .ref (ad 28)) B 3 dX4_vicar_97 inlX4 (by decide) rfl (by decide) (wl_2 0 rfl) rfl rfl ?_
            refine z_get0 (v := .int (hg_I (w11 28 11))) B 11 dX4_vicar_100 inlX0 (by decide) rfl (by decide) (wl_7 17 rfl) rfl rfl ?_
            exact z_iret B hr dX4_vicar_103 h
          · refine z_iload_n B 3 dX4_vicar_92 rfl rfl ?_
            refine z_goto (tgt := 103) B dX4_vicar_93 (by decide) ?_
            exact z_iret B hr dX4_vicar_103 h
set_option maxHeartbeats 4000000 in
set_option maxRecDepth 100000 in
theorem rX4_vicar_E (B : hg_B p s m args meth c cX4_vicar RX4 wsL_law 4 D cI cA ad 0 A) (hr : meth.sig.returnType = (some .int)) {a1 : Int} {a2 : Int} {w1 : hg_W} {r1 : Int} {w : hg_W} (h : fX4_vicar w a1 a2 = some (w1, r1)) : hg_At p l e (rmX4_vicar) s m args below meth c D cI cA ad 0 A (MQ below (hg_Qi D cI cA ad 0 A w1 r1) args s 0 0 A) 4 w [(0, .ref (ad 0)), (1, .int (hg_I a1)), (2, .int (hg_I a2))] 0 [] := by
  unfold fX4_vicar at h
  refine z_aload_n B 0 dX4_vicar_0 rfl rfl ?_
  refine z_iload_n B 1 dX4_vicar_1 rfl rfl ?_
  obtain ⟨w1, v2, q3, h⟩ := hg_bd_some h
  refine z_calliV (a := 0) (ci := 4) (N := 9) (T := TX4) (C := RX4) (As := [.int (hg_I a1)]) (n := 1) B dX4_vicar_2 (c_X4_isThere q3) (gl_V (wl_15 22 rfl) (wl_15 23 rfl) (wl_16 0 rfl) (wl_1 2 rfl) (wl_16 1 rfl)) rfl ⟨rfl, rfl⟩ (by decide +kernel) ⟨Nat.le_of_ble_eq_true rfl, Nat.le_of_ble_eq_true rfl⟩ (by decide) rfl (by decide) rfl rfl rfl (Nat.le_of_ble_eq_true rfl) ?_
  refine z_if_ne (tgt := 11) B dX4_vicar_5 (by decide) h (fun h => ?_) (fun h => ?_)
  · refine z_iload_n B 2 dX4_vicar_11 rfl rfl ?_
    refine z_if_lt (tgt := 20) B dX4_vicar_12 (by decide) h (fun h => ?_) (fun h => ?_)
    · refine z_bipush B dX4_vicar_20 (by decide) ?_
      exact z_iret B hr dX4_vicar_22 h
    · refine z_iload_n B 2 dX4_vicar_15 rfl rfl ?_
      refine z_iconst B dX4_vicar_16 ?_
      refine z_icmp_le (tgt := 23) B dX4_vicar_17 (by decide) h (fun h => ?_) (fun h => ?_)
      · refine z_iconst B dX4_vicar_23 ?_
        refine z_istore_n B [(3, .int (hg_I 0)), (0, .ref (ad 0)), (1, .int (hg_I a1)), (2, .int (hg_I a2))] dX4_vicar_24 rfl (by decide) rfl ?_
        refine z_lv (lv' := [(0, .ref (ad 0)), (1, .int (hg_I a1)), (2, .int (hg_I a2)), (3, .int (hg_I 0))]) B [1, 2, 3, 0] rfl ?_
        exact rX4_vicar_25 B hr hg_F _ _ _ _ h
      · refine z_bipush B dX4_vicar_20 (by decide) ?_
        exact z_iret B hr dX4_vicar_22 h
  · refine z_bipush B dX4_vicar_8 (by decide) ?_
    exact z_iret B hr dX4_vicar_10 h
set_option maxHeartbeats 4000000 in
set_option maxRecDepth 100000 in
theorem c_X4_vicar {l : Launch} {D : va_G} {cI cA : ClassId} {ad : Nat → Nat} {a1 : Int} {a2 : Int} {w w1 : hg_W} {r1 : Int} (h : fX4_vicar w a1 a2 = some (w1, r1)) : hg_Mi l yX4_vicar wxX4_vicar rmX4_vicar D cI cA ad 0 w [.ref (ad 0), .int (hg_I a1), .int (hg_I a2)] w1 r1 := by
  refine z_meti cX4_vicar 4 (some .int) (by decide) (Nat.le_of_ble_eq_true rfl) ?_
  intro p e s m args below meth c A B hr
  exact rX4_vicar_E B hr h
abbrev wxX4_differByOrder : List Cond := Cond.code yX4_differByOrder cX4_differByOrder 6 (some .int) :: wsL_law
def fX4_differByOrder_90   : Nat → hg_W → Int → Int → Int → Int → Option (hg_W × Int)
  | 0, _, _, _, _, _ => none
  | n + 1, w, x1, x3, x4, x5 =>
    if wr x1 ≤ wr x5 then
      (
        some (w, wr (x3 - x4))
      )
    else
      (hg_ag 0 w 34 x5).bind fun v1 =>
      (hg_ag 0 w 34 x5).bind fun v3 =>
      fX4_differByOrder_90 n w x1 (hg_mx x3 v1) (hg_mn x4 v3) (x5 + 1)
def fX4_differByOrder_74   (w : hg_W) (x1 : Int) : Option (hg_W × Int) :=
  (hg_ag 0 w 34 0).bind fun v1 =>
  fX4_differByOrder_90 hg_F w x1 v1 v1 1
def fX4_differByOrder_67 (K23 : hg_W → Int → Int → Int → Option (hg_W × Int))  (w : hg_W) (x1 : Int) (x3 : Int) (s0 : Int) : Option (hg_W × Int) :=
  K23 w x1 s0 (x3 + 1)
def fX4_differByOrder_23   : Nat → hg_W → Int → Int → Int → Option (hg_W × Int)
  | 0, _, _, _, _ => none
  | n + 1, w, x1, x2, x3 =>
    if wr 120 ≤ wr x3 then
      (
        fX4_differByOrder_74 w x1
      )
    else
      if wr (w 28 10) ≤ 0 then
        (
          fX4_differByOrder_74 w x1
        )
      else
        (hg_ag 0 w 55 x2).bind fun v1 =>
        hg_bd (fX0_take 28 w v1) fun w3 v4 =>
        if wr x1 ≤ wr (x2 + 1) then
          (
            fX4_differByOrder_67 (fX4_differByOrder_23 n) w3 x1 x3 0
          )
        else
          fX4_differByOrder_67 (fX4_differByOrder_23 n) w3 x1 x3 (x2 + 1)
def fX4_differByOrder (w : hg_W) : Option (hg_W × Int) :=
  hg_bd (fX0_become 28 w 19) fun w1 _ =>
  fX4_differByOrder_23 hg_F w1 (w1 28 9) 0 0
set_option maxHeartbeats 4000000 in
set_option maxRecDepth 100000 in
abbrev rmX4_differByOrder : Room := { frames := 5, cells := 0, slots := 0, locals := 120 }
set_option maxHeartbeats 4000000 in
set_option maxRecDepth 100000 in
theorem rX4_differByOrder_90 (B : hg_B p s m args meth c cX4_differByOrder RX4 wsL_law 6 D cI cA ad 0 A) (hr : meth.sig.returnType = (some .int)) {w1 : hg_W} {r1 : Int} : ∀ (n : Nat), ∀ (w : hg_W) (x1 : Int) (x3 : Int) (x4 : Int) (x5 : Int), fX4_differByOrder_90 n w x1 x3 x4 x5 = some (w1, r1) → hg_At p l e (rmX4_differByOrder) s m args below meth c D cI cA ad 0 A (MQ below (hg_Qi D cI cA ad 0 A w1 r1) args s 0 0 A) 6 w [(0, .ref (ad 0)), (1, .int (hg_I x1)), (3, .int (hg_I x3)), (4, .int (hg_I x4)), (5, .int (hg_I x5))] 90 [] := by
  intro n
  induction n with
  | zero =>
    intro w x1 x3 x4 x5 h
    cases h
  | succ n ih =>
    intro w x1 x3 x4 x5 h
    simp only [fX4_differByOrder_90] at h
    refine z_iload B 4 dX4_differByOrder_90 rfl ?_
    refine z_iload_n B 1 dX4_differByOrder_92 rfl rfl ?_
    refine z_icmp_ge (tgt := 134) B dX4_differByOrder_93 (by decide) h (fun h => ?_) (fun h => ?_)
    · refine z_iload_n B 2 dX4_differByOrder_134 rfl rfl ?_
      refine z_iload B 3 dX4_differByOrder_135 rfl ?_
      refine z_isub B dX4_differByOrder_137 ?_
      exact z_iret B hr dX4_differByOrder_138 h
    · refine z_iload_n B 2 dX4_differByOrder_96 rfl rfl ?_
      refine z_aload_n B 0 dX4_differByOrder_97 rfl rfl ?_
      refine z_get4 (v := .ref (ad 28)) B 3 dX4_differByOrder_98 inlX4 (by decide) rfl (by decide) (wl_2 0 rfl) rfl rfl ?_
      refine z_get0 (v := .ref (ad 34)) B 6 dX4_differByOrder_101 inlX0 (by decide) rfl (by decide) (wl_18 14 rfl) rfl rfl ?_
      refine z_iload B 4 dX4_differByOrder_104 rfl ?_
      obtain ⟨v1, q2, h⟩ := Option.bind_eq_some_iff.mp h
      refine z_iald (Or.inl rfl) B dX4_differByOrder_106 q2 ?_
      refine z_mmax B dX4_differByOrder_107 (wl_25 21 rfl) (wl_16 13 rfl) (wl_16 8 rfl) (wl_16 14 rfl) ⟨Nat.le_of_ble_eq_true rfl, Nat.le_of_ble_eq_true rfl⟩ ?_
      refine z_istore_n B [(3, .int (hg_I (hg_mx x3 v1))), (0, .ref (ad 0)), (1, .int (hg_I x1)), (4, .int (hg_I x4)), (5, .int (hg_I x5))] dX4_differByOrder_110 rfl (by decide) rfl ?_
      refine z_iload B 3 dX4_differByOrder_111 rfl ?_
      refine z_aload_n B 1 dX4_differByOrder_113 rfl rfl ?_
      refine z_get4 (v := .ref (ad 28)) B 3 dX4_differByOrder_114 inlX4 (by decide) rfl (by decide) (wl_2 0 rfl) rfl rfl ?_
      refine z_get0 (v := .ref (ad 34)) B 6 dX4_differByOrder_117 inlX0 (by decide) rfl (by decide) (wl_18 14 rfl) rfl rfl ?_
      refine z_iload B 4 dX4_differByOrder_120 rfl ?_
      obtain ⟨v3, q4, h⟩ := Option.bind_eq_some_iff.mp h
      refine z_iald (Or.inl rfl) B dX4_differByOrder_122 q4 ?_
      refine z_mmin B dX4_differByOrder_123 (wl_25 22 rfl) (wl_16 7 rfl) (wl_16 8 rfl) (wl_16 9 rfl) ⟨Nat.le_of_ble_eq_true rfl, Nat.le_of_ble_eq_true rfl⟩ ?_
      refine z_istore B [(4, .int (hg_I (hg_mn x4 v3))), (3, .int (hg_I (hg_mx x3 v1))), (0, .ref (ad 0)), (1, .int (hg_I x1)), (5, .int (hg_I x5))] dX4_differByOrder_126 (by decide) rfl ?_
      refine z_iinc B 4 [(5, .int (hg_I (x5 + 1))), (4, .int (hg_I (hg_mn x4 v3))), (3, .int (hg_I (hg_mx x3 v1))), (0, .ref (ad 0)), (1, .int (hg_I x1))] dX4_differByOrder_128 rfl (by decide) rfl ?_
      refine z_goto (tgt := 90) B dX4_differByOrder_131 (by decide) ?_
      refine z_lv (lv' := [(0, .ref (ad 0)), (1, .int (hg_I x1)), (3, .int (hg_I (hg_mx x3 v1))), (4, .int (hg_I (hg_mn x4 v3))), (5, .int (hg_I (x5 + 1)))]) B [3, 4, 2, 1, 0] rfl ?_
      exact ih _ _ _ _ _ h
set_option maxHeartbeats 4000000 in
set_option maxRecDepth 100000 in
theorem rX4_differByOrder_74 (B : hg_B p s m args meth c cX4_differByOrder RX4 wsL_law 6 D cI cA ad 0 A) (hr : meth.sig.returnType = (some .int)) {w1 : hg_W} {r1 : Int} : ∀ (w : hg_W) (x1 : Int), fX4_differByOrder_74 w x1 = some (w1, r1) → hg_At p l e (rmX4_differByOrder) s m args below meth c D cI cA ad 0 A (MQ below (hg_Qi D cI cA ad 0 A w1 r1) args s 0 0 A) 6 w [(0, .ref (ad 0)), (1, .int (hg_I x1))] 74 [] := by
  intro w x1 h
  unfold fX4_differByOrder_74 at h
  refine z_aload_n B 0 dX4_differByOrder_74 rfl rfl ?_
  refine z_get4 (v := .ref (ad 28)) B 3 dX4_differByOrder_75 inlX4 (by decide) rfl (by decide) (wl_2 0 rfl) rfl rfl ?_
  refine z_get0 (v := .ref (ad 34)) B 6 dX4_differByOrder_78 inlX0 (by decide) rfl (by decide) (wl_18 14 rfl) rfl rfl ?_
  refine z_iconst B dX4_differByOrder_81 ?_
  obtain ⟨v1, q2, h⟩ := Option.bind_eq_some_iff.mp h
  refine z_iald (Or.inl rfl) B dX4_differByOrder_82 q2 ?_
  refine z_istore_n B [(3, .int (hg_I v1)), (0, .ref (ad 0)), (1, .int (hg_I x1))] dX4_differByOrder_83 rfl (by decide) rfl ?_
  refine z_iload_n B 0 dX4_differByOrder_84 rfl rfl ?_
  refine z_istore B [(4, .int (hg_I v1)), (3, .int (hg_I v1)), (0, .ref (ad 0)), (1, .int (hg_I x1))] dX4_differByOrder_85 (by decide) rfl ?_
  refine z_iconst B dX4_differByOrder_87 ?_
  refine z_istore B [(5, .int (hg_I 1)), (4, .int (hg_I v1)), (3, .int (hg_I v1)), (0, .ref (ad 0)), (1, .int (hg_I x1))] dX4_differByOrder_88 (by decide) rfl ?_
  refine z_lv (lv' := [(0, .ref (ad 0)), (1, .int (hg_I x1)), (3, .int (hg_I v1)), (4, .int (hg_I v1)), (5, .int (hg_I 1))]) B [3, 4, 2, 1, 0] rfl ?_
  exact rX4_differByOrder_90 B hr hg_F _ _ _ _ _ h
set_option maxHeartbeats 4000000 in
set_option maxRecDepth 100000 in
theorem rX4_differByOrder_67 (B : hg_B p s m args meth c cX4_differByOrder RX4 wsL_law 6 D cI cA ad 0 A) (hr : meth.sig.returnType = (some .int)) {w1 : hg_W} {r1 : Int} {K23 : hg_W → Int → Int → Int → Option (hg_W × Int)} (hK23 : ∀ (w : hg_W) (x1 : Int) (x2 : Int) (x3 : Int), K23 w x1 x2 x3 = some (w1, r1) → hg_At p l e (rmX4_differByOrder) s m args below meth c D cI cA ad 0 A (MQ below (hg_Qi D cI cA ad 0 A w1 r1) args s 0 0 A) 6 w [(0, .ref (ad 0)), (1, .int (hg_I x1)), (2, .int (hg_I x2)), (3, .int (hg_I x3))] 23 []) : ∀ (w : hg_W) (x1 : Int) (x3 : Int) (s0 : Int), fX4_differByOrder_67 K23 w x1 x3 s0 = some (w1, r1) → hg_At p l e (rmX4_differByOrder) s m args below meth c D cI cA ad 0 A (MQ below (hg_Qi D cI cA ad 0 A w1 r1) args s 0 0 A) 6 w [(0, .ref (ad 0)), (1, .int (hg_I x1)), (3, .int (hg_I x3))] 67 [.int (hg_I s0)] := by
  intro w x1 x3 s0 h
  unfold fX4_differByOrder_67 at h
  refine z_istore_n B [(2, .int (hg_I s0)), (0, .ref (ad 0)), (1, .int (hg_I x1)), (3, .int (hg_I x3))] dX4_differByOrder_67 rfl (by decide) rfl ?_
  refine z_iinc B 3 [(3, .int (hg_I (x3 + 1))), (2, .int (hg_I s0)), (0, .ref (ad 0)), (1, .int (hg_I x1))] dX4_differByOrder_68 rfl (by decide) rfl ?_
  refine z_goto (tgt := 23) B dX4_differByOrder_71 (by decide) ?_
  refine z_lv (lv' := [(0, .ref (ad 0)), (1, .int (hg_I x1)), (2, .int (hg_I s0)), (3, .int (hg_I (x3 + 1)))]) B [2, 3, 1, 0] rfl ?_
  exact hK23 _ _ _ _ h
set_option maxHeartbeats 4000000 in
set_option maxRecDepth 100000 in
theorem rX4_differByOrder_23 (B : hg_B p s m args meth c cX4_differByOrder RX4 wsL_law 6 D cI cA ad 0 A) (hr : meth.sig.returnType = (some .int)) {w1 : hg_W} {r1 : Int} : ∀ (n : Nat), ∀ (w : hg_W) (x1 : Int) (x2 : Int) (x3 : Int), fX4_differByOrder_23 n w x1 x2 x3 = some (w1, r1) → hg_At p l e (rmX4_differByOrder) s m args below meth c D cI cA ad 0 A (MQ below (hg_Qi D cI cA ad 0 A w1 r1) args s 0 0 A) 6 w [(0, .ref (ad 0)), (1, .int (hg_I x1)), (2, .int (hg_I x2)), (3, .int (hg_I x3))] 23 [] := by
  intro n
  induction n with
  | zero =>
    intro w x1 x2 x3 h
    cases h
  | succ n ih =>
    intro w x1 x2 x3 h
    simp only [fX4_differByOrder_23] at h
    refine z_iload_n B 3 dX4_differByOrder_23 rfl rfl ?_
    refine z_bipush B dX4_differByOrder_24 (by decide) ?_
    refine z_icmp_ge (tgt := 74) B dX4_differByOrder_26 (by decide) h (fun h => ?_) (fun h => ?_)
    · refine z_lv (lv' := [(0, .ref (ad 0)), (1, .int (hg_I x1))]) B [0, 1] rfl ?_
      exact rX4_differByOrder_74 B hr _ _ h
    · refine z_aload_n B 0 dX4_differByOrder_29 rfl rfl ?_
      refine z_get4 (v := .ref (ad 28)) B 3 dX4_differByOrder_30 inlX4 (by decide) rfl (by decide) (wl_2 0 rfl) rfl rfl ?_
      refine z_get0 (v := .int (hg_I (w 28 10))) B 10 dX4_differByOrder_33 inlX0 (by decide) rfl (by decide) (wl_7 12 rfl) rfl rfl ?_
      refine z_if_le (tgt := 74) B dX4_differByOrder_36 (by decide) h (fun h => ?_) (fun h => ?_)
      · refine z_lv (lv' := [(0, .ref (ad 0)), (1, .int (hg_I x1))]) B [0, 1] rfl ?_
        exact rX4_differByOrder_74 B hr _ _ h
      · refine z_aload_n B 0 dX4_differByOrder_39 rfl rfl ?_
        refine z_get4 (v := .ref (ad 28)) B 3 dX4_differByOrder_40 inlX4 (by decide) rfl (by decide) (wl_2 0 rfl) rfl rfl ?_
        refine z_aload_n B 0 dX4_differByOrder_43 rfl rfl ?_
        refine z_get4 (v := .ref (ad 55)) B 8 dX4_differByOrder_44 inlX4 (by decide) rfl (by decide) (wl_2 9 rfl) rfl rfl ?_
        refine z_iload_n B 2 dX4_differByOrder_47 rfl rfl ?_
        obtain ⟨v1, q2, h⟩ := Option.bind_eq_some_iff.mp h
        refine z_iald (Or.inl rfl) B dX4_differByOrder_48 q2 ?_
        obtain ⟨w3, v4, q5, h⟩ := hg_bd_some h
        refine z_calliV (a := 28) (ci := 0) (N := 14) (T := TX0) (C := RX0) (As := [.int (hg_I v1)]) (n := 1) B dX4_differByOrder_49 (c_X0_take (by unfold hg_rd; decide) q5) (gl_V (wl_25 23 rfl) (wl_21 9 rfl) (wl_21 10 rfl) (wl_1 22 rfl) (wl_21 11 rfl)) rfl ⟨rfl, rfl⟩ (by decide +kernel) ⟨Nat.le_of_ble_eq_true rfl, Nat.le_of_ble_eq_true rfl⟩ (by decide) rfl (by decide) rfl rfl rfl (Nat.le_of_ble_eq_true rfl) ?_
        refine z_pop B dX4_differByOrder_52 rfl ?_
        refine z_iload_n B 2 dX4_differByOrder_53 rfl rfl ?_
        refine z_iconst B dX4_differByOrder_54 ?_
        refine z_iadd B dX4_differByOrder_55 ?_
        refine z_iload_n B 1 dX4_differByOrder_56 rfl rfl ?_
        refine z_icmp_ge (tgt := 66) B dX4_differByOrder_57 (by decide) h (fun h => ?_) (fun h => ?_)
        · refine z_iconst B dX4_differByOrder_66 ?_
          refine z_lv (lv' := [(0, .ref (ad 0)), (1, .int (hg_I x1)), (3, .int (hg_I x3))]) B [0, 1, 3] rfl ?_
          exact rX4_differByOrder_67 B hr ih _ _ _ _ h
        · refine z_iload_n B 2 dX4_differByOrder_60 rfl rfl ?_
          refine z_iconst B dX4_differByOrder_61 ?_
          refine z_iadd B dX4_differByOrder_62 ?_
          refine z_goto (tgt := 67) B dX4_differByOrder_63 (by decide) ?_
          refine z_lv (lv' := [(0, .ref (ad 0)), (1, .int (hg_I x1)), (3, .int (hg_I x3))]) B [0, 1, 3] rfl ?_
          exact rX4_differByOrder_67 B hr ih _ _ _ _ h
set_option maxHeartbeats 4000000 in
set_option maxRecDepth 100000 in
theorem rX4_differByOrder_E (B : hg_B p s m args meth c cX4_differByOrder RX4 wsL_law 6 D cI cA ad 0 A) (hr : meth.sig.returnType = (some .int)) {w1 : hg_W} {r1 : Int} {w : hg_W} (h : fX4_differByOrder w = some (w1, r1)) : hg_At p l e (rmX4_differByOrder) s m args below meth c D cI cA ad 0 A (MQ below (hg_Qi D cI cA ad 0 A w1 r1) args s 0 0 A) 6 w [(0, .ref (ad 0))] 0 [] := by
  unfold fX4_differByOrder at h
  refine z_aload_n B 0 dX4_differByOrder_0 rfl rfl ?_
  refine z_get4 (v := .ref (ad 28)) B 3 dX4_differByOrder_1 inlX4 (by decide) rfl (by decide) (wl_2 0 rfl) rfl rfl ?_
  refine z_aload_n B 0 dX4_differByOrder_4 rfl rfl ?_
  refine z_get4 (v := .ref (ad 19)) B 2 dX4_differByOrder_5 inlX4 (by decide) rfl (by decide) (wl_1 23 rfl) rfl rfl ?_
  obtain ⟨w1, v2, q3, h⟩ := hg_bd_some h
  refine z_callvV (a := 28) (ci := 0) (N := 14) (T := TX0) (C := RX0) (As := [.ref (ad 19)]) (n := 1) B dX4_differByOrder_8 (c_X0_become (by unfold hg_rd; decide) (by unfold hg_rd; decide) q3) (gl_V (wl_23 1 rfl) (wl_23 2 rfl) (wl_23 3 rfl) (wl_1 22 rfl) (wl_23 4 rfl)) rfl ⟨rfl, rfl⟩ (by decide +kernel) ⟨Nat.le_of_ble_eq_true rfl, Nat.le_of_ble_eq_true rfl⟩ (by decide) rfl (by decide) rfl rfl rfl (Nat.le_of_ble_eq_true rfl) ?_
  refine z_aload_n B 0 dX4_differByOrder_11 rfl rfl ?_
  refine z_get4 (v := .ref (ad 28)) B 3 dX4_differByOrder_12 inlX4 (by decide) rfl (by decide) (wl_2 0 rfl) rfl rfl ?_
  refine z_get0 (v := .int (hg_I (w1 28 9))) B 9 dX4_differByOrder_15 inlX0 (by decide) rfl (by decide) (wl_7 11 rfl) rfl rfl ?_
  refine z_istore_n B [(1, .int (hg_I (w1 28 9))), (0, .ref (ad 0))] dX4_differByOrder_18 rfl (by decide) rfl ?_
  refine z_iconst B dX4_differByOrder_19 ?_
  refine z_istore_n B [(2, .int (hg_I 0)), (1, .int (hg_I (w1 28 9))), (0, .ref (ad 0))] dX4_differByOrder_20 rfl (by decide) rfl ?_
  refine z_iconst B dX4_differByOrder_21 ?_
  refine z_istore_n B [(3, .int (hg_I 0)), (2, .int (hg_I 0)), (1, .int (hg_I (w1 28 9))), (0, .ref (ad 0))] dX4_differByOrder_22 rfl (by decide) rfl ?_
  refine z_lv (lv' := [(0, .ref (ad 0)), (1, .int (hg_I (w1 28 9))), (2, .int (hg_I 0)), (3, .int (hg_I 0))]) B [3, 2, 1, 0] rfl ?_
  exact rX4_differByOrder_23 B hr hg_F _ _ _ _ h
set_option maxHeartbeats 4000000 in
set_option maxRecDepth 100000 in
theorem c_X4_differByOrder {l : Launch} {D : va_G} {cI cA : ClassId} {ad : Nat → Nat} {w w1 : hg_W} {r1 : Int} (h : fX4_differByOrder w = some (w1, r1)) : hg_Mi l yX4_differByOrder wxX4_differByOrder rmX4_differByOrder D cI cA ad 0 w [.ref (ad 0)] w1 r1 := by
  refine z_meti cX4_differByOrder 6 (some .int) (by decide) (Nat.le_of_ble_eq_true rfl) ?_
  intro p e s m args below meth c A B hr
  exact rX4_differByOrder_E B hr h
abbrev wxX4_digitsOfOrder : List Cond := Cond.code yX4_digitsOfOrder cX4_digitsOfOrder 3 (some .int) :: wsL_law
def fX4_digitsOfOrder_4   : Nat → hg_W → Int → Int → Option (hg_W × Int)
  | 0, _, _, _ => none
  | n + 1, w, x1, x2 =>
    if wr (w 19 9) ≤ wr x2 then
      (
        some (w, wr x1)
      )
    else
      (hg_ag 0 w 55 x2).bind fun v1 =>
      fX4_digitsOfOrder_4 n w (((x1 * 10) + v1) + 1) (x2 + 1)
def fX4_digitsOfOrder (w : hg_W) : Option (hg_W × Int) :=
  fX4_digitsOfOrder_4 hg_F w 0 0
set_option maxHeartbeats 4000000 in
set_option maxRecDepth 100000 in
abbrev rmX4_digitsOfOrder : Room := { frames := 0, cells := 0, slots := 0, locals := 0 }
set_option maxHeartbeats 4000000 in
set_option maxRecDepth 100000 in
theorem rX4_digitsOfOrder_4 (B : hg_B p s m args meth c cX4_digitsOfOrder RX4 wsL_law 3 D cI cA ad 0 A) (hr : meth.sig.returnType = (some .int)) {w1 : hg_W} {r1 : Int} : ∀ (n : Nat), ∀ (w : hg_W) (x1 : Int) (x2 : Int), fX4_digitsOfOrder_4 n w x1 x2 = some (w1, r1) → hg_At p l e (rmX4_digitsOfOrder) s m args below meth c D cI cA ad 0 A (MQ below (hg_Qi D cI cA ad 0 A w1 r1) args s 0 0 A) 3 w [(0, .ref (ad 0)), (1, .int (hg_I x1)), (2, .int (hg_I x2))] 4 [] := by
  intro n
  induction n with
  | zero =>
    intro w x1 x2 h
    cases h
  | succ n ih =>
    intro w x1 x2 h
    simp only [fX4_digitsOfOrder_4] at h
    refine z_iload_n B 2 dX4_digitsOfOrder_4 rfl rfl ?_
    refine z_aload_n B 0 dX4_digitsOfOrder_5 rfl rfl ?_
    refine z_get4 (v := .ref (ad 19)) B 2 dX4_digitsOfOrder_6 inlX4 (by decide) rfl (by decide) (wl_1 23 rfl) rfl rfl ?_
    refine z_get0 (v := .int (hg_I (w 19 9))) B 9 dX4_digitsOfOrder_9 inlX0 (by decide) rfl (by decide) (wl_7 11 rfl) rfl rfl ?_
    refine z_icmp_ge (tgt := 35) B dX4_digitsOfOrder_12 (by decide) h (fun h => ?_) (fun h => ?_)
    · refine z_iload_n B 1 dX4_digitsOfOrder_35 rfl rfl ?_
      exact z_iret B hr dX4_digitsOfOrder_36 h
    · refine z_iload_n B 1 dX4_digitsOfOrder_15 rfl rfl ?_
      refine z_bipush B dX4_digitsOfOrder_16 (by decide) ?_
      refine z_imul B dX4_digitsOfOrder_18 ?_
      refine z_aload_n B 0 dX4_digitsOfOrder_19 rfl rfl ?_
      refine z_get4 (v := .ref (ad 55)) B 8 dX4_digitsOfOrder_20 inlX4 (by decide) rfl (by decide) (wl_2 9 rfl) rfl rfl ?_
      refine z_iload_n B 2 dX4_digitsOfOrder_23 rfl rfl ?_
      obtain ⟨v1, q2, h⟩ := Option.bind_eq_some_iff.mp h
      refine z_iald (Or.inl rfl) B dX4_digitsOfOrder_24 q2 ?_
      refine z_iadd B dX4_digitsOfOrder_25 ?_
      refine z_iconst B dX4_digitsOfOrder_26 ?_
      refine z_iadd B dX4_digitsOfOrder_27 ?_
      refine z_istore_n B [(1, .int (hg_I (((x1 * 10) + v1) + 1))), (0, .ref (ad 0)), (2, .int (hg_I x2))] dX4_digitsOfOrder_28 rfl (by decide) rfl ?_
      refine z_iinc B 2 [(2, .int (hg_I (x2 + 1))), (1, .int (hg_I (((x1 * 10) + v1) + 1))), (0, .ref (ad 0))] dX4_digitsOfOrder_29 rfl (by decide) rfl ?_
      refine z_goto (tgt := 4) B dX4_digitsOfOrder_32 (by decide) ?_
      refine z_lv (lv' := [(0, .ref (ad 0)), (1, .int (hg_I (((x1 * 10) + v1) + 1))), (2, .int (hg_I (x2 + 1)))]) B [2, 1, 0] rfl ?_
      exact ih _ _ _ h
set_option maxHeartbeats 4000000 in
set_option maxRecDepth 100000 in
theorem rX4_digitsOfOrder_E (B : hg_B p s m args meth c cX4_digitsOfOrder RX4 wsL_law 3 D cI cA ad 0 A) (hr : meth.sig.returnType = (some .int)) {w1 : hg_W} {r1 : Int} {w : hg_W} (h : fX4_digitsOfOrder w = some (w1, r1)) : hg_At p l e (rmX4_digitsOfOrder) s m args below meth c D cI cA ad 0 A (MQ below (hg_Qi D cI cA ad 0 A w1 r1) args s 0 0 A) 3 w [(0, .ref (ad 0))] 0 [] := by
  unfold fX4_digitsOfOrder at h
  refine z_iconst B dX4_digitsOfOrder_0 ?_
  refine z_istore_n B [(1, .int (hg_I 0)), (0, .ref (ad 0))] dX4_digitsOfOrder_1 rfl (by decide) rfl ?_
  refine z_iconst B dX4_digitsOfOrder_2 ?_
  refine z_istore_n B [(2, .int (hg_I 0)), (1, .int (hg_I 0)), (0, .ref (ad 0))] dX4_digitsOfOrder_3 rfl (by decide) rfl ?_
  refine z_lv (lv' := [(0, .ref (ad 0)), (1, .int (hg_I 0)), (2, .int (hg_I 0))]) B [2, 1, 0] rfl ?_
  exact rX4_digitsOfOrder_4 B hr hg_F _ _ _ h
set_option maxHeartbeats 4000000 in
set_option maxRecDepth 100000 in
theorem c_X4_digitsOfOrder {l : Launch} {D : va_G} {cI cA : ClassId} {ad : Nat → Nat} {w w1 : hg_W} {r1 : Int} (h : fX4_digitsOfOrder w = some (w1, r1)) : hg_Mi l yX4_digitsOfOrder wxX4_digitsOfOrder rmX4_digitsOfOrder D cI cA ad 0 w [.ref (ad 0)] w1 r1 := by
  refine z_meti cX4_digitsOfOrder 3 (some .int) (by decide) (Nat.le_of_ble_eq_true rfl) ?_
  intro p e s m args below meth c A B hr
  exact rX4_digitsOfOrder_E B hr h
abbrev wxX4_swapInOrder : List Cond := Cond.code yX4_swapInOrder cX4_swapInOrder 4 none :: wsL_law
def fX4_swapInOrder (w : hg_W) (a1 : Int) (a2 : Int) : Option (hg_W × Int) :=
  (hg_ag 0 w 55 a1).bind fun v1 =>
  (hg_ag 0 w 55 a2).bind fun v3 =>
  (hg_as 0 w 55 a1 v3).bind fun w5 =>
  (hg_as 0 w5 55 a2 v1).bind fun w7 =>
  some (w7, 0)
set_option maxHeartbeats 4000000 in
set_option maxRecDepth 100000 in
abbrev rmX4_swapInOrder : Room := { frames := 0, cells := 0, slots := 0, locals := 0 }
set_option maxHeartbeats 4000000 in
set_option maxRecDepth 100000 in
theorem rX4_swapInOrder_E (B : hg_B p s m args meth c cX4_swapInOrder RX4 wsL_law 4 D cI cA ad 0 A) (hr : meth.sig.returnType = none) {a1 : Int} {a2 : Int} {w1 : hg_W} {r1 : Int} {w : hg_W} (h : fX4_swapInOrder w a1 a2 = some (w1, r1)) : hg_At p l e (rmX4_swapInOrder) s m args below meth c D cI cA ad 0 A (MQ below (hg_Qv D cI cA ad 0 A w1) args s 0 0 A) 4 w [(0, .ref (ad 0)), (1, .int (hg_I a1)), (2, .int (hg_I a2))] 0 [] := by
  unfold fX4_swapInOrder at h
  refine z_aload_n B 0 dX4_swapInOrder_0 rfl rfl ?_
  refine z_get4 (v := .ref (ad 55)) B 8 dX4_swapInOrder_1 inlX4 (by decide) rfl (by decide) (wl_2 9 rfl) rfl rfl ?_
  refine z_iload_n B 1 dX4_swapInOrder_4 rfl rfl ?_
  obtain ⟨v1, q2, h⟩ := Option.bind_eq_some_iff.mp h
  refine z_iald (Or.inl rfl) B dX4_swapInOrder_5 q2 ?_
  refine z_istore_n B [(3, .int (hg_I v1)), (0, .ref (ad 0)), (1, .int (hg_I a1)), (2, .int (hg_I a2))] dX4_swapInOrder_6 rfl (by decide) rfl ?_
  refine z_aload_n B 1 dX4_swapInOrder_7 rfl rfl ?_
  refine z_get4 (v := .ref (ad 55)) B 8 dX4_swapInOrder_8 inlX4 (by decide) rfl (by decide) (wl_2 9 rfl) rfl rfl ?_
  refine z_iload_n B 2 dX4_swapInOrder_11 rfl rfl ?_
  refine z_aload_n B 1 dX4_swapInOrder_12 rfl rfl ?_
  refine z_get4 (v := .ref (ad 55)) B 8 dX4_swapInOrder_13 inlX4 (by decide) rfl (by decide) (wl_2 9 rfl) rfl rfl ?_
  refine z_iload_n B 3 dX4_swapInOrder_16 rfl rfl ?_
  obtain ⟨v3, q4, h⟩ := Option.bind_eq_some_iff.mp h
  refine z_iald (Or.inl rfl) B dX4_swapInOrder_17 q4 ?_
  obtain ⟨w5, q6, h⟩ := Option.bind_eq_some_iff.mp h
  refine z_iast (Or.inl rfl) B dX4_swapInOrder_18 q6 ?_
  refine z_aload_n B 1 dX4_swapInOrder_19 rfl rfl ?_
  refine z_get4 (v := .ref (ad 55)) B 8 dX4_swapInOrder_20 inlX4 (by decide) rfl (by decide) (wl_2 9 rfl) rfl rfl ?_
  refine z_iload_n B 3 dX4_swapInOrder_23 rfl rfl ?_
  refine z_iload_n B 0 dX4_swapInOrder_24 rfl rfl ?_
  obtain ⟨w7, q8, h⟩ := Option.bind_eq_some_iff.mp h
  refine z_iast (Or.inl rfl) B dX4_swapInOrder_25 q8 ?_
  exact z_vret B hr dX4_swapInOrder_26 h
set_option maxHeartbeats 4000000 in
set_option maxRecDepth 100000 in
theorem c_X4_swapInOrder {l : Launch} {D : va_G} {cI cA : ClassId} {ad : Nat → Nat} {a1 : Int} {a2 : Int} {w w1 : hg_W} {r1 : Int} (h : fX4_swapInOrder w a1 a2 = some (w1, r1)) : hg_Mv l yX4_swapInOrder wxX4_swapInOrder rmX4_swapInOrder D cI cA ad 0 w [.ref (ad 0), .int (hg_I a1), .int (hg_I a2)] w1 := by
  refine z_metv cX4_swapInOrder 4 none (by decide) (Nat.le_of_ble_eq_true rfl) ?_
  intro p e s m args below meth c A B hr
  exact rX4_swapInOrder_E B hr h
end G_06_hat3
