section G_05_model2
variable {p : Program} {l : Launch} {e : Env} {s : State} {m : MethodId} {args : Array Value} {below : List Frame} {meth : Method} {c : Code} {D : va_G} {cI cA : ClassId} {ad : Nat → Nat} {A : Nat → Prop}
abbrev wxX5_count : List Cond := Cond.code yX5_count cX5_count 2 (some .int) :: wsL_law
def fX5_count (w : hg_W) (a1 : Int) : Option (hg_W × Int) :=
  if wr a1 = 0 then
    (
      some (w, wr (w 0 0))
    )
  else
  if wr a1 = 1 then
    (
      hg_bd (fX5_coinsAll w) fun w3 v4 =>
      some (w3, wr v4)
    )
  else
  if wr a1 = 2 then
    (
      some (w, wr (w 0 6))
    )
  else
  if wr a1 = 3 then
    (
      some (w, wr (w 0 11))
    )
  else
  if wr a1 = 4 then
    (
      some (w, wr (w 0 12))
    )
  else
  if wr a1 = 5 then
    (
      some (w, wr (w 0 8))
    )
  else
  if wr a1 = 6 then
    (
      some (w, wr (w 0 5))
    )
  else
  some (w, wr (-2))
set_option maxHeartbeats 4000000 in
set_option maxRecDepth 100000 in
abbrev rmX5_count : Room := { frames := 1, cells := 0, slots := 0, locals := 22 }
set_option maxHeartbeats 4000000 in
set_option maxRecDepth 100000 in
theorem rX5_count_E (B : hg_B p s m args meth c cX5_count RX5 wsL_law 2 D cI cA ad 1 A) (hr : meth.sig.returnType = (some .int)) {a1 : Int} {w1 : hg_W} {r1 : Int} {w : hg_W} (h : fX5_count w a1 = some (w1, r1)) : hg_At p l e (rmX5_count) s m args below meth c D cI cA ad 1 A (MQ below (hg_Qi D cI cA ad 1 A w1 r1) args s 0 0 A) 2 w [(0, .ref (ad 0)), (1, .int (hg_I a1))] 0 [] := by
  unfold fX5_count at h
  refine z_iload_n B 1 dX5_count_0 rfl rfl ?_
  by_cases z1 : wr a1 = 0
  · rw [if_pos z1] at h
    refine z_tabIn (off := 43) (tgt := 44) B dX5_count_1 z1 (by decide) rfl (by decide) ?_
    refine z_aload_n B 0 dX5_count_44 rfl rfl ?_
    refine z_get5 (v := .int (hg_I (w 0 0))) B 0 dX5_count_45 inlX5 (by decide) rfl (by decide) (wl_7 22 rfl) rfl rfl ?_
    exact z_iret B hr dX5_count_48 h
  rw [if_neg z1] at h
  by_cases z2 : wr a1 = 1
  · rw [if_pos z2] at h
    refine z_tabIn (off := 48) (tgt := 49) B dX5_count_1 z2 (by decide) rfl (by decide) ?_
    refine z_aload_n B 0 dX5_count_49 rfl rfl ?_
    obtain ⟨w3, v4, q5, h⟩ := hg_bd_some h
    refine z_calliV (a := 0) (ci := 5) (N := 37) (T := TX5) (C := RX5) (As := []) (n := 0) B dX5_count_50 (c_X5_coinsAll q5) (gl_V (wl_8 2 rfl) (wl_8 3 rfl) (wl_8 4 rfl) (wl_1 5 rfl) (wl_8 5 rfl)) rfl ⟨rfl, rfl⟩ (by decide +kernel) ⟨Nat.le_of_ble_eq_true rfl, Nat.le_of_ble_eq_true rfl⟩ (by decide) rfl (by decide) rfl rfl rfl (Nat.le_of_ble_eq_true rfl) ?_
    exact z_iret B hr dX5_count_53 h
  rw [if_neg z2] at h
  by_cases z6 : wr a1 = 2
  · rw [if_pos z6] at h
    refine z_tabIn (off := 53) (tgt := 54) B dX5_count_1 z6 (by decide) rfl (by decide) ?_
    refine z_aload_n B 0 dX5_count_54 rfl rfl ?_
    refine z_get5 (v := .int (hg_I (w 0 6))) B 6 dX5_count_55 inlX5 (by decide) rfl (by decide) (wl_7 23 rfl) rfl rfl ?_
    exact z_iret B hr dX5_count_58 h
  rw [if_neg z6] at h
  by_cases z7 : wr a1 = 3
  · rw [if_pos z7] at h
    refine z_tabIn (off := 58) (tgt := 59) B dX5_count_1 z7 (by decide) rfl (by decide) ?_
    refine z_aload_n B 0 dX5_count_59 rfl rfl ?_
    refine z_get5 (v := .int (hg_I (w 0 11))) B 11 dX5_count_60 inlX5 (by decide) rfl (by decide) (wl_5 4 rfl) rfl rfl ?_
    exact z_iret B hr dX5_count_63 h
  rw [if_neg z7] at h
  by_cases z8 : wr a1 = 4
  · rw [if_pos z8] at h
    refine z_tabIn (off := 63) (tgt := 64) B dX5_count_1 z8 (by decide) rfl (by decide) ?_
    refine z_aload_n B 0 dX5_count_64 rfl rfl ?_
    refine z_get5 (v := .int (hg_I (w 0 12))) B 12 dX5_count_65 inlX5 (by decide) rfl (by decide) (wl_8 0 rfl) rfl rfl ?_
    exact z_iret B hr dX5_count_68 h
  rw [if_neg z8] at h
  by_cases z9 : wr a1 = 5
  · rw [if_pos z9] at h
    refine z_tabIn (off := 68) (tgt := 69) B dX5_count_1 z9 (by decide) rfl (by decide) ?_
    refine z_aload_n B 0 dX5_count_69 rfl rfl ?_
    refine z_get5 (v := .int (hg_I (w 0 8))) B 8 dX5_count_70 inlX5 (by decide) rfl (by decide) (wl_4 23 rfl) rfl rfl ?_
    exact z_iret B hr dX5_count_73 h
  rw [if_neg z9] at h
  by_cases z10 : wr a1 = 6
  · rw [if_pos z10] at h
    refine z_tabIn (off := 73) (tgt := 74) B dX5_count_1 z10 (by decide) rfl (by decide) ?_
    refine z_aload_n B 0 dX5_count_74 rfl rfl ?_
    refine z_get5 (v := .int (hg_I (w 0 5))) B 5 dX5_count_75 inlX5 (by decide) rfl (by decide) (wl_8 1 rfl) rfl rfl ?_
    exact z_iret B hr dX5_count_78 h
  rw [if_neg z10] at h
  refine z_tabOut (tgt := 79) B dX5_count_1 (by omega) (by decide) ?_
  refine z_bipush B dX5_count_79 (by decide) ?_
  exact z_iret B hr dX5_count_81 h
set_option maxHeartbeats 4000000 in
set_option maxRecDepth 100000 in
theorem c_X5_count {l : Launch} {D : va_G} {cI cA : ClassId} {ad : Nat → Nat} {a1 : Int} {w w1 : hg_W} {r1 : Int} (h : fX5_count w a1 = some (w1, r1)) : hg_Mi l yX5_count wxX5_count rmX5_count D cI cA ad 1 w [.ref (ad 0), .int (hg_I a1)] w1 r1 := by
  refine z_meti cX5_count 2 (some .int) (by decide) (Nat.le_of_ble_eq_true rfl) ?_
  intro p e s m args below meth c A B hr
  exact rX5_count_E B hr h
abbrev wxX5_fill : List Cond := Cond.code yX5_fill cX5_fill 5 (some .int) :: wsL_law
def fX5_fill_32   (w : hg_W) (x1 : Int) (x2 : Int) (x3 : Int) (s0 : Int) (s1 : Int) (s2 : Int) : Option (hg_W × Int) :=
  hg_bd (fX5_in w s0 s1 s2) fun w1 v2 =>
  if wr v2 = 0 then
    (
      some (w1, wr (-7))
    )
  else
    (hg_ag 1 w1 4 ((2 * x1) + x2)).bind fun v4 =>
    (hg_as 1 w1 4 ((2 * x1) + x2) x3).bind fun w6 =>
    some (w6, wr v4)
def fX5_fill (w : hg_W) (a1 : Int) (a2 : Int) (a3 : Int) : Option (hg_W × Int) :=
  hg_bd (fX5_isCoin w a1) fun w1 v2 =>
  if wr v2 = 0 then
    (
      some (w1, wr (-5))
    )
  else
    hg_bd (fX5_in w1 a2 0 1) fun w4 v5 =>
    if wr v5 = 0 then
      (
        some (w4, wr (-7))
      )
    else
      if wr a2 = 0 then
        (
          fX5_fill_32 w4 a1 a2 a3 a3 0 99
        )
      else
        fX5_fill_32 w4 a1 a2 a3 a3 0 20
set_option maxHeartbeats 4000000 in
set_option maxRecDepth 100000 in
abbrev rmX5_fill : Room := { frames := 2, cells := 0, slots := 0, locals := 42 }
set_option maxHeartbeats 4000000 in
set_option maxRecDepth 100000 in
theorem rX5_fill_32 (B : hg_B p s m args meth c cX5_fill RX5 wsL_law 5 D cI cA ad 1 A) (hr : meth.sig.returnType = (some .int)) {w1 : hg_W} {r1 : Int} : ∀ (w : hg_W) (x1 : Int) (x2 : Int) (x3 : Int) (s0 : Int) (s1 : Int) (s2 : Int), fX5_fill_32 w x1 x2 x3 s0 s1 s2 = some (w1, r1) → hg_At p l e (rmX5_fill) s m args below meth c D cI cA ad 1 A (MQ below (hg_Qi D cI cA ad 1 A w1 r1) args s 0 0 A) 5 w [(0, .ref (ad 0)), (1, .int (hg_I x1)), (2, .int (hg_I x2)), (3, .int (hg_I x3))] 32 [.int (hg_I s2), .int (hg_I s1), .int (hg_I s0)] := by
  intro w x1 x2 x3 s0 s1 s2 h
  unfold fX5_fill_32 at h
  obtain ⟨w1, v2, q3, h⟩ := hg_bd_some h
  refine z_calliS (As := [.int (hg_I s0), .int (hg_I s1), .int (hg_I s2)]) (n := 3) B dX5_fill_32 (c_X5_in q3) (gl_S (wl_5 14 rfl) (wl_5 15 rfl) (wl_1 5 rfl) (wl_5 16 rfl)) rfl ⟨rfl, rfl⟩ (by decide +kernel) ⟨Nat.le_of_ble_eq_true rfl, Nat.le_of_ble_eq_true rfl⟩ rfl rfl (Nat.le_of_ble_eq_true rfl) ?_
  refine z_if_ne (tgt := 41) B dX5_fill_35 (by decide) h (fun h => ?_) (fun h => ?_)
  · refine z_aload_n B 0 dX5_fill_41 rfl rfl ?_
    refine z_get5 (v := .ref (ad 4)) B 4 dX5_fill_42 inlX5 (by decide) rfl (by decide) (wl_4 5 rfl) rfl rfl ?_
    refine z_iconst B dX5_fill_45 ?_
    refine z_iload_n B 1 dX5_fill_46 rfl rfl ?_
    refine z_imul B dX5_fill_47 ?_
    refine z_iload_n B 2 dX5_fill_48 rfl rfl ?_
    refine z_iadd B dX5_fill_49 ?_
    obtain ⟨v4, q5, h⟩ := Option.bind_eq_some_iff.mp h
    refine z_iald (Or.inr rfl) B dX5_fill_50 q5 ?_
    refine z_istore B [(4, .int (hg_I v4)), (0, .ref (ad 0)), (1, .int (hg_I x1)), (2, .int (hg_I x2)), (3, .int (hg_I x3))] dX5_fill_51 (by decide) rfl ?_
    refine z_aload_n B 1 dX5_fill_53 rfl rfl ?_
    refine z_get5 (v := .ref (ad 4)) B 4 dX5_fill_54 inlX5 (by decide) rfl (by decide) (wl_4 5 rfl) rfl rfl ?_
    refine z_iconst B dX5_fill_57 ?_
    refine z_iload_n B 2 dX5_fill_58 rfl rfl ?_
    refine z_imul B dX5_fill_59 ?_
    refine z_iload_n B 3 dX5_fill_60 rfl rfl ?_
    refine z_iadd B dX5_fill_61 ?_
    refine z_iload_n B 4 dX5_fill_62 rfl rfl ?_
    obtain ⟨w6, q7, h⟩ := Option.bind_eq_some_iff.mp h
    refine z_iast (Or.inr rfl) B dX5_fill_63 q7 ?_
    refine z_iload B 0 dX5_fill_64 rfl ?_
    exact z_iret B hr dX5_fill_66 h
  · refine z_bipush B dX5_fill_38 (by decide) ?_
    exact z_iret B hr dX5_fill_40 h
set_option maxHeartbeats 4000000 in
set_option maxRecDepth 100000 in
theorem rX5_fill_E (B : hg_B p s m args meth c cX5_fill RX5 wsL_law 5 D cI cA ad 1 A) (hr : meth.sig.returnType = (some .int)) {a1 : Int} {a2 : Int} {a3 : Int} {w1 : hg_W} {r1 : Int} {w : hg_W} (h : fX5_fill w a1 a2 a3 = some (w1, r1)) : hg_At p l e (rmX5_fill) s m args below meth c D cI cA ad 1 A (MQ below (hg_Qi D cI cA ad 1 A w1 r1) args s 0 0 A) 5 w [(0, .ref (ad 0)), (1, .int (hg_I a1)), (2, .int (hg_I a2)), (3, .int (hg_I a3))] 0 [] := by
  unfold fX5_fill at h
  refine z_iload_n B 1 dX5_fill_0 rfl rfl ?_
  obtain ⟨w1, v2, q3, h⟩ := hg_bd_some h
  refine z_calliS (As := [.int (hg_I a1)]) (n := 1) B dX5_fill_1 (c_X5_isCoin q3) (gl_S (wl_9 0 rfl) (wl_9 1 rfl) (wl_1 5 rfl) (wl_9 2 rfl)) rfl ⟨rfl, rfl⟩ (by decide +kernel) ⟨Nat.le_of_ble_eq_true rfl, Nat.le_of_ble_eq_true rfl⟩ rfl rfl (Nat.le_of_ble_eq_true rfl) ?_
  refine z_if_ne (tgt := 10) B dX5_fill_4 (by decide) h (fun h => ?_) (fun h => ?_)
  · refine z_iload_n B 2 dX5_fill_10 rfl rfl ?_
    refine z_iconst B dX5_fill_11 ?_
    refine z_iconst B dX5_fill_12 ?_
    obtain ⟨w4, v5, q6, h⟩ := hg_bd_some h
    refine z_calliS (As := [.int (hg_I a2), .int (hg_I 0), .int (hg_I 1)]) (n := 3) B dX5_fill_13 (c_X5_in q6) (gl_S (wl_5 14 rfl) (wl_5 15 rfl) (wl_1 5 rfl) (wl_5 16 rfl)) rfl ⟨rfl, rfl⟩ (by decide +kernel) ⟨Nat.le_of_ble_eq_true rfl, Nat.le_of_ble_eq_true rfl⟩ rfl rfl (Nat.le_of_ble_eq_true rfl) ?_
    refine z_if_eq (tgt := 38) B dX5_fill_16 (by decide) h (fun h => ?_) (fun h => ?_)
    · refine z_bipush B dX5_fill_38 (by decide) ?_
      exact z_iret B hr dX5_fill_40 h
    · refine z_iload_n B 3 dX5_fill_19 rfl rfl ?_
      refine z_iconst B dX5_fill_20 ?_
      refine z_iload_n B 2 dX5_fill_21 rfl rfl ?_
      refine z_if_ne (tgt := 30) B dX5_fill_22 (by decide) h (fun h => ?_) (fun h => ?_)
      · refine z_bipush B dX5_fill_30 (by decide) ?_
        exact rX5_fill_32 B hr _ _ _ _ _ _ _ h
      · refine z_bipush B dX5_fill_25 (by decide) ?_
        refine z_goto (tgt := 32) B dX5_fill_27 (by decide) ?_
        exact rX5_fill_32 B hr _ _ _ _ _ _ _ h
  · refine z_bipush B dX5_fill_7 (by decide) ?_
    exact z_iret B hr dX5_fill_9 h
set_option maxHeartbeats 4000000 in
set_option maxRecDepth 100000 in
theorem c_X5_fill {l : Launch} {D : va_G} {cI cA : ClassId} {ad : Nat → Nat} {a1 : Int} {a2 : Int} {a3 : Int} {w w1 : hg_W} {r1 : Int} (h : fX5_fill w a1 a2 a3 = some (w1, r1)) : hg_Mi l yX5_fill wxX5_fill rmX5_fill D cI cA ad 1 w [.ref (ad 0), .int (hg_I a1), .int (hg_I a2), .int (hg_I a3)] w1 r1 := by
  refine z_meti cX5_fill 5 (some .int) (by decide) (Nat.le_of_ble_eq_true rfl) ?_
  intro p e s m args below meth c A B hr
  exact rX5_fill_E B hr h
abbrev wxX5_hat : List Cond := Cond.code yX5_hat cX5_hat 3 (some .int) :: wsL_law
def fX5_hat (w : hg_W) (a1 : Int) (a2 : Int) : Option (hg_W × Int) :=
  if wr a2 = wr 2 then
    (
      hg_bd (fX5_worthAll w) fun w9 v10 =>
      some (w9, wr v10)
    )
  else
    hg_bd (fX5_isCoin w a1) fun w1 v2 =>
    if wr v2 = 0 then
      (
        some (w1, wr (-5))
      )
    else
      hg_bd (fX5_in w1 a2 0 1) fun w4 v5 =>
      if wr v5 = 0 then
        (
          some (w4, wr (-7))
        )
      else
        (hg_ag 1 w4 4 ((2 * a1) + a2)).bind fun v7 =>
        some (w4, wr v7)
set_option maxHeartbeats 4000000 in
set_option maxRecDepth 100000 in
abbrev rmX5_hat : Room := { frames := 2, cells := 0, slots := 0, locals := 42 }
set_option maxHeartbeats 4000000 in
set_option maxRecDepth 100000 in
theorem rX5_hat_E (B : hg_B p s m args meth c cX5_hat RX5 wsL_law 3 D cI cA ad 1 A) (hr : meth.sig.returnType = (some .int)) {a1 : Int} {a2 : Int} {w1 : hg_W} {r1 : Int} {w : hg_W} (h : fX5_hat w a1 a2 = some (w1, r1)) : hg_At p l e (rmX5_hat) s m args below meth c D cI cA ad 1 A (MQ below (hg_Qi D cI cA ad 1 A w1 r1) args s 0 0 A) 3 w [(0, .ref (ad 0)), (1, .int (hg_I a1)), (2, .int (hg_I a2))] 0 [] := by
  unfold fX5_hat at h
  refine z_iload_n B 2 dX5_hat_0 rfl rfl ?_
  refine z_iconst B dX5_hat_1 ?_
  refine z_icmp_ne (tgt := 10) B dX5_hat_2 (by decide) h (fun h => ?_) (fun h => ?_)
  · refine z_iload_n B 1 dX5_hat_10 rfl rfl ?_
    obtain ⟨w1, v2, q3, h⟩ := hg_bd_some h
    refine z_calliS (As := [.int (hg_I a1)]) (n := 1) B dX5_hat_11 (c_X5_isCoin q3) (gl_S (wl_9 0 rfl) (wl_9 1 rfl) (wl_1 5 rfl) (wl_9 2 rfl)) rfl ⟨rfl, rfl⟩ (by decide +kernel) ⟨Nat.le_of_ble_eq_true rfl, Nat.le_of_ble_eq_true rfl⟩ rfl rfl (Nat.le_of_ble_eq_true rfl) ?_
    refine z_if_ne (tgt := 20) B dX5_hat_14 (by decide) h (fun h => ?_) (fun h => ?_)
    · refine z_iload_n B 2 dX5_hat_20 rfl rfl ?_
      refine z_iconst B dX5_hat_21 ?_
      refine z_iconst B dX5_hat_22 ?_
      obtain ⟨w4, v5, q6, h⟩ := hg_bd_some h
      refine z_calliS (As := [.int (hg_I a2), .int (hg_I 0), .int (hg_I 1)]) (n := 3) B dX5_hat_23 (c_X5_in q6) (gl_S (wl_5 14 rfl) (wl_5 15 rfl) (wl_1 5 rfl) (wl_5 16 rfl)) rfl ⟨rfl, rfl⟩ (by decide +kernel) ⟨Nat.le_of_ble_eq_true rfl, Nat.le_of_ble_eq_true rfl⟩ rfl rfl (Nat.le_of_ble_eq_true rfl) ?_
      refine z_if_eq (tgt := 42) B dX5_hat_26 (by decide) h (fun h => ?_) (fun h => ?_)
      · refine z_bipush B dX5_hat_42 (by decide) ?_
        exact z_iret B hr dX5_hat_44 h
      · refine z_aload_n B 0 dX5_hat_29 rfl rfl ?_
        refine z_get5 (v := .ref (ad 4)) B 4 dX5_hat_30 inlX5 (by decide) rfl (by decide) (wl_4 5 rfl) rfl rfl ?_
        refine z_iconst B dX5_hat_33 ?_
        refine z_iload_n B 1 dX5_hat_34 rfl rfl ?_
        refine z_imul B dX5_hat_35 ?_
        refine z_iload_n B 2 dX5_hat_36 rfl rfl ?_
        refine z_iadd B dX5_hat_37 ?_
        obtain ⟨v7, q8, h⟩ := Option.bind_eq_some_iff.mp h
        refine z_iald (Or.inr rfl) B dX5_hat_38 q8 ?_
        refine z_goto (tgt := 44) B dX5_hat_39 (by decide) ?_
        exact z_iret B hr dX5_hat_44 h
    · refine z_bipush B dX5_hat_17 (by decide) ?_
      exact z_iret B hr dX5_hat_19 h
  · refine z_aload_n B 0 dX5_hat_5 rfl rfl ?_
    obtain ⟨w9, v10, q11, h⟩ := hg_bd_some h
    refine z_calliV (a := 0) (ci := 5) (N := 37) (T := TX5) (C := RX5) (As := []) (n := 0) B dX5_hat_6 (c_X5_worthAll q11) (gl_V (wl_9 15 rfl) (wl_9 16 rfl) (wl_9 17 rfl) (wl_1 5 rfl) (wl_9 18 rfl)) rfl ⟨rfl, rfl⟩ (by decide +kernel) ⟨Nat.le_of_ble_eq_true rfl, Nat.le_of_ble_eq_true rfl⟩ (by decide) rfl (by decide) rfl rfl rfl (Nat.le_of_ble_eq_true rfl) ?_
    exact z_iret B hr dX5_hat_9 h
set_option maxHeartbeats 4000000 in
set_option maxRecDepth 100000 in
theorem c_X5_hat {l : Launch} {D : va_G} {cI cA : ClassId} {ad : Nat → Nat} {a1 : Int} {a2 : Int} {w w1 : hg_W} {r1 : Int} (h : fX5_hat w a1 a2 = some (w1, r1)) : hg_Mi l yX5_hat wxX5_hat rmX5_hat D cI cA ad 1 w [.ref (ad 0), .int (hg_I a1), .int (hg_I a2)] w1 r1 := by
  refine z_meti cX5_hat 3 (some .int) (by decide) (Nat.le_of_ble_eq_true rfl) ?_
  intro p e s m args below meth c A B hr
  exact rX5_hat_E B hr h
abbrev wxX5_isByte : List Cond := Cond.code yX5_isByte cX5_isByte 1 (some .boolean) :: wsL_law
def fX5_isByte (w : hg_W) (a1 : Int) : Option (hg_W × Int) :=
  hg_bd (fX5_in w a1 0 255) fun w1 v2 =>
  if wr v2 = 0 ∨ wr v2 = 1 then some (w1, wr v2) else none
set_option maxHeartbeats 4000000 in
set_option maxRecDepth 100000 in
abbrev rmX5_isByte : Room := { frames := 1, cells := 0, slots := 0, locals := 22 }
set_option maxHeartbeats 4000000 in
set_option maxRecDepth 100000 in
theorem rX5_isByte_E (B : hg_B p s m args meth c cX5_isByte RX5 wsL_law 1 D cI cA ad 1 A) (hr : meth.sig.returnType = (some .boolean)) {a1 : Int} {w1 : hg_W} {r1 : Int} {w : hg_W} (h : fX5_isByte w a1 = some (w1, r1)) : hg_At p l e (rmX5_isByte) s m args below meth c D cI cA ad 1 A (MQ below (hg_Qi D cI cA ad 1 A w1 r1) args s 0 0 A) 1 w [(0, .int (hg_I a1))] 0 [] := by
  unfold fX5_isByte at h
  refine z_iload_n B 0 dX5_isByte_0 rfl rfl ?_
  refine z_iconst B dX5_isByte_1 ?_
  refine z_sipush B dX5_isByte_2 (by decide) ?_
  obtain ⟨w1, v2, q3, h⟩ := hg_bd_some h
  refine z_calliS (As := [.int (hg_I a1), .int (hg_I 0), .int (hg_I 255)]) (n := 3) B dX5_isByte_5 (c_X5_in q3) (gl_S (wl_5 14 rfl) (wl_5 15 rfl) (wl_1 5 rfl) (wl_5 16 rfl)) rfl ⟨rfl, rfl⟩ (by decide +kernel) ⟨Nat.le_of_ble_eq_true rfl, Nat.le_of_ble_eq_true rfl⟩ rfl rfl (Nat.le_of_ble_eq_true rfl) ?_
  exact z_bret B hr dX5_isByte_8 h
set_option maxHeartbeats 4000000 in
set_option maxRecDepth 100000 in
theorem c_X5_isByte {l : Launch} {D : va_G} {cI cA : ClassId} {ad : Nat → Nat} {a1 : Int} {w w1 : hg_W} {r1 : Int} (h : fX5_isByte w a1 = some (w1, r1)) : hg_Mi l yX5_isByte wxX5_isByte rmX5_isByte D cI cA ad 1 w [.int (hg_I a1)] w1 r1 := by
  refine z_meti cX5_isByte 1 (some .boolean) (by decide) (Nat.le_of_ble_eq_true rfl) ?_
  intro p e s m args below meth c A B hr
  exact rX5_isByte_E B hr h
abbrev wxX5_feed : List Cond := Cond.code yX5_feed cX5_feed 8 (some .int) :: wsL_law
def fX5_feed_125 (K68 : hg_W → Int → Int → Int → Int → Int → Int → Int → Option (hg_W × Int))  (w : hg_W) (x1 : Int) (x2 : Int) (x3 : Int) (x4 : Int) (x5 : Int) (x6 : Int) (x7 : Int) (s1 : Int) (s2 : Int) : Option (hg_W × Int) :=
  (hg_as 1 w 5 s1 s2).bind fun w1 =>
  (hg_pt w1 0 8 ((w1 0 8) + 1)).bind fun w3 =>
  K68 w3 x1 x2 x3 x4 x5 x6 (x7 + 1)
def fX5_feed_68   : Nat → hg_W → Int → Int → Int → Int → Int → Int → Int → Option (hg_W × Int)
  | 0, _, _, _, _, _, _, _, _ => none
  | n + 1, w, x1, x2, x3, x4, x5, x6, x7 =>
    if wr x1 ≤ wr x7 then
      (
        some (w, wr (w 0 8))
      )
    else
      if wr x7 = 0 then
        (
          fX5_feed_125 (fX5_feed_68 n) w x1 x2 x3 x4 x5 x6 x7 (w 0 8) x2
        )
      else
        if wr x7 = wr 1 then
          (
            fX5_feed_125 (fX5_feed_68 n) w x1 x2 x3 x4 x5 x6 x7 (w 0 8) x3
          )
        else
          if wr x7 = wr 2 then
            (
              fX5_feed_125 (fX5_feed_68 n) w x1 x2 x3 x4 x5 x6 x7 (w 0 8) x4
            )
          else
            if wr x7 = wr 3 then
              (
                fX5_feed_125 (fX5_feed_68 n) w x1 x2 x3 x4 x5 x6 x7 (w 0 8) x5
              )
            else
              fX5_feed_125 (fX5_feed_68 n) w x1 x2 x3 x4 x5 x6 x7 (w 0 8) x6
def fX5_feed (w : hg_W) (a1 : Int) (a2 : Int) (a3 : Int) (a4 : Int) (a5 : Int) (a6 : Int) : Option (hg_W × Int) :=
  hg_bd (fX5_in w a1 1 5) fun w1 v2 =>
  if wr v2 = 0 then
    (
      some (w1, wr (-2))
    )
  else
    hg_bd (fX5_isByte w1 a2) fun w4 v5 =>
    if wr v5 = 0 then
      (
        some (w4, wr (-2))
      )
    else
      hg_bd (fX5_isByte w4 a3) fun w7 v8 =>
      if wr v8 = 0 then
        (
          some (w7, wr (-2))
        )
      else
        hg_bd (fX5_isByte w7 a4) fun w10 v11 =>
        if wr v11 = 0 then
          (
            some (w10, wr (-2))
          )
        else
          hg_bd (fX5_isByte w10 a5) fun w13 v14 =>
          if wr v14 = 0 then
            (
              some (w13, wr (-2))
            )
          else
            hg_bd (fX5_isByte w13 a6) fun w16 v17 =>
            if wr v17 = 0 then
              (
                some (w16, wr (-2))
              )
            else
              if wr ((w16 0 8) + a1) ≤ wr 160 then
                (
                  fX5_feed_68 hg_F w16 a1 a2 a3 a4 a5 a6 0
                )
              else
                some (w16, wr (-4))
set_option maxHeartbeats 4000000 in
set_option maxRecDepth 100000 in
abbrev rmX5_feed : Room := { frames := 2, cells := 0, slots := 0, locals := 42 }
set_option maxHeartbeats 4000000 in
set_option maxRecDepth 100000 in
theorem rX5_feed_125 (B : hg_B p s m args meth c cX5_feed RX5 wsL_law 8 D cI cA ad 1 A) (hr : meth.sig.returnType = (some .int)) {w1 : hg_W} {r1 : Int} {K68 : hg_W → Int → Int → Int → Int → Int → Int → Int → Option (hg_W × Int)} (hK68 : ∀ (w : hg_W) (x1 : Int) (x2 : Int) (x3 : Int) (x4 : Int) (x5 : Int) (x6 : Int) (x7 : Int), K68 w x1 x2 x3 x4 x5 x6 x7 = some (w1, r1) → hg_At p l e (rmX5_feed) s m args below meth c D cI cA ad 1 A (MQ below (hg_Qi D cI cA ad 1 A w1 r1) args s 0 0 A) 8 w [(0, .ref (ad 0)), (1, .int (hg_I x1)), (2, .int (hg_I x2)), (3, .int (hg_I x3)), (4, .int (hg_I x4)), (5, .int (hg_I x5)), (6, .int (hg_I x6)), (7, .int (hg_I x7))] 68 []) : ∀ (w : hg_W) (x1 : Int) (x2 : Int) (x3 : Int) (x4 : Int) (x5 : Int) (x6 : Int) (x7 : Int) (s1 : Int) (s2 : Int), fX5_feed_125 K68 w x1 x2 x3 x4 x5 x6 x7 s1 s2 = some (w1, r1) → hg_At p l e (rmX5_feed) s m args below meth c D cI cA ad 1 A (MQ below (hg_Qi D cI cA ad 1 A w1 r1) args s 0 0 A) 8 w [(0, .ref (ad 0)), (1, .int (hg_I x1)), (2, .int (hg_I x2)), (3, .int (hg_I x3)), (4, .int (hg_I x4)), (5, .int (hg_I x5)), (6, .int (hg_I x6)), (7, .int (hg_I x7))] 125 [.int (hg_I s2), .int (hg_I s1), .ref (ad 5)] := by
  intro w x1 x2 x3 x4 x5 x6 x7 s1 s2 h
  unfold fX5_feed_125 at h
  obtain ⟨w1, q2, h⟩ := Option.bind_eq_some_iff.mp h
  refine z_iast (Or.inr rfl) B dX5_feed_125 q2 ?_
  refine z_aload_n B 0 dX5_feed_126 rfl rfl ?_
  refine z_dup B dX5_feed_127 rfl ?_
  refine z_get5 (v := .int (hg_I (w1 0 8))) B 8 dX5_feed_128 inlX5 (by decide) rfl (by decide) (wl_4 23 rfl) rfl rfl ?_
  refine z_iconst B dX5_feed_131 ?_
  refine z_iadd B dX5_feed_132 ?_
  obtain ⟨w3, q4, h⟩ := Option.bind_eq_some_iff.mp h
  refine z_put5 B 8 dX5_feed_133 inlX5 (by decide) rfl (by decide) (wl_4 23 rfl) rfl rfl .int (by decide +kernel) rfl rfl hg_fs5_8 q4 ?_
  refine z_iinc B 7 [(7, .int (hg_I (x7 + 1))), (0, .ref (ad 0)), (1, .int (hg_I x1)), (2, .int (hg_I x2)), (3, .int (hg_I x3)), (4, .int (hg_I x4)), (5, .int (hg_I x5)), (6, .int (hg_I x6))] dX5_feed_136 rfl (by decide) rfl ?_
  refine z_goto (tgt := 68) B dX5_feed_139 (by decide) ?_
  refine z_lv (lv' := [(0, .ref (ad 0)), (1, .int (hg_I x1)), (2, .int (hg_I x2)), (3, .int (hg_I x3)), (4, .int (hg_I x4)), (5, .int (hg_I x5)), (6, .int (hg_I x6)), (7, .int (hg_I (x7 + 1)))]) B [1, 2, 3, 4, 5, 6, 7, 0] rfl ?_
  exact hK68 _ _ _ _ _ _ _ _ h
set_option maxHeartbeats 4000000 in
set_option maxRecDepth 100000 in
theorem rX5_feed_68 (B : hg_B p s m args meth c cX5_feed RX5 wsL_law 8 D cI cA ad 1 A) (hr : meth.sig.returnType = (some .int)) {w1 : hg_W} {r1 : Int} : ∀ (n : Nat), ∀ (w : hg_W) (x1 : Int) (x2 : Int) (x3 : Int) (x4 : Int) (x5 : Int) (x6 : Int) (x7 : Int), fX5_feed_68 n w x1 x2 x3 x4 x5 x6 x7 = some (w1, r1) → hg_At p l e (rmX5_feed) s m args below meth c D cI cA ad 1 A (MQ below (hg_Qi D cI cA ad 1 A w1 r1) args s 0 0 A) 8 w [(0, .ref (ad 0)), (1, .int (hg_I x1)), (2, .int (hg_I x2)), (3, .int (hg_I x3)), (4, .int (hg_I x4)), (5, .int (hg_I x5)), (6, .int (hg_I x6)), (7, .int (hg_I x7))] 68 [] := by
  intro n
  induction n with
  | zero =>
    intro w x1 x2 x3 x4 x5 x6 x7 h
    cases h
  | succ n ih =>
    intro w x1 x2 x3 x4 x5 x6 x7 h
    simp only [fX5_feed_68] at h
    refine z_iload B 7 dX5_feed_68 rfl ?_
    refine z_iload_n B 1 dX5_feed_70 rfl rfl ?_
    refine z_icmp_ge (tgt := 142) B dX5_feed_71 (by decide) h (fun h => ?_) (fun h => ?_)
    · refine z_aload_n B 0 dX5_feed_142 rfl rfl ?_
      refine z_get5 (v := .int (hg_I (w 0 8))) B 8 dX5_feed_143 inlX5 (by decide) rfl (by decide) (wl_4 23 rfl) rfl rfl ?_
      exact z_iret B hr dX5_feed_146 h
    · refine z_aload_n B 0 dX5_feed_74 rfl rfl ?_
      refine z_get5 (v := .ref (ad 5)) B 7 dX5_feed_75 inlX5 (by decide) rfl (by decide) (wl_4 6 rfl) rfl rfl ?_
      refine z_aload_n B 0 dX5_feed_78 rfl rfl ?_
      refine z_get5 (v := .int (hg_I (w 0 8))) B 8 dX5_feed_79 inlX5 (by decide) rfl (by decide) (wl_4 23 rfl) rfl rfl ?_
      refine z_iload B 7 dX5_feed_82 rfl ?_
      refine z_if_ne (tgt := 91) B dX5_feed_84 (by decide) h (fun h => ?_) (fun h => ?_)
      · refine z_iload B 7 dX5_feed_91 rfl ?_
        refine z_iconst B dX5_feed_93 ?_
        refine z_icmp_ne (tgt := 101) B dX5_feed_94 (by decide) h (fun h => ?_) (fun h => ?_)
        · refine z_iload B 7 dX5_feed_101 rfl ?_
          refine z_iconst B dX5_feed_103 ?_
          refine z_icmp_ne (tgt := 112) B dX5_feed_104 (by decide) h (fun h => ?_) (fun h => ?_)
          · refine z_iload B 7 dX5_feed_112 rfl ?_
            refine z_iconst B dX5_feed_114 ?_
            refine z_icmp_ne (tgt := 123) B dX5_feed_115 (by decide) h (fun h => ?_) (fun h => ?_)
            · refine z_iload B 6 dX5_feed_123 rfl ?_
              exact rX5_feed_125 B hr ih _ _ _ _ _ _ _ _ _ _ h
            · refine z_iload B 5 dX5_feed_118 rfl ?_
              refine z_goto (tgt := 125) B dX5_feed_120 (by decide) ?_
              exact rX5_feed_125 B hr ih _ _ _ _ _ _ _ _ _ _ h
          · refine z_iload B 4 dX5_feed_107 rfl ?_
            refine z_goto (tgt := 125) B dX5_feed_109 (by decide) ?_
            exact rX5_feed_125 B hr ih _ _ _ _ _ _ _ _ _ _ h
        · refine z_iload_n B 3 dX5_feed_97 rfl rfl ?_
          refine z_goto (tgt := 125) B dX5_feed_98 (by decide) ?_
          exact rX5_feed_125 B hr ih _ _ _ _ _ _ _ _ _ _ h
      · refine z_iload_n B 2 dX5_feed_87 rfl rfl ?_
        refine z_goto (tgt := 125) B dX5_feed_88 (by decide) ?_
        exact rX5_feed_125 B hr ih _ _ _ _ _ _ _ _ _ _ h
set_option maxHeartbeats 4000000 in
set_option maxRecDepth 100000 in
theorem rX5_feed_E (B : hg_B p s m args meth c cX5_feed RX5 wsL_law 8 D cI cA ad 1 A) (hr : meth.sig.returnType = (some .int)) {a1 : Int} {a2 : Int} {a3 : Int} {a4 : Int} {a5 : Int} {a6 : Int} {w1 : hg_W} {r1 : Int} {w : hg_W} (h : fX5_feed w a1 a2 a3 a4 a5 a6 = some (w1, r1)) : hg_At p l e (rmX5_feed) s m args below meth c D cI cA ad 1 A (MQ below (hg_Qi D cI cA ad 1 A w1 r1) args s 0 0 A) 8 w [(0, .ref (ad 0)), (1, .int (hg_I a1)), (2, .int (hg_I a2)), (3, .int (hg_I a3)), (4, .int (hg_I a4)), (5, .int (hg_I a5)), (6, .int (hg_I a6))] 0 [] := by
  unfold fX5_feed at h
  refine z_iload_n B 1 dX5_feed_0 rfl rfl ?_
  refine z_iconst B dX5_feed_1 ?_
  refine z_iconst B dX5_feed_2 ?_
  obtain ⟨w1, v2, q3, h⟩ := hg_bd_some h
  refine z_calliS (As := [.int (hg_I a1), .int (hg_I 1), .int (hg_I 5)]) (n := 3) B dX5_feed_3 (c_X5_in q3) (gl_S (wl_5 14 rfl) (wl_5 15 rfl) (wl_1 5 rfl) (wl_5 16 rfl)) rfl ⟨rfl, rfl⟩ (by decide +kernel) ⟨Nat.le_of_ble_eq_true rfl, Nat.le_of_ble_eq_true rfl⟩ rfl rfl (Nat.le_of_ble_eq_true rfl) ?_
  refine z_if_eq (tgt := 47) B dX5_feed_6 (by decide) h (fun h => ?_) (fun h => ?_)
  · refine z_bipush B dX5_feed_47 (by decide) ?_
    exact z_iret B hr dX5_feed_49 h
  · refine z_iload_n B 2 dX5_feed_9 rfl rfl ?_
    obtain ⟨w4, v5, q6, h⟩ := hg_bd_some h
    refine z_calliS (As := [.int (hg_I a2)]) (n := 1) B dX5_feed_10 (c_X5_isByte q6) (gl_S (wl_10 11 rfl) (wl_10 12 rfl) (wl_1 5 rfl) (wl_10 13 rfl)) rfl ⟨rfl, rfl⟩ (by decide +kernel) ⟨Nat.le_of_ble_eq_true rfl, Nat.le_of_ble_eq_true rfl⟩ rfl rfl (Nat.le_of_ble_eq_true rfl) ?_
    refine z_if_eq (tgt := 47) B dX5_feed_13 (by decide) h (fun h => ?_) (fun h => ?_)
    · refine z_bipush B dX5_feed_47 (by decide) ?_
      exact z_iret B hr dX5_feed_49 h
    · refine z_iload_n B 3 dX5_feed_16 rfl rfl ?_
      obtain ⟨w7, v8, q9, h⟩ := hg_bd_some h
      refine z_calliS (As := [.int (hg_I a3)]) (n := 1) B dX5_feed_17 (c_X5_isByte q9) (gl_S (wl_10 11 rfl) (wl_10 12 rfl) (wl_1 5 rfl) (wl_10 13 rfl)) rfl ⟨rfl, rfl⟩ (by decide +kernel) ⟨Nat.le_of_ble_eq_true rfl, Nat.le_of_ble_eq_true rfl⟩ rfl rfl (Nat.le_of_ble_eq_true rfl) ?_
      refine z_if_eq (tgt := 47) B dX5_feed_20 (by decide) h (fun h => ?_) (fun h => ?_)
      · refine z_bipush B dX5_feed_47 (by decide) ?_
        exact z_iret B hr dX5_feed_49 h
      · refine z_iload B 4 dX5_feed_23 rfl ?_
        obtain ⟨w10, v11, q12, h⟩ := hg_bd_some h
        refine z_calliS (As := [.int (hg_I a4)]) (n := 1) B dX5_feed_25 (c_X5_isByte q12) (gl_S (wl_10 11 rfl) (wl_10 12 rfl) (wl_1 5 rfl) (wl_10 13 rfl)) rfl ⟨rfl, rfl⟩ (by decide +kernel) ⟨Nat.le_of_ble_eq_true rfl, Nat.le_of_ble_eq_true rfl⟩ rfl rfl (Nat.le_of_ble_eq_true rfl) ?_
        refine z_if_eq (tgt := 47) B dX5_feed_28 (by decide) h (fun h => ?_) (fun h => ?_)
        · refine z_bipush B dX5_feed_47 (by decide) ?_
          exact z_iret B hr dX5_feed_49 h
        · refine z_iload B 5 dX5_feed_31 rfl ?_
          obtain ⟨w13, v14, q15, h⟩ := hg_bd_some h
          refine z_calliS (As := [.int (hg_I a5)]) (n := 1) B dX5_feed_33 (c_X5_isByte q15) (gl_S (wl_10 11 rfl) (wl_10 12 rfl) (wl_1 5 rfl) (wl_10 13 rfl)) rfl ⟨rfl, rfl⟩ (by decide +kernel) ⟨Nat.le_of_ble_eq_true rfl, Nat.le_of_ble_eq_true rfl⟩ rfl rfl (Nat.le_of_ble_eq_true rfl) ?_
          refine z_if_eq (tgt := 47) B dX5_feed_36 (by decide) h (fun h => ?_) (fun h => ?_)
          · refine z_bipush B dX5_feed_47 (by decide) ?_
            exact z_iret B hr dX5_feed_49 h
          · refine z_iload B 6 dX5_feed_39 rfl ?_
            obtain ⟨w16, v17, q18, h⟩ := hg_bd_some h
            refine z_calliS (As := [.int (hg_I a6)]) (n := 1) B dX5_feed_41 (c_X5_isByte q18) (gl_S (wl_10 11 rfl) (wl_10 12 rfl) (wl_1 5 rfl) (wl_10 13 rfl)) rfl ⟨rfl, rfl⟩ (by decide +kernel) ⟨Nat.le_of_ble_eq_true rfl, Nat.le_of_ble_eq_true rfl⟩ rfl rfl (Nat.le_of_ble_eq_true rfl) ?_
            refine z_if_ne (tgt := 50) B dX5_feed_44 (by decide) h (fun h => ?_) (fun h => ?_)
            · refine z_aload_n B 0 dX5_feed_50 rfl rfl ?_
              refine z_get5 (v := .int (hg_I (w16 0 8))) B 8 dX5_feed_51 inlX5 (by decide) rfl (by decide) (wl_4 23 rfl) rfl rfl ?_
              refine z_iload_n B 1 dX5_feed_54 rfl rfl ?_
              refine z_iadd B dX5_feed_55 ?_
              refine z_sipush B dX5_feed_56 (by decide) ?_
              refine z_icmp_le (tgt := 65) B dX5_feed_59 (by decide) h (fun h => ?_) (fun h => ?_)
              · refine z_iconst B dX5_feed_65 ?_
                refine z_istore B [(7, .int (hg_I 0)), (0, .ref (ad 0)), (1, .int (hg_I a1)), (2, .int (hg_I a2)), (3, .int (hg_I a3)), (4, .int (hg_I a4)), (5, .int (hg_I a5)), (6, .int (hg_I a6))] dX5_feed_66 (by decide) rfl ?_
                refine z_lv (lv' := [(0, .ref (ad 0)), (1, .int (hg_I a1)), (2, .int (hg_I a2)), (3, .int (hg_I a3)), (4, .int (hg_I a4)), (5, .int (hg_I a5)), (6, .int (hg_I a6)), (7, .int (hg_I 0))]) B [1, 2, 3, 4, 5, 6, 7, 0] rfl ?_
                exact rX5_feed_68 B hr hg_F _ _ _ _ _ _ _ _ h
              · refine z_bipush B dX5_feed_62 (by decide) ?_
                exact z_iret B hr dX5_feed_64 h
            · refine z_bipush B dX5_feed_47 (by decide) ?_
              exact z_iret B hr dX5_feed_49 h
set_option maxHeartbeats 4000000 in
set_option maxRecDepth 100000 in
theorem c_X5_feed {l : Launch} {D : va_G} {cI cA : ClassId} {ad : Nat → Nat} {a1 : Int} {a2 : Int} {a3 : Int} {a4 : Int} {a5 : Int} {a6 : Int} {w w1 : hg_W} {r1 : Int} (h : fX5_feed w a1 a2 a3 a4 a5 a6 = some (w1, r1)) : hg_Mi l yX5_feed wxX5_feed rmX5_feed D cI cA ad 1 w [.ref (ad 0), .int (hg_I a1), .int (hg_I a2), .int (hg_I a3), .int (hg_I a4), .int (hg_I a5), .int (hg_I a6)] w1 r1 := by
  refine z_meti cX5_feed 8 (some .int) (by decide) (Nat.le_of_ble_eq_true rfl) ?_
  intro p e s m args below meth c A B hr
  exact rX5_feed_E B hr h
abbrev wxX5_two : List Cond := Cond.code yX5_two cX5_two 3 (some .int) :: wsL_law
def fX5_two_52   (w : hg_W) : Option (hg_W × Int) :=
  some (w, wr 1)
def fX5_two (w : hg_W) (a1 : Int) (a2 : Int) (a3 : Int) : Option (hg_W × Int) :=
  if wr a1 = 11 then
    (
      if wr a2 = 0 then
        (
          if wr a3 = 0 then
            (
              some (w, wr 0)
            )
          else
            fX5_two_52 w
        )
      else
        fX5_two_52 w
    )
  else
  if wr a1 = 12 then
    (
      if wr a2 = 0 then
        (
          some (w, wr 0)
        )
      else
        if wr a3 = 0 then
          (
            some (w, wr 0)
          )
        else
          some (w, wr 1)
    )
  else
  if wr a1 = 13 then
    (
      some (w, wr (a2 * a3))
    )
  else
  if wr a1 = 14 then
    (
      if wr a3 ≤ wr a2 then
        (
          some (w, wr 0)
        )
      else
        some (w, wr 1)
    )
  else
  if wr a1 = 15 then
    (
      if wr a2 = wr a3 then
        (
          some (w, wr 1)
        )
      else
        some (w, wr 0)
    )
  else
  if wr a1 = 16 then
    (
      some (w, wr (a2 + a3))
    )
  else
  if wr a1 = 17 then
    (
      some (w, wr (a2 - a3))
    )
  else
  some (w, wr (a2 * a3))
set_option maxHeartbeats 4000000 in
set_option maxRecDepth 100000 in
abbrev rmX5_two : Room := { frames := 0, cells := 0, slots := 0, locals := 0 }
set_option maxHeartbeats 4000000 in
set_option maxRecDepth 100000 in
theorem rX5_two_52 (B : hg_B p s m args meth c cX5_two RX5 wsL_law 3 D cI cA ad 1 A) (hr : meth.sig.returnType = (some .int)) {w1 : hg_W} {r1 : Int} : ∀ (w : hg_W), fX5_two_52 w = some (w1, r1) → hg_At p l e (rmX5_two) s m args below meth c D cI cA ad 1 A (MQ below (hg_Qi D cI cA ad 1 A w1 r1) args s 0 0 A) 3 w [] 52 [] := by
  intro w h
  unfold fX5_two_52 at h
  refine z_iconst B dX5_two_52 ?_
  refine z_goto (tgt := 57) B dX5_two_53 (by decide) ?_
  exact z_iret B hr dX5_two_57 h
set_option maxHeartbeats 4000000 in
set_option maxRecDepth 100000 in
theorem rX5_two_E (B : hg_B p s m args meth c cX5_two RX5 wsL_law 3 D cI cA ad 1 A) (hr : meth.sig.returnType = (some .int)) {a1 : Int} {a2 : Int} {a3 : Int} {w1 : hg_W} {r1 : Int} {w : hg_W} (h : fX5_two w a1 a2 a3 = some (w1, r1)) : hg_At p l e (rmX5_two) s m args below meth c D cI cA ad 1 A (MQ below (hg_Qi D cI cA ad 1 A w1 r1) args s 0 0 A) 3 w [(0, .int (hg_I a1)), (1, .int (hg_I a2)), (2, .int (hg_I a3))] 0 [] := by
  unfold fX5_two at h
  refine z_iload_n B 0 dX5_two_0 rfl rfl ?_
  by_cases z1 : wr a1 = 11
  · rw [if_pos z1] at h
    refine z_tabIn (off := 43) (tgt := 44) B dX5_two_1 z1 (by decide) rfl (by decide) ?_
    refine z_iload_n B 1 dX5_two_44 rfl rfl ?_
    refine z_if_ne (tgt := 52) B dX5_two_45 (by decide) h (fun h => ?_) (fun h => ?_)
    · refine z_lv (lv' := []) B [] rfl ?_
      exact rX5_two_52 B hr _ h
    · refine z_iload_n B 2 dX5_two_48 rfl rfl ?_
      refine z_if_eq (tgt := 56) B dX5_two_49 (by decide) h (fun h => ?_) (fun h => ?_)
      · refine z_iconst B dX5_two_56 ?_
        exact z_iret B hr dX5_two_57 h
      · refine z_lv (lv' := []) B [] rfl ?_
        exact rX5_two_52 B hr _ h
  rw [if_neg z1] at h
  by_cases z2 : wr a1 = 12
  · rw [if_pos z2] at h
    refine z_tabIn (off := 57) (tgt := 58) B dX5_two_1 z2 (by decide) rfl (by decide) ?_
    refine z_iload_n B 1 dX5_two_58 rfl rfl ?_
    refine z_if_eq (tgt := 70) B dX5_two_59 (by decide) h (fun h => ?_) (fun h => ?_)
    · refine z_iconst B dX5_two_70 ?_
      exact z_iret B hr dX5_two_71 h
    · refine z_iload_n B 2 dX5_two_62 rfl rfl ?_
      refine z_if_eq (tgt := 70) B dX5_two_63 (by decide) h (fun h => ?_) (fun h => ?_)
      · refine z_iconst B dX5_two_70 ?_
        exact z_iret B hr dX5_two_71 h
      · refine z_iconst B dX5_two_66 ?_
        refine z_goto (tgt := 71) B dX5_two_67 (by decide) ?_
        exact z_iret B hr dX5_two_71 h
  rw [if_neg z2] at h
  by_cases z3 : wr a1 = 13
  · rw [if_pos z3] at h
    refine z_tabIn (off := 101) (tgt := 102) B dX5_two_1 z3 (by decide) rfl (by decide) ?_
    refine z_iload_n B 1 dX5_two_102 rfl rfl ?_
    refine z_iload_n B 2 dX5_two_103 rfl rfl ?_
    refine z_imul B dX5_two_104 ?_
    exact z_iret B hr dX5_two_105 h
  rw [if_neg z3] at h
  by_cases z4 : wr a1 = 14
  · rw [if_pos z4] at h
    refine z_tabIn (off := 71) (tgt := 72) B dX5_two_1 z4 (by decide) rfl (by decide) ?_
    refine z_iload_n B 1 dX5_two_72 rfl rfl ?_
    refine z_iload_n B 2 dX5_two_73 rfl rfl ?_
    refine z_icmp_ge (tgt := 81) B dX5_two_74 (by decide) h (fun h => ?_) (fun h => ?_)
    · refine z_iconst B dX5_two_81 ?_
      exact z_iret B hr dX5_two_82 h
    · refine z_iconst B dX5_two_77 ?_
      refine z_goto (tgt := 82) B dX5_two_78 (by decide) ?_
      exact z_iret B hr dX5_two_82 h
  rw [if_neg z4] at h
  by_cases z5 : wr a1 = 15
  · rw [if_pos z5] at h
    refine z_tabIn (off := 82) (tgt := 83) B dX5_two_1 z5 (by decide) rfl (by decide) ?_
    refine z_iload_n B 1 dX5_two_83 rfl rfl ?_
    refine z_iload_n B 2 dX5_two_84 rfl rfl ?_
    refine z_icmp_ne (tgt := 92) B dX5_two_85 (by decide) h (fun h => ?_) (fun h => ?_)
    · refine z_iconst B dX5_two_92 ?_
      exact z_iret B hr dX5_two_93 h
    · refine z_iconst B dX5_two_88 ?_
      refine z_goto (tgt := 93) B dX5_two_89 (by decide) ?_
      exact z_iret B hr dX5_two_93 h
  rw [if_neg z5] at h
  by_cases z6 : wr a1 = 16
  · rw [if_pos z6] at h
    refine z_tabIn (off := 93) (tgt := 94) B dX5_two_1 z6 (by decide) rfl (by decide) ?_
    refine z_iload_n B 1 dX5_two_94 rfl rfl ?_
    refine z_iload_n B 2 dX5_two_95 rfl rfl ?_
    refine z_iadd B dX5_two_96 ?_
    exact z_iret B hr dX5_two_97 h
  rw [if_neg z6] at h
  by_cases z7 : wr a1 = 17
  · rw [if_pos z7] at h
    refine z_tabIn (off := 97) (tgt := 98) B dX5_two_1 z7 (by decide) rfl (by decide) ?_
    refine z_iload_n B 1 dX5_two_98 rfl rfl ?_
    refine z_iload_n B 2 dX5_two_99 rfl rfl ?_
    refine z_isub B dX5_two_100 ?_
    exact z_iret B hr dX5_two_101 h
  rw [if_neg z7] at h
  refine z_tabOut (tgt := 102) B dX5_two_1 (by omega) (by decide) ?_
  refine z_iload_n B 1 dX5_two_102 rfl rfl ?_
  refine z_iload_n B 2 dX5_two_103 rfl rfl ?_
  refine z_imul B dX5_two_104 ?_
  exact z_iret B hr dX5_two_105 h
set_option maxHeartbeats 4000000 in
set_option maxRecDepth 100000 in
theorem c_X5_two {l : Launch} {D : va_G} {cI cA : ClassId} {ad : Nat → Nat} {a1 : Int} {a2 : Int} {a3 : Int} {w w1 : hg_W} {r1 : Int} (h : fX5_two w a1 a2 a3 = some (w1, r1)) : hg_Mi l yX5_two wxX5_two rmX5_two D cI cA ad 1 w [.int (hg_I a1), .int (hg_I a2), .int (hg_I a3)] w1 r1 := by
  refine z_meti cX5_two 3 (some .int) (by decide) (Nat.le_of_ble_eq_true rfl) ?_
  intro p e s m args below meth c A B hr
  exact rX5_two_E B hr h
abbrev wxX5_says : List Cond := Cond.code yX5_says cX5_says 5 (some .int) :: wsL_law
def fX5_says_191 (K16 : hg_W → Int → Int → Int → Option (hg_W × Int))  (w : hg_W) (x1 : Int) (x2 : Int) (x3 : Int) : Option (hg_W × Int) :=
  K16 w x1 x2 (x3 + 1)
def fX5_says_93 (K16 : hg_W → Int → Int → Int → Option (hg_W × Int))  (w : hg_W) (x1 : Int) (x2 : Int) (x3 : Int) (s1 : Int) (s2 : Int) : Option (hg_W × Int) :=
  (hg_as 1 w 16 s1 s2).bind fun w1 =>
  fX5_says_191 K16 w1 x1 (x2 + 1) x3
def fX5_says_66 (K16 : hg_W → Int → Int → Int → Option (hg_W × Int))  (w : hg_W) (x1 : Int) (x2 : Int) (x3 : Int) (x4 : Int) : Option (hg_W × Int) :=
  if wr 11 ≤ wr x4 then
    (
      fX5_says_93 K16 w x1 x2 x3 x2 (x4 - 100000)
    )
  else
    (hg_ag 1 w 17 x4).bind fun v1 =>
    fX5_says_93 K16 w x1 x2 x3 x2 v1
def fX5_says_130 (K16 : hg_W → Int → Int → Int → Option (hg_W × Int))  (w : hg_W) (x1 : Int) (x2 : Int) (x3 : Int) (s1 : Int) (s2 : Int) : Option (hg_W × Int) :=
  (hg_as 1 w 16 s1 s2).bind fun w1 =>
  fX5_says_191 K16 w1 x1 x2 x3
def fX5_says_16   : Nat → hg_W → Int → Int → Int → Option (hg_W × Int)
  | 0, _, _, _, _ => none
  | n + 1, w, x1, x2, x3 =>
    (hg_ag 1 w 7 (((4 * (w 0 12)) + x1) + 1)).bind fun v1 =>
    if wr v1 ≤ wr x3 then
      (
        (hg_ag 1 w 16 0).bind fun v3 =>
        some (w, wr v3)
      )
    else
      (hg_ag 1 w 6 ((200 * (w 0 12)) + x3)).bind fun v5 =>
      if wr 100000 ≤ wr v5 then
        (
          fX5_says_66 (fX5_says_16 n) w x1 x2 x3 v5
        )
      else
        if wr 11 ≤ wr v5 then
          (
            if wr v5 = wr 13 then
              (
                (hg_ag 1 w 16 (x2 - 1)).bind fun v20 =>
                if wr v20 = 0 then
                  (
                    fX5_says_130 (fX5_says_16 n) w x1 x2 x3 (x2 - 1) 1
                  )
                else
                  fX5_says_130 (fX5_says_16 n) w x1 x2 x3 (x2 - 1) 0
              )
            else
              if wr v5 = wr 19 then
                (
                  (hg_ag 1 w 16 (x2 - 1)).bind fun v16 =>
                  (hg_as 1 w 16 (x2 - 1) (-v16)).bind fun w18 =>
                  fX5_says_191 (fX5_says_16 n) w18 x1 x2 x3
                )
              else
                (hg_ag 1 w 16 ((x2 + (-1)) - 1)).bind fun v7 =>
                (hg_ag 1 w 16 (x2 + (-1))).bind fun v9 =>
                hg_bd (fX5_two w v5 v7 v9) fun w11 v12 =>
                (hg_as 1 w11 16 ((x2 + (-1)) - 1) v12).bind fun w14 =>
                fX5_says_191 (fX5_says_16 n) w14 x1 (x2 + (-1)) x3
          )
        else
          fX5_says_66 (fX5_says_16 n) w x1 x2 x3 v5
def fX5_says (w : hg_W) (a1 : Int) : Option (hg_W × Int) :=
  (hg_ag 1 w 7 ((4 * (w 0 12)) + a1)).bind fun v1 =>
  fX5_says_16 hg_F w a1 0 v1
set_option maxHeartbeats 4000000 in
set_option maxRecDepth 100000 in
abbrev rmX5_says : Room := { frames := 1, cells := 0, slots := 0, locals := 22 }
set_option maxHeartbeats 4000000 in
set_option maxRecDepth 100000 in
theorem rX5_says_191 (B : hg_B p s m args meth c cX5_says RX5 wsL_law 5 D cI cA ad 1 A) (hr : meth.sig.returnType = (some .int)) {w1 : hg_W} {r1 : Int} {K16 : hg_W → Int → Int → Int → Option (hg_W × Int)} (hK16 : ∀ (w : hg_W) (x1 : Int) (x2 : Int) (x3 : Int), K16 w x1 x2 x3 = some (w1, r1) → hg_At p l e (rmX5_says) s m args below meth c D cI cA ad 1 A (MQ below (hg_Qi D cI cA ad 1 A w1 r1) args s 0 0 A) 5 w [(0, .ref (ad 0)), (1, .int (hg_I x1)), (2, .int (hg_I x2)), (3, .int (hg_I x3))] 16 []) : ∀ (w : hg_W) (x1 : Int) (x2 : Int) (x3 : Int), fX5_says_191 K16 w x1 x2 x3 = some (w1, r1) → hg_At p l e (rmX5_says) s m args below meth c D cI cA ad 1 A (MQ below (hg_Qi D cI cA ad 1 A w1 r1) args s 0 0 A) 5 w [(0, .ref (ad 0)), (1, .int (hg_I x1)), (2, .int (hg_I x2)), (3, .int (hg_I x3))] 191 [] := by
  intro w x1 x2 x3 h
  unfold fX5_says_191 at h
  refine z_iinc B 3 [(3, .int (hg_I (x3 + 1))), (0, .ref (ad 0)), (1, .int (hg_I x1)), (2, .int (hg_I x2))] dX5_says_191 rfl (by decide) rfl ?_
  refine z_goto (tgt := 16) B dX5_says_194 (by decide) ?_
  refine z_lv (lv' := [(0, .ref (ad 0)), (1, .int (hg_I x1)), (2, .int (hg_I x2)), (3, .int (hg_I (x3 + 1)))]) B [1, 2, 3, 0] rfl ?_
  exact hK16 _ _ _ _ h
set_option maxHeartbeats 4000000 in
set_option maxRecDepth 100000 in
theorem rX5_says_93 (B : hg_B p s m args meth c cX5_says RX5 wsL_law 5 D cI cA ad 1 A) (hr : meth.sig.returnType = (some .int)) {w1 : hg_W} {r1 : Int} {K16 : hg_W → Int → Int → Int → Option (hg_W × Int)} (hK16 : ∀ (w : hg_W) (x1 : Int) (x2 : Int) (x3 : Int), K16 w x1 x2 x3 = some (w1, r1) → hg_At p l e (rmX5_says) s m args below meth c D cI cA ad 1 A (MQ below (hg_Qi D cI cA ad 1 A w1 r1) args s 0 0 A) 5 w [(0, .ref (ad 0)), (1, .int (hg_I x1)), (2, .int (hg_I x2)), (3, .int (hg_I x3))] 16 []) : ∀ (w : hg_W) (x1 : Int) (x2 : Int) (x3 : Int) (s1 : Int) (s2 : Int), fX5_says_93 K16 w x1 x2 x3 s1 s2 = some (w1, r1) → hg_At p l e (rmX5_says) s m args below meth c D cI cA ad 1 A (MQ below (hg_Qi D cI cA ad 1 A w1 r1) args s 0 0 A) 5 w [(0, .ref (ad 0)), (1, .int (hg_I x1)), (2, .int (hg_I x2)), (3, .int (hg_I x3))] 93 [.int (hg_I s2), .int (hg_I s1), .ref (ad 16)] := by
  intro w x1 x2 x3 s1 s2 h
  unfold fX5_says_93 at h
  obtain ⟨w1, q2, h⟩ := Option.bind_eq_some_iff.mp h
  refine z_iast (Or.inr rfl) B dX5_says_93 q2 ?_
  refine z_iinc B 2 [(2, .int (hg_I (x2 + 1))), (0, .ref (ad 0)), (1, .int (hg_I x1)), (3, .int (hg_I x3))] dX5_says_94 rfl (by decide) rfl ?_
  refine z_goto (tgt := 191) B dX5_says_97 (by decide) ?_
  refine z_lv (lv' := [(0, .ref (ad 0)), (1, .int (hg_I x1)), (2, .int (hg_I (x2 + 1))), (3, .int (hg_I x3))]) B [1, 2, 0, 3] rfl ?_
  exact rX5_says_191 B hr hK16 _ _ _ _ h
set_option maxHeartbeats 4000000 in
set_option maxRecDepth 100000 in
theorem rX5_says_66 (B : hg_B p s m args meth c cX5_says RX5 wsL_law 5 D cI cA ad 1 A) (hr : meth.sig.returnType = (some .int)) {w1 : hg_W} {r1 : Int} {K16 : hg_W → Int → Int → Int → Option (hg_W × Int)} (hK16 : ∀ (w : hg_W) (x1 : Int) (x2 : Int) (x3 : Int), K16 w x1 x2 x3 = some (w1, r1) → hg_At p l e (rmX5_says) s m args below meth c D cI cA ad 1 A (MQ below (hg_Qi D cI cA ad 1 A w1 r1) args s 0 0 A) 5 w [(0, .ref (ad 0)), (1, .int (hg_I x1)), (2, .int (hg_I x2)), (3, .int (hg_I x3))] 16 []) : ∀ (w : hg_W) (x1 : Int) (x2 : Int) (x3 : Int) (x4 : Int), fX5_says_66 K16 w x1 x2 x3 x4 = some (w1, r1) → hg_At p l e (rmX5_says) s m args below meth c D cI cA ad 1 A (MQ below (hg_Qi D cI cA ad 1 A w1 r1) args s 0 0 A) 5 w [(0, .ref (ad 0)), (1, .int (hg_I x1)), (2, .int (hg_I x2)), (3, .int (hg_I x3)), (4, .int (hg_I x4))] 66 [] := by
  intro w x1 x2 x3 x4 h
  unfold fX5_says_66 at h
  refine z_aload_n B 0 dX5_says_66 rfl rfl ?_
  refine z_get5 (v := .ref (ad 16)) B 29 dX5_says_67 inlX5 (by decide) rfl (by decide) (wl_4 17 rfl) rfl rfl ?_
  refine z_iload_n B 2 dX5_says_70 rfl rfl ?_
  refine z_iload B 4 dX5_says_71 rfl ?_
  refine z_bipush B dX5_says_73 (by decide) ?_
  refine z_icmp_ge (tgt := 88) B dX5_says_75 (by decide) h (fun h => ?_) (fun h => ?_)
  · refine z_iload B 4 dX5_says_88 rfl ?_
    refine z_ldc (n := 100000) (v := 100000) B dX5_says_90 (wl_6 3 rfl) (by decide) ?_
    refine z_isub B dX5_says_92 ?_
    refine z_lv (lv' := [(0, .ref (ad 0)), (1, .int (hg_I x1)), (2, .int (hg_I x2)), (3, .int (hg_I x3))]) B [0, 1, 2, 3] rfl ?_
    exact rX5_says_93 B hr hK16 _ _ _ _ _ _ h
  · refine z_aload_n B 0 dX5_says_78 rfl rfl ?_
    refine z_get5 (v := .ref (ad 17)) B 30 dX5_says_79 inlX5 (by decide) rfl (by decide) (wl_4 18 rfl) rfl rfl ?_
    refine z_iload B 4 dX5_says_82 rfl ?_
    obtain ⟨v1, q2, h⟩ := Option.bind_eq_some_iff.mp h
    refine z_iald (Or.inr rfl) B dX5_says_84 q2 ?_
    refine z_goto (tgt := 93) B dX5_says_85 (by decide) ?_
    refine z_lv (lv' := [(0, .ref (ad 0)), (1, .int (hg_I x1)), (2, .int (hg_I x2)), (3, .int (hg_I x3))]) B [0, 1, 2, 3] rfl ?_
    exact rX5_says_93 B hr hK16 _ _ _ _ _ _ h
set_option maxHeartbeats 4000000 in
set_option maxRecDepth 100000 in
theorem rX5_says_130 (B : hg_B p s m args meth c cX5_says RX5 wsL_law 5 D cI cA ad 1 A) (hr : meth.sig.returnType = (some .int)) {w1 : hg_W} {r1 : Int} {K16 : hg_W → Int → Int → Int → Option (hg_W × Int)} (hK16 : ∀ (w : hg_W) (x1 : Int) (x2 : Int) (x3 : Int), K16 w x1 x2 x3 = some (w1, r1) → hg_At p l e (rmX5_says) s m args below meth c D cI cA ad 1 A (MQ below (hg_Qi D cI cA ad 1 A w1 r1) args s 0 0 A) 5 w [(0, .ref (ad 0)), (1, .int (hg_I x1)), (2, .int (hg_I x2)), (3, .int (hg_I x3))] 16 []) : ∀ (w : hg_W) (x1 : Int) (x2 : Int) (x3 : Int) (s1 : Int) (s2 : Int), fX5_says_130 K16 w x1 x2 x3 s1 s2 = some (w1, r1) → hg_At p l e (rmX5_says) s m args below meth c D cI cA ad 1 A (MQ below (hg_Qi D cI cA ad 1 A w1 r1) args s 0 0 A) 5 w [(0, .ref (ad 0)), (1, .int (hg_I x1)), (2, .int (hg_I x2)), (3, .int (hg_I x3))] 130 [.int (hg_I s2), .int (hg_I s1), .ref (ad 16)] := by
  intro w x1 x2 x3 s1 s2 h
  unfold fX5_says_130 at h
  obtain ⟨w1, q2, h⟩ := Option.bind_eq_some_iff.mp h
  refine z_iast (Or.inr rfl) B dX5_says_130 q2 ?_
  refine z_goto (tgt := 191) B dX5_says_131 (by decide) ?_
  exact rX5_says_191 B hr hK16 _ _ _ _ h
set_option maxHeartbeats 4000000 in
set_option maxRecDepth 100000 in
theorem rX5_says_16 (B : hg_B p s m args meth c cX5_says RX5 wsL_law 5 D cI cA ad 1 A) (hr : meth.sig.returnType = (some .int)) {w1 : hg_W} {r1 : Int} : ∀ (n : Nat), ∀ (w : hg_W) (x1 : Int) (x2 : Int) (x3 : Int), fX5_says_16 n w x1 x2 x3 = some (w1, r1) → hg_At p l e (rmX5_says) s m args below meth c D cI cA ad 1 A (MQ below (hg_Qi D cI cA ad 1 A w1 r1) args s 0 0 A) 5 w [(0, .ref (ad 0)), (1, .int (hg_I x1)), (2, .int (hg_I x2)), (3, .int (hg_I x3))] 16 [] := by
  intro n
  induction n with
  | zero =>
    intro w x1 x2 x3 h
    cases h
  | succ n ih =>
    intro w x1 x2 x3 h
    simp only [fX5_says_16] at h
    refine z_iload_n B 3 dX5_says_16 rfl rfl ?_
    refine z_aload_n B 0 dX5_says_17 rfl rfl ?_
    refine z_get5 (v := .ref (ad 7)) B 10 dX5_says_18 inlX5 (by decide) rfl (by decide) (wl_4 8 rfl) rfl rfl ?_
    refine z_iconst B dX5_says_21 ?_
    refine z_aload_n B 0 dX5_says_22 rfl rfl ?_
    refine z_get5 (v := .int (hg_I (w 0 12))) B 12 dX5_says_23 inlX5 (by decide) rfl (by decide) (wl_8 0 rfl) rfl rfl ?_
    refine z_imul B dX5_says_26 ?_
    refine z_iload_n B 1 dX5_says_27 rfl rfl ?_
    refine z_iadd B dX5_says_28 ?_
    refine z_iconst B dX5_says_29 ?_
    refine z_iadd B dX5_says_30 ?_
    obtain ⟨v1, q2, h⟩ := Option.bind_eq_some_iff.mp h
    refine z_iald (Or.inr rfl) B dX5_says_31 q2 ?_
    refine z_icmp_ge (tgt := 197) B dX5_says_32 (by decide) h (fun h => ?_) (fun h => ?_)
    · refine z_aload_n B 0 dX5_says_197 rfl rfl ?_
      refine z_get5 (v := .ref (ad 16)) B 29 dX5_says_198 inlX5 (by decide) rfl (by decide) (wl_4 17 rfl) rfl rfl ?_
      refine z_iconst B dX5_says_201 ?_
      obtain ⟨v3, q4, h⟩ := Option.bind_eq_some_iff.mp h
      refine z_iald (Or.inr rfl) B dX5_says_202 q4 ?_
      exact z_iret B hr dX5_says_203 h
    · refine z_aload_n B 0 dX5_says_35 rfl rfl ?_
      refine z_get5 (v := .ref (ad 6)) B 9 dX5_says_36 inlX5 (by decide) rfl (by decide) (wl_4 7 rfl) rfl rfl ?_
      refine z_sipush B dX5_says_39 (by decide) ?_
      refine z_aload_n B 0 dX5_says_42 rfl rfl ?_
      refine z_get5 (v := .int (hg_I (w 0 12))) B 12 dX5_says_43 inlX5 (by decide) rfl (by decide) (wl_8 0 rfl) rfl rfl ?_
      refine z_imul B dX5_says_46 ?_
      refine z_iload_n B 3 dX5_says_47 rfl rfl ?_
      refine z_iadd B dX5_says_48 ?_
      obtain ⟨v5, q6, h⟩ := Option.bind_eq_some_iff.mp h
      refine z_iald (Or.inr rfl) B dX5_says_49 q6 ?_
      refine z_istore B [(4, .int (hg_I v5)), (0, .ref (ad 0)), (1, .int (hg_I x1)), (2, .int (hg_I x2)), (3, .int (hg_I x3))] dX5_says_50 (by decide) rfl ?_
      refine z_iload B 0 dX5_says_52 rfl ?_
      refine z_ldc (n := 100000) (v := 100000) B dX5_says_54 (wl_6 3 rfl) (by decide) ?_
      refine z_icmp_ge (tgt := 66) B dX5_says_56 (by decide) h (fun h => ?_) (fun h => ?_)
      · refine z_lv (lv' := [(0, .ref (ad 0)), (1, .int (hg_I x1)), (2, .int (hg_I x2)), (3, .int (hg_I x3)), (4, .int (hg_I v5))]) B [1, 2, 3, 4, 0] rfl ?_
        exact rX5_says_66 B hr ih _ _ _ _ _ h
      · refine z_iload B 0 dX5_says_59 rfl ?_
        refine z_bipush B dX5_says_61 (by decide) ?_
        refine z_icmp_ge (tgt := 100) B dX5_says_63 (by decide) h (fun h => ?_) (fun h => ?_)
        · refine z_iload B 0 dX5_says_100 rfl ?_
          refine z_bipush B dX5_says_102 (by decide) ?_
          refine z_icmp_ne (tgt := 134) B dX5_says_104 (by decide) h (fun h => ?_) (fun h => ?_)
          · refine z_iload B 0 dX5_says_134 rfl ?_
            refine z_bipush B dX5_says_136 (by decide) ?_
            refine z_icmp_ne (tgt := 161) B dX5_says_138 (by decide) h (fun h => ?_) (fun h => ?_)
            · refine z_iinc B 3 [(2, .int (hg_I (x2 + (-1)))), (4, .int (hg_I v5)), (0, .ref (ad 0)), (1, .int (hg_I x1)), (3, .int (hg_I x3))] dX5_says_161 rfl (by decide) rfl ?_
              refine z_aload_n B 2 dX5_says_164 rfl rfl ?_
              refine z_get5 (v := .ref (ad 16)) B 29 dX5_says_165 inlX5 (by decide) rfl (by decide) (wl_4 17 rfl) rfl rfl ?_
              refine z_iload_n B 0 dX5_says_168 rfl rfl ?_
              refine z_iconst B dX5_says_169 ?_
              refine z_isub B dX5_says_170 ?_
              refine z_iload B 1 dX5_says_171 rfl ?_
              refine z_aload_n B 2 dX5_says_173 rfl rfl ?_
              refine z_get5 (v := .ref (ad 16)) B 29 dX5_says_174 inlX5 (by decide) rfl (by decide) (wl_4 17 rfl) rfl rfl ?_
              refine z_iload_n B 0 dX5_says_177 rfl rfl ?_
              refine z_iconst B dX5_says_178 ?_
              refine z_isub B dX5_says_179 ?_
              obtain ⟨v7, q8, h⟩ := Option.bind_eq_some_iff.mp h
              refine z_iald (Or.inr rfl) B dX5_says_180 q8 ?_
              refine z_aload_n B 2 dX5_says_181 rfl rfl ?_
              refine z_get5 (v := .ref (ad 16)) B 29 dX5_says_182 inlX5 (by decide) rfl (by decide) (wl_4 17 rfl) rfl rfl ?_
              refine z_iload_n B 0 dX5_says_185 rfl rfl ?_
              obtain ⟨v9, q10, h⟩ := Option.bind_eq_some_iff.mp h
              refine z_iald (Or.inr rfl) B dX5_says_186 q10 ?_
              obtain ⟨w11, v12, q13, h⟩ := hg_bd_some h
              refine z_calliS (As := [.int (hg_I v5), .int (hg_I v7), .int (hg_I v9)]) (n := 3) B dX5_says_187 (c_X5_two q13) (gl_S (wl_17 17 rfl) (wl_17 18 rfl) (wl_1 5 rfl) (wl_17 19 rfl)) rfl ⟨rfl, rfl⟩ (by decide +kernel) ⟨Nat.le_of_ble_eq_true rfl, Nat.le_of_ble_eq_true rfl⟩ rfl rfl (Nat.le_of_ble_eq_true rfl) ?_
              obtain ⟨w14, q15, h⟩ := Option.bind_eq_some_iff.mp h
              refine z_iast (Or.inr rfl) B dX5_says_190 q15 ?_
              refine z_lv (lv' := [(0, .ref (ad 0)), (1, .int (hg_I x1)), (2, .int (hg_I (x2 + (-1)))), (3, .int (hg_I x3))]) B [2, 3, 0, 4] rfl ?_
              exact rX5_says_191 B hr ih _ _ _ _ h
            · refine z_aload_n B 1 dX5_says_141 rfl rfl ?_
              refine z_get5 (v := .ref (ad 16)) B 29 dX5_says_142 inlX5 (by decide) rfl (by decide) (wl_4 17 rfl) rfl rfl ?_
              refine z_iload_n B 3 dX5_says_145 rfl rfl ?_
              refine z_iconst B dX5_says_146 ?_
              refine z_isub B dX5_says_147 ?_
              refine z_aload_n B 1 dX5_says_148 rfl rfl ?_
              refine z_get5 (v := .ref (ad 16)) B 29 dX5_says_149 inlX5 (by decide) rfl (by decide) (wl_4 17 rfl) rfl rfl ?_
              refine z_iload_n B 3 dX5_says_152 rfl rfl ?_
              refine z_iconst B dX5_says_153 ?_
              refine z_isub B dX5_says_154 ?_
              obtain ⟨v16, q17, h⟩ := Option.bind_eq_some_iff.mp h
              refine z_iald (Or.inr rfl) B dX5_says_155 q17 ?_
              refine z_ineg B dX5_says_156 ?_
              obtain ⟨w18, q19, h⟩ := Option.bind_eq_some_iff.mp h
              refine z_iast (Or.inr rfl) B dX5_says_157 q19 ?_
              refine z_goto (tgt := 191) B dX5_says_158 (by decide) ?_
              refine z_lv (lv' := [(0, .ref (ad 0)), (1, .int (hg_I x1)), (2, .int (hg_I x2)), (3, .int (hg_I x3))]) B [1, 2, 3, 4] rfl ?_
              exact rX5_says_191 B hr ih _ _ _ _ h
          · refine z_aload_n B 1 dX5_says_107 rfl rfl ?_
            refine z_get5 (v := .ref (ad 16)) B 29 dX5_says_108 inlX5 (by decide) rfl (by decide) (wl_4 17 rfl) rfl rfl ?_
            refine z_iload_n B 3 dX5_says_111 rfl rfl ?_
            refine z_iconst B dX5_says_112 ?_
            refine z_isub B dX5_says_113 ?_
            refine z_aload_n B 1 dX5_says_114 rfl rfl ?_
            refine z_get5 (v := .ref (ad 16)) B 29 dX5_says_115 inlX5 (by decide) rfl (by decide) (wl_4 17 rfl) rfl rfl ?_
            refine z_iload_n B 3 dX5_says_118 rfl rfl ?_
            refine z_iconst B dX5_says_119 ?_
            refine z_isub B dX5_says_120 ?_
            obtain ⟨v20, q21, h⟩ := Option.bind_eq_some_iff.mp h
            refine z_iald (Or.inr rfl) B dX5_says_121 q21 ?_
            refine z_if_ne (tgt := 129) B dX5_says_122 (by decide) h (fun h => ?_) (fun h => ?_)
            · refine z_iconst B dX5_says_129 ?_
              refine z_lv (lv' := [(0, .ref (ad 0)), (1, .int (hg_I x1)), (2, .int (hg_I x2)), (3, .int (hg_I x3))]) B [1, 2, 3, 4] rfl ?_
              exact rX5_says_130 B hr ih _ _ _ _ _ _ h
            · refine z_iconst B dX5_says_125 ?_
              refine z_goto (tgt := 130) B dX5_says_126 (by decide) ?_
              refine z_lv (lv' := [(0, .ref (ad 0)), (1, .int (hg_I x1)), (2, .int (hg_I x2)), (3, .int (hg_I x3))]) B [1, 2, 3, 4] rfl ?_
              exact rX5_says_130 B hr ih _ _ _ _ _ _ h
        · refine z_lv (lv' := [(0, .ref (ad 0)), (1, .int (hg_I x1)), (2, .int (hg_I x2)), (3, .int (hg_I x3)), (4, .int (hg_I v5))]) B [1, 2, 3, 4, 0] rfl ?_
          exact rX5_says_66 B hr ih _ _ _ _ _ h
set_option maxHeartbeats 4000000 in
set_option maxRecDepth 100000 in
theorem rX5_says_E (B : hg_B p s m args meth c cX5_says RX5 wsL_law 5 D cI cA ad 1 A) (hr : meth.sig.returnType = (some .int)) {a1 : Int} {w1 : hg_W} {r1 : Int} {w : hg_W} (h : fX5_says w a1 = some (w1, r1)) : hg_At p l e (rmX5_says) s m args below meth c D cI cA ad 1 A (MQ below (hg_Qi D cI cA ad 1 A w1 r1) args s 0 0 A) 5 w [(0, .ref (ad 0)), (1, .int (hg_I a1))] 0 [] := by
  unfold fX5_says at h
  refine z_iconst B dX5_says_0 ?_
  refine z_istore_n B [(2, .int (hg_I 0)), (0, .ref (ad 0)), (1, .int (hg_I a1))] dX5_says_1 rfl (by decide) rfl ?_
  refine z_aload_n B 1 dX5_says_2 rfl rfl ?_
  refine z_get5 (v := .ref (ad 7)) B 10 dX5_says_3 inlX5 (by decide) rfl (by decide) (wl_4 8 rfl) rfl rfl ?_
  refine z_iconst B dX5_says_6 ?_
  refine z_aload_n B 1 dX5_says_7 rfl rfl ?_
  refine z_get5 (v := .int (hg_I (w 0 12))) B 12 dX5_says_8 inlX5 (by decide) rfl (by decide) (wl_8 0 rfl) rfl rfl ?_
  refine z_imul B dX5_says_11 ?_
  refine z_iload_n B 2 dX5_says_12 rfl rfl ?_
  refine z_iadd B dX5_says_13 ?_
  obtain ⟨v1, q2, h⟩ := Option.bind_eq_some_iff.mp h
  refine z_iald (Or.inr rfl) B dX5_says_14 q2 ?_
  refine z_istore_n B [(3, .int (hg_I v1)), (2, .int (hg_I 0)), (0, .ref (ad 0)), (1, .int (hg_I a1))] dX5_says_15 rfl (by decide) rfl ?_
  refine z_lv (lv' := [(0, .ref (ad 0)), (1, .int (hg_I a1)), (2, .int (hg_I 0)), (3, .int (hg_I v1))]) B [2, 3, 1, 0] rfl ?_
  exact rX5_says_16 B hr hg_F _ _ _ _ h
set_option maxHeartbeats 4000000 in
set_option maxRecDepth 100000 in
theorem c_X5_says {l : Launch} {D : va_G} {cI cA : ClassId} {ad : Nat → Nat} {a1 : Int} {w w1 : hg_W} {r1 : Int} (h : fX5_says w a1 = some (w1, r1)) : hg_Mi l yX5_says wxX5_says rmX5_says D cI cA ad 1 w [.ref (ad 0), .int (hg_I a1)] w1 r1 := by
  refine z_meti cX5_says 5 (some .int) (by decide) (Nat.le_of_ble_eq_true rfl) ?_
  intro p e s m args below meth c A B hr
  exact rX5_says_E B hr h
abbrev wxX5_force : List Cond := Cond.code yX5_force cX5_force 3 (some .int) :: wsL_law
def fX5_force (w : hg_W) (a1 : Int) : Option (hg_W × Int) :=
  hg_bd (fX5_in w a1 0 ((w 0 11) - 1)) fun w1 v2 =>
  if wr v2 = 0 then
    (
      some (w1, wr (-2))
    )
  else
    (hg_pt w1 0 12 a1).bind fun w4 =>
    some (w4, wr (w1 0 12))
set_option maxHeartbeats 4000000 in
set_option maxRecDepth 100000 in
abbrev rmX5_force : Room := { frames := 1, cells := 0, slots := 0, locals := 22 }
set_option maxHeartbeats 4000000 in
set_option maxRecDepth 100000 in
theorem rX5_force_E (B : hg_B p s m args meth c cX5_force RX5 wsL_law 3 D cI cA ad 1 A) (hr : meth.sig.returnType = (some .int)) {a1 : Int} {w1 : hg_W} {r1 : Int} {w : hg_W} (h : fX5_force w a1 = some (w1, r1)) : hg_At p l e (rmX5_force) s m args below meth c D cI cA ad 1 A (MQ below (hg_Qi D cI cA ad 1 A w1 r1) args s 0 0 A) 3 w [(0, .ref (ad 0)), (1, .int (hg_I a1))] 0 [] := by
  unfold fX5_force at h
  refine z_iload_n B 1 dX5_force_0 rfl rfl ?_
  refine z_iconst B dX5_force_1 ?_
  refine z_aload_n B 0 dX5_force_2 rfl rfl ?_
  refine z_get5 (v := .int (hg_I (w 0 11))) B 11 dX5_force_3 inlX5 (by decide) rfl (by decide) (wl_5 4 rfl) rfl rfl ?_
  refine z_iconst B dX5_force_6 ?_
  refine z_isub B dX5_force_7 ?_
  obtain ⟨w1, v2, q3, h⟩ := hg_bd_some h
  refine z_calliS (As := [.int (hg_I a1), .int (hg_I 0), .int (hg_I ((w 0 11) - 1))]) (n := 3) B dX5_force_8 (c_X5_in q3) (gl_S (wl_5 14 rfl) (wl_5 15 rfl) (wl_1 5 rfl) (wl_5 16 rfl)) rfl ⟨rfl, rfl⟩ (by decide +kernel) ⟨Nat.le_of_ble_eq_true rfl, Nat.le_of_ble_eq_true rfl⟩ rfl rfl (Nat.le_of_ble_eq_true rfl) ?_
  refine z_if_ne (tgt := 17) B dX5_force_11 (by decide) h (fun h => ?_) (fun h => ?_)
  · refine z_aload_n B 0 dX5_force_17 rfl rfl ?_
    refine z_get5 (v := .int (hg_I (w1 0 12))) B 12 dX5_force_18 inlX5 (by decide) rfl (by decide) (wl_8 0 rfl) rfl rfl ?_
    refine z_istore_n B [(2, .int (hg_I (w1 0 12))), (0, .ref (ad 0)), (1, .int (hg_I a1))] dX5_force_21 rfl (by decide) rfl ?_
    refine z_aload_n B 1 dX5_force_22 rfl rfl ?_
    refine z_iload_n B 2 dX5_force_23 rfl rfl ?_
    obtain ⟨w4, q5, h⟩ := Option.bind_eq_some_iff.mp h
    refine z_put5 B 12 dX5_force_24 inlX5 (by decide) rfl (by decide) (wl_8 0 rfl) rfl rfl .int (by decide +kernel) rfl rfl hg_fs5_12 q5 ?_
    refine z_iload_n B 0 dX5_force_27 rfl rfl ?_
    exact z_iret B hr dX5_force_28 h
  · refine z_bipush B dX5_force_14 (by decide) ?_
    exact z_iret B hr dX5_force_16 h
set_option maxHeartbeats 4000000 in
set_option maxRecDepth 100000 in
theorem c_X5_force {l : Launch} {D : va_G} {cI cA : ClassId} {ad : Nat → Nat} {a1 : Int} {w w1 : hg_W} {r1 : Int} (h : fX5_force w a1 = some (w1, r1)) : hg_Mi l yX5_force wxX5_force rmX5_force D cI cA ad 1 w [.ref (ad 0), .int (hg_I a1)] w1 r1 := by
  refine z_meti cX5_force 3 (some .int) (by decide) (Nat.le_of_ble_eq_true rfl) ?_
  intro p e s m args below meth c A B hr
  exact rX5_force_E B hr h
abbrev wxX5_asksOf : List Cond := Cond.code yX5_asksOf cX5_asksOf 4 (some .int) :: wsL_law
def fX5_asksOf_110   (w : hg_W) (s0 : Int) (s1 : Int) : Option (hg_W × Int) :=
  hg_bd (fX5_within w s0 s1 99) fun w1 v2 =>
  some (w1, wr v2)
def fX5_asksOf_40   (w : hg_W) (x1 : Int) (x2 : Int) : Option (hg_W × Int) :=
  hg_bd (fX5_coinsAll w) fun w1 v2 =>
  (hg_as 1 w1 17 2 v2).bind fun w4 =>
  (hg_ag 1 w4 3 ((3 * x2) + 1)).bind fun v6 =>
  hg_bd (fX5_within w4 v6 0 99) fun w8 v9 =>
  (hg_as 1 w8 17 3 v9).bind fun w11 =>
  (hg_as 1 w11 17 4 (w11 0 6)).bind fun w13 =>
  (hg_ag 1 w13 2 x2).bind fun v15 =>
  (hg_as 1 w13 17 5 v15).bind fun w17 =>
  hg_bd (fX5_says w17 x1) fun w19 v20 =>
  if wr x1 = wr 2 then
    (
      fX5_asksOf_110 w19 v20 (-99)
    )
  else
    fX5_asksOf_110 w19 v20 0
def fX5_asksOf (w : hg_W) (a1 : Int) (a2 : Int) (a3 : Int) : Option (hg_W × Int) :=
  (hg_ag 1 w 3 (3 * a2)).bind fun v1 =>
  (hg_as 1 w 17 0 v1).bind fun w3 =>
  (hg_as 1 w3 17 1 0).bind fun w5 =>
  if wr a3 = wr (-1) then
    (
      fX5_asksOf_40 w5 a1 a2
    )
  else
    (hg_ag 1 w5 4 (2 * a3)).bind fun v7 =>
    (hg_as 1 w5 17 1 v7).bind fun w9 =>
    fX5_asksOf_40 w9 a1 a2
set_option maxHeartbeats 4000000 in
set_option maxRecDepth 100000 in
abbrev rmX5_asksOf : Room := { frames := 2, cells := 0, slots := 0, locals := 46 }
set_option maxHeartbeats 4000000 in
set_option maxRecDepth 100000 in
theorem rX5_asksOf_110 (B : hg_B p s m args meth c cX5_asksOf RX5 wsL_law 4 D cI cA ad 1 A) (hr : meth.sig.returnType = (some .int)) {w1 : hg_W} {r1 : Int} : ∀ (w : hg_W) (s0 : Int) (s1 : Int), fX5_asksOf_110 w s0 s1 = some (w1, r1) → hg_At p l e (rmX5_asksOf) s m args below meth c D cI cA ad 1 A (MQ below (hg_Qi D cI cA ad 1 A w1 r1) args s 0 0 A) 4 w [] 110 [.int (hg_I s1), .int (hg_I s0)] := by
  intro w s0 s1 h
  unfold fX5_asksOf_110 at h
  refine z_bipush B dX5_asksOf_110 (by decide) ?_
  obtain ⟨w1, v2, q3, h⟩ := hg_bd_some h
  refine z_calliS (As := [.int (hg_I s0), .int (hg_I s1), .int (hg_I 99)]) (n := 3) B dX5_asksOf_112 (c_X5_within q3) (gl_S (wl_17 10 rfl) (wl_17 11 rfl) (wl_1 5 rfl) (wl_17 12 rfl)) rfl ⟨rfl, rfl⟩ (by decide +kernel) ⟨Nat.le_of_ble_eq_true rfl, Nat.le_of_ble_eq_true rfl⟩ rfl rfl (Nat.le_of_ble_eq_true rfl) ?_
  exact z_iret B hr dX5_asksOf_115 h
set_option maxHeartbeats 4000000 in
set_option maxRecDepth 100000 in
theorem rX5_asksOf_40 (B : hg_B p s m args meth c cX5_asksOf RX5 wsL_law 4 D cI cA ad 1 A) (hr : meth.sig.returnType = (some .int)) {w1 : hg_W} {r1 : Int} : ∀ (w : hg_W) (x1 : Int) (x2 : Int), fX5_asksOf_40 w x1 x2 = some (w1, r1) → hg_At p l e (rmX5_asksOf) s m args below meth c D cI cA ad 1 A (MQ below (hg_Qi D cI cA ad 1 A w1 r1) args s 0 0 A) 4 w [(0, .ref (ad 0)), (1, .int (hg_I x1)), (2, .int (hg_I x2))] 40 [] := by
  intro w x1 x2 h
  unfold fX5_asksOf_40 at h
  refine z_aload_n B 0 dX5_asksOf_40 rfl rfl ?_
  refine z_get5 (v := .ref (ad 17)) B 30 dX5_asksOf_41 inlX5 (by decide) rfl (by decide) (wl_4 18 rfl) rfl rfl ?_
  refine z_iconst B dX5_asksOf_44 ?_
  refine z_aload_n B 0 dX5_asksOf_45 rfl rfl ?_
  obtain ⟨w1, v2, q3, h⟩ := hg_bd_some h
  refine z_calliV (a := 0) (ci := 5) (N := 37) (T := TX5) (C := RX5) (As := []) (n := 0) B dX5_asksOf_46 (c_X5_coinsAll q3) (gl_V (wl_8 2 rfl) (wl_8 3 rfl) (wl_8 4 rfl) (wl_1 5 rfl) (wl_8 5 rfl)) rfl ⟨rfl, rfl⟩ (by decide +kernel) ⟨Nat.le_of_ble_eq_true rfl, Nat.le_of_ble_eq_true rfl⟩ (by decide) rfl (by decide) rfl rfl rfl (Nat.le_of_ble_eq_true rfl) ?_
  obtain ⟨w4, q5, h⟩ := Option.bind_eq_some_iff.mp h
  refine z_iast (Or.inr rfl) B dX5_asksOf_49 q5 ?_
  refine z_aload_n B 0 dX5_asksOf_50 rfl rfl ?_
  refine z_get5 (v := .ref (ad 17)) B 30 dX5_asksOf_51 inlX5 (by decide) rfl (by decide) (wl_4 18 rfl) rfl rfl ?_
  refine z_iconst B dX5_asksOf_54 ?_
  refine z_aload_n B 0 dX5_asksOf_55 rfl rfl ?_
  refine z_get5 (v := .ref (ad 3)) B 3 dX5_asksOf_56 inlX5 (by decide) rfl (by decide) (wl_4 4 rfl) rfl rfl ?_
  refine z_iconst B dX5_asksOf_59 ?_
  refine z_iload_n B 2 dX5_asksOf_60 rfl rfl ?_
  refine z_imul B dX5_asksOf_61 ?_
  refine z_iconst B dX5_asksOf_62 ?_
  refine z_iadd B dX5_asksOf_63 ?_
  obtain ⟨v6, q7, h⟩ := Option.bind_eq_some_iff.mp h
  refine z_iald (Or.inr rfl) B dX5_asksOf_64 q7 ?_
  refine z_iconst B dX5_asksOf_65 ?_
  refine z_bipush B dX5_asksOf_66 (by decide) ?_
  obtain ⟨w8, v9, q10, h⟩ := hg_bd_some h
  refine z_calliS (As := [.int (hg_I v6), .int (hg_I 0), .int (hg_I 99)]) (n := 3) B dX5_asksOf_68 (c_X5_within q10) (gl_S (wl_17 10 rfl) (wl_17 11 rfl) (wl_1 5 rfl) (wl_17 12 rfl)) rfl ⟨rfl, rfl⟩ (by decide +kernel) ⟨Nat.le_of_ble_eq_true rfl, Nat.le_of_ble_eq_true rfl⟩ rfl rfl (Nat.le_of_ble_eq_true rfl) ?_
  obtain ⟨w11, q12, h⟩ := Option.bind_eq_some_iff.mp h
  refine z_iast (Or.inr rfl) B dX5_asksOf_71 q12 ?_
  refine z_aload_n B 0 dX5_asksOf_72 rfl rfl ?_
  refine z_get5 (v := .ref (ad 17)) B 30 dX5_asksOf_73 inlX5 (by decide) rfl (by decide) (wl_4 18 rfl) rfl rfl ?_
  refine z_iconst B dX5_asksOf_76 ?_
  refine z_aload_n B 0 dX5_asksOf_77 rfl rfl ?_
  refine z_get5 (v := .int (hg_I (w11 0 6))) B 6 dX5_asksOf_78 inlX5 (by decide) rfl (by decide) (wl_7 23 rfl) rfl rfl ?_
  obtain ⟨w13, q14, h⟩ := Option.bind_eq_some_iff.mp h
  refine z_iast (Or.inr rfl) B dX5_asksOf_81 q14 ?_
  refine z_aload_n B 0 dX5_asksOf_82 rfl rfl ?_
  refine z_get5 (v := .ref (ad 17)) B 30 dX5_asksOf_83 inlX5 (by decide) rfl (by decide) (wl_4 18 rfl) rfl rfl ?_
  refine z_iconst B dX5_asksOf_86 ?_
  refine z_aload_n B 0 dX5_asksOf_87 rfl rfl ?_
  refine z_get5 (v := .ref (ad 2)) B 2 dX5_asksOf_88 inlX5 (by decide) rfl (by decide) (wl_4 3 rfl) rfl rfl ?_
  refine z_iload_n B 2 dX5_asksOf_91 rfl rfl ?_
  obtain ⟨v15, q16, h⟩ := Option.bind_eq_some_iff.mp h
  refine z_iald (Or.inr rfl) B dX5_asksOf_92 q16 ?_
  obtain ⟨w17, q18, h⟩ := Option.bind_eq_some_iff.mp h
  refine z_iast (Or.inr rfl) B dX5_asksOf_93 q18 ?_
  refine z_aload_n B 0 dX5_asksOf_94 rfl rfl ?_
  refine z_iload_n B 1 dX5_asksOf_95 rfl rfl ?_
  obtain ⟨w19, v20, q21, h⟩ := hg_bd_some h
  refine z_calliV (a := 0) (ci := 5) (N := 37) (T := TX5) (C := RX5) (As := [.int (hg_I x1)]) (n := 1) B dX5_asksOf_96 (c_X5_says q21) (gl_V (wl_17 13 rfl) (wl_17 14 rfl) (wl_17 15 rfl) (wl_1 5 rfl) (wl_17 16 rfl)) rfl ⟨rfl, rfl⟩ (by decide +kernel) ⟨Nat.le_of_ble_eq_true rfl, Nat.le_of_ble_eq_true rfl⟩ (by decide) rfl (by decide) rfl rfl rfl (Nat.le_of_ble_eq_true rfl) ?_
  refine z_iload_n B 1 dX5_asksOf_99 rfl rfl ?_
  refine z_iconst B dX5_asksOf_100 ?_
  refine z_icmp_ne (tgt := 109) B dX5_asksOf_101 (by decide) h (fun h => ?_) (fun h => ?_)
  · refine z_iconst B dX5_asksOf_109 ?_
    refine z_lv (lv' := []) B [] rfl ?_
    exact rX5_asksOf_110 B hr _ _ _ h
  · refine z_bipush B dX5_asksOf_104 (by decide) ?_
    refine z_goto (tgt := 110) B dX5_asksOf_106 (by decide) ?_
    refine z_lv (lv' := []) B [] rfl ?_
    exact rX5_asksOf_110 B hr _ _ _ h
set_option maxHeartbeats 4000000 in
set_option maxRecDepth 100000 in
theorem rX5_asksOf_E (B : hg_B p s m args meth c cX5_asksOf RX5 wsL_law 4 D cI cA ad 1 A) (hr : meth.sig.returnType = (some .int)) {a1 : Int} {a2 : Int} {a3 : Int} {w1 : hg_W} {r1 : Int} {w : hg_W} (h : fX5_asksOf w a1 a2 a3 = some (w1, r1)) : hg_At p l e (rmX5_asksOf) s m args below meth c D cI cA ad 1 A (MQ below (hg_Qi D cI cA ad 1 A w1 r1) args s 0 0 A) 4 w [(0, .ref (ad 0)), (1, .int (hg_I a1)), (2, .int (hg_I a2)), (3, .int (hg_I a3))] 0 [] := by
  unfold fX5_asksOf at h
  refine z_aload_n B 0 dX5_asksOf_0 rfl rfl ?_
  refine z_get5 (v := .ref (ad 17)) B 30 dX5_asksOf_1 inlX5 (by decide) rfl (by decide) (wl_4 18 rfl) rfl rfl ?_
  refine z_iconst B dX5_asksOf_4 ?_
  refine z_aload_n B 0 dX5_asksOf_5 rfl rfl ?_
  refine z_get5 (v := .ref (ad 3)) B 3 dX5_asksOf_6 inlX5 (by decide) rfl (by decide) (wl_4 4 rfl) rfl rfl ?_
  refine z_iconst B dX5_asksOf_9 ?_
  refine z_iload_n B 2 dX5_asksOf_10 rfl rfl ?_
  refine z_imul B dX5_asksOf_11 ?_
  obtain ⟨v1, q2, h⟩ := Option.bind_eq_some_iff.mp h
  refine z_iald (Or.inr rfl) B dX5_asksOf_12 q2 ?_
  obtain ⟨w3, q4, h⟩ := Option.bind_eq_some_iff.mp h
  refine z_iast (Or.inr rfl) B dX5_asksOf_13 q4 ?_
  refine z_aload_n B 0 dX5_asksOf_14 rfl rfl ?_
  refine z_get5 (v := .ref (ad 17)) B 30 dX5_asksOf_15 inlX5 (by decide) rfl (by decide) (wl_4 18 rfl) rfl rfl ?_
  refine z_iconst B dX5_asksOf_18 ?_
  refine z_iconst B dX5_asksOf_19 ?_
  obtain ⟨w5, q6, h⟩ := Option.bind_eq_some_iff.mp h
  refine z_iast (Or.inr rfl) B dX5_asksOf_20 q6 ?_
  refine z_iload_n B 3 dX5_asksOf_21 rfl rfl ?_
  refine z_iconst B dX5_asksOf_22 ?_
  refine z_icmp_eq (tgt := 40) B dX5_asksOf_23 (by decide) h (fun h => ?_) (fun h => ?_)
  · refine z_lv (lv' := [(0, .ref (ad 0)), (1, .int (hg_I a1)), (2, .int (hg_I a2))]) B [0, 1, 2] rfl ?_
    exact rX5_asksOf_40 B hr _ _ _ h
  · refine z_aload_n B 0 dX5_asksOf_26 rfl rfl ?_
    refine z_get5 (v := .ref (ad 17)) B 30 dX5_asksOf_27 inlX5 (by decide) rfl (by decide) (wl_4 18 rfl) rfl rfl ?_
    refine z_iconst B dX5_asksOf_30 ?_
    refine z_aload_n B 0 dX5_asksOf_31 rfl rfl ?_
    refine z_get5 (v := .ref (ad 4)) B 4 dX5_asksOf_32 inlX5 (by decide) rfl (by decide) (wl_4 5 rfl) rfl rfl ?_
    refine z_iconst B dX5_asksOf_35 ?_
    refine z_iload_n B 3 dX5_asksOf_36 rfl rfl ?_
    refine z_imul B dX5_asksOf_37 ?_
    obtain ⟨v7, q8, h⟩ := Option.bind_eq_some_iff.mp h
    refine z_iald (Or.inr rfl) B dX5_asksOf_38 q8 ?_
    obtain ⟨w9, q10, h⟩ := Option.bind_eq_some_iff.mp h
    refine z_iast (Or.inr rfl) B dX5_asksOf_39 q10 ?_
    refine z_lv (lv' := [(0, .ref (ad 0)), (1, .int (hg_I a1)), (2, .int (hg_I a2))]) B [0, 1, 2] rfl ?_
    exact rX5_asksOf_40 B hr _ _ _ h
set_option maxHeartbeats 4000000 in
set_option maxRecDepth 100000 in
theorem c_X5_asksOf {l : Launch} {D : va_G} {cI cA : ClassId} {ad : Nat → Nat} {a1 : Int} {a2 : Int} {a3 : Int} {w w1 : hg_W} {r1 : Int} (h : fX5_asksOf w a1 a2 a3 = some (w1, r1)) : hg_Mi l yX5_asksOf wxX5_asksOf rmX5_asksOf D cI cA ad 1 w [.ref (ad 0), .int (hg_I a1), .int (hg_I a2), .int (hg_I a3)] w1 r1 := by
  refine z_meti cX5_asksOf 4 (some .int) (by decide) (Nat.le_of_ble_eq_true rfl) ?_
  intro p e s m args below meth c A B hr
  exact rX5_asksOf_E B hr h
abbrev wxX5_asks : List Cond := Cond.code yX5_asks cX5_asks 4 (some .int) :: wsL_law
def fX5_asks (w : hg_W) (a1 : Int) (a2 : Int) (a3 : Int) : Option (hg_W × Int) :=
  hg_bd (fX5_in w a1 0 2) fun w1 v2 =>
  if wr v2 = 0 then
    (
      some (w1, wr (-1000))
    )
  else
    hg_bd (fX5_isOne w1 a2) fun w4 v5 =>
    if wr v5 = 0 then
      (
        some (w4, wr (-1000))
      )
    else
      hg_bd (fX5_in w4 a3 (-1) 5) fun w7 v8 =>
      if wr v8 = 0 then
        (
          some (w7, wr (-1000))
        )
      else
        hg_bd (fX5_asksOf w7 a1 a2 a3) fun w10 v11 =>
        some (w10, wr v11)
set_option maxHeartbeats 4000000 in
set_option maxRecDepth 100000 in
abbrev rmX5_asks : Room := { frames := 3, cells := 0, slots := 0, locals := 69 }
set_option maxHeartbeats 4000000 in
set_option maxRecDepth 100000 in
theorem rX5_asks_E (B : hg_B p s m args meth c cX5_asks RX5 wsL_law 4 D cI cA ad 1 A) (hr : meth.sig.returnType = (some .int)) {a1 : Int} {a2 : Int} {a3 : Int} {w1 : hg_W} {r1 : Int} {w : hg_W} (h : fX5_asks w a1 a2 a3 = some (w1, r1)) : hg_At p l e (rmX5_asks) s m args below meth c D cI cA ad 1 A (MQ below (hg_Qi D cI cA ad 1 A w1 r1) args s 0 0 A) 4 w [(0, .ref (ad 0)), (1, .int (hg_I a1)), (2, .int (hg_I a2)), (3, .int (hg_I a3))] 0 [] := by
  unfold fX5_asks at h
  refine z_iload_n B 1 dX5_asks_0 rfl rfl ?_
  refine z_iconst B dX5_asks_1 ?_
  refine z_iconst B dX5_asks_2 ?_
  obtain ⟨w1, v2, q3, h⟩ := hg_bd_some h
  refine z_calliS (As := [.int (hg_I a1), .int (hg_I 0), .int (hg_I 2)]) (n := 3) B dX5_asks_3 (c_X5_in q3) (gl_S (wl_5 14 rfl) (wl_5 15 rfl) (wl_1 5 rfl) (wl_5 16 rfl)) rfl ⟨rfl, rfl⟩ (by decide +kernel) ⟨Nat.le_of_ble_eq_true rfl, Nat.le_of_ble_eq_true rfl⟩ rfl rfl (Nat.le_of_ble_eq_true rfl) ?_
  refine z_if_eq (tgt := 36) B dX5_asks_6 (by decide) h (fun h => ?_) (fun h => ?_)
  · refine z_sipush B dX5_asks_36 (by decide) ?_
    exact z_iret B hr dX5_asks_39 h
  · refine z_aload_n B 0 dX5_asks_9 rfl rfl ?_
    refine z_iload_n B 2 dX5_asks_10 rfl rfl ?_
    obtain ⟨w4, v5, q6, h⟩ := hg_bd_some h
    refine z_calliV (a := 0) (ci := 5) (N := 37) (T := TX5) (C := RX5) (As := [.int (hg_I a2)]) (n := 1) B dX5_asks_11 (c_X5_isOne q6) (gl_V (wl_17 2 rfl) (wl_17 3 rfl) (wl_17 4 rfl) (wl_1 5 rfl) (wl_17 5 rfl)) rfl ⟨rfl, rfl⟩ (by decide +kernel) ⟨Nat.le_of_ble_eq_true rfl, Nat.le_of_ble_eq_true rfl⟩ (by decide) rfl (by decide) rfl rfl rfl (Nat.le_of_ble_eq_true rfl) ?_
    refine z_if_eq (tgt := 36) B dX5_asks_14 (by decide) h (fun h => ?_) (fun h => ?_)
    · refine z_sipush B dX5_asks_36 (by decide) ?_
      exact z_iret B hr dX5_asks_39 h
    · refine z_iload_n B 3 dX5_asks_17 rfl rfl ?_
      refine z_iconst B dX5_asks_18 ?_
      refine z_iconst B dX5_asks_19 ?_
      obtain ⟨w7, v8, q9, h⟩ := hg_bd_some h
      refine z_calliS (As := [.int (hg_I a3), .int (hg_I (-1)), .int (hg_I 5)]) (n := 3) B dX5_asks_20 (c_X5_in q9) (gl_S (wl_5 14 rfl) (wl_5 15 rfl) (wl_1 5 rfl) (wl_5 16 rfl)) rfl ⟨rfl, rfl⟩ (by decide +kernel) ⟨Nat.le_of_ble_eq_true rfl, Nat.le_of_ble_eq_true rfl⟩ rfl rfl (Nat.le_of_ble_eq_true rfl) ?_
      refine z_if_eq (tgt := 36) B dX5_asks_23 (by decide) h (fun h => ?_) (fun h => ?_)
      · refine z_sipush B dX5_asks_36 (by decide) ?_
        exact z_iret B hr dX5_asks_39 h
      · refine z_aload_n B 0 dX5_asks_26 rfl rfl ?_
        refine z_iload_n B 1 dX5_asks_27 rfl rfl ?_
        refine z_iload_n B 2 dX5_asks_28 rfl rfl ?_
        refine z_iload_n B 3 dX5_asks_29 rfl rfl ?_
        obtain ⟨w10, v11, q12, h⟩ := hg_bd_some h
        refine z_calliV (a := 0) (ci := 5) (N := 37) (T := TX5) (C := RX5) (As := [.int (hg_I a1), .int (hg_I a2), .int (hg_I a3)]) (n := 3) B dX5_asks_30 (c_X5_asksOf q12) (gl_V (wl_17 6 rfl) (wl_17 7 rfl) (wl_17 8 rfl) (wl_1 5 rfl) (wl_17 9 rfl)) rfl ⟨rfl, rfl⟩ (by decide +kernel) ⟨Nat.le_of_ble_eq_true rfl, Nat.le_of_ble_eq_true rfl⟩ (by decide) rfl (by decide) rfl rfl rfl (Nat.le_of_ble_eq_true rfl) ?_
        refine z_goto (tgt := 39) B dX5_asks_33 (by decide) ?_
        exact z_iret B hr dX5_asks_39 h
set_option maxHeartbeats 4000000 in
set_option maxRecDepth 100000 in
theorem c_X5_asks {l : Launch} {D : va_G} {cI cA : ClassId} {ad : Nat → Nat} {a1 : Int} {a2 : Int} {a3 : Int} {w w1 : hg_W} {r1 : Int} (h : fX5_asks w a1 a2 a3 = some (w1, r1)) : hg_Mi l yX5_asks wxX5_asks rmX5_asks D cI cA ad 1 w [.ref (ad 0), .int (hg_I a1), .int (hg_I a2), .int (hg_I a3)] w1 r1 := by
  refine z_meti cX5_asks 4 (some .int) (by decide) (Nat.le_of_ble_eq_true rfl) ?_
  intro p e s m args below meth c A B hr
  exact rX5_asks_E B hr h
abbrev wxX5_person : List Cond := Cond.code yX5_person cX5_person 3 (some .int) :: wsL_law
def fX5_person (w : hg_W) (a1 : Int) (a2 : Int) : Option (hg_W × Int) :=
  hg_bd (fX5_in w a1 0 59) fun w1 v2 =>
  if wr v2 = 0 then
    (
      some (w1, wr (-2))
    )
  else
    hg_bd (fX5_in w1 a2 0 99) fun w4 v5 =>
    if wr v5 = 0 then
      (
        some (w4, wr (-2))
      )
    else
      if wr (w4 0 0) = wr 6 then
        (
          some (w4, wr (-4))
        )
      else
        (hg_as 1 w4 1 (w4 0 0) (hg_dv a1 10)).bind fun w7 =>
        (hg_as 1 w7 2 (w7 0 0) (hg_rm a1 10)).bind fun w9 =>
        (hg_as 1 w9 3 (3 * (w9 0 0)) a2).bind fun w11 =>
        (hg_as 1 w11 3 ((3 * (w11 0 0)) + 1) 0).bind fun w13 =>
        (hg_as 1 w13 3 ((3 * (w13 0 0)) + 2) 0).bind fun w15 =>
        (hg_pt w15 0 0 ((w15 0 0) + 1)).bind fun w17 =>
        some (w17, wr ((w17 0 0) - 1))
set_option maxHeartbeats 4000000 in
set_option maxRecDepth 100000 in
abbrev rmX5_person : Room := { frames := 1, cells := 0, slots := 0, locals := 22 }
set_option maxHeartbeats 4000000 in
set_option maxRecDepth 100000 in
theorem rX5_person_E (B : hg_B p s m args meth c cX5_person RX5 wsL_law 3 D cI cA ad 1 A) (hr : meth.sig.returnType = (some .int)) {a1 : Int} {a2 : Int} {w1 : hg_W} {r1 : Int} {w : hg_W} (h : fX5_person w a1 a2 = some (w1, r1)) : hg_At p l e (rmX5_person) s m args below meth c D cI cA ad 1 A (MQ below (hg_Qi D cI cA ad 1 A w1 r1) args s 0 0 A) 3 w [(0, .ref (ad 0)), (1, .int (hg_I a1)), (2, .int (hg_I a2))] 0 [] := by
  unfold fX5_person at h
  refine z_iload_n B 1 dX5_person_0 rfl rfl ?_
  refine z_iconst B dX5_person_1 ?_
  refine z_bipush B dX5_person_2 (by decide) ?_
  obtain ⟨w1, v2, q3, h⟩ := hg_bd_some h
  refine z_calliS (As := [.int (hg_I a1), .int (hg_I 0), .int (hg_I 59)]) (n := 3) B dX5_person_4 (c_X5_in q3) (gl_S (wl_5 14 rfl) (wl_5 15 rfl) (wl_1 5 rfl) (wl_5 16 rfl)) rfl ⟨rfl, rfl⟩ (by decide +kernel) ⟨Nat.le_of_ble_eq_true rfl, Nat.le_of_ble_eq_true rfl⟩ rfl rfl (Nat.le_of_ble_eq_true rfl) ?_
  refine z_if_eq (tgt := 20) B dX5_person_7 (by decide) h (fun h => ?_) (fun h => ?_)
  · refine z_bipush B dX5_person_20 (by decide) ?_
    exact z_iret B hr dX5_person_22 h
  · refine z_iload_n B 2 dX5_person_10 rfl rfl ?_
    refine z_iconst B dX5_person_11 ?_
    refine z_bipush B dX5_person_12 (by decide) ?_
    obtain ⟨w4, v5, q6, h⟩ := hg_bd_some h
    refine z_calliS (As := [.int (hg_I a2), .int (hg_I 0), .int (hg_I 99)]) (n := 3) B dX5_person_14 (c_X5_in q6) (gl_S (wl_5 14 rfl) (wl_5 15 rfl) (wl_1 5 rfl) (wl_5 16 rfl)) rfl ⟨rfl, rfl⟩ (by decide +kernel) ⟨Nat.le_of_ble_eq_true rfl, Nat.le_of_ble_eq_true rfl⟩ rfl rfl (Nat.le_of_ble_eq_true rfl) ?_
    refine z_if_ne (tgt := 23) B dX5_person_17 (by decide) h (fun h => ?_) (fun h => ?_)
    · refine z_aload_n B 0 dX5_person_23 rfl rfl ?_
      refine z_get5 (v := .int (hg_I (w4 0 0))) B 0 dX5_person_24 inlX5 (by decide) rfl (by decide) (wl_7 22 rfl) rfl rfl ?_
      refine z_bipush B dX5_person_27 (by decide) ?_
      refine z_icmp_ne (tgt := 35) B dX5_person_29 (by decide) h (fun h => ?_) (fun h => ?_)
      · refine z_aload_n B 0 dX5_person_35 rfl rfl ?_
        refine z_get5 (v := .ref (ad 1)) B 1 dX5_person_36 inlX5 (by decide) rfl (by decide) (wl_4 2 rfl) rfl rfl ?_
        refine z_aload_n B 0 dX5_person_39 rfl rfl ?_
        refine z_get5 (v := .int (hg_I (w4 0 0))) B 0 dX5_person_40 inlX5 (by decide) rfl (by decide) (wl_7 22 rfl) rfl rfl ?_
        refine z_iload_n B 1 dX5_person_43 rfl rfl ?_
        refine z_bipush B dX5_person_44 (by decide) ?_
        refine z_idiv B dX5_person_46 (by decide) ?_
        obtain ⟨w7, q8, h⟩ := Option.bind_eq_some_iff.mp h
        refine z_iast (Or.inr rfl) B dX5_person_47 q8 ?_
        refine z_aload_n B 0 dX5_person_48 rfl rfl ?_
        refine z_get5 (v := .ref (ad 2)) B 2 dX5_person_49 inlX5 (by decide) rfl (by decide) (wl_4 3 rfl) rfl rfl ?_
        refine z_aload_n B 0 dX5_person_52 rfl rfl ?_
        refine z_get5 (v := .int (hg_I (w7 0 0))) B 0 dX5_person_53 inlX5 (by decide) rfl (by decide) (wl_7 22 rfl) rfl rfl ?_
        refine z_iload_n B 1 dX5_person_56 rfl rfl ?_
        refine z_bipush B dX5_person_57 (by decide) ?_
        refine z_irem B dX5_person_59 (by decide) ?_
        obtain ⟨w9, q10, h⟩ := Option.bind_eq_some_iff.mp h
        refine z_iast (Or.inr rfl) B dX5_person_60 q10 ?_
        refine z_aload_n B 0 dX5_person_61 rfl rfl ?_
        refine z_get5 (v := .ref (ad 3)) B 3 dX5_person_62 inlX5 (by decide) rfl (by decide) (wl_4 4 rfl) rfl rfl ?_
        refine z_iconst B dX5_person_65 ?_
        refine z_aload_n B 0 dX5_person_66 rfl rfl ?_
        refine z_get5 (v := .int (hg_I (w9 0 0))) B 0 dX5_person_67 inlX5 (by decide) rfl (by decide) (wl_7 22 rfl) rfl rfl ?_
        refine z_imul B dX5_person_70 ?_
        refine z_iload_n B 2 dX5_person_71 rfl rfl ?_
        obtain ⟨w11, q12, h⟩ := Option.bind_eq_some_iff.mp h
        refine z_iast (Or.inr rfl) B dX5_person_72 q12 ?_
        refine z_aload_n B 0 dX5_person_73 rfl rfl ?_
        refine z_get5 (v := .ref (ad 3)) B 3 dX5_person_74 inlX5 (by decide) rfl (by decide) (wl_4 4 rfl) rfl rfl ?_
        refine z_iconst B dX5_person_77 ?_
        refine z_aload_n B 0 dX5_person_78 rfl rfl ?_
        refine z_get5 (v := .int (hg_I (w11 0 0))) B 0 dX5_person_79 inlX5 (by decide) rfl (by decide) (wl_7 22 rfl) rfl rfl ?_
        refine z_imul B dX5_person_82 ?_
        refine z_iconst B dX5_person_83 ?_
        refine z_iadd B dX5_person_84 ?_
        refine z_iconst B dX5_person_85 ?_
        obtain ⟨w13, q14, h⟩ := Option.bind_eq_some_iff.mp h
        refine z_iast (Or.inr rfl) B dX5_person_86 q14 ?_
        refine z_aload_n B 0 dX5_person_87 rfl rfl ?_
        refine z_get5 (v := .ref (ad 3)) B 3 dX5_person_88 inlX5 (by decide) rfl (by decide) (wl_4 4 rfl) rfl rfl ?_
        refine z_iconst B dX5_person_91 ?_
        refine z_aload_n B 0 dX5_person_92 rfl rfl ?_
        refine z_get5 (v := .int (hg_I (w13 0 0))) B 0 dX5_person_93 inlX5 (by decide) rfl (by decide) (wl_7 22 rfl) rfl rfl ?_
        refine z_imul B dX5_person_96 ?_
        refine z_iconst B dX5_person_97 ?_
        refine z_iadd B dX5_person_98 ?_
        refine z_iconst B dX5_person_99 ?_
        obtain ⟨w15, q16, h⟩ := Option.bind_eq_some_iff.mp h
        refine z_iast (Or.inr rfl) B dX5_person_100 q16 ?_
        refine z_aload_n B 0 dX5_person_101 rfl rfl ?_
        refine z_dup B dX5_person_102 rfl ?_
        refine z_get5 (v := .int (hg_I (w15 0 0))) B 0 dX5_person_103 inlX5 (by decide) rfl (by decide) (wl_7 22 rfl) rfl rfl ?_
        refine z_iconst B dX5_person_106 ?_
        refine z_iadd B dX5_person_107 ?_
        obtain ⟨w17, q18, h⟩ := Option.bind_eq_some_iff.mp h
        refine z_put5 B 0 dX5_person_108 inlX5 (by decide) rfl (by decide) (wl_7 22 rfl) rfl rfl .int (by decide +kernel) rfl rfl hg_fs5_0 q18 ?_
        refine z_aload_n B 0 dX5_person_111 rfl rfl ?_
        refine z_get5 (v := .int (hg_I (w17 0 0))) B 0 dX5_person_112 inlX5 (by decide) rfl (by decide) (wl_7 22 rfl) rfl rfl ?_
        refine z_iconst B dX5_person_115 ?_
        refine z_isub B dX5_person_116 ?_
        exact z_iret B hr dX5_person_117 h
      · refine z_bipush B dX5_person_32 (by decide) ?_
        exact z_iret B hr dX5_person_34 h
    · refine z_bipush B dX5_person_20 (by decide) ?_
      exact z_iret B hr dX5_person_22 h
set_option maxHeartbeats 4000000 in
set_option maxRecDepth 100000 in
theorem c_X5_person {l : Launch} {D : va_G} {cI cA : ClassId} {ad : Nat → Nat} {a1 : Int} {a2 : Int} {w w1 : hg_W} {r1 : Int} (h : fX5_person w a1 a2 = some (w1, r1)) : hg_Mi l yX5_person wxX5_person rmX5_person D cI cA ad 1 w [.ref (ad 0), .int (hg_I a1), .int (hg_I a2)] w1 r1 := by
  refine z_meti cX5_person 3 (some .int) (by decide) (Nat.le_of_ble_eq_true rfl) ?_
  intro p e s m args below meth c A B hr
  exact rX5_person_E B hr h
abbrev wxX5_put : List Cond := Cond.code yX5_put cX5_put 5 (some .int) :: wsL_law
def fX5_put_34   (w : hg_W) (x1 : Int) (x2 : Int) (x3 : Int) (s0 : Int) (s1 : Int) (s2 : Int) : Option (hg_W × Int) :=
  hg_bd (fX5_in w s0 s1 s2) fun w1 v2 =>
  if wr v2 = 0 then
    (
      some (w1, wr (-7))
    )
  else
    (hg_ag 1 w1 3 ((3 * x1) + x2)).bind fun v4 =>
    (hg_as 1 w1 3 ((3 * x1) + x2) x3).bind fun w6 =>
    some (w6, wr v4)
def fX5_put (w : hg_W) (a1 : Int) (a2 : Int) (a3 : Int) : Option (hg_W × Int) :=
  hg_bd (fX5_isOne w a1) fun w1 v2 =>
  if wr v2 = 0 then
    (
      some (w1, wr (-5))
    )
  else
    hg_bd (fX5_in w1 a2 0 1) fun w4 v5 =>
    if wr v5 = 0 then
      (
        some (w4, wr (-7))
      )
    else
      if wr a2 = 0 then
        (
          fX5_put_34 w4 a1 a2 a3 a3 0 99
        )
      else
        fX5_put_34 w4 a1 a2 a3 a3 0 9999
set_option maxHeartbeats 4000000 in
set_option maxRecDepth 100000 in
abbrev rmX5_put : Room := { frames := 2, cells := 0, slots := 0, locals := 43 }
set_option maxHeartbeats 4000000 in
set_option maxRecDepth 100000 in
theorem rX5_put_34 (B : hg_B p s m args meth c cX5_put RX5 wsL_law 5 D cI cA ad 1 A) (hr : meth.sig.returnType = (some .int)) {w1 : hg_W} {r1 : Int} : ∀ (w : hg_W) (x1 : Int) (x2 : Int) (x3 : Int) (s0 : Int) (s1 : Int) (s2 : Int), fX5_put_34 w x1 x2 x3 s0 s1 s2 = some (w1, r1) → hg_At p l e (rmX5_put) s m args below meth c D cI cA ad 1 A (MQ below (hg_Qi D cI cA ad 1 A w1 r1) args s 0 0 A) 5 w [(0, .ref (ad 0)), (1, .int (hg_I x1)), (2, .int (hg_I x2)), (3, .int (hg_I x3))] 34 [.int (hg_I s2), .int (hg_I s1), .int (hg_I s0)] := by
  intro w x1 x2 x3 s0 s1 s2 h
  unfold fX5_put_34 at h
  obtain ⟨w1, v2, q3, h⟩ := hg_bd_some h
  refine z_calliS (As := [.int (hg_I s0), .int (hg_I s1), .int (hg_I s2)]) (n := 3) B dX5_put_34 (c_X5_in q3) (gl_S (wl_5 14 rfl) (wl_5 15 rfl) (wl_1 5 rfl) (wl_5 16 rfl)) rfl ⟨rfl, rfl⟩ (by decide +kernel) ⟨Nat.le_of_ble_eq_true rfl, Nat.le_of_ble_eq_true rfl⟩ rfl rfl (Nat.le_of_ble_eq_true rfl) ?_
  refine z_if_ne (tgt := 43) B dX5_put_37 (by decide) h (fun h => ?_) (fun h => ?_)
  · refine z_aload_n B 0 dX5_put_43 rfl rfl ?_
    refine z_get5 (v := .ref (ad 3)) B 3 dX5_put_44 inlX5 (by decide) rfl (by decide) (wl_4 4 rfl) rfl rfl ?_
    refine z_iconst B dX5_put_47 ?_
    refine z_iload_n B 1 dX5_put_48 rfl rfl ?_
    refine z_imul B dX5_put_49 ?_
    refine z_iload_n B 2 dX5_put_50 rfl rfl ?_
    refine z_iadd B dX5_put_51 ?_
    obtain ⟨v4, q5, h⟩ := Option.bind_eq_some_iff.mp h
    refine z_iald (Or.inr rfl) B dX5_put_52 q5 ?_
    refine z_istore B [(4, .int (hg_I v4)), (0, .ref (ad 0)), (1, .int (hg_I x1)), (2, .int (hg_I x2)), (3, .int (hg_I x3))] dX5_put_53 (by decide) rfl ?_
    refine z_aload_n B 1 dX5_put_55 rfl rfl ?_
    refine z_get5 (v := .ref (ad 3)) B 3 dX5_put_56 inlX5 (by decide) rfl (by decide) (wl_4 4 rfl) rfl rfl ?_
    refine z_iconst B dX5_put_59 ?_
    refine z_iload_n B 2 dX5_put_60 rfl rfl ?_
    refine z_imul B dX5_put_61 ?_
    refine z_iload_n B 3 dX5_put_62 rfl rfl ?_
    refine z_iadd B dX5_put_63 ?_
    refine z_iload_n B 4 dX5_put_64 rfl rfl ?_
    obtain ⟨w6, q7, h⟩ := Option.bind_eq_some_iff.mp h
    refine z_iast (Or.inr rfl) B dX5_put_65 q7 ?_
    refine z_iload B 0 dX5_put_66 rfl ?_
    exact z_iret B hr dX5_put_68 h
  · refine z_bipush B dX5_put_40 (by decide) ?_
    exact z_iret B hr dX5_put_42 h
set_option maxHeartbeats 4000000 in
set_option maxRecDepth 100000 in
theorem rX5_put_E (B : hg_B p s m args meth c cX5_put RX5 wsL_law 5 D cI cA ad 1 A) (hr : meth.sig.returnType = (some .int)) {a1 : Int} {a2 : Int} {a3 : Int} {w1 : hg_W} {r1 : Int} {w : hg_W} (h : fX5_put w a1 a2 a3 = some (w1, r1)) : hg_At p l e (rmX5_put) s m args below meth c D cI cA ad 1 A (MQ below (hg_Qi D cI cA ad 1 A w1 r1) args s 0 0 A) 5 w [(0, .ref (ad 0)), (1, .int (hg_I a1)), (2, .int (hg_I a2)), (3, .int (hg_I a3))] 0 [] := by
  unfold fX5_put at h
  refine z_aload_n B 0 dX5_put_0 rfl rfl ?_
  refine z_iload_n B 1 dX5_put_1 rfl rfl ?_
  obtain ⟨w1, v2, q3, h⟩ := hg_bd_some h
  refine z_calliV (a := 0) (ci := 5) (N := 37) (T := TX5) (C := RX5) (As := [.int (hg_I a1)]) (n := 1) B dX5_put_2 (c_X5_isOne q3) (gl_V (wl_17 2 rfl) (wl_17 3 rfl) (wl_17 4 rfl) (wl_1 5 rfl) (wl_17 5 rfl)) rfl ⟨rfl, rfl⟩ (by decide +kernel) ⟨Nat.le_of_ble_eq_true rfl, Nat.le_of_ble_eq_true rfl⟩ (by decide) rfl (by decide) rfl rfl rfl (Nat.le_of_ble_eq_true rfl) ?_
  refine z_if_ne (tgt := 11) B dX5_put_5 (by decide) h (fun h => ?_) (fun h => ?_)
  · refine z_iload_n B 2 dX5_put_11 rfl rfl ?_
    refine z_iconst B dX5_put_12 ?_
    refine z_iconst B dX5_put_13 ?_
    obtain ⟨w4, v5, q6, h⟩ := hg_bd_some h
    refine z_calliS (As := [.int (hg_I a2), .int (hg_I 0), .int (hg_I 1)]) (n := 3) B dX5_put_14 (c_X5_in q6) (gl_S (wl_5 14 rfl) (wl_5 15 rfl) (wl_1 5 rfl) (wl_5 16 rfl)) rfl ⟨rfl, rfl⟩ (by decide +kernel) ⟨Nat.le_of_ble_eq_true rfl, Nat.le_of_ble_eq_true rfl⟩ rfl rfl (Nat.le_of_ble_eq_true rfl) ?_
    refine z_if_eq (tgt := 40) B dX5_put_17 (by decide) h (fun h => ?_) (fun h => ?_)
    · refine z_bipush B dX5_put_40 (by decide) ?_
      exact z_iret B hr dX5_put_42 h
    · refine z_iload_n B 3 dX5_put_20 rfl rfl ?_
      refine z_iconst B dX5_put_21 ?_
      refine z_iload_n B 2 dX5_put_22 rfl rfl ?_
      refine z_if_ne (tgt := 31) B dX5_put_23 (by decide) h (fun h => ?_) (fun h => ?_)
      · refine z_sipush B dX5_put_31 (by decide) ?_
        exact rX5_put_34 B hr _ _ _ _ _ _ _ h
      · refine z_bipush B dX5_put_26 (by decide) ?_
        refine z_goto (tgt := 34) B dX5_put_28 (by decide) ?_
        exact rX5_put_34 B hr _ _ _ _ _ _ _ h
  · refine z_bipush B dX5_put_8 (by decide) ?_
    exact z_iret B hr dX5_put_10 h
set_option maxHeartbeats 4000000 in
set_option maxRecDepth 100000 in
theorem c_X5_put {l : Launch} {D : va_G} {cI cA : ClassId} {ad : Nat → Nat} {a1 : Int} {a2 : Int} {a3 : Int} {w w1 : hg_W} {r1 : Int} (h : fX5_put w a1 a2 a3 = some (w1, r1)) : hg_Mi l yX5_put wxX5_put rmX5_put D cI cA ad 1 w [.ref (ad 0), .int (hg_I a1), .int (hg_I a2), .int (hg_I a3)] w1 r1 := by
  refine z_meti cX5_put 5 (some .int) (by decide) (Nat.le_of_ble_eq_true rfl) ?_
  intro p e s m args below meth c A B hr
  exact rX5_put_E B hr h
abbrev wxX5_takesOf : List Cond := Cond.code yX5_takesOf cX5_takesOf 3 (some .int) :: wsL_law
def fX5_takesOf_52   (w : hg_W) (x1 : Int) (x2 : Int) : Option (hg_W × Int) :=
  (hg_ag 1 w 2 x1).bind fun v1 =>
  some (w, wr (x2 + (5 * v1)))
def fX5_takesOf (w : hg_W) (a1 : Int) : Option (hg_W × Int) :=
  hg_bd (fX5_asksOf w 0 a1 (-1)) fun w1 v2 =>
  (hg_ag 1 w1 1 a1).bind fun v4 =>
  if wr v4 = 1 then
    (
      some (w1, wr (hg_dv v2 4))
    )
  else
  if wr v4 = 2 then
    (
      fX5_takesOf_52 w1 a1 v2
    )
  else
  if wr v4 = 3 then
    (
      if wr (hg_rm (w1 0 6) 2) = 0 then
        (
          (hg_ag 1 w1 2 a1).bind fun v9 =>
          some (w1, wr v9)
        )
      else
        some (w1, wr (hg_dv v2 4))
    )
  else
  if wr v4 = 4 then
    (
      fX5_takesOf_52 w1 a1 v2
    )
  else
  if wr v4 = 5 then
    (
      some (w1, wr 99)
    )
  else
  some (w1, wr v2)
set_option maxHeartbeats 4000000 in
set_option maxRecDepth 100000 in
abbrev rmX5_takesOf : Room := { frames := 3, cells := 0, slots := 0, locals := 69 }
set_option maxHeartbeats 4000000 in
set_option maxRecDepth 100000 in
theorem rX5_takesOf_52 (B : hg_B p s m args meth c cX5_takesOf RX5 wsL_law 3 D cI cA ad 1 A) (hr : meth.sig.returnType = (some .int)) {w1 : hg_W} {r1 : Int} : ∀ (w : hg_W) (x1 : Int) (x2 : Int), fX5_takesOf_52 w x1 x2 = some (w1, r1) → hg_At p l e (rmX5_takesOf) s m args below meth c D cI cA ad 1 A (MQ below (hg_Qi D cI cA ad 1 A w1 r1) args s 0 0 A) 3 w [(0, .ref (ad 0)), (1, .int (hg_I x1)), (2, .int (hg_I x2))] 52 [] := by
  intro w x1 x2 h
  unfold fX5_takesOf_52 at h
  refine z_iload_n B 2 dX5_takesOf_52 rfl rfl ?_
  refine z_iconst B dX5_takesOf_53 ?_
  refine z_aload_n B 0 dX5_takesOf_54 rfl rfl ?_
  refine z_get5 (v := .ref (ad 2)) B 2 dX5_takesOf_55 inlX5 (by decide) rfl (by decide) (wl_4 3 rfl) rfl rfl ?_
  refine z_iload_n B 1 dX5_takesOf_58 rfl rfl ?_
  obtain ⟨v1, q2, h⟩ := Option.bind_eq_some_iff.mp h
  refine z_iald (Or.inr rfl) B dX5_takesOf_59 q2 ?_
  refine z_imul B dX5_takesOf_60 ?_
  refine z_iadd B dX5_takesOf_61 ?_
  exact z_iret B hr dX5_takesOf_62 h
set_option maxHeartbeats 4000000 in
set_option maxRecDepth 100000 in
theorem rX5_takesOf_E (B : hg_B p s m args meth c cX5_takesOf RX5 wsL_law 3 D cI cA ad 1 A) (hr : meth.sig.returnType = (some .int)) {a1 : Int} {w1 : hg_W} {r1 : Int} {w : hg_W} (h : fX5_takesOf w a1 = some (w1, r1)) : hg_At p l e (rmX5_takesOf) s m args below meth c D cI cA ad 1 A (MQ below (hg_Qi D cI cA ad 1 A w1 r1) args s 0 0 A) 3 w [(0, .ref (ad 0)), (1, .int (hg_I a1))] 0 [] := by
  unfold fX5_takesOf at h
  refine z_aload_n B 0 dX5_takesOf_0 rfl rfl ?_
  refine z_iconst B dX5_takesOf_1 ?_
  refine z_iload_n B 1 dX5_takesOf_2 rfl rfl ?_
  refine z_iconst B dX5_takesOf_3 ?_
  obtain ⟨w1, v2, q3, h⟩ := hg_bd_some h
  refine z_calliV (a := 0) (ci := 5) (N := 37) (T := TX5) (C := RX5) (As := [.int (hg_I 0), .int (hg_I a1), .int (hg_I (-1))]) (n := 3) B dX5_takesOf_4 (c_X5_asksOf q3) (gl_V (wl_17 6 rfl) (wl_17 7 rfl) (wl_17 8 rfl) (wl_1 5 rfl) (wl_17 9 rfl)) rfl ⟨rfl, rfl⟩ (by decide +kernel) ⟨Nat.le_of_ble_eq_true rfl, Nat.le_of_ble_eq_true rfl⟩ (by decide) rfl (by decide) rfl rfl rfl (Nat.le_of_ble_eq_true rfl) ?_
  refine z_istore_n B [(2, .int (hg_I v2)), (0, .ref (ad 0)), (1, .int (hg_I a1))] dX5_takesOf_7 rfl (by decide) rfl ?_
  refine z_aload_n B 1 dX5_takesOf_8 rfl rfl ?_
  refine z_get5 (v := .ref (ad 1)) B 1 dX5_takesOf_9 inlX5 (by decide) rfl (by decide) (wl_4 2 rfl) rfl rfl ?_
  refine z_iload_n B 2 dX5_takesOf_12 rfl rfl ?_
  obtain ⟨v4, q5, h⟩ := Option.bind_eq_some_iff.mp h
  refine z_iald (Or.inr rfl) B dX5_takesOf_13 q5 ?_
  by_cases z6 : wr v4 = 1
  · rw [if_pos z6] at h
    refine z_tabIn (off := 34) (tgt := 48) B dX5_takesOf_14 z6 (by decide) rfl (by decide) ?_
    refine z_iload_n B 0 dX5_takesOf_48 rfl rfl ?_
    refine z_iconst B dX5_takesOf_49 ?_
    refine z_idiv B dX5_takesOf_50 (by decide) ?_
    exact z_iret B hr dX5_takesOf_51 h
  rw [if_neg z6] at h
  by_cases z7 : wr v4 = 2
  · rw [if_pos z7] at h
    refine z_tabIn (off := 38) (tgt := 52) B dX5_takesOf_14 z7 (by decide) rfl (by decide) ?_
    refine z_lv (lv' := [(0, .ref (ad 0)), (1, .int (hg_I a1)), (2, .int (hg_I v2))]) B [1, 2, 0] rfl ?_
    exact rX5_takesOf_52 B hr _ _ _ h
  rw [if_neg z7] at h
  by_cases z8 : wr v4 = 3
  · rw [if_pos z8] at h
    refine z_tabIn (off := 49) (tgt := 63) B dX5_takesOf_14 z8 (by decide) rfl (by decide) ?_
    refine z_aload_n B 1 dX5_takesOf_63 rfl rfl ?_
    refine z_get5 (v := .int (hg_I (w1 0 6))) B 6 dX5_takesOf_64 inlX5 (by decide) rfl (by decide) (wl_7 23 rfl) rfl rfl ?_
    refine z_iconst B dX5_takesOf_67 ?_
    refine z_irem B dX5_takesOf_68 (by decide) ?_
    refine z_if_ne (tgt := 81) B dX5_takesOf_69 (by decide) h (fun h => ?_) (fun h => ?_)
    · refine z_iload_n B 0 dX5_takesOf_81 rfl rfl ?_
      refine z_iconst B dX5_takesOf_82 ?_
      refine z_idiv B dX5_takesOf_83 (by decide) ?_
      exact z_iret B hr dX5_takesOf_84 h
    · refine z_aload_n B 1 dX5_takesOf_72 rfl rfl ?_
      refine z_get5 (v := .ref (ad 2)) B 2 dX5_takesOf_73 inlX5 (by decide) rfl (by decide) (wl_4 3 rfl) rfl rfl ?_
      refine z_iload_n B 2 dX5_takesOf_76 rfl rfl ?_
      obtain ⟨v9, q10, h⟩ := Option.bind_eq_some_iff.mp h
      refine z_iald (Or.inr rfl) B dX5_takesOf_77 q10 ?_
      refine z_goto (tgt := 84) B dX5_takesOf_78 (by decide) ?_
      exact z_iret B hr dX5_takesOf_84 h
  rw [if_neg z8] at h
  by_cases z11 : wr v4 = 4
  · rw [if_pos z11] at h
    refine z_tabIn (off := 38) (tgt := 52) B dX5_takesOf_14 z11 (by decide) rfl (by decide) ?_
    refine z_lv (lv' := [(0, .ref (ad 0)), (1, .int (hg_I a1)), (2, .int (hg_I v2))]) B [1, 2, 0] rfl ?_
    exact rX5_takesOf_52 B hr _ _ _ h
  rw [if_neg z11] at h
  by_cases z12 : wr v4 = 5
  · rw [if_pos z12] at h
    refine z_tabIn (off := 71) (tgt := 85) B dX5_takesOf_14 z12 (by decide) rfl (by decide) ?_
    refine z_bipush B dX5_takesOf_85 (by decide) ?_
    exact z_iret B hr dX5_takesOf_87 h
  rw [if_neg z12] at h
  refine z_tabOut (tgt := 88) B dX5_takesOf_14 (by omega) (by decide) ?_
  refine z_iload_n B 0 dX5_takesOf_88 rfl rfl ?_
  exact z_iret B hr dX5_takesOf_89 h
set_option maxHeartbeats 4000000 in
set_option maxRecDepth 100000 in
theorem c_X5_takesOf {l : Launch} {D : va_G} {cI cA : ClassId} {ad : Nat → Nat} {a1 : Int} {w w1 : hg_W} {r1 : Int} (h : fX5_takesOf w a1 = some (w1, r1)) : hg_Mi l yX5_takesOf wxX5_takesOf rmX5_takesOf D cI cA ad 1 w [.ref (ad 0), .int (hg_I a1)] w1 r1 := by
  refine z_meti cX5_takesOf 3 (some .int) (by decide) (Nat.le_of_ble_eq_true rfl) ?_
  intro p e s m args below meth c A B hr
  exact rX5_takesOf_E B hr h
abbrev wxX5_soundsOf : List Cond := Cond.code yX5_soundsOf cX5_soundsOf 4 (some .int) :: wsL_law
def fX5_soundsOf (w : hg_W) (a1 : Int) (a2 : Int) : Option (hg_W × Int) :=
  hg_bd (fX5_asksOf w 1 a1 a2) fun w1 v2 =>
  (hg_ag 1 w1 1 a1).bind fun v4 =>
  if wr v4 = 1 then
    (
      (hg_ag 1 w1 2 a1).bind fun v7 =>
      some (w1, wr (v2 + v7))
    )
  else
  if wr v4 = 2 then
    (
      some (w1, wr v2)
    )
  else
  if wr v4 = 3 then
    (
      (hg_ag 1 w1 2 a1).bind fun v11 =>
      some (w1, wr (3 * (v2 + v11)))
    )
  else
  if wr v4 = 4 then
    (
      some (w1, wr 0)
    )
  else
  some (w1, wr v2)
set_option maxHeartbeats 4000000 in
set_option maxRecDepth 100000 in
abbrev rmX5_soundsOf : Room := { frames := 3, cells := 0, slots := 0, locals := 69 }
set_option maxHeartbeats 4000000 in
set_option maxRecDepth 100000 in
theorem rX5_soundsOf_E (B : hg_B p s m args meth c cX5_soundsOf RX5 wsL_law 4 D cI cA ad 1 A) (hr : meth.sig.returnType = (some .int)) {a1 : Int} {a2 : Int} {w1 : hg_W} {r1 : Int} {w : hg_W} (h : fX5_soundsOf w a1 a2 = some (w1, r1)) : hg_At p l e (rmX5_soundsOf) s m args below meth c D cI cA ad 1 A (MQ below (hg_Qi D cI cA ad 1 A w1 r1) args s 0 0 A) 4 w [(0, .ref (ad 0)), (1, .int (hg_I a1)), (2, .int (hg_I a2))] 0 [] := by
  unfold fX5_soundsOf at h
  refine z_aload_n B 0 dX5_soundsOf_0 rfl rfl ?_
  refine z_iconst B dX5_soundsOf_1 ?_
  refine z_iload_n B 1 dX5_soundsOf_2 rfl rfl ?_
  refine z_iload_n B 2 dX5_soundsOf_3 rfl rfl ?_
  obtain ⟨w1, v2, q3, h⟩ := hg_bd_some h
  refine z_calliV (a := 0) (ci := 5) (N := 37) (T := TX5) (C := RX5) (As := [.int (hg_I 1), .int (hg_I a1), .int (hg_I a2)]) (n := 3) B dX5_soundsOf_4 (c_X5_asksOf q3) (gl_V (wl_17 6 rfl) (wl_17 7 rfl) (wl_17 8 rfl) (wl_1 5 rfl) (wl_17 9 rfl)) rfl ⟨rfl, rfl⟩ (by decide +kernel) ⟨Nat.le_of_ble_eq_true rfl, Nat.le_of_ble_eq_true rfl⟩ (by decide) rfl (by decide) rfl rfl rfl (Nat.le_of_ble_eq_true rfl) ?_
  refine z_istore_n B [(3, .int (hg_I v2)), (0, .ref (ad 0)), (1, .int (hg_I a1)), (2, .int (hg_I a2))] dX5_soundsOf_7 rfl (by decide) rfl ?_
  refine z_aload_n B 1 dX5_soundsOf_8 rfl rfl ?_
  refine z_get5 (v := .ref (ad 1)) B 1 dX5_soundsOf_9 inlX5 (by decide) rfl (by decide) (wl_4 2 rfl) rfl rfl ?_
  refine z_iload_n B 2 dX5_soundsOf_12 rfl rfl ?_
  obtain ⟨v4, q5, h⟩ := Option.bind_eq_some_iff.mp h
  refine z_iald (Or.inr rfl) B dX5_soundsOf_13 q5 ?_
  by_cases z6 : wr v4 = 1
  · rw [if_pos z6] at h
    refine z_tabIn (off := 30) (tgt := 44) B dX5_soundsOf_14 z6 (by decide) rfl (by decide) ?_
    refine z_iload_n B 0 dX5_soundsOf_44 rfl rfl ?_
    refine z_aload_n B 1 dX5_soundsOf_45 rfl rfl ?_
    refine z_get5 (v := .ref (ad 2)) B 2 dX5_soundsOf_46 inlX5 (by decide) rfl (by decide) (wl_4 3 rfl) rfl rfl ?_
    refine z_iload_n B 2 dX5_soundsOf_49 rfl rfl ?_
    obtain ⟨v7, q8, h⟩ := Option.bind_eq_some_iff.mp h
    refine z_iald (Or.inr rfl) B dX5_soundsOf_50 q8 ?_
    refine z_iadd B dX5_soundsOf_51 ?_
    exact z_iret B hr dX5_soundsOf_52 h
  rw [if_neg z6] at h
  by_cases z9 : wr v4 = 2
  · rw [if_pos z9] at h
    refine z_tabIn (off := 52) (tgt := 66) B dX5_soundsOf_14 z9 (by decide) rfl (by decide) ?_
    refine z_iload_n B 0 dX5_soundsOf_66 rfl rfl ?_
    exact z_iret B hr dX5_soundsOf_67 h
  rw [if_neg z9] at h
  by_cases z10 : wr v4 = 3
  · rw [if_pos z10] at h
    refine z_tabIn (off := 39) (tgt := 53) B dX5_soundsOf_14 z10 (by decide) rfl (by decide) ?_
    refine z_iconst B dX5_soundsOf_53 ?_
    refine z_iload_n B 0 dX5_soundsOf_54 rfl rfl ?_
    refine z_aload_n B 1 dX5_soundsOf_55 rfl rfl ?_
    refine z_get5 (v := .ref (ad 2)) B 2 dX5_soundsOf_56 inlX5 (by decide) rfl (by decide) (wl_4 3 rfl) rfl rfl ?_
    refine z_iload_n B 2 dX5_soundsOf_59 rfl rfl ?_
    obtain ⟨v11, q12, h⟩ := Option.bind_eq_some_iff.mp h
    refine z_iald (Or.inr rfl) B dX5_soundsOf_60 q12 ?_
    refine z_iadd B dX5_soundsOf_61 ?_
    refine z_imul B dX5_soundsOf_62 ?_
    exact z_iret B hr dX5_soundsOf_63 h
  rw [if_neg z10] at h
  by_cases z13 : wr v4 = 4
  · rw [if_pos z13] at h
    refine z_tabIn (off := 50) (tgt := 64) B dX5_soundsOf_14 z13 (by decide) rfl (by decide) ?_
    refine z_iconst B dX5_soundsOf_64 ?_
    exact z_iret B hr dX5_soundsOf_65 h
  rw [if_neg z13] at h
  refine z_tabOut (tgt := 66) B dX5_soundsOf_14 (by omega) (by decide) ?_
  refine z_iload_n B 0 dX5_soundsOf_66 rfl rfl ?_
  exact z_iret B hr dX5_soundsOf_67 h
set_option maxHeartbeats 4000000 in
set_option maxRecDepth 100000 in
theorem c_X5_soundsOf {l : Launch} {D : va_G} {cI cA : ClassId} {ad : Nat → Nat} {a1 : Int} {a2 : Int} {w w1 : hg_W} {r1 : Int} (h : fX5_soundsOf w a1 a2 = some (w1, r1)) : hg_Mi l yX5_soundsOf wxX5_soundsOf rmX5_soundsOf D cI cA ad 1 w [.ref (ad 0), .int (hg_I a1), .int (hg_I a2)] w1 r1 := by
  refine z_meti cX5_soundsOf 4 (some .int) (by decide) (Nat.le_of_ble_eq_true rfl) ?_
  intro p e s m args below meth c A B hr
  exact rX5_soundsOf_E B hr h
abbrev wxX5_costsOf : List Cond := Cond.code yX5_costsOf cX5_costsOf 4 (some .int) :: wsL_law
def fX5_costsOf (w : hg_W) (a1 : Int) (a2 : Int) : Option (hg_W × Int) :=
  hg_bd (fX5_asksOf w 2 a1 a2) fun w1 v2 =>
  (hg_ag 1 w1 1 a1).bind fun v4 =>
  if wr v4 = 2 then
    (
      some (w1, wr (2 * v2))
    )
  else
  if wr v4 = 3 then
    (
      some (w1, wr v2)
    )
  else
  if wr v4 = 4 then
    (
      (hg_ag 1 w1 2 a1).bind fun v9 =>
      some (w1, wr ((2 * v2) - v9))
    )
  else
  if wr v4 = 5 then
    (
      some (w1, wr 0)
    )
  else
  some (w1, wr v2)
set_option maxHeartbeats 4000000 in
set_option maxRecDepth 100000 in
abbrev rmX5_costsOf : Room := { frames := 3, cells := 0, slots := 0, locals := 69 }
set_option maxHeartbeats 4000000 in
set_option maxRecDepth 100000 in
theorem rX5_costsOf_E (B : hg_B p s m args meth c cX5_costsOf RX5 wsL_law 4 D cI cA ad 1 A) (hr : meth.sig.returnType = (some .int)) {a1 : Int} {a2 : Int} {w1 : hg_W} {r1 : Int} {w : hg_W} (h : fX5_costsOf w a1 a2 = some (w1, r1)) : hg_At p l e (rmX5_costsOf) s m args below meth c D cI cA ad 1 A (MQ below (hg_Qi D cI cA ad 1 A w1 r1) args s 0 0 A) 4 w [(0, .ref (ad 0)), (1, .int (hg_I a1)), (2, .int (hg_I a2))] 0 [] := by
  unfold fX5_costsOf at h
  refine z_aload_n B 0 dX5_costsOf_0 rfl rfl ?_
  refine z_iconst B dX5_costsOf_1 ?_
  refine z_iload_n B 1 dX5_costsOf_2 rfl rfl ?_
  refine z_iload_n B 2 dX5_costsOf_3 rfl rfl ?_
  obtain ⟨w1, v2, q3, h⟩ := hg_bd_some h
  refine z_calliV (a := 0) (ci := 5) (N := 37) (T := TX5) (C := RX5) (As := [.int (hg_I 2), .int (hg_I a1), .int (hg_I a2)]) (n := 3) B dX5_costsOf_4 (c_X5_asksOf q3) (gl_V (wl_17 6 rfl) (wl_17 7 rfl) (wl_17 8 rfl) (wl_1 5 rfl) (wl_17 9 rfl)) rfl ⟨rfl, rfl⟩ (by decide +kernel) ⟨Nat.le_of_ble_eq_true rfl, Nat.le_of_ble_eq_true rfl⟩ (by decide) rfl (by decide) rfl rfl rfl (Nat.le_of_ble_eq_true rfl) ?_
  refine z_istore_n B [(3, .int (hg_I v2)), (0, .ref (ad 0)), (1, .int (hg_I a1)), (2, .int (hg_I a2))] dX5_costsOf_7 rfl (by decide) rfl ?_
  refine z_aload_n B 1 dX5_costsOf_8 rfl rfl ?_
  refine z_get5 (v := .ref (ad 1)) B 1 dX5_costsOf_9 inlX5 (by decide) rfl (by decide) (wl_4 2 rfl) rfl rfl ?_
  refine z_iload_n B 2 dX5_costsOf_12 rfl rfl ?_
  obtain ⟨v4, q5, h⟩ := Option.bind_eq_some_iff.mp h
  refine z_iald (Or.inr rfl) B dX5_costsOf_13 q5 ?_
  by_cases z6 : wr v4 = 2
  · rw [if_pos z6] at h
    refine z_tabIn (off := 30) (tgt := 44) B dX5_costsOf_14 z6 (by decide) rfl (by decide) ?_
    refine z_iconst B dX5_costsOf_44 ?_
    refine z_iload_n B 0 dX5_costsOf_45 rfl rfl ?_
    refine z_imul B dX5_costsOf_46 ?_
    exact z_iret B hr dX5_costsOf_47 h
  rw [if_neg z6] at h
  by_cases z7 : wr v4 = 3
  · rw [if_pos z7] at h
    refine z_tabIn (off := 47) (tgt := 61) B dX5_costsOf_14 z7 (by decide) rfl (by decide) ?_
    refine z_iload_n B 0 dX5_costsOf_61 rfl rfl ?_
    exact z_iret B hr dX5_costsOf_62 h
  rw [if_neg z7] at h
  by_cases z8 : wr v4 = 4
  · rw [if_pos z8] at h
    refine z_tabIn (off := 34) (tgt := 48) B dX5_costsOf_14 z8 (by decide) rfl (by decide) ?_
    refine z_iconst B dX5_costsOf_48 ?_
    refine z_iload_n B 0 dX5_costsOf_49 rfl rfl ?_
    refine z_imul B dX5_costsOf_50 ?_
    refine z_aload_n B 1 dX5_costsOf_51 rfl rfl ?_
    refine z_get5 (v := .ref (ad 2)) B 2 dX5_costsOf_52 inlX5 (by decide) rfl (by decide) (wl_4 3 rfl) rfl rfl ?_
    refine z_iload_n B 2 dX5_costsOf_55 rfl rfl ?_
    obtain ⟨v9, q10, h⟩ := Option.bind_eq_some_iff.mp h
    refine z_iald (Or.inr rfl) B dX5_costsOf_56 q10 ?_
    refine z_isub B dX5_costsOf_57 ?_
    exact z_iret B hr dX5_costsOf_58 h
  rw [if_neg z8] at h
  by_cases z11 : wr v4 = 5
  · rw [if_pos z11] at h
    refine z_tabIn (off := 45) (tgt := 59) B dX5_costsOf_14 z11 (by decide) rfl (by decide) ?_
    refine z_iconst B dX5_costsOf_59 ?_
    exact z_iret B hr dX5_costsOf_60 h
  rw [if_neg z11] at h
  refine z_tabOut (tgt := 61) B dX5_costsOf_14 (by omega) (by decide) ?_
  refine z_iload_n B 0 dX5_costsOf_61 rfl rfl ?_
  exact z_iret B hr dX5_costsOf_62 h
set_option maxHeartbeats 4000000 in
set_option maxRecDepth 100000 in
theorem c_X5_costsOf {l : Launch} {D : va_G} {cI cA : ClassId} {ad : Nat → Nat} {a1 : Int} {a2 : Int} {w w1 : hg_W} {r1 : Int} (h : fX5_costsOf w a1 a2 = some (w1, r1)) : hg_Mi l yX5_costsOf wxX5_costsOf rmX5_costsOf D cI cA ad 1 w [.ref (ad 0), .int (hg_I a1), .int (hg_I a2)] w1 r1 := by
  refine z_meti cX5_costsOf 4 (some .int) (by decide) (Nat.le_of_ble_eq_true rfl) ?_
  intro p e s m args below meth c A B hr
  exact rX5_costsOf_E B hr h
abbrev wxX5_theCoin : List Cond := Cond.code yX5_theCoin cX5_theCoin 11 (some .int) :: wsL_law
def fX5_theCoin_151 (K20 : hg_W → Int → Int → Int → Int → Int → Int → Option (hg_W × Int))  (w : hg_W) (x2 : Int) (x3 : Int) (x4 : Int) (x5 : Int) (x6 : Int) (x7 : Int) : Option (hg_W × Int) :=
  K20 w x2 x3 x4 x5 x6 (x7 + 1)
def fX5_theCoin_149 (K20 : hg_W → Int → Int → Int → Int → Int → Int → Option (hg_W × Int))  (w : hg_W) (x2 : Int) (x3 : Int) (x4 : Int) (x5 : Int) (x7 : Int) (s0 : Int) : Option (hg_W × Int) :=
  fX5_theCoin_151 K20 w x2 x3 x4 x5 s0 x7
def fX5_theCoin_135 (K20 : hg_W → Int → Int → Int → Int → Int → Int → Option (hg_W × Int))  (w : hg_W) (x2 : Int) (x3 : Int) (x4 : Int) (x6 : Int) (x7 : Int) (x8 : Int) (x10 : Int) (s0 : Int) : Option (hg_W × Int) :=
  if wr x10 = 0 then
    (
      fX5_theCoin_149 K20 w x2 x3 x4 s0 x7 x6
    )
  else
    fX5_theCoin_149 K20 w x2 x3 x4 s0 x7 x8
def fX5_theCoin_121 (K20 : hg_W → Int → Int → Int → Int → Int → Int → Option (hg_W × Int))  (w : hg_W) (x2 : Int) (x3 : Int) (x4 : Int) (x5 : Int) (x6 : Int) (x7 : Int) (x8 : Int) (s0 : Int) : Option (hg_W × Int) :=
  if wr s0 = 0 then
    (
      fX5_theCoin_135 K20 w x2 x3 x4 x6 x7 x8 s0 x5
    )
  else
    fX5_theCoin_135 K20 w x2 x3 x4 x6 x7 x8 s0 x7
def fX5_theCoin_116 (K20 : hg_W → Int → Int → Int → Int → Int → Int → Option (hg_W × Int))  (w : hg_W) (x2 : Int) (x3 : Int) (x4 : Int) (x5 : Int) (x6 : Int) (x7 : Int) (x8 : Int) : Option (hg_W × Int) :=
  fX5_theCoin_121 K20 w x2 x3 x4 x5 x6 x7 x8 1
def fX5_theCoin_101 (K20 : hg_W → Int → Int → Int → Int → Int → Int → Option (hg_W × Int))  (w : hg_W) (x2 : Int) (x3 : Int) (x5 : Int) (x6 : Int) (x7 : Int) (x8 : Int) (s0 : Int) : Option (hg_W × Int) :=
  if wr x5 = wr (-1) then
    (
      fX5_theCoin_116 K20 w x2 x3 s0 x5 x6 x7 x8
    )
  else
    if wr x6 ≤ wr x8 then
      (
        fX5_theCoin_121 K20 w x2 x3 s0 x5 x6 x7 x8 0
      )
    else
      fX5_theCoin_116 K20 w x2 x3 s0 x5 x6 x7 x8
def fX5_theCoin_88 (K20 : hg_W → Int → Int → Int → Int → Int → Int → Option (hg_W × Int))  (w : hg_W) (x2 : Int) (x4 : Int) (x5 : Int) (x6 : Int) (x7 : Int) (x8 : Int) (x9 : Int) (s0 : Int) : Option (hg_W × Int) :=
  if wr x9 = 0 then
    (
      fX5_theCoin_101 K20 w x2 s0 x5 x6 x7 x8 x4
    )
  else
    fX5_theCoin_101 K20 w x2 s0 x5 x6 x7 x8 x8
def fX5_theCoin_75 (K20 : hg_W → Int → Int → Int → Int → Int → Int → Option (hg_W × Int))  (w : hg_W) (x2 : Int) (x3 : Int) (x4 : Int) (x5 : Int) (x6 : Int) (x7 : Int) (x8 : Int) (s0 : Int) : Option (hg_W × Int) :=
  if wr s0 = 0 then
    (
      fX5_theCoin_88 K20 w x2 x4 x5 x6 x7 x8 s0 x3
    )
  else
    fX5_theCoin_88 K20 w x2 x4 x5 x6 x7 x8 s0 x7
def fX5_theCoin_74 (K20 : hg_W → Int → Int → Int → Int → Int → Int → Option (hg_W × Int))  (w : hg_W) (x2 : Int) (x3 : Int) (x4 : Int) (x5 : Int) (x6 : Int) (x7 : Int) (x8 : Int) : Option (hg_W × Int) :=
  fX5_theCoin_75 K20 w x2 x3 x4 x5 x6 x7 x8 0
def fX5_theCoin_70 (K20 : hg_W → Int → Int → Int → Int → Int → Int → Option (hg_W × Int))  (w : hg_W) (x2 : Int) (x3 : Int) (x4 : Int) (x5 : Int) (x6 : Int) (x7 : Int) (x8 : Int) : Option (hg_W × Int) :=
  fX5_theCoin_75 K20 w x2 x3 x4 x5 x6 x7 x8 1
def fX5_theCoin_20   : Nat → hg_W → Int → Int → Int → Int → Int → Int → Option (hg_W × Int)
  | 0, _, _, _, _, _, _, _ => none
  | n + 1, w, x2, x3, x4, x5, x6, x7 =>
    if wr 6 ≤ wr x7 then
      (
        if wr x3 = wr (-1) then
          (
            some (w, wr x5)
          )
        else
          some (w, wr x3)
      )
    else
      (hg_ag 1 w 4 ((2 * x7) + 1)).bind fun v1 =>
      if wr v1 ≤ 0 then
        (
          fX5_theCoin_151 (fX5_theCoin_20 n) w x2 x3 x4 x5 x6 x7
        )
      else
        (hg_ag 1 w 4 (2 * x7)).bind fun v3 =>
        if wr x2 < wr v3 then
          (
            fX5_theCoin_74 (fX5_theCoin_20 n) w x2 x3 x4 x5 x6 x7 v3
          )
        else
          if wr x3 = wr (-1) then
            (
              fX5_theCoin_70 (fX5_theCoin_20 n) w x2 x3 x4 x5 x6 x7 v3
            )
          else
            if wr v3 ≤ wr x4 then
              (
                fX5_theCoin_74 (fX5_theCoin_20 n) w x2 x3 x4 x5 x6 x7 v3
              )
            else
              fX5_theCoin_70 (fX5_theCoin_20 n) w x2 x3 x4 x5 x6 x7 v3
def fX5_theCoin (w : hg_W) (a1 : Int) : Option (hg_W × Int) :=
  hg_bd (fX5_takesOf w a1) fun w1 v2 =>
  fX5_theCoin_20 hg_F w1 v2 (-1) 0 (-1) 0 0
set_option maxHeartbeats 4000000 in
set_option maxRecDepth 100000 in
abbrev rmX5_theCoin : Room := { frames := 4, cells := 0, slots := 0, locals := 91 }
set_option maxHeartbeats 4000000 in
set_option maxRecDepth 100000 in
theorem rX5_theCoin_151 (B : hg_B p s m args meth c cX5_theCoin RX5 wsL_law 11 D cI cA ad 1 A) (hr : meth.sig.returnType = (some .int)) {w1 : hg_W} {r1 : Int} {K20 : hg_W → Int → Int → Int → Int → Int → Int → Option (hg_W × Int)} (hK20 : ∀ (w : hg_W) (x2 : Int) (x3 : Int) (x4 : Int) (x5 : Int) (x6 : Int) (x7 : Int), K20 w x2 x3 x4 x5 x6 x7 = some (w1, r1) → hg_At p l e (rmX5_theCoin) s m args below meth c D cI cA ad 1 A (MQ below (hg_Qi D cI cA ad 1 A w1 r1) args s 0 0 A) 11 w [(0, .ref (ad 0)), (2, .int (hg_I x2)), (3, .int (hg_I x3)), (4, .int (hg_I x4)), (5, .int (hg_I x5)), (6, .int (hg_I x6)), (7, .int (hg_I x7))] 20 []) : ∀ (w : hg_W) (x2 : Int) (x3 : Int) (x4 : Int) (x5 : Int) (x6 : Int) (x7 : Int), fX5_theCoin_151 K20 w x2 x3 x4 x5 x6 x7 = some (w1, r1) → hg_At p l e (rmX5_theCoin) s m args below meth c D cI cA ad 1 A (MQ below (hg_Qi D cI cA ad 1 A w1 r1) args s 0 0 A) 11 w [(0, .ref (ad 0)), (2, .int (hg_I x2)), (3, .int (hg_I x3)), (4, .int (hg_I x4)), (5, .int (hg_I x5)), (6, .int (hg_I x6)), (7, .int (hg_I x7))] 151 [] := by
  intro w x2 x3 x4 x5 x6 x7 h
  unfold fX5_theCoin_151 at h
  refine z_iinc B 6 [(7, .int (hg_I (x7 + 1))), (0, .ref (ad 0)), (2, .int (hg_I x2)), (3, .int (hg_I x3)), (4, .int (hg_I x4)), (5, .int (hg_I x5)), (6, .int (hg_I x6))] dX5_theCoin_151 rfl (by decide) rfl ?_
  refine z_goto (tgt := 20) B dX5_theCoin_154 (by decide) ?_
  refine z_lv (lv' := [(0, .ref (ad 0)), (2, .int (hg_I x2)), (3, .int (hg_I x3)), (4, .int (hg_I x4)), (5, .int (hg_I x5)), (6, .int (hg_I x6)), (7, .int (hg_I (x7 + 1)))]) B [1, 2, 3, 4, 5, 6, 0] rfl ?_
  exact hK20 _ _ _ _ _ _ _ h
set_option maxHeartbeats 4000000 in
set_option maxRecDepth 100000 in
theorem rX5_theCoin_149 (B : hg_B p s m args meth c cX5_theCoin RX5 wsL_law 11 D cI cA ad 1 A) (hr : meth.sig.returnType = (some .int)) {w1 : hg_W} {r1 : Int} {K20 : hg_W → Int → Int → Int → Int → Int → Int → Option (hg_W × Int)} (hK20 : ∀ (w : hg_W) (x2 : Int) (x3 : Int) (x4 : Int) (x5 : Int) (x6 : Int) (x7 : Int), K20 w x2 x3 x4 x5 x6 x7 = some (w1, r1) → hg_At p l e (rmX5_theCoin) s m args below meth c D cI cA ad 1 A (MQ below (hg_Qi D cI cA ad 1 A w1 r1) args s 0 0 A) 11 w [(0, .ref (ad 0)), (2, .int (hg_I x2)), (3, .int (hg_I x3)), (4, .int (hg_I x4)), (5, .int (hg_I x5)), (6, .int (hg_I x6)), (7, .int (hg_I x7))] 20 []) : ∀ (w : hg_W) (x2 : Int) (x3 : Int) (x4 : Int) (x5 : Int) (x7 : Int) (s0 : Int), fX5_theCoin_149 K20 w x2 x3 x4 x5 x7 s0 = some (w1, r1) → hg_At p l e (rmX5_theCoin) s m args below meth c D cI cA ad 1 A (MQ below (hg_Qi D cI cA ad 1 A w1 r1) args s 0 0 A) 11 w [(0, .ref (ad 0)), (2, .int (hg_I x2)), (3, .int (hg_I x3)), (4, .int (hg_I x4)), (5, .int (hg_I x5)), (7, .int (hg_I x7))] 149 [.int (hg_I s0)] := by
  intro w x2 x3 x4 x5 x7 s0 h
  unfold fX5_theCoin_149 at h
  refine z_istore B [(6, .int (hg_I s0)), (0, .ref (ad 0)), (2, .int (hg_I x2)), (3, .int (hg_I x3)), (4, .int (hg_I x4)), (5, .int (hg_I x5)), (7, .int (hg_I x7))] dX5_theCoin_149 (by decide) rfl ?_
  refine z_lv (lv' := [(0, .ref (ad 0)), (2, .int (hg_I x2)), (3, .int (hg_I x3)), (4, .int (hg_I x4)), (5, .int (hg_I x5)), (6, .int (hg_I s0)), (7, .int (hg_I x7))]) B [1, 2, 3, 4, 5, 0, 6] rfl ?_
  exact rX5_theCoin_151 B hr hK20 _ _ _ _ _ _ _ h
set_option maxHeartbeats 4000000 in
set_option maxRecDepth 100000 in
theorem rX5_theCoin_135 (B : hg_B p s m args meth c cX5_theCoin RX5 wsL_law 11 D cI cA ad 1 A) (hr : meth.sig.returnType = (some .int)) {w1 : hg_W} {r1 : Int} {K20 : hg_W → Int → Int → Int → Int → Int → Int → Option (hg_W × Int)} (hK20 : ∀ (w : hg_W) (x2 : Int) (x3 : Int) (x4 : Int) (x5 : Int) (x6 : Int) (x7 : Int), K20 w x2 x3 x4 x5 x6 x7 = some (w1, r1) → hg_At p l e (rmX5_theCoin) s m args below meth c D cI cA ad 1 A (MQ below (hg_Qi D cI cA ad 1 A w1 r1) args s 0 0 A) 11 w [(0, .ref (ad 0)), (2, .int (hg_I x2)), (3, .int (hg_I x3)), (4, .int (hg_I x4)), (5, .int (hg_I x5)), (6, .int (hg_I x6)), (7, .int (hg_I x7))] 20 []) : ∀ (w : hg_W) (x2 : Int) (x3 : Int) (x4 : Int) (x6 : Int) (x7 : Int) (x8 : Int) (x10 : Int) (s0 : Int), fX5_theCoin_135 K20 w x2 x3 x4 x6 x7 x8 x10 s0 = some (w1, r1) → hg_At p l e (rmX5_theCoin) s m args below meth c D cI cA ad 1 A (MQ below (hg_Qi D cI cA ad 1 A w1 r1) args s 0 0 A) 11 w [(0, .ref (ad 0)), (2, .int (hg_I x2)), (3, .int (hg_I x3)), (4, .int (hg_I x4)), (6, .int (hg_I x6)), (7, .int (hg_I x7)), (8, .int (hg_I x8)), (10, .int (hg_I x10))] 135 [.int (hg_I s0)] := by
  intro w x2 x3 x4 x6 x7 x8 x10 s0 h
  unfold fX5_theCoin_135 at h
  refine z_istore B [(5, .int (hg_I s0)), (0, .ref (ad 0)), (2, .int (hg_I x2)), (3, .int (hg_I x3)), (4, .int (hg_I x4)), (6, .int (hg_I x6)), (7, .int (hg_I x7)), (8, .int (hg_I x8)), (10, .int (hg_I x10))] dX5_theCoin_135 (by decide) rfl ?_
  refine z_iload B 8 dX5_theCoin_137 rfl ?_
  refine z_if_eq (tgt := 147) B dX5_theCoin_139 (by decide) h (fun h => ?_) (fun h => ?_)
  · refine z_iload B 5 dX5_theCoin_147 rfl ?_
    refine z_lv (lv' := [(0, .ref (ad 0)), (2, .int (hg_I x2)), (3, .int (hg_I x3)), (4, .int (hg_I x4)), (5, .int (hg_I s0)), (7, .int (hg_I x7))]) B [1, 2, 3, 4, 0, 6] rfl ?_
    exact rX5_theCoin_149 B hr hK20 _ _ _ _ _ _ _ h
  · refine z_iload B 7 dX5_theCoin_142 rfl ?_
    refine z_goto (tgt := 149) B dX5_theCoin_144 (by decide) ?_
    refine z_lv (lv' := [(0, .ref (ad 0)), (2, .int (hg_I x2)), (3, .int (hg_I x3)), (4, .int (hg_I x4)), (5, .int (hg_I s0)), (7, .int (hg_I x7))]) B [1, 2, 3, 4, 0, 6] rfl ?_
    exact rX5_theCoin_149 B hr hK20 _ _ _ _ _ _ _ h
set_option maxHeartbeats 4000000 in
set_option maxRecDepth 100000 in
theorem rX5_theCoin_121 (B : hg_B p s m args meth c cX5_theCoin RX5 wsL_law 11 D cI cA ad 1 A) (hr : meth.sig.returnType = (some .int)) {w1 : hg_W} {r1 : Int} {K20 : hg_W → Int → Int → Int → Int → Int → Int → Option (hg_W × Int)} (hK20 : ∀ (w : hg_W) (x2 : Int) (x3 : Int) (x4 : Int) (x5 : Int) (x6 : Int) (x7 : Int), K20 w x2 x3 x4 x5 x6 x7 = some (w1, r1) → hg_At p l e (rmX5_theCoin) s m args below meth c D cI cA ad 1 A (MQ below (hg_Qi D cI cA ad 1 A w1 r1) args s 0 0 A) 11 w [(0, .ref (ad 0)), (2, .int (hg_I x2)), (3, .int (hg_I x3)), (4, .int (hg_I x4)), (5, .int (hg_I x5)), (6, .int (hg_I x6)), (7, .int (hg_I x7))] 20 []) : ∀ (w : hg_W) (x2 : Int) (x3 : Int) (x4 : Int) (x5 : Int) (x6 : Int) (x7 : Int) (x8 : Int) (s0 : Int), fX5_theCoin_121 K20 w x2 x3 x4 x5 x6 x7 x8 s0 = some (w1, r1) → hg_At p l e (rmX5_theCoin) s m args below meth c D cI cA ad 1 A (MQ below (hg_Qi D cI cA ad 1 A w1 r1) args s 0 0 A) 11 w [(0, .ref (ad 0)), (2, .int (hg_I x2)), (3, .int (hg_I x3)), (4, .int (hg_I x4)), (5, .int (hg_I x5)), (6, .int (hg_I x6)), (7, .int (hg_I x7)), (8, .int (hg_I x8))] 121 [.int (hg_I s0)] := by
  intro w x2 x3 x4 x5 x6 x7 x8 s0 h
  unfold fX5_theCoin_121 at h
  refine z_istore B [(10, .int (hg_I s0)), (0, .ref (ad 0)), (2, .int (hg_I x2)), (3, .int (hg_I x3)), (4, .int (hg_I x4)), (5, .int (hg_I x5)), (6, .int (hg_I x6)), (7, .int (hg_I x7)), (8, .int (hg_I x8))] dX5_theCoin_121 (by decide) rfl ?_
  refine z_iload B 0 dX5_theCoin_123 rfl ?_
  refine z_if_eq (tgt := 133) B dX5_theCoin_125 (by decide) h (fun h => ?_) (fun h => ?_)
  · refine z_iload B 5 dX5_theCoin_133 rfl ?_
    refine z_lv (lv' := [(0, .ref (ad 0)), (2, .int (hg_I x2)), (3, .int (hg_I x3)), (4, .int (hg_I x4)), (6, .int (hg_I x6)), (7, .int (hg_I x7)), (8, .int (hg_I x8)), (10, .int (hg_I s0))]) B [1, 2, 3, 4, 6, 7, 8, 0] rfl ?_
    exact rX5_theCoin_135 B hr hK20 _ _ _ _ _ _ _ _ _ h
  · refine z_iload B 7 dX5_theCoin_128 rfl ?_
    refine z_goto (tgt := 135) B dX5_theCoin_130 (by decide) ?_
    refine z_lv (lv' := [(0, .ref (ad 0)), (2, .int (hg_I x2)), (3, .int (hg_I x3)), (4, .int (hg_I x4)), (6, .int (hg_I x6)), (7, .int (hg_I x7)), (8, .int (hg_I x8)), (10, .int (hg_I s0))]) B [1, 2, 3, 4, 6, 7, 8, 0] rfl ?_
    exact rX5_theCoin_135 B hr hK20 _ _ _ _ _ _ _ _ _ h
set_option maxHeartbeats 4000000 in
set_option maxRecDepth 100000 in
theorem rX5_theCoin_116 (B : hg_B p s m args meth c cX5_theCoin RX5 wsL_law 11 D cI cA ad 1 A) (hr : meth.sig.returnType = (some .int)) {w1 : hg_W} {r1 : Int} {K20 : hg_W → Int → Int → Int → Int → Int → Int → Option (hg_W × Int)} (hK20 : ∀ (w : hg_W) (x2 : Int) (x3 : Int) (x4 : Int) (x5 : Int) (x6 : Int) (x7 : Int), K20 w x2 x3 x4 x5 x6 x7 = some (w1, r1) → hg_At p l e (rmX5_theCoin) s m args below meth c D cI cA ad 1 A (MQ below (hg_Qi D cI cA ad 1 A w1 r1) args s 0 0 A) 11 w [(0, .ref (ad 0)), (2, .int (hg_I x2)), (3, .int (hg_I x3)), (4, .int (hg_I x4)), (5, .int (hg_I x5)), (6, .int (hg_I x6)), (7, .int (hg_I x7))] 20 []) : ∀ (w : hg_W) (x2 : Int) (x3 : Int) (x4 : Int) (x5 : Int) (x6 : Int) (x7 : Int) (x8 : Int), fX5_theCoin_116 K20 w x2 x3 x4 x5 x6 x7 x8 = some (w1, r1) → hg_At p l e (rmX5_theCoin) s m args below meth c D cI cA ad 1 A (MQ below (hg_Qi D cI cA ad 1 A w1 r1) args s 0 0 A) 11 w [(0, .ref (ad 0)), (2, .int (hg_I x2)), (3, .int (hg_I x3)), (4, .int (hg_I x4)), (5, .int (hg_I x5)), (6, .int (hg_I x6)), (7, .int (hg_I x7)), (8, .int (hg_I x8))] 116 [] := by
  intro w x2 x3 x4 x5 x6 x7 x8 h
  unfold fX5_theCoin_116 at h
  refine z_iconst B dX5_theCoin_116 ?_
  refine z_goto (tgt := 121) B dX5_theCoin_117 (by decide) ?_
  exact rX5_theCoin_121 B hr hK20 _ _ _ _ _ _ _ _ _ h
set_option maxHeartbeats 4000000 in
set_option maxRecDepth 100000 in
theorem rX5_theCoin_101 (B : hg_B p s m args meth c cX5_theCoin RX5 wsL_law 11 D cI cA ad 1 A) (hr : meth.sig.returnType = (some .int)) {w1 : hg_W} {r1 : Int} {K20 : hg_W → Int → Int → Int → Int → Int → Int → Option (hg_W × Int)} (hK20 : ∀ (w : hg_W) (x2 : Int) (x3 : Int) (x4 : Int) (x5 : Int) (x6 : Int) (x7 : Int), K20 w x2 x3 x4 x5 x6 x7 = some (w1, r1) → hg_At p l e (rmX5_theCoin) s m args below meth c D cI cA ad 1 A (MQ below (hg_Qi D cI cA ad 1 A w1 r1) args s 0 0 A) 11 w [(0, .ref (ad 0)), (2, .int (hg_I x2)), (3, .int (hg_I x3)), (4, .int (hg_I x4)), (5, .int (hg_I x5)), (6, .int (hg_I x6)), (7, .int (hg_I x7))] 20 []) : ∀ (w : hg_W) (x2 : Int) (x3 : Int) (x5 : Int) (x6 : Int) (x7 : Int) (x8 : Int) (s0 : Int), fX5_theCoin_101 K20 w x2 x3 x5 x6 x7 x8 s0 = some (w1, r1) → hg_At p l e (rmX5_theCoin) s m args below meth c D cI cA ad 1 A (MQ below (hg_Qi D cI cA ad 1 A w1 r1) args s 0 0 A) 11 w [(0, .ref (ad 0)), (2, .int (hg_I x2)), (3, .int (hg_I x3)), (5, .int (hg_I x5)), (6, .int (hg_I x6)), (7, .int (hg_I x7)), (8, .int (hg_I x8))] 101 [.int (hg_I s0)] := by
  intro w x2 x3 x5 x6 x7 x8 s0 h
  unfold fX5_theCoin_101 at h
  refine z_istore B [(4, .int (hg_I s0)), (0, .ref (ad 0)), (2, .int (hg_I x2)), (3, .int (hg_I x3)), (5, .int (hg_I x5)), (6, .int (hg_I x6)), (7, .int (hg_I x7)), (8, .int (hg_I x8))] dX5_theCoin_101 (by decide) rfl ?_
  refine z_iload B 4 dX5_theCoin_103 rfl ?_
  refine z_iconst B dX5_theCoin_105 ?_
  refine z_icmp_eq (tgt := 116) B dX5_theCoin_106 (by decide) h (fun h => ?_) (fun h => ?_)
  · refine z_lv (lv' := [(0, .ref (ad 0)), (2, .int (hg_I x2)), (3, .int (hg_I x3)), (4, .int (hg_I s0)), (5, .int (hg_I x5)), (6, .int (hg_I x6)), (7, .int (hg_I x7)), (8, .int (hg_I x8))]) B [1, 2, 3, 0, 4, 5, 6, 7] rfl ?_
    exact rX5_theCoin_116 B hr hK20 _ _ _ _ _ _ _ _ h
  · refine z_iload B 7 dX5_theCoin_109 rfl ?_
    refine z_iload B 5 dX5_theCoin_111 rfl ?_
    refine z_icmp_ge (tgt := 120) B dX5_theCoin_113 (by decide) h (fun h => ?_) (fun h => ?_)
    · refine z_iconst B dX5_theCoin_120 ?_
      refine z_lv (lv' := [(0, .ref (ad 0)), (2, .int (hg_I x2)), (3, .int (hg_I x3)), (4, .int (hg_I s0)), (5, .int (hg_I x5)), (6, .int (hg_I x6)), (7, .int (hg_I x7)), (8, .int (hg_I x8))]) B [1, 2, 3, 0, 4, 5, 6, 7] rfl ?_
      exact rX5_theCoin_121 B hr hK20 _ _ _ _ _ _ _ _ _ h
    · refine z_lv (lv' := [(0, .ref (ad 0)), (2, .int (hg_I x2)), (3, .int (hg_I x3)), (4, .int (hg_I s0)), (5, .int (hg_I x5)), (6, .int (hg_I x6)), (7, .int (hg_I x7)), (8, .int (hg_I x8))]) B [1, 2, 3, 0, 4, 5, 6, 7] rfl ?_
      exact rX5_theCoin_116 B hr hK20 _ _ _ _ _ _ _ _ h
set_option maxHeartbeats 4000000 in
set_option maxRecDepth 100000 in
theorem rX5_theCoin_88 (B : hg_B p s m args meth c cX5_theCoin RX5 wsL_law 11 D cI cA ad 1 A) (hr : meth.sig.returnType = (some .int)) {w1 : hg_W} {r1 : Int} {K20 : hg_W → Int → Int → Int → Int → Int → Int → Option (hg_W × Int)} (hK20 : ∀ (w : hg_W) (x2 : Int) (x3 : Int) (x4 : Int) (x5 : Int) (x6 : Int) (x7 : Int), K20 w x2 x3 x4 x5 x6 x7 = some (w1, r1) → hg_At p l e (rmX5_theCoin) s m args below meth c D cI cA ad 1 A (MQ below (hg_Qi D cI cA ad 1 A w1 r1) args s 0 0 A) 11 w [(0, .ref (ad 0)), (2, .int (hg_I x2)), (3, .int (hg_I x3)), (4, .int (hg_I x4)), (5, .int (hg_I x5)), (6, .int (hg_I x6)), (7, .int (hg_I x7))] 20 []) : ∀ (w : hg_W) (x2 : Int) (x4 : Int) (x5 : Int) (x6 : Int) (x7 : Int) (x8 : Int) (x9 : Int) (s0 : Int), fX5_theCoin_88 K20 w x2 x4 x5 x6 x7 x8 x9 s0 = some (w1, r1) → hg_At p l e (rmX5_theCoin) s m args below meth c D cI cA ad 1 A (MQ below (hg_Qi D cI cA ad 1 A w1 r1) args s 0 0 A) 11 w [(0, .ref (ad 0)), (2, .int (hg_I x2)), (4, .int (hg_I x4)), (5, .int (hg_I x5)), (6, .int (hg_I x6)), (7, .int (hg_I x7)), (8, .int (hg_I x8)), (9, .int (hg_I x9))] 88 [.int (hg_I s0)] := by
  intro w x2 x4 x5 x6 x7 x8 x9 s0 h
  unfold fX5_theCoin_88 at h
  refine z_istore_n B [(3, .int (hg_I s0)), (0, .ref (ad 0)), (2, .int (hg_I x2)), (4, .int (hg_I x4)), (5, .int (hg_I x5)), (6, .int (hg_I x6)), (7, .int (hg_I x7)), (8, .int (hg_I x8)), (9, .int (hg_I x9))] dX5_theCoin_88 rfl (by decide) rfl ?_
  refine z_iload B 8 dX5_theCoin_89 rfl ?_
  refine z_if_eq (tgt := 99) B dX5_theCoin_91 (by decide) h (fun h => ?_) (fun h => ?_)
  · refine z_iload B 3 dX5_theCoin_99 rfl ?_
    refine z_lv (lv' := [(0, .ref (ad 0)), (2, .int (hg_I x2)), (3, .int (hg_I s0)), (5, .int (hg_I x5)), (6, .int (hg_I x6)), (7, .int (hg_I x7)), (8, .int (hg_I x8))]) B [1, 2, 0, 4, 5, 6, 7] rfl ?_
    exact rX5_theCoin_101 B hr hK20 _ _ _ _ _ _ _ _ h
  · refine z_iload B 7 dX5_theCoin_94 rfl ?_
    refine z_goto (tgt := 101) B dX5_theCoin_96 (by decide) ?_
    refine z_lv (lv' := [(0, .ref (ad 0)), (2, .int (hg_I x2)), (3, .int (hg_I s0)), (5, .int (hg_I x5)), (6, .int (hg_I x6)), (7, .int (hg_I x7)), (8, .int (hg_I x8))]) B [1, 2, 0, 4, 5, 6, 7] rfl ?_
    exact rX5_theCoin_101 B hr hK20 _ _ _ _ _ _ _ _ h
set_option maxHeartbeats 4000000 in
set_option maxRecDepth 100000 in
theorem rX5_theCoin_75 (B : hg_B p s m args meth c cX5_theCoin RX5 wsL_law 11 D cI cA ad 1 A) (hr : meth.sig.returnType = (some .int)) {w1 : hg_W} {r1 : Int} {K20 : hg_W → Int → Int → Int → Int → Int → Int → Option (hg_W × Int)} (hK20 : ∀ (w : hg_W) (x2 : Int) (x3 : Int) (x4 : Int) (x5 : Int) (x6 : Int) (x7 : Int), K20 w x2 x3 x4 x5 x6 x7 = some (w1, r1) → hg_At p l e (rmX5_theCoin) s m args below meth c D cI cA ad 1 A (MQ below (hg_Qi D cI cA ad 1 A w1 r1) args s 0 0 A) 11 w [(0, .ref (ad 0)), (2, .int (hg_I x2)), (3, .int (hg_I x3)), (4, .int (hg_I x4)), (5, .int (hg_I x5)), (6, .int (hg_I x6)), (7, .int (hg_I x7))] 20 []) : ∀ (w : hg_W) (x2 : Int) (x3 : Int) (x4 : Int) (x5 : Int) (x6 : Int) (x7 : Int) (x8 : Int) (s0 : Int), fX5_theCoin_75 K20 w x2 x3 x4 x5 x6 x7 x8 s0 = some (w1, r1) → hg_At p l e (rmX5_theCoin) s m args below meth c D cI cA ad 1 A (MQ below (hg_Qi D cI cA ad 1 A w1 r1) args s 0 0 A) 11 w [(0, .ref (ad 0)), (2, .int (hg_I x2)), (3, .int (hg_I x3)), (4, .int (hg_I x4)), (5, .int (hg_I x5)), (6, .int (hg_I x6)), (7, .int (hg_I x7)), (8, .int (hg_I x8))] 75 [.int (hg_I s0)] := by
  intro w x2 x3 x4 x5 x6 x7 x8 s0 h
  unfold fX5_theCoin_75 at h
  refine z_istore B [(9, .int (hg_I s0)), (0, .ref (ad 0)), (2, .int (hg_I x2)), (3, .int (hg_I x3)), (4, .int (hg_I x4)), (5, .int (hg_I x5)), (6, .int (hg_I x6)), (7, .int (hg_I x7)), (8, .int (hg_I x8))] dX5_theCoin_75 (by decide) rfl ?_
  refine z_iload B 0 dX5_theCoin_77 rfl ?_
  refine z_if_eq (tgt := 87) B dX5_theCoin_79 (by decide) h (fun h => ?_) (fun h => ?_)
  · refine z_iload_n B 3 dX5_theCoin_87 rfl rfl ?_
    refine z_lv (lv' := [(0, .ref (ad 0)), (2, .int (hg_I x2)), (4, .int (hg_I x4)), (5, .int (hg_I x5)), (6, .int (hg_I x6)), (7, .int (hg_I x7)), (8, .int (hg_I x8)), (9, .int (hg_I s0))]) B [1, 2, 4, 5, 6, 7, 8, 0] rfl ?_
    exact rX5_theCoin_88 B hr hK20 _ _ _ _ _ _ _ _ _ h
  · refine z_iload B 7 dX5_theCoin_82 rfl ?_
    refine z_goto (tgt := 88) B dX5_theCoin_84 (by decide) ?_
    refine z_lv (lv' := [(0, .ref (ad 0)), (2, .int (hg_I x2)), (4, .int (hg_I x4)), (5, .int (hg_I x5)), (6, .int (hg_I x6)), (7, .int (hg_I x7)), (8, .int (hg_I x8)), (9, .int (hg_I s0))]) B [1, 2, 4, 5, 6, 7, 8, 0] rfl ?_
    exact rX5_theCoin_88 B hr hK20 _ _ _ _ _ _ _ _ _ h
set_option maxHeartbeats 4000000 in
set_option maxRecDepth 100000 in
theorem rX5_theCoin_74 (B : hg_B p s m args meth c cX5_theCoin RX5 wsL_law 11 D cI cA ad 1 A) (hr : meth.sig.returnType = (some .int)) {w1 : hg_W} {r1 : Int} {K20 : hg_W → Int → Int → Int → Int → Int → Int → Option (hg_W × Int)} (hK20 : ∀ (w : hg_W) (x2 : Int) (x3 : Int) (x4 : Int) (x5 : Int) (x6 : Int) (x7 : Int), K20 w x2 x3 x4 x5 x6 x7 = some (w1, r1) → hg_At p l e (rmX5_theCoin) s m args below meth c D cI cA ad 1 A (MQ below (hg_Qi D cI cA ad 1 A w1 r1) args s 0 0 A) 11 w [(0, .ref (ad 0)), (2, .int (hg_I x2)), (3, .int (hg_I x3)), (4, .int (hg_I x4)), (5, .int (hg_I x5)), (6, .int (hg_I x6)), (7, .int (hg_I x7))] 20 []) : ∀ (w : hg_W) (x2 : Int) (x3 : Int) (x4 : Int) (x5 : Int) (x6 : Int) (x7 : Int) (x8 : Int), fX5_theCoin_74 K20 w x2 x3 x4 x5 x6 x7 x8 = some (w1, r1) → hg_At p l e (rmX5_theCoin) s m args below meth c D cI cA ad 1 A (MQ below (hg_Qi D cI cA ad 1 A w1 r1) args s 0 0 A) 11 w [(0, .ref (ad 0)), (2, .int (hg_I x2)), (3, .int (hg_I x3)), (4, .int (hg_I x4)), (5, .int (hg_I x5)), (6, .int (hg_I x6)), (7, .int (hg_I x7)), (8, .int (hg_I x8))] 74 [] := by
  intro w x2 x3 x4 x5 x6 x7 x8 h
  unfold fX5_theCoin_74 at h
  refine z_iconst B dX5_theCoin_74 ?_
  exact rX5_theCoin_75 B hr hK20 _ _ _ _ _ _ _ _ _ h
set_option maxHeartbeats 4000000 in
set_option maxRecDepth 100000 in
theorem rX5_theCoin_70 (B : hg_B p s m args meth c cX5_theCoin RX5 wsL_law 11 D cI cA ad 1 A) (hr : meth.sig.returnType = (some .int)) {w1 : hg_W} {r1 : Int} {K20 : hg_W → Int → Int → Int → Int → Int → Int → Option (hg_W × Int)} (hK20 : ∀ (w : hg_W) (x2 : Int) (x3 : Int) (x4 : Int) (x5 : Int) (x6 : Int) (x7 : Int), K20 w x2 x3 x4 x5 x6 x7 = some (w1, r1) → hg_At p l e (rmX5_theCoin) s m args below meth c D cI cA ad 1 A (MQ below (hg_Qi D cI cA ad 1 A w1 r1) args s 0 0 A) 11 w [(0, .ref (ad 0)), (2, .int (hg_I x2)), (3, .int (hg_I x3)), (4, .int (hg_I x4)), (5, .int (hg_I x5)), (6, .int (hg_I x6)), (7, .int (hg_I x7))] 20 []) : ∀ (w : hg_W) (x2 : Int) (x3 : Int) (x4 : Int) (x5 : Int) (x6 : Int) (x7 : Int) (x8 : Int), fX5_theCoin_70 K20 w x2 x3 x4 x5 x6 x7 x8 = some (w1, r1) → hg_At p l e (rmX5_theCoin) s m args below meth c D cI cA ad 1 A (MQ below (hg_Qi D cI cA ad 1 A w1 r1) args s 0 0 A) 11 w [(0, .ref (ad 0)), (2, .int (hg_I x2)), (3, .int (hg_I x3)), (4, .int (hg_I x4)), (5, .int (hg_I x5)), (6, .int (hg_I x6)), (7, .int (hg_I x7)), (8, .int (hg_I x8))] 70 [] := by
  intro w x2 x3 x4 x5 x6 x7 x8 h
  unfold fX5_theCoin_70 at h
  refine z_iconst B dX5_theCoin_70 ?_
  refine z_goto (tgt := 75) B dX5_theCoin_71 (by decide) ?_
  exact rX5_theCoin_75 B hr hK20 _ _ _ _ _ _ _ _ _ h
set_option maxHeartbeats 4000000 in
set_option maxRecDepth 100000 in
theorem rX5_theCoin_20 (B : hg_B p s m args meth c cX5_theCoin RX5 wsL_law 11 D cI cA ad 1 A) (hr : meth.sig.returnType = (some .int)) {w1 : hg_W} {r1 : Int} : ∀ (n : Nat), ∀ (w : hg_W) (x2 : Int) (x3 : Int) (x4 : Int) (x5 : Int) (x6 : Int) (x7 : Int), fX5_theCoin_20 n w x2 x3 x4 x5 x6 x7 = some (w1, r1) → hg_At p l e (rmX5_theCoin) s m args below meth c D cI cA ad 1 A (MQ below (hg_Qi D cI cA ad 1 A w1 r1) args s 0 0 A) 11 w [(0, .ref (ad 0)), (2, .int (hg_I x2)), (3, .int (hg_I x3)), (4, .int (hg_I x4)), (5, .int (hg_I x5)), (6, .int (hg_I x6)), (7, .int (hg_I x7))] 20 [] := by
  intro n
  induction n with
  | zero =>
    intro w x2 x3 x4 x5 x6 x7 h
    cases h
  | succ n ih =>
    intro w x2 x3 x4 x5 x6 x7 h
    simp only [fX5_theCoin_20] at h
    refine z_iload B 6 dX5_theCoin_20 rfl ?_
    refine z_bipush B dX5_theCoin_22 (by decide) ?_
    refine z_icmp_ge (tgt := 157) B dX5_theCoin_24 (by decide) h (fun h => ?_) (fun h => ?_)
    · refine z_iload_n B 2 dX5_theCoin_157 rfl rfl ?_
      refine z_iconst B dX5_theCoin_158 ?_
      refine z_icmp_ne (tgt := 167) B dX5_theCoin_159 (by decide) h (fun h => ?_) (fun h => ?_)
      · refine z_iload_n B 2 dX5_theCoin_167 rfl rfl ?_
        exact z_iret B hr dX5_theCoin_168 h
      · refine z_iload B 4 dX5_theCoin_162 rfl ?_
        refine z_goto (tgt := 168) B dX5_theCoin_164 (by decide) ?_
        exact z_iret B hr dX5_theCoin_168 h
    · refine z_aload_n B 0 dX5_theCoin_27 rfl rfl ?_
      refine z_get5 (v := .ref (ad 4)) B 4 dX5_theCoin_28 inlX5 (by decide) rfl (by decide) (wl_4 5 rfl) rfl rfl ?_
      refine z_iconst B dX5_theCoin_31 ?_
      refine z_iload B 6 dX5_theCoin_32 rfl ?_
      refine z_imul B dX5_theCoin_34 ?_
      refine z_iconst B dX5_theCoin_35 ?_
      refine z_iadd B dX5_theCoin_36 ?_
      obtain ⟨v1, q2, h⟩ := Option.bind_eq_some_iff.mp h
      refine z_iald (Or.inr rfl) B dX5_theCoin_37 q2 ?_
      refine z_if_le (tgt := 151) B dX5_theCoin_38 (by decide) h (fun h => ?_) (fun h => ?_)
      · exact rX5_theCoin_151 B hr ih _ _ _ _ _ _ _ h
      · refine z_aload_n B 0 dX5_theCoin_41 rfl rfl ?_
        refine z_get5 (v := .ref (ad 4)) B 4 dX5_theCoin_42 inlX5 (by decide) rfl (by decide) (wl_4 5 rfl) rfl rfl ?_
        refine z_iconst B dX5_theCoin_45 ?_
        refine z_iload B 6 dX5_theCoin_46 rfl ?_
        refine z_imul B dX5_theCoin_48 ?_
        obtain ⟨v3, q4, h⟩ := Option.bind_eq_some_iff.mp h
        refine z_iald (Or.inr rfl) B dX5_theCoin_49 q4 ?_
        refine z_istore B [(8, .int (hg_I v3)), (0, .ref (ad 0)), (2, .int (hg_I x2)), (3, .int (hg_I x3)), (4, .int (hg_I x4)), (5, .int (hg_I x5)), (6, .int (hg_I x6)), (7, .int (hg_I x7))] dX5_theCoin_50 (by decide) rfl ?_
        refine z_iload B 0 dX5_theCoin_52 rfl ?_
        refine z_iload_n B 2 dX5_theCoin_54 rfl rfl ?_
        refine z_icmp_gt (tgt := 74) B dX5_theCoin_55 (by decide) h (fun h => ?_) (fun h => ?_)
        · refine z_lv (lv' := [(0, .ref (ad 0)), (2, .int (hg_I x2)), (3, .int (hg_I x3)), (4, .int (hg_I x4)), (5, .int (hg_I x5)), (6, .int (hg_I x6)), (7, .int (hg_I x7)), (8, .int (hg_I v3))]) B [1, 2, 3, 4, 5, 6, 7, 0] rfl ?_
          exact rX5_theCoin_74 B hr ih _ _ _ _ _ _ _ _ h
        · refine z_iload_n B 3 dX5_theCoin_58 rfl rfl ?_
          refine z_iconst B dX5_theCoin_59 ?_
          refine z_icmp_eq (tgt := 70) B dX5_theCoin_60 (by decide) h (fun h => ?_) (fun h => ?_)
          · refine z_lv (lv' := [(0, .ref (ad 0)), (2, .int (hg_I x2)), (3, .int (hg_I x3)), (4, .int (hg_I x4)), (5, .int (hg_I x5)), (6, .int (hg_I x6)), (7, .int (hg_I x7)), (8, .int (hg_I v3))]) B [1, 2, 3, 4, 5, 6, 7, 0] rfl ?_
            exact rX5_theCoin_70 B hr ih _ _ _ _ _ _ _ _ h
          · refine z_iload B 0 dX5_theCoin_63 rfl ?_
            refine z_iload B 4 dX5_theCoin_65 rfl ?_
            refine z_icmp_le (tgt := 74) B dX5_theCoin_67 (by decide) h (fun h => ?_) (fun h => ?_)
            · refine z_lv (lv' := [(0, .ref (ad 0)), (2, .int (hg_I x2)), (3, .int (hg_I x3)), (4, .int (hg_I x4)), (5, .int (hg_I x5)), (6, .int (hg_I x6)), (7, .int (hg_I x7)), (8, .int (hg_I v3))]) B [1, 2, 3, 4, 5, 6, 7, 0] rfl ?_
              exact rX5_theCoin_74 B hr ih _ _ _ _ _ _ _ _ h
            · refine z_lv (lv' := [(0, .ref (ad 0)), (2, .int (hg_I x2)), (3, .int (hg_I x3)), (4, .int (hg_I x4)), (5, .int (hg_I x5)), (6, .int (hg_I x6)), (7, .int (hg_I x7)), (8, .int (hg_I v3))]) B [1, 2, 3, 4, 5, 6, 7, 0] rfl ?_
              exact rX5_theCoin_70 B hr ih _ _ _ _ _ _ _ _ h
set_option maxHeartbeats 4000000 in
set_option maxRecDepth 100000 in
theorem rX5_theCoin_E (B : hg_B p s m args meth c cX5_theCoin RX5 wsL_law 11 D cI cA ad 1 A) (hr : meth.sig.returnType = (some .int)) {a1 : Int} {w1 : hg_W} {r1 : Int} {w : hg_W} (h : fX5_theCoin w a1 = some (w1, r1)) : hg_At p l e (rmX5_theCoin) s m args below meth c D cI cA ad 1 A (MQ below (hg_Qi D cI cA ad 1 A w1 r1) args s 0 0 A) 11 w [(0, .ref (ad 0)), (1, .int (hg_I a1))] 0 [] := by
  unfold fX5_theCoin at h
  refine z_aload_n B 0 dX5_theCoin_0 rfl rfl ?_
  refine z_iload_n B 1 dX5_theCoin_1 rfl rfl ?_
  obtain ⟨w1, v2, q3, h⟩ := hg_bd_some h
  refine z_calliV (a := 0) (ci := 5) (N := 37) (T := TX5) (C := RX5) (As := [.int (hg_I a1)]) (n := 1) B dX5_theCoin_2 (c_X5_takesOf q3) (gl_V (wl_19 15 rfl) (wl_19 16 rfl) (wl_19 17 rfl) (wl_1 5 rfl) (wl_19 18 rfl)) rfl ⟨rfl, rfl⟩ (by decide +kernel) ⟨Nat.le_of_ble_eq_true rfl, Nat.le_of_ble_eq_true rfl⟩ (by decide) rfl (by decide) rfl rfl rfl (Nat.le_of_ble_eq_true rfl) ?_
  refine z_istore_n B [(2, .int (hg_I v2)), (0, .ref (ad 0)), (1, .int (hg_I a1))] dX5_theCoin_5 rfl (by decide) rfl ?_
  refine z_iconst B dX5_theCoin_6 ?_
  refine z_istore_n B [(3, .int (hg_I (-1))), (2, .int (hg_I v2)), (0, .ref (ad 0)), (1, .int (hg_I a1))] dX5_theCoin_7 rfl (by decide) rfl ?_
  refine z_iconst B dX5_theCoin_8 ?_
  refine z_istore B [(4, .int (hg_I 0)), (3, .int (hg_I (-1))), (2, .int (hg_I v2)), (0, .ref (ad 0)), (1, .int (hg_I a1))] dX5_theCoin_9 (by decide) rfl ?_
  refine z_iconst B dX5_theCoin_11 ?_
  refine z_istore B [(5, .int (hg_I (-1))), (4, .int (hg_I 0)), (3, .int (hg_I (-1))), (2, .int (hg_I v2)), (0, .ref (ad 0)), (1, .int (hg_I a1))] dX5_theCoin_12 (by decide) rfl ?_
  refine z_iconst B dX5_theCoin_14 ?_
  refine z_istore B [(6, .int (hg_I 0)), (5, .int (hg_I (-1))), (4, .int (hg_I 0)), (3, .int (hg_I (-1))), (2, .int (hg_I v2)), (0, .ref (ad 0)), (1, .int (hg_I a1))] dX5_theCoin_15 (by decide) rfl ?_
  refine z_iconst B dX5_theCoin_17 ?_
  refine z_istore B [(7, .int (hg_I 0)), (6, .int (hg_I 0)), (5, .int (hg_I (-1))), (4, .int (hg_I 0)), (3, .int (hg_I (-1))), (2, .int (hg_I v2)), (0, .ref (ad 0)), (1, .int (hg_I a1))] dX5_theCoin_18 (by decide) rfl ?_
  refine z_lv (lv' := [(0, .ref (ad 0)), (2, .int (hg_I v2)), (3, .int (hg_I (-1))), (4, .int (hg_I 0)), (5, .int (hg_I (-1))), (6, .int (hg_I 0)), (7, .int (hg_I 0))]) B [6, 5, 4, 3, 2, 1, 0] rfl ?_
  exact rX5_theCoin_20 B hr hg_F _ _ _ _ _ _ _ h
set_option maxHeartbeats 4000000 in
set_option maxRecDepth 100000 in
theorem c_X5_theCoin {l : Launch} {D : va_G} {cI cA : ClassId} {ad : Nat → Nat} {a1 : Int} {w w1 : hg_W} {r1 : Int} (h : fX5_theCoin w a1 = some (w1, r1)) : hg_Mi l yX5_theCoin wxX5_theCoin rmX5_theCoin D cI cA ad 1 w [.ref (ad 0), .int (hg_I a1)] w1 r1 := by
  refine z_meti cX5_theCoin 11 (some .int) (by decide) (Nat.le_of_ble_eq_true rfl) ?_
  intro p e s m args below meth c A B hr
  exact rX5_theCoin_E B hr h
abbrev wxX5_told : List Cond := Cond.code yX5_told cX5_told 3 (some .int) :: wsL_law
def fX5_told_56   (w : hg_W) (x1 : Int) (x2 : Int) : Option (hg_W × Int) :=
  (hg_ag 1 w 3 ((3 * x1) + x2)).bind fun v1 =>
  some (w, wr v1)
def fX5_told (w : hg_W) (a1 : Int) (a2 : Int) : Option (hg_W × Int) :=
  hg_bd (fX5_isOne w a1) fun w1 v2 =>
  if wr v2 = 0 then
    (
      some (w1, wr (-5))
    )
  else
    if wr a2 = 0 then
      (
        fX5_told_56 w1 a1 a2
      )
    else
    if wr a2 = 1 then
      (
        fX5_told_56 w1 a1 a2
      )
    else
    if wr a2 = 2 then
      (
        fX5_told_56 w1 a1 a2
      )
    else
    if wr a2 = 3 then
      (
        (hg_ag 1 w1 1 a1).bind fun v8 =>
        some (w1, wr v8)
      )
    else
    if wr a2 = 4 then
      (
        (hg_ag 1 w1 2 a1).bind fun v11 =>
        some (w1, wr v11)
      )
    else
    if wr a2 = 5 then
      (
        hg_bd (fX5_takesOf w1 a1) fun w14 v15 =>
        some (w14, wr v15)
      )
    else
    if wr a2 = 6 then
      (
        hg_bd (fX5_theCoin w1 a1) fun w18 v19 =>
        some (w18, wr v19)
      )
    else
    some (w1, wr (-7))
set_option maxHeartbeats 4000000 in
set_option maxRecDepth 100000 in
abbrev rmX5_told : Room := { frames := 5, cells := 0, slots := 0, locals := 121 }
set_option maxHeartbeats 4000000 in
set_option maxRecDepth 100000 in
theorem rX5_told_56 (B : hg_B p s m args meth c cX5_told RX5 wsL_law 3 D cI cA ad 1 A) (hr : meth.sig.returnType = (some .int)) {w1 : hg_W} {r1 : Int} : ∀ (w : hg_W) (x1 : Int) (x2 : Int), fX5_told_56 w x1 x2 = some (w1, r1) → hg_At p l e (rmX5_told) s m args below meth c D cI cA ad 1 A (MQ below (hg_Qi D cI cA ad 1 A w1 r1) args s 0 0 A) 3 w [(0, .ref (ad 0)), (1, .int (hg_I x1)), (2, .int (hg_I x2))] 56 [] := by
  intro w x1 x2 h
  unfold fX5_told_56 at h
  refine z_aload_n B 0 dX5_told_56 rfl rfl ?_
  refine z_get5 (v := .ref (ad 3)) B 3 dX5_told_57 inlX5 (by decide) rfl (by decide) (wl_4 4 rfl) rfl rfl ?_
  refine z_iconst B dX5_told_60 ?_
  refine z_iload_n B 1 dX5_told_61 rfl rfl ?_
  refine z_imul B dX5_told_62 ?_
  refine z_iload_n B 2 dX5_told_63 rfl rfl ?_
  refine z_iadd B dX5_told_64 ?_
  obtain ⟨v1, q2, h⟩ := Option.bind_eq_some_iff.mp h
  refine z_iald (Or.inr rfl) B dX5_told_65 q2 ?_
  exact z_iret B hr dX5_told_66 h
set_option maxHeartbeats 4000000 in
set_option maxRecDepth 100000 in
theorem rX5_told_E (B : hg_B p s m args meth c cX5_told RX5 wsL_law 3 D cI cA ad 1 A) (hr : meth.sig.returnType = (some .int)) {a1 : Int} {a2 : Int} {w1 : hg_W} {r1 : Int} {w : hg_W} (h : fX5_told w a1 a2 = some (w1, r1)) : hg_At p l e (rmX5_told) s m args below meth c D cI cA ad 1 A (MQ below (hg_Qi D cI cA ad 1 A w1 r1) args s 0 0 A) 3 w [(0, .ref (ad 0)), (1, .int (hg_I a1)), (2, .int (hg_I a2))] 0 [] := by
  unfold fX5_told at h
  refine z_aload_n B 0 dX5_told_0 rfl rfl ?_
  refine z_iload_n B 1 dX5_told_1 rfl rfl ?_
  obtain ⟨w1, v2, q3, h⟩ := hg_bd_some h
  refine z_calliV (a := 0) (ci := 5) (N := 37) (T := TX5) (C := RX5) (As := [.int (hg_I a1)]) (n := 1) B dX5_told_2 (c_X5_isOne q3) (gl_V (wl_17 2 rfl) (wl_17 3 rfl) (wl_17 4 rfl) (wl_1 5 rfl) (wl_17 5 rfl)) rfl ⟨rfl, rfl⟩ (by decide +kernel) ⟨Nat.le_of_ble_eq_true rfl, Nat.le_of_ble_eq_true rfl⟩ (by decide) rfl (by decide) rfl rfl rfl (Nat.le_of_ble_eq_true rfl) ?_
  refine z_if_ne (tgt := 11) B dX5_told_5 (by decide) h (fun h => ?_) (fun h => ?_)
  · refine z_iload_n B 2 dX5_told_11 rfl rfl ?_
    by_cases z4 : wr a2 = 0
    · rw [if_pos z4] at h
      refine z_tabIn (off := 44) (tgt := 56) B dX5_told_12 z4 (by decide) rfl (by decide) ?_
      exact rX5_told_56 B hr _ _ _ h
    rw [if_neg z4] at h
    by_cases z5 : wr a2 = 1
    · rw [if_pos z5] at h
      refine z_tabIn (off := 44) (tgt := 56) B dX5_told_12 z5 (by decide) rfl (by decide) ?_
      exact rX5_told_56 B hr _ _ _ h
    rw [if_neg z5] at h
    by_cases z6 : wr a2 = 2
    · rw [if_pos z6] at h
      refine z_tabIn (off := 44) (tgt := 56) B dX5_told_12 z6 (by decide) rfl (by decide) ?_
      exact rX5_told_56 B hr _ _ _ h
    rw [if_neg z6] at h
    by_cases z7 : wr a2 = 3
    · rw [if_pos z7] at h
      refine z_tabIn (off := 55) (tgt := 67) B dX5_told_12 z7 (by decide) rfl (by decide) ?_
      refine z_aload_n B 0 dX5_told_67 rfl rfl ?_
      refine z_get5 (v := .ref (ad 1)) B 1 dX5_told_68 inlX5 (by decide) rfl (by decide) (wl_4 2 rfl) rfl rfl ?_
      refine z_iload_n B 1 dX5_told_71 rfl rfl ?_
      obtain ⟨v8, q9, h⟩ := Option.bind_eq_some_iff.mp h
      refine z_iald (Or.inr rfl) B dX5_told_72 q9 ?_
      exact z_iret B hr dX5_told_73 h
    rw [if_neg z7] at h
    by_cases z10 : wr a2 = 4
    · rw [if_pos z10] at h
      refine z_tabIn (off := 62) (tgt := 74) B dX5_told_12 z10 (by decide) rfl (by decide) ?_
      refine z_aload_n B 0 dX5_told_74 rfl rfl ?_
      refine z_get5 (v := .ref (ad 2)) B 2 dX5_told_75 inlX5 (by decide) rfl (by decide) (wl_4 3 rfl) rfl rfl ?_
      refine z_iload_n B 1 dX5_told_78 rfl rfl ?_
      obtain ⟨v11, q12, h⟩ := Option.bind_eq_some_iff.mp h
      refine z_iald (Or.inr rfl) B dX5_told_79 q12 ?_
      exact z_iret B hr dX5_told_80 h
    rw [if_neg z10] at h
    by_cases z13 : wr a2 = 5
    · rw [if_pos z13] at h
      refine z_tabIn (off := 69) (tgt := 81) B dX5_told_12 z13 (by decide) rfl (by decide) ?_
      refine z_aload_n B 0 dX5_told_81 rfl rfl ?_
      refine z_iload_n B 1 dX5_told_82 rfl rfl ?_
      obtain ⟨w14, v15, q16, h⟩ := hg_bd_some h
      refine z_calliV (a := 0) (ci := 5) (N := 37) (T := TX5) (C := RX5) (As := [.int (hg_I a1)]) (n := 1) B dX5_told_83 (c_X5_takesOf q16) (gl_V (wl_19 15 rfl) (wl_19 16 rfl) (wl_19 17 rfl) (wl_1 5 rfl) (wl_19 18 rfl)) rfl ⟨rfl, rfl⟩ (by decide +kernel) ⟨Nat.le_of_ble_eq_true rfl, Nat.le_of_ble_eq_true rfl⟩ (by decide) rfl (by decide) rfl rfl rfl (Nat.le_of_ble_eq_true rfl) ?_
      exact z_iret B hr dX5_told_86 h
    rw [if_neg z13] at h
    by_cases z17 : wr a2 = 6
    · rw [if_pos z17] at h
      refine z_tabIn (off := 75) (tgt := 87) B dX5_told_12 z17 (by decide) rfl (by decide) ?_
      refine z_aload_n B 0 dX5_told_87 rfl rfl ?_
      refine z_iload_n B 1 dX5_told_88 rfl rfl ?_
      obtain ⟨w18, v19, q20, h⟩ := hg_bd_some h
      refine z_calliV (a := 0) (ci := 5) (N := 37) (T := TX5) (C := RX5) (As := [.int (hg_I a1)]) (n := 1) B dX5_told_89 (c_X5_theCoin q20) (gl_V (wl_19 19 rfl) (wl_19 20 rfl) (wl_19 21 rfl) (wl_1 5 rfl) (wl_19 22 rfl)) rfl ⟨rfl, rfl⟩ (by decide +kernel) ⟨Nat.le_of_ble_eq_true rfl, Nat.le_of_ble_eq_true rfl⟩ (by decide) rfl (by decide) rfl rfl rfl (Nat.le_of_ble_eq_true rfl) ?_
      exact z_iret B hr dX5_told_92 h
    rw [if_neg z17] at h
    refine z_tabOut (tgt := 93) B dX5_told_12 (by omega) (by decide) ?_
    refine z_bipush B dX5_told_93 (by decide) ?_
    exact z_iret B hr dX5_told_95 h
  · refine z_bipush B dX5_told_8 (by decide) ?_
    exact z_iret B hr dX5_told_10 h
set_option maxHeartbeats 4000000 in
set_option maxRecDepth 100000 in
theorem c_X5_told {l : Launch} {D : va_G} {cI cA : ClassId} {ad : Nat → Nat} {a1 : Int} {a2 : Int} {w w1 : hg_W} {r1 : Int} (h : fX5_told w a1 a2 = some (w1, r1)) : hg_Mi l yX5_told wxX5_told rmX5_told D cI cA ad 1 w [.ref (ad 0), .int (hg_I a1), .int (hg_I a2)] w1 r1 := by
  refine z_meti cX5_told 3 (some .int) (by decide) (Nat.le_of_ble_eq_true rfl) ?_
  intro p e s m args below meth c A B hr
  exact rX5_told_E B hr h
end G_05_model2
