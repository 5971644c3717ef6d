section G_06_hat1
variable {p : Program} {l : Launch} {e : Env} {s : State} {m : MethodId} {args : Array Value} {below : List Frame} {meth : Method} {c : Code} {D : va_G} {cI cA : ClassId} {ad : Nat → Nat} {A : Nat → Prop}
abbrev wxX0_become : List Cond := Cond.code yX0_become cX0_become 2 none :: wsL_law
def fX0_become (b : Nat) (w : hg_W) (b2 : Nat) : Option (hg_W × Int) :=
  (hg_cp w (b2 + 1) 0 (b + 1) 0 6).bind fun w1 =>
  (hg_cp w1 (b2 + 2) 0 (b + 2) 0 6).bind fun w3 =>
  (hg_cp w3 (b2 + 3) 0 (b + 3) 0 6).bind fun w5 =>
  (hg_cp w5 (b2 + 4) 0 (b + 4) 0 6).bind fun w7 =>
  (hg_cp w7 (b2 + 5) 0 (b + 5) 0 6).bind fun w9 =>
  (hg_cp w9 (b2 + 6) 0 (b + 6) 0 6).bind fun w11 =>
  (hg_cp w11 (b2 + 7) 0 (b + 7) 0 6).bind fun w13 =>
  (hg_pt w13 b 9 (w13 b2 9)).bind fun w15 =>
  (hg_pt w15 b 10 (w15 b2 10)).bind fun w17 =>
  (hg_pt w17 b 11 (w17 b2 11)).bind fun w19 =>
  (hg_pt w19 b 12 (w19 b2 12)).bind fun w21 =>
  (hg_pt w21 b 13 (w21 b2 13)).bind fun w23 =>
  some (w23, 0)
set_option maxHeartbeats 4000000 in
set_option maxRecDepth 100000 in
abbrev rmX0_become : Room := { frames := 1, cells := 0, slots := 0, locals := 26 }
set_option maxHeartbeats 4000000 in
set_option maxRecDepth 100000 in
theorem rX0_become_E (B : hg_B p s m args meth c cX0_become RX0 wsL_law 2 D cI cA ad 0 A) (hr : meth.sig.returnType = none) {b : Nat} {b2 : Nat} (hb0 : hg_rd b) (hb2 : hg_rd b2) {w1 : hg_W} {r1 : Int} {w : hg_W} (h : fX0_become b w b2 = some (w1, r1)) : hg_At p l e (rmX0_become) s m args below meth c D cI cA ad 0 A (MQ below (hg_Qv D cI cA ad 0 A w1) args s 0 0 A) 2 w [(0, .ref (ad b)), (1, .ref (ad b2))] 0 [] := by
  unfold fX0_become at h
  refine z_aload_n B 1 dX0_become_0 rfl rfl ?_
  refine z_get0 (v := .ref (ad (b2 + 1))) B 1 dX0_become_1 inlX0 (hg_rd_lt hb2) (hg_rd_kd hb2) (by decide) (wl_3 6 rfl) rfl rfl ?_
  refine z_iconst B dX0_become_4 ?_
  refine z_aload_n B 0 dX0_become_5 rfl rfl ?_
  refine z_get0 (v := .ref (ad (b + 1))) B 1 dX0_become_6 inlX0 (hg_rd_lt hb0) (hg_rd_kd hb0) (by decide) (wl_3 6 rfl) rfl rfl ?_
  refine z_iconst B dX0_become_9 ?_
  refine z_bipush B dX0_become_10 (by decide) ?_
  obtain ⟨w1, q2, h⟩ := Option.bind_eq_some_iff.mp h
  refine z_copy B rfl dX0_become_12 (wl_23 5 rfl) (wl_23 6 rfl) (wl_23 7 rfl) (wl_23 8 rfl) ⟨Nat.le_of_ble_eq_true rfl, Nat.le_of_ble_eq_true rfl⟩ q2 ?_
  refine z_aload_n B 1 dX0_become_15 rfl rfl ?_
  refine z_get0 (v := .ref (ad (b2 + 2))) B 2 dX0_become_16 inlX0 (hg_rd_lt hb2) (hg_rd_kd hb2) (by decide) (wl_3 7 rfl) rfl rfl ?_
  refine z_iconst B dX0_become_19 ?_
  refine z_aload_n B 0 dX0_become_20 rfl rfl ?_
  refine z_get0 (v := .ref (ad (b + 2))) B 2 dX0_become_21 inlX0 (hg_rd_lt hb0) (hg_rd_kd hb0) (by decide) (wl_3 7 rfl) rfl rfl ?_
  refine z_iconst B dX0_become_24 ?_
  refine z_bipush B dX0_become_25 (by decide) ?_
  obtain ⟨w3, q4, h⟩ := Option.bind_eq_some_iff.mp h
  refine z_copy B rfl dX0_become_27 (wl_23 5 rfl) (wl_23 6 rfl) (wl_23 7 rfl) (wl_23 8 rfl) ⟨Nat.le_of_ble_eq_true rfl, Nat.le_of_ble_eq_true rfl⟩ q4 ?_
  refine z_aload_n B 1 dX0_become_30 rfl rfl ?_
  refine z_get0 (v := .ref (ad (b2 + 3))) B 3 dX0_become_31 inlX0 (hg_rd_lt hb2) (hg_rd_kd hb2) (by decide) (wl_3 8 rfl) rfl rfl ?_
  refine z_iconst B dX0_become_34 ?_
  refine z_aload_n B 0 dX0_become_35 rfl rfl ?_
  refine z_get0 (v := .ref (ad (b + 3))) B 3 dX0_become_36 inlX0 (hg_rd_lt hb0) (hg_rd_kd hb0) (by decide) (wl_3 8 rfl) rfl rfl ?_
  refine z_iconst B dX0_become_39 ?_
  refine z_bipush B dX0_become_40 (by decide) ?_
  obtain ⟨w5, q6, h⟩ := Option.bind_eq_some_iff.mp h
  refine z_copy B rfl dX0_become_42 (wl_23 5 rfl) (wl_23 6 rfl) (wl_23 7 rfl) (wl_23 8 rfl) ⟨Nat.le_of_ble_eq_true rfl, Nat.le_of_ble_eq_true rfl⟩ q6 ?_
  refine z_aload_n B 1 dX0_become_45 rfl rfl ?_
  refine z_get0 (v := .ref (ad (b2 + 4))) B 4 dX0_become_46 inlX0 (hg_rd_lt hb2) (hg_rd_kd hb2) (by decide) (wl_3 9 rfl) rfl rfl ?_
  refine z_iconst B dX0_become_49 ?_
  refine z_aload_n B 0 dX0_become_50 rfl rfl ?_
  refine z_get0 (v := .ref (ad (b + 4))) B 4 dX0_become_51 inlX0 (hg_rd_lt hb0) (hg_rd_kd hb0) (by decide) (wl_3 9 rfl) rfl rfl ?_
  refine z_iconst B dX0_become_54 ?_
  refine z_bipush B dX0_become_55 (by decide) ?_
  obtain ⟨w7, q8, h⟩ := Option.bind_eq_some_iff.mp h
  refine z_copy B rfl dX0_become_57 (wl_23 5 rfl) (wl_23 6 rfl) (wl_23 7 rfl) (wl_23 8 rfl) ⟨Nat.le_of_ble_eq_true rfl, Nat.le_of_ble_eq_true rfl⟩ q8 ?_
  refine z_aload_n B 1 dX0_become_60 rfl rfl ?_
  refine z_get0 (v := .ref (ad (b2 + 5))) B 5 dX0_become_61 inlX0 (hg_rd_lt hb2) (hg_rd_kd hb2) (by decide) (wl_3 10 rfl) rfl rfl ?_
  refine z_iconst B dX0_become_64 ?_
  refine z_aload_n B 0 dX0_become_65 rfl rfl ?_
  refine z_get0 (v := .ref (ad (b + 5))) B 5 dX0_become_66 inlX0 (hg_rd_lt hb0) (hg_rd_kd hb0) (by decide) (wl_3 10 rfl) rfl rfl ?_
  refine z_iconst B dX0_become_69 ?_
  refine z_bipush B dX0_become_70 (by decide) ?_
  obtain ⟨w9, q10, h⟩ := Option.bind_eq_some_iff.mp h
  refine z_copy B rfl dX0_become_72 (wl_23 5 rfl) (wl_23 6 rfl) (wl_23 7 rfl) (wl_23 8 rfl) ⟨Nat.le_of_ble_eq_true rfl, Nat.le_of_ble_eq_true rfl⟩ q10 ?_
  refine z_aload_n B 1 dX0_become_75 rfl rfl ?_
  refine z_get0 (v := .ref (ad (b2 + 6))) B 6 dX0_become_76 inlX0 (hg_rd_lt hb2) (hg_rd_kd hb2) (by decide) (wl_3 11 rfl) rfl rfl ?_
  refine z_iconst B dX0_become_79 ?_
  refine z_aload_n B 0 dX0_become_80 rfl rfl ?_
  refine z_get0 (v := .ref (ad (b + 6))) B 6 dX0_become_81 inlX0 (hg_rd_lt hb0) (hg_rd_kd hb0) (by decide) (wl_3 11 rfl) rfl rfl ?_
  refine z_iconst B dX0_become_84 ?_
  refine z_bipush B dX0_become_85 (by decide) ?_
  obtain ⟨w11, q12, h⟩ := Option.bind_eq_some_iff.mp h
  refine z_copy B rfl dX0_become_87 (wl_23 5 rfl) (wl_23 6 rfl) (wl_23 7 rfl) (wl_23 8 rfl) ⟨Nat.le_of_ble_eq_true rfl, Nat.le_of_ble_eq_true rfl⟩ q12 ?_
  refine z_aload_n B 1 dX0_become_90 rfl rfl ?_
  refine z_get0 (v := .ref (ad (b2 + 7))) B 7 dX0_become_91 inlX0 (hg_rd_lt hb2) (hg_rd_kd hb2) (by decide) (wl_3 12 rfl) rfl rfl ?_
  refine z_iconst B dX0_become_94 ?_
  refine z_aload_n B 0 dX0_become_95 rfl rfl ?_
  refine z_get0 (v := .ref (ad (b + 7))) B 7 dX0_become_96 inlX0 (hg_rd_lt hb0) (hg_rd_kd hb0) (by decide) (wl_3 12 rfl) rfl rfl ?_
  refine z_iconst B dX0_become_99 ?_
  refine z_bipush B dX0_become_100 (by decide) ?_
  obtain ⟨w13, q14, h⟩ := Option.bind_eq_some_iff.mp h
  refine z_copy B rfl dX0_become_102 (wl_23 5 rfl) (wl_23 6 rfl) (wl_23 7 rfl) (wl_23 8 rfl) ⟨Nat.le_of_ble_eq_true rfl, Nat.le_of_ble_eq_true rfl⟩ q14 ?_
  refine z_aload_n B 0 dX0_become_105 rfl rfl ?_
  refine z_aload_n B 1 dX0_become_106 rfl rfl ?_
  refine z_get0 (v := .int (hg_I (w13 b2 9))) B 9 dX0_become_107 inlX0 (hg_rd_lt hb2) (hg_rd_kd hb2) (by decide) (wl_18 4 rfl) rfl rfl ?_
  obtain ⟨w15, q16, h⟩ := Option.bind_eq_some_iff.mp h
  refine z_put0 B 9 dX0_become_110 inlX0 (hg_rd_lt hb0) (hg_rd_kd hb0) (by decide) (wl_18 4 rfl) rfl rfl .int (by decide +kernel) rfl rfl hg_fs0_9 q16 ?_
  refine z_aload_n B 0 dX0_become_113 rfl rfl ?_
  refine z_aload_n B 1 dX0_become_114 rfl rfl ?_
  refine z_get0 (v := .int (hg_I (w15 b2 10))) B 10 dX0_become_115 inlX0 (hg_rd_lt hb2) (hg_rd_kd hb2) (by decide) (wl_8 19 rfl) rfl rfl ?_
  obtain ⟨w17, q18, h⟩ := Option.bind_eq_some_iff.mp h
  refine z_put0 B 10 dX0_become_118 inlX0 (hg_rd_lt hb0) (hg_rd_kd hb0) (by decide) (wl_8 19 rfl) rfl rfl .int (by decide +kernel) rfl rfl hg_fs0_10 q18 ?_
  refine z_aload_n B 0 dX0_become_121 rfl rfl ?_
  refine z_aload_n B 1 dX0_become_122 rfl rfl ?_
  refine z_get0 (v := .int (hg_I (w17 b2 11))) B 11 dX0_become_123 inlX0 (hg_rd_lt hb2) (hg_rd_kd hb2) (by decide) (wl_21 7 rfl) rfl rfl ?_
  obtain ⟨w19, q20, h⟩ := Option.bind_eq_some_iff.mp h
  refine z_put0 B 11 dX0_become_126 inlX0 (hg_rd_lt hb0) (hg_rd_kd hb0) (by decide) (wl_21 7 rfl) rfl rfl .int (by decide +kernel) rfl rfl hg_fs0_11 q20 ?_
  refine z_aload_n B 0 dX0_become_129 rfl rfl ?_
  refine z_aload_n B 1 dX0_become_130 rfl rfl ?_
  refine z_get0 (v := .int (hg_I (w19 b2 12))) B 12 dX0_become_131 inlX0 (hg_rd_lt hb2) (hg_rd_kd hb2) (by decide) (wl_16 10 rfl) rfl rfl ?_
  obtain ⟨w21, q22, h⟩ := Option.bind_eq_some_iff.mp h
  refine z_put0 B 12 dX0_become_134 inlX0 (hg_rd_lt hb0) (hg_rd_kd hb0) (by decide) (wl_16 10 rfl) rfl rfl .int (by decide +kernel) rfl rfl hg_fs0_12 q22 ?_
  refine z_aload_n B 0 dX0_become_137 rfl rfl ?_
  refine z_aload_n B 1 dX0_become_138 rfl rfl ?_
  refine z_get0 (v := .int (hg_I (w21 b2 13))) B 13 dX0_become_139 inlX0 (hg_rd_lt hb2) (hg_rd_kd hb2) (by decide) (wl_16 11 rfl) rfl rfl ?_
  obtain ⟨w23, q24, h⟩ := Option.bind_eq_some_iff.mp h
  refine z_put0 B 13 dX0_become_142 inlX0 (hg_rd_lt hb0) (hg_rd_kd hb0) (by decide) (wl_16 11 rfl) rfl rfl .int (by decide +kernel) rfl rfl hg_fs0_13 q24 ?_
  exact z_vret B hr dX0_become_145 h
set_option maxHeartbeats 4000000 in
set_option maxRecDepth 100000 in
theorem c_X0_become {l : Launch} {D : va_G} {cI cA : ClassId} {ad : Nat → Nat} {b : Nat} {b2 : Nat} (hb0 : hg_rd b) (hb2 : hg_rd b2) {w w1 : hg_W} {r1 : Int} (h : fX0_become b w b2 = some (w1, r1)) : hg_Mv l yX0_become wxX0_become rmX0_become D cI cA ad 0 w [.ref (ad b), .ref (ad b2)] w1 := by
  refine z_metv cX0_become 2 none (by decide) (Nat.le_of_ble_eq_true rfl) ?_
  intro p e s m args below meth c A B hr
  exact rX0_become_E B hr hb0 hb2 h
abbrev wxX0_setInHat : List Cond := Cond.code yX0_setInHat cX0_setInHat 3 none :: wsL_law
def fX0_setInHat (b : Nat) (w : hg_W) (a1 : Int) (a2 : Int) : Option (hg_W × Int) :=
  (hg_ag 0 w (b + 2) a1).bind fun v1 =>
  (hg_pt w b 10 ((w b 10) + (a2 - v1))).bind fun w3 =>
  (hg_as 0 w3 (b + 2) a1 a2).bind fun w5 =>
  some (w5, 0)
set_option maxHeartbeats 4000000 in
set_option maxRecDepth 100000 in
abbrev rmX0_setInHat : Room := { frames := 0, cells := 0, slots := 0, locals := 0 }
set_option maxHeartbeats 4000000 in
set_option maxRecDepth 100000 in
theorem rX0_setInHat_E (B : hg_B p s m args meth c cX0_setInHat RX0 wsL_law 3 D cI cA ad 0 A) (hr : meth.sig.returnType = none) {b : Nat} (hb0 : hg_rd b) {a1 : Int} {a2 : Int} {w1 : hg_W} {r1 : Int} {w : hg_W} (h : fX0_setInHat b w a1 a2 = some (w1, r1)) : hg_At p l e (rmX0_setInHat) s m args below meth c D cI cA ad 0 A (MQ below (hg_Qv D cI cA ad 0 A w1) args s 0 0 A) 3 w [(0, .ref (ad b)), (1, .int (hg_I a1)), (2, .int (hg_I a2))] 0 [] := by
  unfold fX0_setInHat at h
  refine z_aload_n B 0 dX0_setInHat_0 rfl rfl ?_
  refine z_dup B dX0_setInHat_1 rfl ?_
  refine z_get0 (v := .int (hg_I (w b 10))) B 10 dX0_setInHat_2 inlX0 (hg_rd_lt hb0) (hg_rd_kd hb0) (by decide) (wl_8 19 rfl) rfl rfl ?_
  refine z_iload_n B 2 dX0_setInHat_5 rfl rfl ?_
  refine z_aload_n B 0 dX0_setInHat_6 rfl rfl ?_
  refine z_get0 (v := .ref (ad (b + 2))) B 2 dX0_setInHat_7 inlX0 (hg_rd_lt hb0) (hg_rd_kd hb0) (by decide) (wl_3 7 rfl) rfl rfl ?_
  refine z_iload_n B 1 dX0_setInHat_10 rfl rfl ?_
  obtain ⟨v1, q2, h⟩ := Option.bind_eq_some_iff.mp h
  refine z_iald (Or.inl rfl) B dX0_setInHat_11 q2 ?_
  refine z_isub B dX0_setInHat_12 ?_
  refine z_iadd B dX0_setInHat_13 ?_
  obtain ⟨w3, q4, h⟩ := Option.bind_eq_some_iff.mp h
  refine z_put0 B 10 dX0_setInHat_14 inlX0 (hg_rd_lt hb0) (hg_rd_kd hb0) (by decide) (wl_8 19 rfl) rfl rfl .int (by decide +kernel) rfl rfl hg_fs0_10 q4 ?_
  refine z_aload_n B 0 dX0_setInHat_17 rfl rfl ?_
  refine z_get0 (v := .ref (ad (b + 2))) B 2 dX0_setInHat_18 inlX0 (hg_rd_lt hb0) (hg_rd_kd hb0) (by decide) (wl_3 7 rfl) rfl rfl ?_
  refine z_iload_n B 1 dX0_setInHat_21 rfl rfl ?_
  refine z_iload_n B 2 dX0_setInHat_22 rfl rfl ?_
  obtain ⟨w5, q6, h⟩ := Option.bind_eq_some_iff.mp h
  refine z_iast (Or.inl rfl) B dX0_setInHat_23 q6 ?_
  exact z_vret B hr dX0_setInHat_24 h
set_option maxHeartbeats 4000000 in
set_option maxRecDepth 100000 in
theorem c_X0_setInHat {l : Launch} {D : va_G} {cI cA : ClassId} {ad : Nat → Nat} {b : Nat} (hb0 : hg_rd b) {a1 : Int} {a2 : Int} {w w1 : hg_W} {r1 : Int} (h : fX0_setInHat b w a1 a2 = some (w1, r1)) : hg_Mv l yX0_setInHat wxX0_setInHat rmX0_setInHat D cI cA ad 0 w [.ref (ad b), .int (hg_I a1), .int (hg_I a2)] w1 := by
  refine z_metv cX0_setInHat 3 none (by decide) (Nat.le_of_ble_eq_true rfl) ?_
  intro p e s m args below meth c A B hr
  exact rX0_setInHat_E B hr hb0 h
abbrev wxX0_worthOfAll : List Cond := Cond.code yX0_worthOfAll cX0_worthOfAll 3 (some .int) :: wsL_law
def fX0_worthOfAll_4  (b : Nat) : Nat → hg_W → Int → Int → Option (hg_W × Int)
  | 0, _, _, _ => none
  | n + 1, w, x1, x2 =>
    if wr 6 ≤ wr x2 then
      (
        some (w, wr x1)
      )
    else
      (hg_ag 0 w (b + 1) x2).bind fun v1 =>
      (hg_ag 0 w (b + 2) x2).bind fun v3 =>
      fX0_worthOfAll_4 b n w (x1 + (v1 * v3)) (x2 + 1)
def fX0_worthOfAll (b : Nat) (w : hg_W) : Option (hg_W × Int) :=
  fX0_worthOfAll_4 b hg_F w 0 0
set_option maxHeartbeats 4000000 in
set_option maxRecDepth 100000 in
abbrev rmX0_worthOfAll : Room := { frames := 0, cells := 0, slots := 0, locals := 0 }
set_option maxHeartbeats 4000000 in
set_option maxRecDepth 100000 in
theorem rX0_worthOfAll_4 (B : hg_B p s m args meth c cX0_worthOfAll RX0 wsL_law 3 D cI cA ad 0 A) (hr : meth.sig.returnType = (some .int)) {b : Nat} (hb0 : hg_rd b) {w1 : hg_W} {r1 : Int} : ∀ (n : Nat), ∀ (w : hg_W) (x1 : Int) (x2 : Int), fX0_worthOfAll_4 b n w x1 x2 = some (w1, r1) → hg_At p l e (rmX0_worthOfAll) s m args below meth c D cI cA ad 0 A (MQ below (hg_Qi D cI cA ad 0 A w1 r1) args s 0 0 A) 3 w [(0, .ref (ad b)), (1, .int (hg_I x1)), (2, .int (hg_I x2))] 4 [] := by
  intro n
  induction n with
  | zero =>
    intro w x1 x2 h
    cases h
  | succ n ih =>
    intro w x1 x2 h
    simp only [fX0_worthOfAll_4] at h
    refine z_iload_n B 2 dX0_worthOfAll_4 rfl rfl ?_
    refine z_bipush B dX0_worthOfAll_5 (by decide) ?_
    refine z_icmp_ge (tgt := 32) B dX0_worthOfAll_7 (by decide) h (fun h => ?_) (fun h => ?_)
    · refine z_iload_n B 1 dX0_worthOfAll_32 rfl rfl ?_
      exact z_iret B hr dX0_worthOfAll_33 h
    · refine z_iload_n B 1 dX0_worthOfAll_10 rfl rfl ?_
      refine z_aload_n B 0 dX0_worthOfAll_11 rfl rfl ?_
      refine z_get0 (v := .ref (ad (b + 1))) B 1 dX0_worthOfAll_12 inlX0 (hg_rd_lt hb0) (hg_rd_kd hb0) (by decide) (wl_3 6 rfl) rfl rfl ?_
      refine z_iload_n B 2 dX0_worthOfAll_15 rfl rfl ?_
      obtain ⟨v1, q2, h⟩ := Option.bind_eq_some_iff.mp h
      refine z_iald (Or.inl rfl) B dX0_worthOfAll_16 q2 ?_
      refine z_aload_n B 0 dX0_worthOfAll_17 rfl rfl ?_
      refine z_get0 (v := .ref (ad (b + 2))) B 2 dX0_worthOfAll_18 inlX0 (hg_rd_lt hb0) (hg_rd_kd hb0) (by decide) (wl_3 7 rfl) rfl rfl ?_
      refine z_iload_n B 2 dX0_worthOfAll_21 rfl rfl ?_
      obtain ⟨v3, q4, h⟩ := Option.bind_eq_some_iff.mp h
      refine z_iald (Or.inl rfl) B dX0_worthOfAll_22 q4 ?_
      refine z_imul B dX0_worthOfAll_23 ?_
      refine z_iadd B dX0_worthOfAll_24 ?_
      refine z_istore_n B [(1, .int (hg_I (x1 + (v1 * v3)))), (0, .ref (ad b)), (2, .int (hg_I x2))] dX0_worthOfAll_25 rfl (by decide) rfl ?_
      refine z_iinc B 2 [(2, .int (hg_I (x2 + 1))), (1, .int (hg_I (x1 + (v1 * v3)))), (0, .ref (ad b))] dX0_worthOfAll_26 rfl (by decide) rfl ?_
      refine z_goto (tgt := 4) B dX0_worthOfAll_29 (by decide) ?_
      refine z_lv (lv' := [(0, .ref (ad b)), (1, .int (hg_I (x1 + (v1 * v3)))), (2, .int (hg_I (x2 + 1)))]) B [2, 1, 0] rfl ?_
      exact ih _ _ _ h
set_option maxHeartbeats 4000000 in
set_option maxRecDepth 100000 in
theorem rX0_worthOfAll_E (B : hg_B p s m args meth c cX0_worthOfAll RX0 wsL_law 3 D cI cA ad 0 A) (hr : meth.sig.returnType = (some .int)) {b : Nat} (hb0 : hg_rd b) {w1 : hg_W} {r1 : Int} {w : hg_W} (h : fX0_worthOfAll b w = some (w1, r1)) : hg_At p l e (rmX0_worthOfAll) s m args below meth c D cI cA ad 0 A (MQ below (hg_Qi D cI cA ad 0 A w1 r1) args s 0 0 A) 3 w [(0, .ref (ad b))] 0 [] := by
  unfold fX0_worthOfAll at h
  refine z_iconst B dX0_worthOfAll_0 ?_
  refine z_istore_n B [(1, .int (hg_I 0)), (0, .ref (ad b))] dX0_worthOfAll_1 rfl (by decide) rfl ?_
  refine z_iconst B dX0_worthOfAll_2 ?_
  refine z_istore_n B [(2, .int (hg_I 0)), (1, .int (hg_I 0)), (0, .ref (ad b))] dX0_worthOfAll_3 rfl (by decide) rfl ?_
  refine z_lv (lv' := [(0, .ref (ad b)), (1, .int (hg_I 0)), (2, .int (hg_I 0))]) B [2, 1, 0] rfl ?_
  exact rX0_worthOfAll_4 B hr hb0 hg_F _ _ _ h
set_option maxHeartbeats 4000000 in
set_option maxRecDepth 100000 in
theorem c_X0_worthOfAll {l : Launch} {D : va_G} {cI cA : ClassId} {ad : Nat → Nat} {b : Nat} (hb0 : hg_rd b) {w w1 : hg_W} {r1 : Int} (h : fX0_worthOfAll b w = some (w1, r1)) : hg_Mi l yX0_worthOfAll wxX0_worthOfAll rmX0_worthOfAll D cI cA ad 0 w [.ref (ad b)] w1 r1 := by
  refine z_meti cX0_worthOfAll 3 (some .int) (by decide) (Nat.le_of_ble_eq_true rfl) ?_
  intro p e s m args below meth c A B hr
  exact rX0_worthOfAll_E B hr hb0 h
abbrev wxX0_comes : List Cond := Cond.code yX0_comes cX0_comes 4 (some .int) :: wsL_law
def fX0_comes (b : Nat) (w : hg_W) (a1 : Int) (a2 : Int) : Option (hg_W × Int) :=
  if wr (w b 9) < 0 then
    (
      some (w, wr (-4))
    )
  else
    if wr (w b 9) < wr 6 then
      (
        (hg_as 0 w (b + 3) (w b 9) (hg_dv a1 10)).bind fun w1 =>
        (hg_as 0 w1 (b + 4) (w b 9) (hg_rm a1 10)).bind fun w3 =>
        (hg_as 0 w3 (b + 5) (w b 9) a2).bind fun w5 =>
        (hg_as 0 w5 (b + 6) (w b 9) 0).bind fun w7 =>
        (hg_as 0 w7 (b + 7) (w b 9) 0).bind fun w9 =>
        (hg_pt w9 b 9 ((w b 9) + 1)).bind fun w11 =>
        some (w11, wr (w b 9))
      )
    else
      some (w, wr (-4))
set_option maxHeartbeats 4000000 in
set_option maxRecDepth 100000 in
abbrev rmX0_comes : Room := { frames := 0, cells := 0, slots := 0, locals := 0 }
set_option maxHeartbeats 4000000 in
set_option maxRecDepth 100000 in
theorem rX0_comes_E (B : hg_B p s m args meth c cX0_comes RX0 wsL_law 4 D cI cA ad 0 A) (hr : meth.sig.returnType = (some .int)) {b : Nat} (hb0 : hg_rd b) {a1 : Int} {a2 : Int} {w1 : hg_W} {r1 : Int} {w : hg_W} (h : fX0_comes b w a1 a2 = some (w1, r1)) : hg_At p l e (rmX0_comes) s m args below meth c D cI cA ad 0 A (MQ below (hg_Qi D cI cA ad 0 A w1 r1) args s 0 0 A) 4 w [(0, .ref (ad b)), (1, .int (hg_I a1)), (2, .int (hg_I a2))] 0 [] := by
  unfold fX0_comes at h
  refine z_aload_n B 0 dX0_comes_0 rfl rfl ?_
  refine z_get0 (v := .int (hg_I (w b 9))) B 9 dX0_comes_1 inlX0 (hg_rd_lt hb0) (hg_rd_kd hb0) (by decide) (wl_18 4 rfl) rfl rfl ?_
  refine z_istore_n B [(3, .int (hg_I (w b 9))), (0, .ref (ad b)), (1, .int (hg_I a1)), (2, .int (hg_I a2))] dX0_comes_4 rfl (by decide) rfl ?_
  refine z_iload_n B 0 dX0_comes_5 rfl rfl ?_
  refine z_if_lt (tgt := 15) B dX0_comes_6 (by decide) h (fun h => ?_) (fun h => ?_)
  · refine z_bipush B dX0_comes_15 (by decide) ?_
    exact z_iret B hr dX0_comes_17 h
  · refine z_iload_n B 0 dX0_comes_9 rfl rfl ?_
    refine z_bipush B dX0_comes_10 (by decide) ?_
    refine z_icmp_lt (tgt := 18) B dX0_comes_12 (by decide) h (fun h => ?_) (fun h => ?_)
    · refine z_aload_n B 1 dX0_comes_18 rfl rfl ?_
      refine z_get0 (v := .ref (ad (b + 3))) B 3 dX0_comes_19 inlX0 (hg_rd_lt hb0) (hg_rd_kd hb0) (by decide) (wl_3 8 rfl) rfl rfl ?_
      refine z_iload_n B 0 dX0_comes_22 rfl rfl ?_
      refine z_iload_n B 2 dX0_comes_23 rfl rfl ?_
      refine z_bipush B dX0_comes_24 (by decide) ?_
      refine z_idiv B dX0_comes_26 (by decide) ?_
      obtain ⟨w1, q2, h⟩ := Option.bind_eq_some_iff.mp h
      refine z_iast (Or.inl rfl) B dX0_comes_27 q2 ?_
      refine z_aload_n B 1 dX0_comes_28 rfl rfl ?_
      refine z_get0 (v := .ref (ad (b + 4))) B 4 dX0_comes_29 inlX0 (hg_rd_lt hb0) (hg_rd_kd hb0) (by decide) (wl_3 9 rfl) rfl rfl ?_
      refine z_iload_n B 0 dX0_comes_32 rfl rfl ?_
      refine z_iload_n B 2 dX0_comes_33 rfl rfl ?_
      refine z_bipush B dX0_comes_34 (by decide) ?_
      refine z_irem B dX0_comes_36 (by decide) ?_
      obtain ⟨w3, q4, h⟩ := Option.bind_eq_some_iff.mp h
      refine z_iast (Or.inl rfl) B dX0_comes_37 q4 ?_
      refine z_aload_n B 1 dX0_comes_38 rfl rfl ?_
      refine z_get0 (v := .ref (ad (b + 5))) B 5 dX0_comes_39 inlX0 (hg_rd_lt hb0) (hg_rd_kd hb0) (by decide) (wl_3 10 rfl) rfl rfl ?_
      refine z_iload_n B 0 dX0_comes_42 rfl rfl ?_
      refine z_iload_n B 3 dX0_comes_43 rfl rfl ?_
      obtain ⟨w5, q6, h⟩ := Option.bind_eq_some_iff.mp h
      refine z_iast (Or.inl rfl) B dX0_comes_44 q6 ?_
      refine z_aload_n B 1 dX0_comes_45 rfl rfl ?_
      refine z_get0 (v := .ref (ad (b + 6))) B 6 dX0_comes_46 inlX0 (hg_rd_lt hb0) (hg_rd_kd hb0) (by decide) (wl_3 11 rfl) rfl rfl ?_
      refine z_iload_n B 0 dX0_comes_49 rfl rfl ?_
      refine z_iconst B dX0_comes_50 ?_
      obtain ⟨w7, q8, h⟩ := Option.bind_eq_some_iff.mp h
      refine z_iast (Or.inl rfl) B dX0_comes_51 q8 ?_
      refine z_aload_n B 1 dX0_comes_52 rfl rfl ?_
      refine z_get0 (v := .ref (ad (b + 7))) B 7 dX0_comes_53 inlX0 (hg_rd_lt hb0) (hg_rd_kd hb0) (by decide) (wl_3 12 rfl) rfl rfl ?_
      refine z_iload_n B 0 dX0_comes_56 rfl rfl ?_
      refine z_iconst B dX0_comes_57 ?_
      obtain ⟨w9, q10, h⟩ := Option.bind_eq_some_iff.mp h
      refine z_iast (Or.inl rfl) B dX0_comes_58 q10 ?_
      refine z_aload_n B 1 dX0_comes_59 rfl rfl ?_
      refine z_iload_n B 0 dX0_comes_60 rfl rfl ?_
      refine z_iconst B dX0_comes_61 ?_
      refine z_iadd B dX0_comes_62 ?_
      obtain ⟨w11, q12, h⟩ := Option.bind_eq_some_iff.mp h
      refine z_put0 B 9 dX0_comes_63 inlX0 (hg_rd_lt hb0) (hg_rd_kd hb0) (by decide) (wl_18 4 rfl) rfl rfl .int (by decide +kernel) rfl rfl hg_fs0_9 q12 ?_
      refine z_iload_n B 0 dX0_comes_66 rfl rfl ?_
      exact z_iret B hr dX0_comes_67 h
    · refine z_bipush B dX0_comes_15 (by decide) ?_
      exact z_iret B hr dX0_comes_17 h
set_option maxHeartbeats 4000000 in
set_option maxRecDepth 100000 in
theorem c_X0_comes {l : Launch} {D : va_G} {cI cA : ClassId} {ad : Nat → Nat} {b : Nat} (hb0 : hg_rd b) {a1 : Int} {a2 : Int} {w w1 : hg_W} {r1 : Int} (h : fX0_comes b w a1 a2 = some (w1, r1)) : hg_Mi l yX0_comes wxX0_comes rmX0_comes D cI cA ad 0 w [.ref (ad b), .int (hg_I a1), .int (hg_I a2)] w1 r1 := by
  refine z_meti cX0_comes 4 (some .int) (by decide) (Nat.le_of_ble_eq_true rfl) ?_
  intro p e s m args below meth c A B hr
  exact rX0_comes_E B hr hb0 h
abbrev wxX3_joined : List Cond := Cond.code yX3_joined cX3_joined 3 (some .int) :: wsL_law
def fX3_joined_52   (w : hg_W) : Option (hg_W × Int) :=
  some (w, wr 1)
def fX3_joined (w : hg_W) (a1 : Int) (a2 : Int) (a3 : Int) : Option (hg_W × Int) :=
  if wr a1 = (-13) then
    (
      some (w, wr (a2 - a3))
    )
  else
  if wr a1 = (-12) then
    (
      some (w, wr (a2 + a3))
    )
  else
  if wr a1 = (-11) then
    (
      if wr a2 = wr a3 then
        (
          some (w, wr 1)
        )
      else
        some (w, wr 0)
    )
  else
  if wr a1 = (-10) then
    (
      if wr a3 ≤ wr a2 then
        (
          some (w, wr 0)
        )
      else
        some (w, wr 1)
    )
  else
  if wr a1 = (-9) then
    (
      some (w, wr (a2 * a3))
    )
  else
  if wr a1 = (-8) then
    (
      if wr a2 = 0 then
        (
          some (w, wr 0)
        )
      else
        if wr a3 = 0 then
          (
            some (w, wr 0)
          )
        else
          some (w, wr 1)
    )
  else
  if wr a1 = (-7) then
    (
      if wr a2 = 0 then
        (
          if wr a3 = 0 then
            (
              some (w, wr 0)
            )
          else
            fX3_joined_52 w
        )
      else
        fX3_joined_52 w
    )
  else
  some (w, wr (a2 * a3))
set_option maxHeartbeats 4000000 in
set_option maxRecDepth 100000 in
abbrev rmX3_joined : Room := { frames := 0, cells := 0, slots := 0, locals := 0 }
set_option maxHeartbeats 4000000 in
set_option maxRecDepth 100000 in
theorem rX3_joined_52 (B : hg_B p s m args meth c cX3_joined RX3 wsL_law 3 D cI cA ad 0 A) (hr : meth.sig.returnType = (some .int)) {w1 : hg_W} {r1 : Int} : ∀ (w : hg_W), fX3_joined_52 w = some (w1, r1) → hg_At p l e (rmX3_joined) s m args below meth c D cI cA ad 0 A (MQ below (hg_Qi D cI cA ad 0 A w1 r1) args s 0 0 A) 3 w [] 52 [] := by
  intro w h
  unfold fX3_joined_52 at h
  refine z_iconst B dX3_joined_52 ?_
  refine z_goto (tgt := 57) B dX3_joined_53 (by decide) ?_
  exact z_iret B hr dX3_joined_57 h
set_option maxHeartbeats 4000000 in
set_option maxRecDepth 100000 in
theorem rX3_joined_E (B : hg_B p s m args meth c cX3_joined RX3 wsL_law 3 D cI cA ad 0 A) (hr : meth.sig.returnType = (some .int)) {a1 : Int} {a2 : Int} {a3 : Int} {w1 : hg_W} {r1 : Int} {w : hg_W} (h : fX3_joined w a1 a2 a3 = some (w1, r1)) : hg_At p l e (rmX3_joined) s m args below meth c D cI cA ad 0 A (MQ below (hg_Qi D cI cA ad 0 A w1 r1) args s 0 0 A) 3 w [(0, .int (hg_I a1)), (1, .int (hg_I a2)), (2, .int (hg_I a3))] 0 [] := by
  unfold fX3_joined at h
  refine z_iload_n B 0 dX3_joined_0 rfl rfl ?_
  by_cases z1 : wr a1 = (-13)
  · rw [if_pos z1] at h
    refine z_tabIn (off := 97) (tgt := 98) B dX3_joined_1 z1 (by decide) rfl (by decide) ?_
    refine z_iload_n B 1 dX3_joined_98 rfl rfl ?_
    refine z_iload_n B 2 dX3_joined_99 rfl rfl ?_
    refine z_isub B dX3_joined_100 ?_
    exact z_iret B hr dX3_joined_101 h
  rw [if_neg z1] at h
  by_cases z2 : wr a1 = (-12)
  · rw [if_pos z2] at h
    refine z_tabIn (off := 93) (tgt := 94) B dX3_joined_1 z2 (by decide) rfl (by decide) ?_
    refine z_iload_n B 1 dX3_joined_94 rfl rfl ?_
    refine z_iload_n B 2 dX3_joined_95 rfl rfl ?_
    refine z_iadd B dX3_joined_96 ?_
    exact z_iret B hr dX3_joined_97 h
  rw [if_neg z2] at h
  by_cases z3 : wr a1 = (-11)
  · rw [if_pos z3] at h
    refine z_tabIn (off := 82) (tgt := 83) B dX3_joined_1 z3 (by decide) rfl (by decide) ?_
    refine z_iload_n B 1 dX3_joined_83 rfl rfl ?_
    refine z_iload_n B 2 dX3_joined_84 rfl rfl ?_
    refine z_icmp_ne (tgt := 92) B dX3_joined_85 (by decide) h (fun h => ?_) (fun h => ?_)
    · refine z_iconst B dX3_joined_92 ?_
      exact z_iret B hr dX3_joined_93 h
    · refine z_iconst B dX3_joined_88 ?_
      refine z_goto (tgt := 93) B dX3_joined_89 (by decide) ?_
      exact z_iret B hr dX3_joined_93 h
  rw [if_neg z3] at h
  by_cases z4 : wr a1 = (-10)
  · rw [if_pos z4] at h
    refine z_tabIn (off := 71) (tgt := 72) B dX3_joined_1 z4 (by decide) rfl (by decide) ?_
    refine z_iload_n B 1 dX3_joined_72 rfl rfl ?_
    refine z_iload_n B 2 dX3_joined_73 rfl rfl ?_
    refine z_icmp_ge (tgt := 81) B dX3_joined_74 (by decide) h (fun h => ?_) (fun h => ?_)
    · refine z_iconst B dX3_joined_81 ?_
      exact z_iret B hr dX3_joined_82 h
    · refine z_iconst B dX3_joined_77 ?_
      refine z_goto (tgt := 82) B dX3_joined_78 (by decide) ?_
      exact z_iret B hr dX3_joined_82 h
  rw [if_neg z4] at h
  by_cases z5 : wr a1 = (-9)
  · rw [if_pos z5] at h
    refine z_tabIn (off := 101) (tgt := 102) B dX3_joined_1 z5 (by decide) rfl (by decide) ?_
    refine z_iload_n B 1 dX3_joined_102 rfl rfl ?_
    refine z_iload_n B 2 dX3_joined_103 rfl rfl ?_
    refine z_imul B dX3_joined_104 ?_
    exact z_iret B hr dX3_joined_105 h
  rw [if_neg z5] at h
  by_cases z6 : wr a1 = (-8)
  · rw [if_pos z6] at h
    refine z_tabIn (off := 57) (tgt := 58) B dX3_joined_1 z6 (by decide) rfl (by decide) ?_
    refine z_iload_n B 1 dX3_joined_58 rfl rfl ?_
    refine z_if_eq (tgt := 70) B dX3_joined_59 (by decide) h (fun h => ?_) (fun h => ?_)
    · refine z_iconst B dX3_joined_70 ?_
      exact z_iret B hr dX3_joined_71 h
    · refine z_iload_n B 2 dX3_joined_62 rfl rfl ?_
      refine z_if_eq (tgt := 70) B dX3_joined_63 (by decide) h (fun h => ?_) (fun h => ?_)
      · refine z_iconst B dX3_joined_70 ?_
        exact z_iret B hr dX3_joined_71 h
      · refine z_iconst B dX3_joined_66 ?_
        refine z_goto (tgt := 71) B dX3_joined_67 (by decide) ?_
        exact z_iret B hr dX3_joined_71 h
  rw [if_neg z6] at h
  by_cases z7 : wr a1 = (-7)
  · rw [if_pos z7] at h
    refine z_tabIn (off := 43) (tgt := 44) B dX3_joined_1 z7 (by decide) rfl (by decide) ?_
    refine z_iload_n B 1 dX3_joined_44 rfl rfl ?_
    refine z_if_ne (tgt := 52) B dX3_joined_45 (by decide) h (fun h => ?_) (fun h => ?_)
    · refine z_lv (lv' := []) B [] rfl ?_
      exact rX3_joined_52 B hr _ h
    · refine z_iload_n B 2 dX3_joined_48 rfl rfl ?_
      refine z_if_eq (tgt := 56) B dX3_joined_49 (by decide) h (fun h => ?_) (fun h => ?_)
      · refine z_iconst B dX3_joined_56 ?_
        exact z_iret B hr dX3_joined_57 h
      · refine z_lv (lv' := []) B [] rfl ?_
        exact rX3_joined_52 B hr _ h
  rw [if_neg z7] at h
  refine z_tabOut (tgt := 102) B dX3_joined_1 (by omega) (by decide) ?_
  refine z_iload_n B 1 dX3_joined_102 rfl rfl ?_
  refine z_iload_n B 2 dX3_joined_103 rfl rfl ?_
  refine z_imul B dX3_joined_104 ?_
  exact z_iret B hr dX3_joined_105 h
set_option maxHeartbeats 4000000 in
set_option maxRecDepth 100000 in
theorem c_X3_joined {l : Launch} {D : va_G} {cI cA : ClassId} {ad : Nat → Nat} {a1 : Int} {a2 : Int} {a3 : Int} {w w1 : hg_W} {r1 : Int} (h : fX3_joined w a1 a2 a3 = some (w1, r1)) : hg_Mi l yX3_joined wxX3_joined rmX3_joined D cI cA ad 0 w [.int (hg_I a1), .int (hg_I a2), .int (hg_I a3)] w1 r1 := by
  refine z_meti cX3_joined 3 (some .int) (by decide) (Nat.le_of_ble_eq_true rfl) ?_
  intro p e s m args below meth c A B hr
  exact rX3_joined_E B hr h
abbrev wxX3_value : List Cond := Cond.code yX3_value cX3_value 9 (some .int) :: wsL_law
def fX3_value_199 (K41 : hg_W → Nat → Nat → Int → Int → Int → Option (hg_W × Int))  (w : hg_W) (x3 : Nat) (x4 : Nat) (x5 : Int) (x6 : Int) (x7 : Int) : Option (hg_W × Int) :=
  K41 w x3 x4 x5 x6 (x7 + 1)
def fX3_value_158 (K41 : hg_W → Nat → Nat → Int → Int → Int → Option (hg_W × Int))  (w : hg_W) (x3 : Nat) (x4 : Nat) (x5 : Int) (x6 : Int) (x7 : Int) (s1 : Int) (s2 : Int) : Option (hg_W × Int) :=
  (hg_as 0 w 16 s1 s2).bind fun w1 =>
  fX3_value_199 K41 w1 x3 x4 x5 x6 x7
def fX3_value_114 (K41 : hg_W → Nat → Nat → Int → Int → Int → Option (hg_W × Int))  (w : hg_W) (x3 : Nat) (x4 : Nat) (x5 : Int) (x6 : Int) (x7 : Int) (x8 : Int) : Option (hg_W × Int) :=
  if wr x6 < 0 then
    (
      fX3_value_199 K41 w x3 x4 x5 x6 x7
    )
  else
    if wr x8 = wr (-15) then
      (
        (hg_ag 0 w 16 x6).bind fun v3 =>
        fX3_value_158 K41 w x3 x4 x5 x6 x7 x6 (-v3)
      )
    else
      (hg_ag 0 w 16 x6).bind fun v1 =>
      if wr v1 = 0 then
        (
          fX3_value_158 K41 w x3 x4 x5 x6 x7 x6 1
        )
      else
        fX3_value_158 K41 w x3 x4 x5 x6 x7 x6 0
def fX3_value_96 (K41 : hg_W → Nat → Nat → Int → Int → Int → Option (hg_W × Int))  (w : hg_W) (x3 : Nat) (x4 : Nat) (x5 : Int) (x6 : Int) (x7 : Int) (s1 : Int) (s2 : Int) : Option (hg_W × Int) :=
  (hg_as 0 w 16 s1 s2).bind fun w1 =>
  fX3_value_199 K41 w1 x3 x4 x5 x6 x7
def fX3_value_41   : Nat → hg_W → Nat → Nat → Int → Int → Int → Option (hg_W × Int)
  | 0, _, _, _, _, _, _ => none
  | n + 1, w, x3, x4, x5, x6, x7 =>
    if wr x5 ≤ wr x7 then
      (
        if wr x6 < 0 then
          (
            some (w, wr 0)
          )
        else
          (hg_ag 0 w 16 x6).bind fun v1 =>
          some (w, wr v1)
      )
    else
      (hg_ag 0 w x4 x7).bind fun v3 =>
      if wr v3 < wr (-6) then
        (
          if wr v3 = wr (-15) then
            (
              fX3_value_114 (fX3_value_41 n) w x3 x4 x5 x6 x7 v3
            )
          else
            if wr v3 = wr (-9) then
              (
                fX3_value_114 (fX3_value_41 n) w x3 x4 x5 x6 x7 v3
              )
            else
              if wr x6 < wr 1 then
                (
                  fX3_value_199 (fX3_value_41 n) w x3 x4 x5 x6 x7
                )
              else
                (hg_ag 0 w 16 (x6 + (-1))).bind fun v5 =>
                (hg_ag 0 w 16 ((x6 + (-1)) + 1)).bind fun v7 =>
                hg_bd (fX3_joined w v3 v5 v7) fun w9 v10 =>
                (hg_as 0 w9 16 (x6 + (-1)) v10).bind fun w12 =>
                fX3_value_199 (fX3_value_41 n) w12 x3 x4 x5 (x6 + (-1)) x7
        )
      else
        if wr 40 ≤ wr (x6 + 1) then
          (
            fX3_value_199 (fX3_value_41 n) w x3 x4 x5 x6 x7
          )
        else
          if wr v3 < 0 then
            (
              (hg_ag 0 w x3 ((-1) - v3)).bind fun v14 =>
              fX3_value_96 (fX3_value_41 n) w x3 x4 x5 (x6 + 1) x7 (x6 + 1) v14
            )
          else
            fX3_value_96 (fX3_value_41 n) w x3 x4 x5 (x6 + 1) x7 (x6 + 1) v3
def fX3_value_39   (w : hg_W) (x3 : Nat) (x4 : Nat) (x5 : Int) (x6 : Int) (s0 : Int) : Option (hg_W × Int) :=
  fX3_value_41 hg_F w x3 x4 x5 x6 s0
def fX3_value (w : hg_W) (a1 : Int) (a2 : Int) (a3 : Nat) : Option (hg_W × Int) :=
  (hg_ar 2 a1).bind fun c1 =>
  (hg_ar 9 a1).bind fun c3 =>
  (hg_ag 0 w c3 a2).bind fun v5 =>
  if wr a2 = 0 then
    (
      fX3_value_39 w a3 c1 v5 (-1) 0
    )
  else
    (hg_ar 9 a1).bind fun c7 =>
    (hg_ag 0 w c7 (a2 - 1)).bind fun v9 =>
    fX3_value_39 w a3 c1 v5 (-1) v9
set_option maxHeartbeats 4000000 in
set_option maxRecDepth 100000 in
abbrev rmX3_value : Room := { frames := 1, cells := 0, slots := 0, locals := 22 }
set_option maxHeartbeats 4000000 in
set_option maxRecDepth 100000 in
theorem rX3_value_199 (B : hg_B p s m args meth c cX3_value RX3 wsL_law 9 D cI cA ad 0 A) (hr : meth.sig.returnType = (some .int)) {w1 : hg_W} {r1 : Int} {K41 : hg_W → Nat → Nat → Int → Int → Int → Option (hg_W × Int)} (hK41 : ∀ (w : hg_W) (x3 : Nat) (x4 : Nat) (x5 : Int) (x6 : Int) (x7 : Int), K41 w x3 x4 x5 x6 x7 = some (w1, r1) → hg_At p l e (rmX3_value) s m args below meth c D cI cA ad 0 A (MQ below (hg_Qi D cI cA ad 0 A w1 r1) args s 0 0 A) 9 w [(0, .ref (ad 1)), (3, .ref (ad x3)), (4, .ref (ad x4)), (5, .int (hg_I x5)), (6, .int (hg_I x6)), (7, .int (hg_I x7))] 41 []) : ∀ (w : hg_W) (x3 : Nat) (x4 : Nat) (x5 : Int) (x6 : Int) (x7 : Int), fX3_value_199 K41 w x3 x4 x5 x6 x7 = some (w1, r1) → hg_At p l e (rmX3_value) s m args below meth c D cI cA ad 0 A (MQ below (hg_Qi D cI cA ad 0 A w1 r1) args s 0 0 A) 9 w [(0, .ref (ad 1)), (3, .ref (ad x3)), (4, .ref (ad x4)), (5, .int (hg_I x5)), (6, .int (hg_I x6)), (7, .int (hg_I x7))] 199 [] := by
  intro w x3 x4 x5 x6 x7 h
  unfold fX3_value_199 at h
  refine z_iinc B 5 [(7, .int (hg_I (x7 + 1))), (0, .ref (ad 1)), (3, .ref (ad x3)), (4, .ref (ad x4)), (5, .int (hg_I x5)), (6, .int (hg_I x6))] dX3_value_199 rfl (by decide) rfl ?_
  refine z_goto (tgt := 41) B dX3_value_202 (by decide) ?_
  refine z_lv (lv' := [(0, .ref (ad 1)), (3, .ref (ad x3)), (4, .ref (ad x4)), (5, .int (hg_I x5)), (6, .int (hg_I x6)), (7, .int (hg_I (x7 + 1)))]) B [1, 2, 3, 4, 5, 0] rfl ?_
  exact hK41 _ _ _ _ _ _ h
set_option maxHeartbeats 4000000 in
set_option maxRecDepth 100000 in
theorem rX3_value_158 (B : hg_B p s m args meth c cX3_value RX3 wsL_law 9 D cI cA ad 0 A) (hr : meth.sig.returnType = (some .int)) {w1 : hg_W} {r1 : Int} {K41 : hg_W → Nat → Nat → Int → Int → Int → Option (hg_W × Int)} (hK41 : ∀ (w : hg_W) (x3 : Nat) (x4 : Nat) (x5 : Int) (x6 : Int) (x7 : Int), K41 w x3 x4 x5 x6 x7 = some (w1, r1) → hg_At p l e (rmX3_value) s m args below meth c D cI cA ad 0 A (MQ below (hg_Qi D cI cA ad 0 A w1 r1) args s 0 0 A) 9 w [(0, .ref (ad 1)), (3, .ref (ad x3)), (4, .ref (ad x4)), (5, .int (hg_I x5)), (6, .int (hg_I x6)), (7, .int (hg_I x7))] 41 []) : ∀ (w : hg_W) (x3 : Nat) (x4 : Nat) (x5 : Int) (x6 : Int) (x7 : Int) (s1 : Int) (s2 : Int), fX3_value_158 K41 w x3 x4 x5 x6 x7 s1 s2 = some (w1, r1) → hg_At p l e (rmX3_value) s m args below meth c D cI cA ad 0 A (MQ below (hg_Qi D cI cA ad 0 A w1 r1) args s 0 0 A) 9 w [(0, .ref (ad 1)), (3, .ref (ad x3)), (4, .ref (ad x4)), (5, .int (hg_I x5)), (6, .int (hg_I x6)), (7, .int (hg_I x7))] 158 [.int (hg_I s2), .int (hg_I s1), .ref (ad 16)] := by
  intro w x3 x4 x5 x6 x7 s1 s2 h
  unfold fX3_value_158 at h
  obtain ⟨w1, q2, h⟩ := Option.bind_eq_some_iff.mp h
  refine z_iast (Or.inl rfl) B dX3_value_158 q2 ?_
  refine z_goto (tgt := 199) B dX3_value_159 (by decide) ?_
  exact rX3_value_199 B hr hK41 _ _ _ _ _ _ h
set_option maxHeartbeats 4000000 in
set_option maxRecDepth 100000 in
theorem rX3_value_114 (B : hg_B p s m args meth c cX3_value RX3 wsL_law 9 D cI cA ad 0 A) (hr : meth.sig.returnType = (some .int)) {w1 : hg_W} {r1 : Int} {K41 : hg_W → Nat → Nat → Int → Int → Int → Option (hg_W × Int)} (hK41 : ∀ (w : hg_W) (x3 : Nat) (x4 : Nat) (x5 : Int) (x6 : Int) (x7 : Int), K41 w x3 x4 x5 x6 x7 = some (w1, r1) → hg_At p l e (rmX3_value) s m args below meth c D cI cA ad 0 A (MQ below (hg_Qi D cI cA ad 0 A w1 r1) args s 0 0 A) 9 w [(0, .ref (ad 1)), (3, .ref (ad x3)), (4, .ref (ad x4)), (5, .int (hg_I x5)), (6, .int (hg_I x6)), (7, .int (hg_I x7))] 41 []) : ∀ (w : hg_W) (x3 : Nat) (x4 : Nat) (x5 : Int) (x6 : Int) (x7 : Int) (x8 : Int), fX3_value_114 K41 w x3 x4 x5 x6 x7 x8 = some (w1, r1) → hg_At p l e (rmX3_value) s m args below meth c D cI cA ad 0 A (MQ below (hg_Qi D cI cA ad 0 A w1 r1) args s 0 0 A) 9 w [(0, .ref (ad 1)), (3, .ref (ad x3)), (4, .ref (ad x4)), (5, .int (hg_I x5)), (6, .int (hg_I x6)), (7, .int (hg_I x7)), (8, .int (hg_I x8))] 114 [] := by
  intro w x3 x4 x5 x6 x7 x8 h
  unfold fX3_value_114 at h
  refine z_iload B 4 dX3_value_114 rfl ?_
  refine z_if_lt (tgt := 199) B dX3_value_116 (by decide) h (fun h => ?_) (fun h => ?_)
  · refine z_lv (lv' := [(0, .ref (ad 1)), (3, .ref (ad x3)), (4, .ref (ad x4)), (5, .int (hg_I x5)), (6, .int (hg_I x6)), (7, .int (hg_I x7))]) B [0, 1, 2, 3, 4, 5] rfl ?_
    exact rX3_value_199 B hr hK41 _ _ _ _ _ _ h
  · refine z_aload_n B 0 dX3_value_119 rfl rfl ?_
    refine z_get3 (v := .ref (ad 16)) B 2 dX3_value_120 inlX3 (by decide) rfl (by decide) (wl_2 17 rfl) rfl rfl ?_
    refine z_iload B 4 dX3_value_123 rfl ?_
    refine z_iload B 6 dX3_value_125 rfl ?_
    refine z_bipush B dX3_value_127 (by decide) ?_
    refine z_icmp_ne (tgt := 143) B dX3_value_129 (by decide) h (fun h => ?_) (fun h => ?_)
    · refine z_aload_n B 0 dX3_value_143 rfl rfl ?_
      refine z_get3 (v := .ref (ad 16)) B 2 dX3_value_144 inlX3 (by decide) rfl (by decide) (wl_2 17 rfl) rfl rfl ?_
      refine z_iload B 4 dX3_value_147 rfl ?_
      obtain ⟨v1, q2, h⟩ := Option.bind_eq_some_iff.mp h
      refine z_iald (Or.inl rfl) B dX3_value_149 q2 ?_
      refine z_if_ne (tgt := 157) B dX3_value_150 (by decide) h (fun h => ?_) (fun h => ?_)
      · refine z_iconst B dX3_value_157 ?_
        refine z_lv (lv' := [(0, .ref (ad 1)), (3, .ref (ad x3)), (4, .ref (ad x4)), (5, .int (hg_I x5)), (6, .int (hg_I x6)), (7, .int (hg_I x7))]) B [0, 1, 2, 3, 4, 5] rfl ?_
        exact rX3_value_158 B hr hK41 _ _ _ _ _ _ _ _ h
      · refine z_iconst B dX3_value_153 ?_
        refine z_goto (tgt := 158) B dX3_value_154 (by decide) ?_
        refine z_lv (lv' := [(0, .ref (ad 1)), (3, .ref (ad x3)), (4, .ref (ad x4)), (5, .int (hg_I x5)), (6, .int (hg_I x6)), (7, .int (hg_I x7))]) B [0, 1, 2, 3, 4, 5] rfl ?_
        exact rX3_value_158 B hr hK41 _ _ _ _ _ _ _ _ h
    · refine z_aload_n B 0 dX3_value_132 rfl rfl ?_
      refine z_get3 (v := .ref (ad 16)) B 2 dX3_value_133 inlX3 (by decide) rfl (by decide) (wl_2 17 rfl) rfl rfl ?_
      refine z_iload B 4 dX3_value_136 rfl ?_
      obtain ⟨v3, q4, h⟩ := Option.bind_eq_some_iff.mp h
      refine z_iald (Or.inl rfl) B dX3_value_138 q4 ?_
      refine z_ineg B dX3_value_139 ?_
      refine z_goto (tgt := 158) B dX3_value_140 (by decide) ?_
      refine z_lv (lv' := [(0, .ref (ad 1)), (3, .ref (ad x3)), (4, .ref (ad x4)), (5, .int (hg_I x5)), (6, .int (hg_I x6)), (7, .int (hg_I x7))]) B [0, 1, 2, 3, 4, 5] rfl ?_
      exact rX3_value_158 B hr hK41 _ _ _ _ _ _ _ _ h
set_option maxHeartbeats 4000000 in
set_option maxRecDepth 100000 in
theorem rX3_value_96 (B : hg_B p s m args meth c cX3_value RX3 wsL_law 9 D cI cA ad 0 A) (hr : meth.sig.returnType = (some .int)) {w1 : hg_W} {r1 : Int} {K41 : hg_W → Nat → Nat → Int → Int → Int → Option (hg_W × Int)} (hK41 : ∀ (w : hg_W) (x3 : Nat) (x4 : Nat) (x5 : Int) (x6 : Int) (x7 : Int), K41 w x3 x4 x5 x6 x7 = some (w1, r1) → hg_At p l e (rmX3_value) s m args below meth c D cI cA ad 0 A (MQ below (hg_Qi D cI cA ad 0 A w1 r1) args s 0 0 A) 9 w [(0, .ref (ad 1)), (3, .ref (ad x3)), (4, .ref (ad x4)), (5, .int (hg_I x5)), (6, .int (hg_I x6)), (7, .int (hg_I x7))] 41 []) : ∀ (w : hg_W) (x3 : Nat) (x4 : Nat) (x5 : Int) (x6 : Int) (x7 : Int) (s1 : Int) (s2 : Int), fX3_value_96 K41 w x3 x4 x5 x6 x7 s1 s2 = some (w1, r1) → hg_At p l e (rmX3_value) s m args below meth c D cI cA ad 0 A (MQ below (hg_Qi D cI cA ad 0 A w1 r1) args s 0 0 A) 9 w [(0, .ref (ad 1)), (3, .ref (ad x3)), (4, .ref (ad x4)), (5, .int (hg_I x5)), (6, .int (hg_I x6)), (7, .int (hg_I x7))] 96 [.int (hg_I s2), .int (hg_I s1), .ref (ad 16)] := by
  intro w x3 x4 x5 x6 x7 s1 s2 h
  unfold fX3_value_96 at h
  obtain ⟨w1, q2, h⟩ := Option.bind_eq_some_iff.mp h
  refine z_iast (Or.inl rfl) B dX3_value_96 q2 ?_
  refine z_goto (tgt := 199) B dX3_value_97 (by decide) ?_
  exact rX3_value_199 B hr hK41 _ _ _ _ _ _ h
set_option maxHeartbeats 4000000 in
set_option maxRecDepth 100000 in
theorem rX3_value_41 (B : hg_B p s m args meth c cX3_value RX3 wsL_law 9 D cI cA ad 0 A) (hr : meth.sig.returnType = (some .int)) {w1 : hg_W} {r1 : Int} : ∀ (n : Nat), ∀ (w : hg_W) (x3 : Nat) (x4 : Nat) (x5 : Int) (x6 : Int) (x7 : Int), fX3_value_41 n w x3 x4 x5 x6 x7 = some (w1, r1) → hg_At p l e (rmX3_value) s m args below meth c D cI cA ad 0 A (MQ below (hg_Qi D cI cA ad 0 A w1 r1) args s 0 0 A) 9 w [(0, .ref (ad 1)), (3, .ref (ad x3)), (4, .ref (ad x4)), (5, .int (hg_I x5)), (6, .int (hg_I x6)), (7, .int (hg_I x7))] 41 [] := by
  intro n
  induction n with
  | zero =>
    intro w x3 x4 x5 x6 x7 h
    cases h
  | succ n ih =>
    intro w x3 x4 x5 x6 x7 h
    simp only [fX3_value_41] at h
    refine z_iload B 5 dX3_value_41 rfl ?_
    refine z_iload B 3 dX3_value_43 rfl ?_
    refine z_icmp_ge (tgt := 205) B dX3_value_45 (by decide) h (fun h => ?_) (fun h => ?_)
    · refine z_iload B 4 dX3_value_205 rfl ?_
      refine z_if_lt (tgt := 220) B dX3_value_207 (by decide) h (fun h => ?_) (fun h => ?_)
      · refine z_iconst B dX3_value_220 ?_
        exact z_iret B hr dX3_value_221 h
      · refine z_aload_n B 0 dX3_value_210 rfl rfl ?_
        refine z_get3 (v := .ref (ad 16)) B 2 dX3_value_211 inlX3 (by decide) rfl (by decide) (wl_2 17 rfl) rfl rfl ?_
        refine z_iload B 4 dX3_value_214 rfl ?_
        obtain ⟨v1, q2, h⟩ := Option.bind_eq_some_iff.mp h
        refine z_iald (Or.inl rfl) B dX3_value_216 q2 ?_
        refine z_goto (tgt := 221) B dX3_value_217 (by decide) ?_
        exact z_iret B hr dX3_value_221 h
    · refine z_aload B 2 dX3_value_48 rfl ?_
      refine z_iload B 5 dX3_value_50 rfl ?_
      obtain ⟨v3, q4, h⟩ := Option.bind_eq_some_iff.mp h
      refine z_iald (Or.inl rfl) B dX3_value_52 q4 ?_
      refine z_istore B [(8, .int (hg_I v3)), (0, .ref (ad 1)), (3, .ref (ad x3)), (4, .ref (ad x4)), (5, .int (hg_I x5)), (6, .int (hg_I x6)), (7, .int (hg_I x7))] dX3_value_53 (by decide) rfl ?_
      refine z_iload B 0 dX3_value_55 rfl ?_
      refine z_bipush B dX3_value_57 (by decide) ?_
      refine z_icmp_lt (tgt := 100) B dX3_value_59 (by decide) h (fun h => ?_) (fun h => ?_)
      · refine z_iload B 0 dX3_value_100 rfl ?_
        refine z_bipush B dX3_value_102 (by decide) ?_
        refine z_icmp_eq (tgt := 114) B dX3_value_104 (by decide) h (fun h => ?_) (fun h => ?_)
        · refine z_lv (lv' := [(0, .ref (ad 1)), (3, .ref (ad x3)), (4, .ref (ad x4)), (5, .int (hg_I x5)), (6, .int (hg_I x6)), (7, .int (hg_I x7)), (8, .int (hg_I v3))]) B [1, 2, 3, 4, 5, 6, 0] rfl ?_
          exact rX3_value_114 B hr ih _ _ _ _ _ _ _ h
        · refine z_iload B 0 dX3_value_107 rfl ?_
          refine z_bipush B dX3_value_109 (by decide) ?_
          refine z_icmp_ne (tgt := 162) B dX3_value_111 (by decide) h (fun h => ?_) (fun h => ?_)
          · refine z_iload B 5 dX3_value_162 rfl ?_
            refine z_iconst B dX3_value_164 ?_
            refine z_icmp_lt (tgt := 199) B dX3_value_165 (by decide) h (fun h => ?_) (fun h => ?_)
            · refine z_lv (lv' := [(0, .ref (ad 1)), (3, .ref (ad x3)), (4, .ref (ad x4)), (5, .int (hg_I x5)), (6, .int (hg_I x6)), (7, .int (hg_I x7))]) B [1, 2, 3, 4, 5, 6] rfl ?_
              exact rX3_value_199 B hr ih _ _ _ _ _ _ h
            · refine z_iinc B 5 [(6, .int (hg_I (x6 + (-1)))), (8, .int (hg_I v3)), (0, .ref (ad 1)), (3, .ref (ad x3)), (4, .ref (ad x4)), (5, .int (hg_I x5)), (7, .int (hg_I x7))] dX3_value_168 rfl (by decide) rfl ?_
              refine z_aload_n B 2 dX3_value_171 rfl rfl ?_
              refine z_get3 (v := .ref (ad 16)) B 2 dX3_value_172 inlX3 (by decide) rfl (by decide) (wl_2 17 rfl) rfl rfl ?_
              refine z_iload B 0 dX3_value_175 rfl ?_
              refine z_iload B 1 dX3_value_177 rfl ?_
              refine z_aload_n B 2 dX3_value_179 rfl rfl ?_
              refine z_get3 (v := .ref (ad 16)) B 2 dX3_value_180 inlX3 (by decide) rfl (by decide) (wl_2 17 rfl) rfl rfl ?_
              refine z_iload B 0 dX3_value_183 rfl ?_
              obtain ⟨v5, q6, h⟩ := Option.bind_eq_some_iff.mp h
              refine z_iald (Or.inl rfl) B dX3_value_185 q6 ?_
              refine z_aload_n B 2 dX3_value_186 rfl rfl ?_
              refine z_get3 (v := .ref (ad 16)) B 2 dX3_value_187 inlX3 (by decide) rfl (by decide) (wl_2 17 rfl) rfl rfl ?_
              refine z_iload B 0 dX3_value_190 rfl ?_
              refine z_iconst B dX3_value_192 ?_
              refine z_iadd B dX3_value_193 ?_
              obtain ⟨v7, q8, h⟩ := Option.bind_eq_some_iff.mp h
              refine z_iald (Or.inl rfl) B dX3_value_194 q8 ?_
              obtain ⟨w9, v10, q11, h⟩ := hg_bd_some h
              refine z_calliS (As := [.int (hg_I v3), .int (hg_I v5), .int (hg_I v7)]) (n := 3) B dX3_value_195 (c_X3_joined q11) (gl_S (wl_16 19 rfl) (wl_16 20 rfl) (wl_1 14 rfl) (wl_16 21 rfl)) rfl ⟨rfl, rfl⟩ (by decide +kernel) ⟨Nat.le_of_ble_eq_true rfl, Nat.le_of_ble_eq_true rfl⟩ rfl rfl (Nat.le_of_ble_eq_true rfl) ?_
              obtain ⟨w12, q13, h⟩ := Option.bind_eq_some_iff.mp h
              refine z_iast (Or.inl rfl) B dX3_value_198 q13 ?_
              refine z_lv (lv' := [(0, .ref (ad 1)), (3, .ref (ad x3)), (4, .ref (ad x4)), (5, .int (hg_I x5)), (6, .int (hg_I (x6 + (-1)))), (7, .int (hg_I x7))]) B [2, 3, 4, 5, 0, 6] rfl ?_
              exact rX3_value_199 B hr ih _ _ _ _ _ _ h
          · refine z_lv (lv' := [(0, .ref (ad 1)), (3, .ref (ad x3)), (4, .ref (ad x4)), (5, .int (hg_I x5)), (6, .int (hg_I x6)), (7, .int (hg_I x7)), (8, .int (hg_I v3))]) B [1, 2, 3, 4, 5, 6, 0] rfl ?_
            exact rX3_value_114 B hr ih _ _ _ _ _ _ _ h
      · refine z_iload B 5 dX3_value_62 rfl ?_
        refine z_iconst B dX3_value_64 ?_
        refine z_iadd B dX3_value_65 ?_
        refine z_bipush B dX3_value_66 (by decide) ?_
        refine z_icmp_ge (tgt := 199) B dX3_value_68 (by decide) h (fun h => ?_) (fun h => ?_)
        · refine z_lv (lv' := [(0, .ref (ad 1)), (3, .ref (ad x3)), (4, .ref (ad x4)), (5, .int (hg_I x5)), (6, .int (hg_I x6)), (7, .int (hg_I x7))]) B [1, 2, 3, 4, 5, 6] rfl ?_
          exact rX3_value_199 B hr ih _ _ _ _ _ _ h
        · refine z_iinc B 5 [(6, .int (hg_I (x6 + 1))), (8, .int (hg_I v3)), (0, .ref (ad 1)), (3, .ref (ad x3)), (4, .ref (ad x4)), (5, .int (hg_I x5)), (7, .int (hg_I x7))] dX3_value_71 rfl (by decide) rfl ?_
          refine z_aload_n B 2 dX3_value_74 rfl rfl ?_
          refine z_get3 (v := .ref (ad 16)) B 2 dX3_value_75 inlX3 (by decide) rfl (by decide) (wl_2 17 rfl) rfl rfl ?_
          refine z_iload B 0 dX3_value_78 rfl ?_
          refine z_iload B 1 dX3_value_80 rfl ?_
          refine z_if_lt (tgt := 90) B dX3_value_82 (by decide) h (fun h => ?_) (fun h => ?_)
          · refine z_aload_n B 3 dX3_value_90 rfl rfl ?_
            refine z_iconst B dX3_value_91 ?_
            refine z_iload B 1 dX3_value_92 rfl ?_
            refine z_isub B dX3_value_94 ?_
            obtain ⟨v14, q15, h⟩ := Option.bind_eq_some_iff.mp h
            refine z_iald (Or.inl rfl) B dX3_value_95 q15 ?_
            refine z_lv (lv' := [(0, .ref (ad 1)), (3, .ref (ad x3)), (4, .ref (ad x4)), (5, .int (hg_I x5)), (6, .int (hg_I (x6 + 1))), (7, .int (hg_I x7))]) B [2, 3, 4, 5, 0, 6] rfl ?_
            exact rX3_value_96 B hr ih _ _ _ _ _ _ _ _ h
          · refine z_iload B 1 dX3_value_85 rfl ?_
            refine z_goto (tgt := 96) B dX3_value_87 (by decide) ?_
            refine z_lv (lv' := [(0, .ref (ad 1)), (3, .ref (ad x3)), (4, .ref (ad x4)), (5, .int (hg_I x5)), (6, .int (hg_I (x6 + 1))), (7, .int (hg_I x7))]) B [2, 3, 4, 5, 0, 6] rfl ?_
            exact rX3_value_96 B hr ih _ _ _ _ _ _ _ _ h
set_option maxHeartbeats 4000000 in
set_option maxRecDepth 100000 in
theorem rX3_value_39 (B : hg_B p s m args meth c cX3_value RX3 wsL_law 9 D cI cA ad 0 A) (hr : meth.sig.returnType = (some .int)) {w1 : hg_W} {r1 : Int} : ∀ (w : hg_W) (x3 : Nat) (x4 : Nat) (x5 : Int) (x6 : Int) (s0 : Int), fX3_value_39 w x3 x4 x5 x6 s0 = some (w1, r1) → hg_At p l e (rmX3_value) s m args below meth c D cI cA ad 0 A (MQ below (hg_Qi D cI cA ad 0 A w1 r1) args s 0 0 A) 9 w [(0, .ref (ad 1)), (3, .ref (ad x3)), (4, .ref (ad x4)), (5, .int (hg_I x5)), (6, .int (hg_I x6))] 39 [.int (hg_I s0)] := by
  intro w x3 x4 x5 x6 s0 h
  unfold fX3_value_39 at h
  refine z_istore B [(7, .int (hg_I s0)), (0, .ref (ad 1)), (3, .ref (ad x3)), (4, .ref (ad x4)), (5, .int (hg_I x5)), (6, .int (hg_I x6))] dX3_value_39 (by decide) rfl ?_
  refine z_lv (lv' := [(0, .ref (ad 1)), (3, .ref (ad x3)), (4, .ref (ad x4)), (5, .int (hg_I x5)), (6, .int (hg_I x6)), (7, .int (hg_I s0))]) B [1, 2, 3, 4, 5, 0] rfl ?_
  exact rX3_value_41 B hr hg_F _ _ _ _ _ _ h
set_option maxHeartbeats 4000000 in
set_option maxRecDepth 100000 in
theorem rX3_value_E (B : hg_B p s m args meth c cX3_value RX3 wsL_law 9 D cI cA ad 0 A) (hr : meth.sig.returnType = (some .int)) {a1 : Int} {a2 : Int} {a3 : Nat} {w1 : hg_W} {r1 : Int} {w : hg_W} (h : fX3_value w a1 a2 a3 = some (w1, r1)) : hg_At p l e (rmX3_value) s m args below meth c D cI cA ad 0 A (MQ below (hg_Qi D cI cA ad 0 A w1 r1) args s 0 0 A) 9 w [(0, .ref (ad 1)), (1, .int (hg_I a1)), (2, .int (hg_I a2)), (3, .ref (ad a3))] 0 [] := by
  unfold fX3_value at h
  refine z_aload_n B 0 dX3_value_0 rfl rfl ?_
  refine z_get3 (v := .ref (ad 2)) B 0 dX3_value_1 inlX3 (by decide) rfl (by decide) (wl_2 15 rfl) rfl rfl ?_
  refine z_iload_n B 1 dX3_value_4 rfl rfl ?_
  obtain ⟨c1, q2, h⟩ := Option.bind_eq_some_iff.mp h
  refine z_aald B rfl dX3_value_5 q2 ?_
  refine z_astore B [(4, .ref (ad c1)), (0, .ref (ad 1)), (1, .int (hg_I a1)), (2, .int (hg_I a2)), (3, .ref (ad a3))] dX3_value_6 (by decide) rfl ?_
  refine z_aload_n B 1 dX3_value_8 rfl rfl ?_
  refine z_get3 (v := .ref (ad 9)) B 1 dX3_value_9 inlX3 (by decide) rfl (by decide) (wl_2 16 rfl) rfl rfl ?_
  refine z_iload_n B 2 dX3_value_12 rfl rfl ?_
  obtain ⟨c3, q4, h⟩ := Option.bind_eq_some_iff.mp h
  refine z_aald B rfl dX3_value_13 q4 ?_
  refine z_iload_n B 3 dX3_value_14 rfl rfl ?_
  obtain ⟨v5, q6, h⟩ := Option.bind_eq_some_iff.mp h
  refine z_iald (Or.inl rfl) B dX3_value_15 q6 ?_
  refine z_istore B [(5, .int (hg_I v5)), (4, .ref (ad c1)), (0, .ref (ad 1)), (1, .int (hg_I a1)), (2, .int (hg_I a2)), (3, .ref (ad a3))] dX3_value_16 (by decide) rfl ?_
  refine z_iconst B dX3_value_18 ?_
  refine z_istore B [(6, .int (hg_I (-1))), (5, .int (hg_I v5)), (4, .ref (ad c1)), (0, .ref (ad 1)), (1, .int (hg_I a1)), (2, .int (hg_I a2)), (3, .ref (ad a3))] dX3_value_19 (by decide) rfl ?_
  refine z_iload_n B 5 dX3_value_21 rfl rfl ?_
  refine z_if_ne (tgt := 29) B dX3_value_22 (by decide) h (fun h => ?_) (fun h => ?_)
  · refine z_aload_n B 3 dX3_value_29 rfl rfl ?_
    refine z_get3 (v := .ref (ad 9)) B 1 dX3_value_30 inlX3 (by decide) rfl (by decide) (wl_2 16 rfl) rfl rfl ?_
    refine z_iload_n B 4 dX3_value_33 rfl rfl ?_
    obtain ⟨c7, q8, h⟩ := Option.bind_eq_some_iff.mp h
    refine z_aald B rfl dX3_value_34 q8 ?_
    refine z_iload_n B 5 dX3_value_35 rfl rfl ?_
    refine z_iconst B dX3_value_36 ?_
    refine z_isub B dX3_value_37 ?_
    obtain ⟨v9, q10, h⟩ := Option.bind_eq_some_iff.mp h
    refine z_iald (Or.inl rfl) B dX3_value_38 q10 ?_
    refine z_lv (lv' := [(0, .ref (ad 1)), (3, .ref (ad a3)), (4, .ref (ad c1)), (5, .int (hg_I v5)), (6, .int (hg_I (-1)))]) B [3, 6, 2, 1, 0] rfl ?_
    exact rX3_value_39 B hr _ _ _ _ _ _ h
  · refine z_iconst B dX3_value_25 ?_
    refine z_goto (tgt := 39) B dX3_value_26 (by decide) ?_
    refine z_lv (lv' := [(0, .ref (ad 1)), (3, .ref (ad a3)), (4, .ref (ad c1)), (5, .int (hg_I v5)), (6, .int (hg_I (-1)))]) B [3, 6, 2, 1, 0] rfl ?_
    exact rX3_value_39 B hr _ _ _ _ _ _ h
set_option maxHeartbeats 4000000 in
set_option maxRecDepth 100000 in
theorem c_X3_value {l : Launch} {D : va_G} {cI cA : ClassId} {ad : Nat → Nat} {a1 : Int} {a2 : Int} {a3 : Nat} {w w1 : hg_W} {r1 : Int} (h : fX3_value w a1 a2 a3 = some (w1, r1)) : hg_Mi l yX3_value wxX3_value rmX3_value D cI cA ad 0 w [.ref (ad 1), .int (hg_I a1), .int (hg_I a2), .ref (ad a3)] w1 r1 := by
  refine z_meti cX3_value 9 (some .int) (by decide) (Nat.le_of_ble_eq_true rfl) ?_
  intro p e s m args below meth c A B hr
  exact rX3_value_E B hr h
abbrev wxX0_says : List Cond := Cond.code yX0_says cX0_says 5 (some .int) :: wsL_law
def fX0_says_92  (b : Nat) (w : hg_W) (x1 : Int) (s0 : Int) : Option (hg_W × Int) :=
  hg_bd (fX3_value w (w b 13) x1 (b + 8)) fun w1 v2 =>
  some (w1, wr (hg_mx s0 (hg_mn 99 v2)))
def fX0_says_31  (b : Nat) (w : hg_W) (x1 : Int) (x2 : Int) (s1 : Int) (s2 : Int) : Option (hg_W × Int) :=
  (hg_as 0 w (b + 8) s1 s2).bind fun w1 =>
  (hg_as 0 w1 (b + 8) 2 (w1 b 10)).bind fun w3 =>
  (hg_ag 0 w3 (b + 6) x2).bind fun v5 =>
  (hg_as 0 w3 (b + 8) 3 (hg_mn 99 v5)).bind fun w7 =>
  (hg_as 0 w7 (b + 8) 4 (w7 b 12)).bind fun w9 =>
  (hg_ag 0 w9 (b + 4) x2).bind fun v11 =>
  (hg_as 0 w9 (b + 8) 5 v11).bind fun w13 =>
  if wr x1 = wr 2 then
    (
      fX0_says_92 b w13 x1 (-99)
    )
  else
    fX0_says_92 b w13 x1 0
def fX0_says (b : Nat) (w : hg_W) (a1 : Int) (a2 : Int) (a3 : Int) : Option (hg_W × Int) :=
  (hg_ag 0 w (b + 5) a2).bind fun v1 =>
  (hg_as 0 w (b + 8) 0 v1).bind fun w3 =>
  if 0 ≤ wr a3 then
    (
      (hg_ag 0 w3 (b + 1) a3).bind fun v5 =>
      fX0_says_31 b w3 a1 a2 1 v5
    )
  else
    fX0_says_31 b w3 a1 a2 1 0
set_option maxHeartbeats 4000000 in
set_option maxRecDepth 100000 in
abbrev rmX0_says : Room := { frames := 2, cells := 0, slots := 0, locals := 50 }
set_option maxHeartbeats 4000000 in
set_option maxRecDepth 100000 in
theorem rX0_says_92 (B : hg_B p s m args meth c cX0_says RX0 wsL_law 5 D cI cA ad 0 A) (hr : meth.sig.returnType = (some .int)) {b : Nat} (hb0 : hg_rd b) {w1 : hg_W} {r1 : Int} : ∀ (w : hg_W) (x1 : Int) (s0 : Int), fX0_says_92 b w x1 s0 = some (w1, r1) → hg_At p l e (rmX0_says) s m args below meth c D cI cA ad 0 A (MQ below (hg_Qi D cI cA ad 0 A w1 r1) args s 0 0 A) 5 w [(0, .ref (ad b)), (1, .int (hg_I x1))] 92 [.int (hg_I s0)] := by
  intro w x1 s0 h
  unfold fX0_says_92 at h
  refine z_istore B [(4, .int (hg_I s0)), (0, .ref (ad b)), (1, .int (hg_I x1))] dX0_says_92 (by decide) rfl ?_
  refine z_iload B 0 dX0_says_94 rfl ?_
  refine z_bipush B dX0_says_96 (by decide) ?_
  refine z_aload_n B 1 dX0_says_98 rfl rfl ?_
  refine z_get0 (v := .ref (ad 1)) B 0 dX0_says_99 inlX0 (hg_rd_lt hb0) (hg_rd_kd hb0) (by decide) (wl_3 5 rfl) rfl rfl ?_
  refine z_aload_n B 1 dX0_says_102 rfl rfl ?_
  refine z_get0 (v := .int (hg_I (w b 13))) B 13 dX0_says_103 inlX0 (hg_rd_lt hb0) (hg_rd_kd hb0) (by decide) (wl_16 11 rfl) rfl rfl ?_
  refine z_iload_n B 2 dX0_says_106 rfl rfl ?_
  refine z_aload_n B 1 dX0_says_107 rfl rfl ?_
  refine z_get0 (v := .ref (ad (b + 8))) B 8 dX0_says_108 inlX0 (hg_rd_lt hb0) (hg_rd_kd hb0) (by decide) (wl_3 13 rfl) rfl rfl ?_
  obtain ⟨w1, v2, q3, h⟩ := hg_bd_some h
  refine z_calliV (a := 1) (ci := 3) (N := 4) (T := TX3) (C := RX3) (As := [.int (hg_I (w b 13)), .int (hg_I x1), .ref (ad (b + 8))]) (n := 3) B dX0_says_111 (c_X3_value q3) (gl_V (wl_16 15 rfl) (wl_16 16 rfl) (wl_16 17 rfl) (wl_1 14 rfl) (wl_16 18 rfl)) rfl ⟨rfl, rfl⟩ (by decide +kernel) ⟨Nat.le_of_ble_eq_true rfl, Nat.le_of_ble_eq_true rfl⟩ (by decide) rfl (by decide) rfl rfl rfl (Nat.le_of_ble_eq_true rfl) ?_
  refine z_mmin B dX0_says_114 (wl_16 6 rfl) (wl_16 7 rfl) (wl_16 8 rfl) (wl_16 9 rfl) ⟨Nat.le_of_ble_eq_true rfl, Nat.le_of_ble_eq_true rfl⟩ ?_
  refine z_mmax B dX0_says_117 (wl_16 12 rfl) (wl_16 13 rfl) (wl_16 8 rfl) (wl_16 14 rfl) ⟨Nat.le_of_ble_eq_true rfl, Nat.le_of_ble_eq_true rfl⟩ ?_
  exact z_iret B hr dX0_says_120 h
set_option maxHeartbeats 4000000 in
set_option maxRecDepth 100000 in
theorem rX0_says_31 (B : hg_B p s m args meth c cX0_says RX0 wsL_law 5 D cI cA ad 0 A) (hr : meth.sig.returnType = (some .int)) {b : Nat} (hb0 : hg_rd b) {w1 : hg_W} {r1 : Int} : ∀ (w : hg_W) (x1 : Int) (x2 : Int) (s1 : Int) (s2 : Int), fX0_says_31 b w x1 x2 s1 s2 = some (w1, r1) → hg_At p l e (rmX0_says) s m args below meth c D cI cA ad 0 A (MQ below (hg_Qi D cI cA ad 0 A w1 r1) args s 0 0 A) 5 w [(0, .ref (ad b)), (1, .int (hg_I x1)), (2, .int (hg_I x2))] 31 [.int (hg_I s2), .int (hg_I s1), .ref (ad (b + 8))] := by
  intro w x1 x2 s1 s2 h
  unfold fX0_says_31 at h
  obtain ⟨w1, q2, h⟩ := Option.bind_eq_some_iff.mp h
  refine z_iast (Or.inl rfl) B dX0_says_31 q2 ?_
  refine z_aload_n B 0 dX0_says_32 rfl rfl ?_
  refine z_get0 (v := .ref (ad (b + 8))) B 8 dX0_says_33 inlX0 (hg_rd_lt hb0) (hg_rd_kd hb0) (by decide) (wl_3 13 rfl) rfl rfl ?_
  refine z_iconst B dX0_says_36 ?_
  refine z_aload_n B 0 dX0_says_37 rfl rfl ?_
  refine z_get0 (v := .int (hg_I (w1 b 10))) B 10 dX0_says_38 inlX0 (hg_rd_lt hb0) (hg_rd_kd hb0) (by decide) (wl_8 19 rfl) rfl rfl ?_
  obtain ⟨w3, q4, h⟩ := Option.bind_eq_some_iff.mp h
  refine z_iast (Or.inl rfl) B dX0_says_41 q4 ?_
  refine z_aload_n B 0 dX0_says_42 rfl rfl ?_
  refine z_get0 (v := .ref (ad (b + 8))) B 8 dX0_says_43 inlX0 (hg_rd_lt hb0) (hg_rd_kd hb0) (by decide) (wl_3 13 rfl) rfl rfl ?_
  refine z_iconst B dX0_says_46 ?_
  refine z_bipush B dX0_says_47 (by decide) ?_
  refine z_aload_n B 0 dX0_says_49 rfl rfl ?_
  refine z_get0 (v := .ref (ad (b + 6))) B 6 dX0_says_50 inlX0 (hg_rd_lt hb0) (hg_rd_kd hb0) (by decide) (wl_3 11 rfl) rfl rfl ?_
  refine z_iload_n B 2 dX0_says_53 rfl rfl ?_
  obtain ⟨v5, q6, h⟩ := Option.bind_eq_some_iff.mp h
  refine z_iald (Or.inl rfl) B dX0_says_54 q6 ?_
  refine z_mmin B dX0_says_55 (wl_16 6 rfl) (wl_16 7 rfl) (wl_16 8 rfl) (wl_16 9 rfl) ⟨Nat.le_of_ble_eq_true rfl, Nat.le_of_ble_eq_true rfl⟩ ?_
  obtain ⟨w7, q8, h⟩ := Option.bind_eq_some_iff.mp h
  refine z_iast (Or.inl rfl) B dX0_says_58 q8 ?_
  refine z_aload_n B 0 dX0_says_59 rfl rfl ?_
  refine z_get0 (v := .ref (ad (b + 8))) B 8 dX0_says_60 inlX0 (hg_rd_lt hb0) (hg_rd_kd hb0) (by decide) (wl_3 13 rfl) rfl rfl ?_
  refine z_iconst B dX0_says_63 ?_
  refine z_aload_n B 0 dX0_says_64 rfl rfl ?_
  refine z_get0 (v := .int (hg_I (w7 b 12))) B 12 dX0_says_65 inlX0 (hg_rd_lt hb0) (hg_rd_kd hb0) (by decide) (wl_16 10 rfl) rfl rfl ?_
  obtain ⟨w9, q10, h⟩ := Option.bind_eq_some_iff.mp h
  refine z_iast (Or.inl rfl) B dX0_says_68 q10 ?_
  refine z_aload_n B 0 dX0_says_69 rfl rfl ?_
  refine z_get0 (v := .ref (ad (b + 8))) B 8 dX0_says_70 inlX0 (hg_rd_lt hb0) (hg_rd_kd hb0) (by decide) (wl_3 13 rfl) rfl rfl ?_
  refine z_iconst B dX0_says_73 ?_
  refine z_aload_n B 0 dX0_says_74 rfl rfl ?_
  refine z_get0 (v := .ref (ad (b + 4))) B 4 dX0_says_75 inlX0 (hg_rd_lt hb0) (hg_rd_kd hb0) (by decide) (wl_3 9 rfl) rfl rfl ?_
  refine z_iload_n B 2 dX0_says_78 rfl rfl ?_
  obtain ⟨v11, q12, h⟩ := Option.bind_eq_some_iff.mp h
  refine z_iald (Or.inl rfl) B dX0_says_79 q12 ?_
  obtain ⟨w13, q14, h⟩ := Option.bind_eq_some_iff.mp h
  refine z_iast (Or.inl rfl) B dX0_says_80 q14 ?_
  refine z_iload_n B 1 dX0_says_81 rfl rfl ?_
  refine z_iconst B dX0_says_82 ?_
  refine z_icmp_ne (tgt := 91) B dX0_says_83 (by decide) h (fun h => ?_) (fun h => ?_)
  · refine z_iconst B dX0_says_91 ?_
    refine z_lv (lv' := [(0, .ref (ad b)), (1, .int (hg_I x1))]) B [0, 1] rfl ?_
    exact rX0_says_92 B hr hb0 _ _ _ h
  · refine z_bipush B dX0_says_86 (by decide) ?_
    refine z_goto (tgt := 92) B dX0_says_88 (by decide) ?_
    refine z_lv (lv' := [(0, .ref (ad b)), (1, .int (hg_I x1))]) B [0, 1] rfl ?_
    exact rX0_says_92 B hr hb0 _ _ _ h
set_option maxHeartbeats 4000000 in
set_option maxRecDepth 100000 in
theorem rX0_says_E (B : hg_B p s m args meth c cX0_says RX0 wsL_law 5 D cI cA ad 0 A) (hr : meth.sig.returnType = (some .int)) {b : Nat} (hb0 : hg_rd b) {a1 : Int} {a2 : Int} {a3 : Int} {w1 : hg_W} {r1 : Int} {w : hg_W} (h : fX0_says b w a1 a2 a3 = some (w1, r1)) : hg_At p l e (rmX0_says) s m args below meth c D cI cA ad 0 A (MQ below (hg_Qi D cI cA ad 0 A w1 r1) args s 0 0 A) 5 w [(0, .ref (ad b)), (1, .int (hg_I a1)), (2, .int (hg_I a2)), (3, .int (hg_I a3))] 0 [] := by
  unfold fX0_says at h
  refine z_aload_n B 0 dX0_says_0 rfl rfl ?_
  refine z_get0 (v := .ref (ad (b + 8))) B 8 dX0_says_1 inlX0 (hg_rd_lt hb0) (hg_rd_kd hb0) (by decide) (wl_3 13 rfl) rfl rfl ?_
  refine z_iconst B dX0_says_4 ?_
  refine z_aload_n B 0 dX0_says_5 rfl rfl ?_
  refine z_get0 (v := .ref (ad (b + 5))) B 5 dX0_says_6 inlX0 (hg_rd_lt hb0) (hg_rd_kd hb0) (by decide) (wl_3 10 rfl) rfl rfl ?_
  refine z_iload_n B 2 dX0_says_9 rfl rfl ?_
  obtain ⟨v1, q2, h⟩ := Option.bind_eq_some_iff.mp h
  refine z_iald (Or.inl rfl) B dX0_says_10 q2 ?_
  obtain ⟨w3, q4, h⟩ := Option.bind_eq_some_iff.mp h
  refine z_iast (Or.inl rfl) B dX0_says_11 q4 ?_
  refine z_aload_n B 0 dX0_says_12 rfl rfl ?_
  refine z_get0 (v := .ref (ad (b + 8))) B 8 dX0_says_13 inlX0 (hg_rd_lt hb0) (hg_rd_kd hb0) (by decide) (wl_3 13 rfl) rfl rfl ?_
  refine z_iconst B dX0_says_16 ?_
  refine z_iload_n B 3 dX0_says_17 rfl rfl ?_
  refine z_if_ge (tgt := 25) B dX0_says_18 (by decide) h (fun h => ?_) (fun h => ?_)
  · refine z_aload_n B 0 dX0_says_25 rfl rfl ?_
    refine z_get0 (v := .ref (ad (b + 1))) B 1 dX0_says_26 inlX0 (hg_rd_lt hb0) (hg_rd_kd hb0) (by decide) (wl_3 6 rfl) rfl rfl ?_
    refine z_iload_n B 3 dX0_says_29 rfl rfl ?_
    obtain ⟨v5, q6, h⟩ := Option.bind_eq_some_iff.mp h
    refine z_iald (Or.inl rfl) B dX0_says_30 q6 ?_
    refine z_lv (lv' := [(0, .ref (ad b)), (1, .int (hg_I a1)), (2, .int (hg_I a2))]) B [0, 1, 2] rfl ?_
    exact rX0_says_31 B hr hb0 _ _ _ _ _ h
  · refine z_iconst B dX0_says_21 ?_
    refine z_goto (tgt := 31) B dX0_says_22 (by decide) ?_
    refine z_lv (lv' := [(0, .ref (ad b)), (1, .int (hg_I a1)), (2, .int (hg_I a2))]) B [0, 1, 2] rfl ?_
    exact rX0_says_31 B hr hb0 _ _ _ _ _ h
set_option maxHeartbeats 4000000 in
set_option maxRecDepth 100000 in
theorem c_X0_says {l : Launch} {D : va_G} {cI cA : ClassId} {ad : Nat → Nat} {b : Nat} (hb0 : hg_rd b) {a1 : Int} {a2 : Int} {a3 : Int} {w w1 : hg_W} {r1 : Int} (h : fX0_says b w a1 a2 a3 = some (w1, r1)) : hg_Mi l yX0_says wxX0_says rmX0_says D cI cA ad 0 w [.ref (ad b), .int (hg_I a1), .int (hg_I a2), .int (hg_I a3)] w1 r1 := by
  refine z_meti cX0_says 5 (some .int) (by decide) (Nat.le_of_ble_eq_true rfl) ?_
  intro p e s m args below meth c A B hr
  exact rX0_says_E B hr hb0 h
abbrev wxX0_takes : List Cond := Cond.code yX0_takes cX0_takes 2 (some .int) :: wsL_law
def fX0_takes_50  (b : Nat) (w : hg_W) (x1 : Int) : Option (hg_W × Int) :=
  hg_bd (fX0_says b w 0 x1 (-1)) fun w1 v2 =>
  (hg_ag 0 w1 (b + 4) x1).bind fun v4 =>
  some (w1, wr (v2 + (5 * v4)))
def fX0_takes (b : Nat) (w : hg_W) (a1 : Int) : Option (hg_W × Int) :=
  (hg_ag 0 w (b + 3) a1).bind fun v1 =>
  if wr v1 = 1 then
    (
      hg_bd (fX0_says b w 0 a1 (-1)) fun w4 v5 =>
      some (w4, wr (hg_dv v5 4))
    )
  else
  if wr v1 = 2 then
    (
      fX0_takes_50 b w a1
    )
  else
  if wr v1 = 3 then
    (
      if wr (hg_rm (w b 12) 2) = 0 then
        (
          (hg_ag 0 w (b + 4) a1).bind fun v12 =>
          some (w, wr v12)
        )
      else
        hg_bd (fX0_says b w 0 a1 (-1)) fun w9 v10 =>
        some (w9, wr (hg_dv v10 4))
    )
  else
  if wr v1 = 4 then
    (
      fX0_takes_50 b w a1
    )
  else
  if wr v1 = 5 then
    (
      some (w, wr 99)
    )
  else
  hg_bd (fX0_says b w 0 a1 (-1)) fun w16 v17 =>
  some (w16, wr v17)
set_option maxHeartbeats 4000000 in
set_option maxRecDepth 100000 in
abbrev rmX0_takes : Room := { frames := 3, cells := 0, slots := 0, locals := 74 }
set_option maxHeartbeats 4000000 in
set_option maxRecDepth 100000 in
theorem rX0_takes_50 (B : hg_B p s m args meth c cX0_takes RX0 wsL_law 2 D cI cA ad 0 A) (hr : meth.sig.returnType = (some .int)) {b : Nat} (hb0 : hg_rd b) {w1 : hg_W} {r1 : Int} : ∀ (w : hg_W) (x1 : Int), fX0_takes_50 b w x1 = some (w1, r1) → hg_At p l e (rmX0_takes) s m args below meth c D cI cA ad 0 A (MQ below (hg_Qi D cI cA ad 0 A w1 r1) args s 0 0 A) 2 w [(0, .ref (ad b)), (1, .int (hg_I x1))] 50 [] := by
  intro w x1 h
  unfold fX0_takes_50 at h
  refine z_aload_n B 0 dX0_takes_50 rfl rfl ?_
  refine z_iconst B dX0_takes_51 ?_
  refine z_iload_n B 1 dX0_takes_52 rfl rfl ?_
  refine z_iconst B dX0_takes_53 ?_
  obtain ⟨w1, v2, q3, h⟩ := hg_bd_some h
  refine z_calliV (a := b) (ci := 0) (N := 14) (T := TX0) (C := RX0) (As := [.int (hg_I 0), .int (hg_I x1), .int (hg_I (-1))]) (n := 3) B dX0_takes_54 (c_X0_says hb0 q3) (gl_V (wl_19 6 rfl) (wl_16 3 rfl) (wl_16 4 rfl) (wl_1 22 rfl) (wl_16 5 rfl)) rfl ⟨rfl, rfl⟩ (by decide +kernel) ⟨Nat.le_of_ble_eq_true rfl, Nat.le_of_ble_eq_true rfl⟩ (hg_rd_lt hb0) (hg_rd_kd hb0) (by decide) rfl rfl rfl (Nat.le_of_ble_eq_true rfl) ?_
  refine z_iconst B dX0_takes_57 ?_
  refine z_aload_n B 0 dX0_takes_58 rfl rfl ?_
  refine z_get0 (v := .ref (ad (b + 4))) B 4 dX0_takes_59 inlX0 (hg_rd_lt hb0) (hg_rd_kd hb0) (by decide) (wl_3 9 rfl) rfl rfl ?_
  refine z_iload_n B 1 dX0_takes_62 rfl rfl ?_
  obtain ⟨v4, q5, h⟩ := Option.bind_eq_some_iff.mp h
  refine z_iald (Or.inl rfl) B dX0_takes_63 q5 ?_
  refine z_imul B dX0_takes_64 ?_
  refine z_iadd B dX0_takes_65 ?_
  exact z_iret B hr dX0_takes_66 h
set_option maxHeartbeats 4000000 in
set_option maxRecDepth 100000 in
theorem rX0_takes_E (B : hg_B p s m args meth c cX0_takes RX0 wsL_law 2 D cI cA ad 0 A) (hr : meth.sig.returnType = (some .int)) {b : Nat} (hb0 : hg_rd b) {a1 : Int} {w1 : hg_W} {r1 : Int} {w : hg_W} (h : fX0_takes b w a1 = some (w1, r1)) : hg_At p l e (rmX0_takes) s m args below meth c D cI cA ad 0 A (MQ below (hg_Qi D cI cA ad 0 A w1 r1) args s 0 0 A) 2 w [(0, .ref (ad b)), (1, .int (hg_I a1))] 0 [] := by
  unfold fX0_takes at h
  refine z_aload_n B 0 dX0_takes_0 rfl rfl ?_
  refine z_get0 (v := .ref (ad (b + 3))) B 3 dX0_takes_1 inlX0 (hg_rd_lt hb0) (hg_rd_kd hb0) (by decide) (wl_3 8 rfl) rfl rfl ?_
  refine z_iload_n B 1 dX0_takes_4 rfl rfl ?_
  obtain ⟨v1, q2, h⟩ := Option.bind_eq_some_iff.mp h
  refine z_iald (Or.inl rfl) B dX0_takes_5 q2 ?_
  by_cases z3 : wr v1 = 1
  · rw [if_pos z3] at h
    refine z_tabIn (off := 34) (tgt := 40) B dX0_takes_6 z3 (by decide) rfl (by decide) ?_
    refine z_aload_n B 0 dX0_takes_40 rfl rfl ?_
    refine z_iconst B dX0_takes_41 ?_
    refine z_iload_n B 1 dX0_takes_42 rfl rfl ?_
    refine z_iconst B dX0_takes_43 ?_
    obtain ⟨w4, v5, q6, h⟩ := hg_bd_some h
    refine z_calliV (a := b) (ci := 0) (N := 14) (T := TX0) (C := RX0) (As := [.int (hg_I 0), .int (hg_I a1), .int (hg_I (-1))]) (n := 3) B dX0_takes_44 (c_X0_says hb0 q6) (gl_V (wl_19 6 rfl) (wl_16 3 rfl) (wl_16 4 rfl) (wl_1 22 rfl) (wl_16 5 rfl)) rfl ⟨rfl, rfl⟩ (by decide +kernel) ⟨Nat.le_of_ble_eq_true rfl, Nat.le_of_ble_eq_true rfl⟩ (hg_rd_lt hb0) (hg_rd_kd hb0) (by decide) rfl rfl rfl (Nat.le_of_ble_eq_true rfl) ?_
    refine z_iconst B dX0_takes_47 ?_
    refine z_idiv B dX0_takes_48 (by decide) ?_
    exact z_iret B hr dX0_takes_49 h
  rw [if_neg z3] at h
  by_cases z7 : wr v1 = 2
  · rw [if_pos z7] at h
    refine z_tabIn (off := 44) (tgt := 50) B dX0_takes_6 z7 (by decide) rfl (by decide) ?_
    exact rX0_takes_50 B hr hb0 _ _ h
  rw [if_neg z7] at h
  by_cases z8 : wr v1 = 3
  · rw [if_pos z8] at h
    refine z_tabIn (off := 61) (tgt := 67) B dX0_takes_6 z8 (by decide) rfl (by decide) ?_
    refine z_aload_n B 0 dX0_takes_67 rfl rfl ?_
    refine z_get0 (v := .int (hg_I (w b 12))) B 12 dX0_takes_68 inlX0 (hg_rd_lt hb0) (hg_rd_kd hb0) (by decide) (wl_16 10 rfl) rfl rfl ?_
    refine z_iconst B dX0_takes_71 ?_
    refine z_irem B dX0_takes_72 (by decide) ?_
    refine z_if_ne (tgt := 85) B dX0_takes_73 (by decide) h (fun h => ?_) (fun h => ?_)
    · refine z_aload_n B 0 dX0_takes_85 rfl rfl ?_
      refine z_iconst B dX0_takes_86 ?_
      refine z_iload_n B 1 dX0_takes_87 rfl rfl ?_
      refine z_iconst B dX0_takes_88 ?_
      obtain ⟨w9, v10, q11, h⟩ := hg_bd_some h
      refine z_calliV (a := b) (ci := 0) (N := 14) (T := TX0) (C := RX0) (As := [.int (hg_I 0), .int (hg_I a1), .int (hg_I (-1))]) (n := 3) B dX0_takes_89 (c_X0_says hb0 q11) (gl_V (wl_19 6 rfl) (wl_16 3 rfl) (wl_16 4 rfl) (wl_1 22 rfl) (wl_16 5 rfl)) rfl ⟨rfl, rfl⟩ (by decide +kernel) ⟨Nat.le_of_ble_eq_true rfl, Nat.le_of_ble_eq_true rfl⟩ (hg_rd_lt hb0) (hg_rd_kd hb0) (by decide) rfl rfl rfl (Nat.le_of_ble_eq_true rfl) ?_
      refine z_iconst B dX0_takes_92 ?_
      refine z_idiv B dX0_takes_93 (by decide) ?_
      exact z_iret B hr dX0_takes_94 h
    · refine z_aload_n B 0 dX0_takes_76 rfl rfl ?_
      refine z_get0 (v := .ref (ad (b + 4))) B 4 dX0_takes_77 inlX0 (hg_rd_lt hb0) (hg_rd_kd hb0) (by decide) (wl_3 9 rfl) rfl rfl ?_
      refine z_iload_n B 1 dX0_takes_80 rfl rfl ?_
      obtain ⟨v12, q13, h⟩ := Option.bind_eq_some_iff.mp h
      refine z_iald (Or.inl rfl) B dX0_takes_81 q13 ?_
      refine z_goto (tgt := 94) B dX0_takes_82 (by decide) ?_
      exact z_iret B hr dX0_takes_94 h
  rw [if_neg z8] at h
  by_cases z14 : wr v1 = 4
  · rw [if_pos z14] at h
    refine z_tabIn (off := 44) (tgt := 50) B dX0_takes_6 z14 (by decide) rfl (by decide) ?_
    exact rX0_takes_50 B hr hb0 _ _ h
  rw [if_neg z14] at h
  by_cases z15 : wr v1 = 5
  · rw [if_pos z15] at h
    refine z_tabIn (off := 89) (tgt := 95) B dX0_takes_6 z15 (by decide) rfl (by decide) ?_
    refine z_bipush B dX0_takes_95 (by decide) ?_
    exact z_iret B hr dX0_takes_97 h
  rw [if_neg z15] at h
  refine z_tabOut (tgt := 98) B dX0_takes_6 (by omega) (by decide) ?_
  refine z_aload_n B 0 dX0_takes_98 rfl rfl ?_
  refine z_iconst B dX0_takes_99 ?_
  refine z_iload_n B 1 dX0_takes_100 rfl rfl ?_
  refine z_iconst B dX0_takes_101 ?_
  obtain ⟨w16, v17, q18, h⟩ := hg_bd_some h
  refine z_calliV (a := b) (ci := 0) (N := 14) (T := TX0) (C := RX0) (As := [.int (hg_I 0), .int (hg_I a1), .int (hg_I (-1))]) (n := 3) B dX0_takes_102 (c_X0_says hb0 q18) (gl_V (wl_19 6 rfl) (wl_16 3 rfl) (wl_16 4 rfl) (wl_1 22 rfl) (wl_16 5 rfl)) rfl ⟨rfl, rfl⟩ (by decide +kernel) ⟨Nat.le_of_ble_eq_true rfl, Nat.le_of_ble_eq_true rfl⟩ (hg_rd_lt hb0) (hg_rd_kd hb0) (by decide) rfl rfl rfl (Nat.le_of_ble_eq_true rfl) ?_
  exact z_iret B hr dX0_takes_105 h
set_option maxHeartbeats 4000000 in
set_option maxRecDepth 100000 in
theorem c_X0_takes {l : Launch} {D : va_G} {cI cA : ClassId} {ad : Nat → Nat} {b : Nat} (hb0 : hg_rd b) {a1 : Int} {w w1 : hg_W} {r1 : Int} (h : fX0_takes b w a1 = some (w1, r1)) : hg_Mi l yX0_takes wxX0_takes rmX0_takes D cI cA ad 0 w [.ref (ad b), .int (hg_I a1)] w1 r1 := by
  refine z_meti cX0_takes 2 (some .int) (by decide) (Nat.le_of_ble_eq_true rfl) ?_
  intro p e s m args below meth c A B hr
  exact rX0_takes_E B hr hb0 h
abbrev wxX0_sounds : List Cond := Cond.code yX0_sounds cX0_sounds 3 (some .int) :: wsL_law
def fX0_sounds_70  (b : Nat) (w : hg_W) (x1 : Int) (x2 : Int) : Option (hg_W × Int) :=
  hg_bd (fX0_says b w 1 x1 x2) fun w1 v2 =>
  some (w1, wr v2)
def fX0_sounds (b : Nat) (w : hg_W) (a1 : Int) (a2 : Int) : Option (hg_W × Int) :=
  (hg_ag 0 w (b + 3) a1).bind fun v1 =>
  if wr v1 = 1 then
    (
      hg_bd (fX0_says b w 1 a1 a2) fun w4 v5 =>
      (hg_ag 0 w4 (b + 4) a1).bind fun v7 =>
      some (w4, wr (v5 + v7))
    )
  else
  if wr v1 = 2 then
    (
      fX0_sounds_70 b w a1 a2
    )
  else
  if wr v1 = 3 then
    (
      hg_bd (fX0_says b w 1 a1 a2) fun w11 v12 =>
      (hg_ag 0 w11 (b + 4) a1).bind fun v14 =>
      some (w11, wr (3 * (v12 + v14)))
    )
  else
  if wr v1 = 4 then
    (
      some (w, wr 0)
    )
  else
  fX0_sounds_70 b w a1 a2
set_option maxHeartbeats 4000000 in
set_option maxRecDepth 100000 in
abbrev rmX0_sounds : Room := { frames := 3, cells := 0, slots := 0, locals := 74 }
set_option maxHeartbeats 4000000 in
set_option maxRecDepth 100000 in
theorem rX0_sounds_70 (B : hg_B p s m args meth c cX0_sounds RX0 wsL_law 3 D cI cA ad 0 A) (hr : meth.sig.returnType = (some .int)) {b : Nat} (hb0 : hg_rd b) {w1 : hg_W} {r1 : Int} : ∀ (w : hg_W) (x1 : Int) (x2 : Int), fX0_sounds_70 b w x1 x2 = some (w1, r1) → hg_At p l e (rmX0_sounds) s m args below meth c D cI cA ad 0 A (MQ below (hg_Qi D cI cA ad 0 A w1 r1) args s 0 0 A) 3 w [(0, .ref (ad b)), (1, .int (hg_I x1)), (2, .int (hg_I x2))] 70 [] := by
  intro w x1 x2 h
  unfold fX0_sounds_70 at h
  refine z_aload_n B 0 dX0_sounds_70 rfl rfl ?_
  refine z_iconst B dX0_sounds_71 ?_
  refine z_iload_n B 1 dX0_sounds_72 rfl rfl ?_
  refine z_iload_n B 2 dX0_sounds_73 rfl rfl ?_
  obtain ⟨w1, v2, q3, h⟩ := hg_bd_some h
  refine z_calliV (a := b) (ci := 0) (N := 14) (T := TX0) (C := RX0) (As := [.int (hg_I 1), .int (hg_I x1), .int (hg_I x2)]) (n := 3) B dX0_sounds_74 (c_X0_says hb0 q3) (gl_V (wl_19 6 rfl) (wl_16 3 rfl) (wl_16 4 rfl) (wl_1 22 rfl) (wl_16 5 rfl)) rfl ⟨rfl, rfl⟩ (by decide +kernel) ⟨Nat.le_of_ble_eq_true rfl, Nat.le_of_ble_eq_true rfl⟩ (hg_rd_lt hb0) (hg_rd_kd hb0) (by decide) rfl rfl rfl (Nat.le_of_ble_eq_true rfl) ?_
  exact z_iret B hr dX0_sounds_77 h
set_option maxHeartbeats 4000000 in
set_option maxRecDepth 100000 in
theorem rX0_sounds_E (B : hg_B p s m args meth c cX0_sounds RX0 wsL_law 3 D cI cA ad 0 A) (hr : meth.sig.returnType = (some .int)) {b : Nat} (hb0 : hg_rd b) {a1 : Int} {a2 : Int} {w1 : hg_W} {r1 : Int} {w : hg_W} (h : fX0_sounds b w a1 a2 = some (w1, r1)) : hg_At p l e (rmX0_sounds) s m args below meth c D cI cA ad 0 A (MQ below (hg_Qi D cI cA ad 0 A w1 r1) args s 0 0 A) 3 w [(0, .ref (ad b)), (1, .int (hg_I a1)), (2, .int (hg_I a2))] 0 [] := by
  unfold fX0_sounds at h
  refine z_aload_n B 0 dX0_sounds_0 rfl rfl ?_
  refine z_get0 (v := .ref (ad (b + 3))) B 3 dX0_sounds_1 inlX0 (hg_rd_lt hb0) (hg_rd_kd hb0) (by decide) (wl_3 8 rfl) rfl rfl ?_
  refine z_iload_n B 1 dX0_sounds_4 rfl rfl ?_
  obtain ⟨v1, q2, h⟩ := Option.bind_eq_some_iff.mp h
  refine z_iald (Or.inl rfl) B dX0_sounds_5 q2 ?_
  by_cases z3 : wr v1 = 1
  · rw [if_pos z3] at h
    refine z_tabIn (off := 30) (tgt := 36) B dX0_sounds_6 z3 (by decide) rfl (by decide) ?_
    refine z_aload_n B 0 dX0_sounds_36 rfl rfl ?_
    refine z_iconst B dX0_sounds_37 ?_
    refine z_iload_n B 1 dX0_sounds_38 rfl rfl ?_
    refine z_iload_n B 2 dX0_sounds_39 rfl rfl ?_
    obtain ⟨w4, v5, q6, h⟩ := hg_bd_some h
    refine z_calliV (a := b) (ci := 0) (N := 14) (T := TX0) (C := RX0) (As := [.int (hg_I 1), .int (hg_I a1), .int (hg_I a2)]) (n := 3) B dX0_sounds_40 (c_X0_says hb0 q6) (gl_V (wl_19 6 rfl) (wl_16 3 rfl) (wl_16 4 rfl) (wl_1 22 rfl) (wl_16 5 rfl)) rfl ⟨rfl, rfl⟩ (by decide +kernel) ⟨Nat.le_of_ble_eq_true rfl, Nat.le_of_ble_eq_true rfl⟩ (hg_rd_lt hb0) (hg_rd_kd hb0) (by decide) rfl rfl rfl (Nat.le_of_ble_eq_true rfl) ?_
    refine z_aload_n B 0 dX0_sounds_43 rfl rfl ?_
    refine z_get0 (v := .ref (ad (b + 4))) B 4 dX0_sounds_44 inlX0 (hg_rd_lt hb0) (hg_rd_kd hb0) (by decide) (wl_3 9 rfl) rfl rfl ?_
    refine z_iload_n B 1 dX0_sounds_47 rfl rfl ?_
    obtain ⟨v7, q8, h⟩ := Option.bind_eq_some_iff.mp h
    refine z_iald (Or.inl rfl) B dX0_sounds_48 q8 ?_
    refine z_iadd B dX0_sounds_49 ?_
    exact z_iret B hr dX0_sounds_50 h
  rw [if_neg z3] at h
  by_cases z9 : wr v1 = 2
  · rw [if_pos z9] at h
    refine z_tabIn (off := 64) (tgt := 70) B dX0_sounds_6 z9 (by decide) rfl (by decide) ?_
    exact rX0_sounds_70 B hr hb0 _ _ _ h
  rw [if_neg z9] at h
  by_cases z10 : wr v1 = 3
  · rw [if_pos z10] at h
    refine z_tabIn (off := 45) (tgt := 51) B dX0_sounds_6 z10 (by decide) rfl (by decide) ?_
    refine z_iconst B dX0_sounds_51 ?_
    refine z_aload_n B 0 dX0_sounds_52 rfl rfl ?_
    refine z_iconst B dX0_sounds_53 ?_
    refine z_iload_n B 1 dX0_sounds_54 rfl rfl ?_
    refine z_iload_n B 2 dX0_sounds_55 rfl rfl ?_
    obtain ⟨w11, v12, q13, h⟩ := hg_bd_some h
    refine z_calliV (a := b) (ci := 0) (N := 14) (T := TX0) (C := RX0) (As := [.int (hg_I 1), .int (hg_I a1), .int (hg_I a2)]) (n := 3) B dX0_sounds_56 (c_X0_says hb0 q13) (gl_V (wl_19 6 rfl) (wl_16 3 rfl) (wl_16 4 rfl) (wl_1 22 rfl) (wl_16 5 rfl)) rfl ⟨rfl, rfl⟩ (by decide +kernel) ⟨Nat.le_of_ble_eq_true rfl, Nat.le_of_ble_eq_true rfl⟩ (hg_rd_lt hb0) (hg_rd_kd hb0) (by decide) rfl rfl rfl (Nat.le_of_ble_eq_true rfl) ?_
    refine z_aload_n B 0 dX0_sounds_59 rfl rfl ?_
    refine z_get0 (v := .ref (ad (b + 4))) B 4 dX0_sounds_60 inlX0 (hg_rd_lt hb0) (hg_rd_kd hb0) (by decide) (wl_3 9 rfl) rfl rfl ?_
    refine z_iload_n B 1 dX0_sounds_63 rfl rfl ?_
    obtain ⟨v14, q15, h⟩ := Option.bind_eq_some_iff.mp h
    refine z_iald (Or.inl rfl) B dX0_sounds_64 q15 ?_
    refine z_iadd B dX0_sounds_65 ?_
    refine z_imul B dX0_sounds_66 ?_
    exact z_iret B hr dX0_sounds_67 h
  rw [if_neg z10] at h
  by_cases z16 : wr v1 = 4
  · rw [if_pos z16] at h
    refine z_tabIn (off := 62) (tgt := 68) B dX0_sounds_6 z16 (by decide) rfl (by decide) ?_
    refine z_iconst B dX0_sounds_68 ?_
    exact z_iret B hr dX0_sounds_69 h
  rw [if_neg z16] at h
  refine z_tabOut (tgt := 70) B dX0_sounds_6 (by omega) (by decide) ?_
  exact rX0_sounds_70 B hr hb0 _ _ _ h
set_option maxHeartbeats 4000000 in
set_option maxRecDepth 100000 in
theorem c_X0_sounds {l : Launch} {D : va_G} {cI cA : ClassId} {ad : Nat → Nat} {b : Nat} (hb0 : hg_rd b) {a1 : Int} {a2 : Int} {w w1 : hg_W} {r1 : Int} (h : fX0_sounds b w a1 a2 = some (w1, r1)) : hg_Mi l yX0_sounds wxX0_sounds rmX0_sounds D cI cA ad 0 w [.ref (ad b), .int (hg_I a1), .int (hg_I a2)] w1 r1 := by
  refine z_meti cX0_sounds 3 (some .int) (by decide) (Nat.le_of_ble_eq_true rfl) ?_
  intro p e s m args below meth c A B hr
  exact rX0_sounds_E B hr hb0 h
abbrev wxX0_costs : List Cond := Cond.code yX0_costs cX0_costs 3 (some .int) :: wsL_law
def fX0_costs_65  (b : Nat) (w : hg_W) (x1 : Int) (x2 : Int) : Option (hg_W × Int) :=
  hg_bd (fX0_says b w 2 x1 x2) fun w1 v2 =>
  some (w1, wr v2)
def fX0_costs (b : Nat) (w : hg_W) (a1 : Int) (a2 : Int) : Option (hg_W × Int) :=
  (hg_ag 0 w (b + 3) a1).bind fun v1 =>
  if wr v1 = 2 then
    (
      hg_bd (fX0_says b w 2 a1 a2) fun w4 v5 =>
      some (w4, wr (2 * v5))
    )
  else
  if wr v1 = 3 then
    (
      fX0_costs_65 b w a1 a2
    )
  else
  if wr v1 = 4 then
    (
      hg_bd (fX0_says b w 2 a1 a2) fun w9 v10 =>
      (hg_ag 0 w9 (b + 4) a1).bind fun v12 =>
      some (w9, wr ((2 * v10) - v12))
    )
  else
  if wr v1 = 5 then
    (
      some (w, wr 0)
    )
  else
  fX0_costs_65 b w a1 a2
set_option maxHeartbeats 4000000 in
set_option maxRecDepth 100000 in
abbrev rmX0_costs : Room := { frames := 3, cells := 0, slots := 0, locals := 74 }
set_option maxHeartbeats 4000000 in
set_option maxRecDepth 100000 in
theorem rX0_costs_65 (B : hg_B p s m args meth c cX0_costs RX0 wsL_law 3 D cI cA ad 0 A) (hr : meth.sig.returnType = (some .int)) {b : Nat} (hb0 : hg_rd b) {w1 : hg_W} {r1 : Int} : ∀ (w : hg_W) (x1 : Int) (x2 : Int), fX0_costs_65 b w x1 x2 = some (w1, r1) → hg_At p l e (rmX0_costs) s m args below meth c D cI cA ad 0 A (MQ below (hg_Qi D cI cA ad 0 A w1 r1) args s 0 0 A) 3 w [(0, .ref (ad b)), (1, .int (hg_I x1)), (2, .int (hg_I x2))] 65 [] := by
  intro w x1 x2 h
  unfold fX0_costs_65 at h
  refine z_aload_n B 0 dX0_costs_65 rfl rfl ?_
  refine z_iconst B dX0_costs_66 ?_
  refine z_iload_n B 1 dX0_costs_67 rfl rfl ?_
  refine z_iload_n B 2 dX0_costs_68 rfl rfl ?_
  obtain ⟨w1, v2, q3, h⟩ := hg_bd_some h
  refine z_calliV (a := b) (ci := 0) (N := 14) (T := TX0) (C := RX0) (As := [.int (hg_I 2), .int (hg_I x1), .int (hg_I x2)]) (n := 3) B dX0_costs_69 (c_X0_says hb0 q3) (gl_V (wl_19 6 rfl) (wl_16 3 rfl) (wl_16 4 rfl) (wl_1 22 rfl) (wl_16 5 rfl)) rfl ⟨rfl, rfl⟩ (by decide +kernel) ⟨Nat.le_of_ble_eq_true rfl, Nat.le_of_ble_eq_true rfl⟩ (hg_rd_lt hb0) (hg_rd_kd hb0) (by decide) rfl rfl rfl (Nat.le_of_ble_eq_true rfl) ?_
  exact z_iret B hr dX0_costs_72 h
set_option maxHeartbeats 4000000 in
set_option maxRecDepth 100000 in
theorem rX0_costs_E (B : hg_B p s m args meth c cX0_costs RX0 wsL_law 3 D cI cA ad 0 A) (hr : meth.sig.returnType = (some .int)) {b : Nat} (hb0 : hg_rd b) {a1 : Int} {a2 : Int} {w1 : hg_W} {r1 : Int} {w : hg_W} (h : fX0_costs b w a1 a2 = some (w1, r1)) : hg_At p l e (rmX0_costs) s m args below meth c D cI cA ad 0 A (MQ below (hg_Qi D cI cA ad 0 A w1 r1) args s 0 0 A) 3 w [(0, .ref (ad b)), (1, .int (hg_I a1)), (2, .int (hg_I a2))] 0 [] := by
  unfold fX0_costs at h
  refine z_aload_n B 0 dX0_costs_0 rfl rfl ?_
  refine z_get0 (v := .ref (ad (b + 3))) B 3 dX0_costs_1 inlX0 (hg_rd_lt hb0) (hg_rd_kd hb0) (by decide) (wl_3 8 rfl) rfl rfl ?_
  refine z_iload_n B 1 dX0_costs_4 rfl rfl ?_
  obtain ⟨v1, q2, h⟩ := Option.bind_eq_some_iff.mp h
  refine z_iald (Or.inl rfl) B dX0_costs_5 q2 ?_
  by_cases z3 : wr v1 = 2
  · rw [if_pos z3] at h
    refine z_tabIn (off := 30) (tgt := 36) B dX0_costs_6 z3 (by decide) rfl (by decide) ?_
    refine z_iconst B dX0_costs_36 ?_
    refine z_aload_n B 0 dX0_costs_37 rfl rfl ?_
    refine z_iconst B dX0_costs_38 ?_
    refine z_iload_n B 1 dX0_costs_39 rfl rfl ?_
    refine z_iload_n B 2 dX0_costs_40 rfl rfl ?_
    obtain ⟨w4, v5, q6, h⟩ := hg_bd_some h
    refine z_calliV (a := b) (ci := 0) (N := 14) (T := TX0) (C := RX0) (As := [.int (hg_I 2), .int (hg_I a1), .int (hg_I a2)]) (n := 3) B dX0_costs_41 (c_X0_says hb0 q6) (gl_V (wl_19 6 rfl) (wl_16 3 rfl) (wl_16 4 rfl) (wl_1 22 rfl) (wl_16 5 rfl)) rfl ⟨rfl, rfl⟩ (by decide +kernel) ⟨Nat.le_of_ble_eq_true rfl, Nat.le_of_ble_eq_true rfl⟩ (hg_rd_lt hb0) (hg_rd_kd hb0) (by decide) rfl rfl rfl (Nat.le_of_ble_eq_true rfl) ?_
    refine z_imul B dX0_costs_44 ?_
    exact z_iret B hr dX0_costs_45 h
  rw [if_neg z3] at h
  by_cases z7 : wr v1 = 3
  · rw [if_pos z7] at h
    refine z_tabIn (off := 59) (tgt := 65) B dX0_costs_6 z7 (by decide) rfl (by decide) ?_
    exact rX0_costs_65 B hr hb0 _ _ _ h
  rw [if_neg z7] at h
  by_cases z8 : wr v1 = 4
  · rw [if_pos z8] at h
    refine z_tabIn (off := 40) (tgt := 46) B dX0_costs_6 z8 (by decide) rfl (by decide) ?_
    refine z_iconst B dX0_costs_46 ?_
    refine z_aload_n B 0 dX0_costs_47 rfl rfl ?_
    refine z_iconst B dX0_costs_48 ?_
    refine z_iload_n B 1 dX0_costs_49 rfl rfl ?_
    refine z_iload_n B 2 dX0_costs_50 rfl rfl ?_
    obtain ⟨w9, v10, q11, h⟩ := hg_bd_some h
    refine z_calliV (a := b) (ci := 0) (N := 14) (T := TX0) (C := RX0) (As := [.int (hg_I 2), .int (hg_I a1), .int (hg_I a2)]) (n := 3) B dX0_costs_51 (c_X0_says hb0 q11) (gl_V (wl_19 6 rfl) (wl_16 3 rfl) (wl_16 4 rfl) (wl_1 22 rfl) (wl_16 5 rfl)) rfl ⟨rfl, rfl⟩ (by decide +kernel) ⟨Nat.le_of_ble_eq_true rfl, Nat.le_of_ble_eq_true rfl⟩ (hg_rd_lt hb0) (hg_rd_kd hb0) (by decide) rfl rfl rfl (Nat.le_of_ble_eq_true rfl) ?_
    refine z_imul B dX0_costs_54 ?_
    refine z_aload_n B 0 dX0_costs_55 rfl rfl ?_
    refine z_get0 (v := .ref (ad (b + 4))) B 4 dX0_costs_56 inlX0 (hg_rd_lt hb0) (hg_rd_kd hb0) (by decide) (wl_3 9 rfl) rfl rfl ?_
    refine z_iload_n B 1 dX0_costs_59 rfl rfl ?_
    obtain ⟨v12, q13, h⟩ := Option.bind_eq_some_iff.mp h
    refine z_iald (Or.inl rfl) B dX0_costs_60 q13 ?_
    refine z_isub B dX0_costs_61 ?_
    exact z_iret B hr dX0_costs_62 h
  rw [if_neg z8] at h
  by_cases z14 : wr v1 = 5
  · rw [if_pos z14] at h
    refine z_tabIn (off := 57) (tgt := 63) B dX0_costs_6 z14 (by decide) rfl (by decide) ?_
    refine z_iconst B dX0_costs_63 ?_
    exact z_iret B hr dX0_costs_64 h
  rw [if_neg z14] at h
  refine z_tabOut (tgt := 65) B dX0_costs_6 (by omega) (by decide) ?_
  exact rX0_costs_65 B hr hb0 _ _ _ h
set_option maxHeartbeats 4000000 in
set_option maxRecDepth 100000 in
theorem c_X0_costs {l : Launch} {D : va_G} {cI cA : ClassId} {ad : Nat → Nat} {b : Nat} (hb0 : hg_rd b) {a1 : Int} {a2 : Int} {w w1 : hg_W} {r1 : Int} (h : fX0_costs b w a1 a2 = some (w1, r1)) : hg_Mi l yX0_costs wxX0_costs rmX0_costs D cI cA ad 0 w [.ref (ad b), .int (hg_I a1), .int (hg_I a2)] w1 r1 := by
  refine z_meti cX0_costs 3 (some .int) (by decide) (Nat.le_of_ble_eq_true rfl) ?_
  intro p e s m args below meth c A B hr
  exact rX0_costs_E B hr hb0 h
abbrev wxX0_coinUpTo : List Cond := Cond.code yX0_coinUpTo cX0_coinUpTo 5 (some .int) :: wsL_law
def fX0_coinUpTo_81 (K7 : hg_W → Int → Int → Int → Int → Option (hg_W × Int)) (b : Nat) (w : hg_W) (x1 : Int) (x2 : Int) (x3 : Int) (x4 : Int) : Option (hg_W × Int) :=
  K7 w x1 x2 x3 (x4 + 1)
def fX0_coinUpTo_78 (K7 : hg_W → Int → Int → Int → Int → Option (hg_W × Int)) (b : Nat) (w : hg_W) (x1 : Int) (x2 : Int) (x4 : Int) : Option (hg_W × Int) :=
  fX0_coinUpTo_81 K7 b w x1 x2 x4 x4
def fX0_coinUpTo_58 (K7 : hg_W → Int → Int → Int → Int → Option (hg_W × Int)) (b : Nat) (w : hg_W) (x1 : Int) (x2 : Int) (x3 : Int) (x4 : Int) : Option (hg_W × Int) :=
  if wr x3 < 0 then
    (
      fX0_coinUpTo_78 K7 b w x1 x2 x4
    )
  else
    (hg_ag 0 w (b + 1) x4).bind fun v1 =>
    (hg_ag 0 w (b + 1) x3).bind fun v3 =>
    if wr v3 ≤ wr v1 then
      (
        fX0_coinUpTo_81 K7 b w x1 x2 x3 x4
      )
    else
      fX0_coinUpTo_78 K7 b w x1 x2 x4
def fX0_coinUpTo_55 (K7 : hg_W → Int → Int → Int → Int → Option (hg_W × Int)) (b : Nat) (w : hg_W) (x1 : Int) (x3 : Int) (x4 : Int) : Option (hg_W × Int) :=
  fX0_coinUpTo_58 K7 b w x1 x4 x3 x4
def fX0_coinUpTo_7  (b : Nat) : Nat → hg_W → Int → Int → Int → Int → Option (hg_W × Int)
  | 0, _, _, _, _, _ => none
  | n + 1, w, x1, x2, x3, x4 =>
    if wr 6 ≤ wr x4 then
      (
        if 0 ≤ wr x2 then
          (
            some (w, wr x2)
          )
        else
          some (w, wr x3)
      )
    else
      (hg_ag 0 w (b + 2) x4).bind fun v1 =>
      if wr v1 ≤ 0 then
        (
          fX0_coinUpTo_81 (fX0_coinUpTo_7 b n) b w x1 x2 x3 x4
        )
      else
        (hg_ag 0 w (b + 1) x4).bind fun v3 =>
        if wr x1 < wr v3 then
          (
            fX0_coinUpTo_58 (fX0_coinUpTo_7 b n) b w x1 x2 x3 x4
          )
        else
          if wr x2 < 0 then
            (
              fX0_coinUpTo_55 (fX0_coinUpTo_7 b n) b w x1 x3 x4
            )
          else
            (hg_ag 0 w (b + 1) x4).bind fun v5 =>
            (hg_ag 0 w (b + 1) x2).bind fun v7 =>
            if wr v5 ≤ wr v7 then
              (
                fX0_coinUpTo_58 (fX0_coinUpTo_7 b n) b w x1 x2 x3 x4
              )
            else
              fX0_coinUpTo_55 (fX0_coinUpTo_7 b n) b w x1 x3 x4
def fX0_coinUpTo (b : Nat) (w : hg_W) (a1 : Int) : Option (hg_W × Int) :=
  fX0_coinUpTo_7 b hg_F w a1 (-1) (-1) 0
set_option maxHeartbeats 4000000 in
set_option maxRecDepth 100000 in
abbrev rmX0_coinUpTo : Room := { frames := 0, cells := 0, slots := 0, locals := 0 }
set_option maxHeartbeats 4000000 in
set_option maxRecDepth 100000 in
theorem rX0_coinUpTo_81 (B : hg_B p s m args meth c cX0_coinUpTo RX0 wsL_law 5 D cI cA ad 0 A) (hr : meth.sig.returnType = (some .int)) {b : Nat} (hb0 : hg_rd b) {w1 : hg_W} {r1 : Int} {K7 : hg_W → Int → Int → Int → Int → Option (hg_W × Int)} (hK7 : ∀ (w : hg_W) (x1 : Int) (x2 : Int) (x3 : Int) (x4 : Int), K7 w x1 x2 x3 x4 = some (w1, r1) → hg_At p l e (rmX0_coinUpTo) s m args below meth c D cI cA ad 0 A (MQ below (hg_Qi D cI cA ad 0 A w1 r1) args s 0 0 A) 5 w [(0, .ref (ad b)), (1, .int (hg_I x1)), (2, .int (hg_I x2)), (3, .int (hg_I x3)), (4, .int (hg_I x4))] 7 []) : ∀ (w : hg_W) (x1 : Int) (x2 : Int) (x3 : Int) (x4 : Int), fX0_coinUpTo_81 K7 b w x1 x2 x3 x4 = some (w1, r1) → hg_At p l e (rmX0_coinUpTo) s m args below meth c D cI cA ad 0 A (MQ below (hg_Qi D cI cA ad 0 A w1 r1) args s 0 0 A) 5 w [(0, .ref (ad b)), (1, .int (hg_I x1)), (2, .int (hg_I x2)), (3, .int (hg_I x3)), (4, .int (hg_I x4))] 81 [] := by
  intro w x1 x2 x3 x4 h
  unfold fX0_coinUpTo_81 at h
  refine z_iinc B 4 [(4, .int (hg_I (x4 + 1))), (0, .ref (ad b)), (1, .int (hg_I x1)), (2, .int (hg_I x2)), (3, .int (hg_I x3))] dX0_coinUpTo_81 rfl (by decide) rfl ?_
  refine z_goto (tgt := 7) B dX0_coinUpTo_84 (by decide) ?_
  refine z_lv (lv' := [(0, .ref (ad b)), (1, .int (hg_I x1)), (2, .int (hg_I x2)), (3, .int (hg_I x3)), (4, .int (hg_I (x4 + 1)))]) B [1, 2, 3, 4, 0] rfl ?_
  exact hK7 _ _ _ _ _ h
set_option maxHeartbeats 4000000 in
set_option maxRecDepth 100000 in
theorem rX0_coinUpTo_78 (B : hg_B p s m args meth c cX0_coinUpTo RX0 wsL_law 5 D cI cA ad 0 A) (hr : meth.sig.returnType = (some .int)) {b : Nat} (hb0 : hg_rd b) {w1 : hg_W} {r1 : Int} {K7 : hg_W → Int → Int → Int → Int → Option (hg_W × Int)} (hK7 : ∀ (w : hg_W) (x1 : Int) (x2 : Int) (x3 : Int) (x4 : Int), K7 w x1 x2 x3 x4 = some (w1, r1) → hg_At p l e (rmX0_coinUpTo) s m args below meth c D cI cA ad 0 A (MQ below (hg_Qi D cI cA ad 0 A w1 r1) args s 0 0 A) 5 w [(0, .ref (ad b)), (1, .int (hg_I x1)), (2, .int (hg_I x2)), (3, .int (hg_I x3)), (4, .int (hg_I x4))] 7 []) : ∀ (w : hg_W) (x1 : Int) (x2 : Int) (x4 : Int), fX0_coinUpTo_78 K7 b w x1 x2 x4 = some (w1, r1) → hg_At p l e (rmX0_coinUpTo) s m args below meth c D cI cA ad 0 A (MQ below (hg_Qi D cI cA ad 0 A w1 r1) args s 0 0 A) 5 w [(0, .ref (ad b)), (1, .int (hg_I x1)), (2, .int (hg_I x2)), (4, .int (hg_I x4))] 78 [] := by
  intro w x1 x2 x4 h
  unfold fX0_coinUpTo_78 at h
  refine z_iload B 3 dX0_coinUpTo_78 rfl ?_
  refine z_istore_n B [(3, .int (hg_I x4)), (0, .ref (ad b)), (1, .int (hg_I x1)), (2, .int (hg_I x2)), (4, .int (hg_I x4))] dX0_coinUpTo_80 rfl (by decide) rfl ?_
  refine z_lv (lv' := [(0, .ref (ad b)), (1, .int (hg_I x1)), (2, .int (hg_I x2)), (3, .int (hg_I x4)), (4, .int (hg_I x4))]) B [1, 2, 3, 0, 4] rfl ?_
  exact rX0_coinUpTo_81 B hr hb0 hK7 _ _ _ _ _ h
set_option maxHeartbeats 4000000 in
set_option maxRecDepth 100000 in
theorem rX0_coinUpTo_58 (B : hg_B p s m args meth c cX0_coinUpTo RX0 wsL_law 5 D cI cA ad 0 A) (hr : meth.sig.returnType = (some .int)) {b : Nat} (hb0 : hg_rd b) {w1 : hg_W} {r1 : Int} {K7 : hg_W → Int → Int → Int → Int → Option (hg_W × Int)} (hK7 : ∀ (w : hg_W) (x1 : Int) (x2 : Int) (x3 : Int) (x4 : Int), K7 w x1 x2 x3 x4 = some (w1, r1) → hg_At p l e (rmX0_coinUpTo) s m args below meth c D cI cA ad 0 A (MQ below (hg_Qi D cI cA ad 0 A w1 r1) args s 0 0 A) 5 w [(0, .ref (ad b)), (1, .int (hg_I x1)), (2, .int (hg_I x2)), (3, .int (hg_I x3)), (4, .int (hg_I x4))] 7 []) : ∀ (w : hg_W) (x1 : Int) (x2 : Int) (x3 : Int) (x4 : Int), fX0_coinUpTo_58 K7 b w x1 x2 x3 x4 = some (w1, r1) → hg_At p l e (rmX0_coinUpTo) s m args below meth c D cI cA ad 0 A (MQ below (hg_Qi D cI cA ad 0 A w1 r1) args s 0 0 A) 5 w [(0, .ref (ad b)), (1, .int (hg_I x1)), (2, .int (hg_I x2)), (3, .int (hg_I x3)), (4, .int (hg_I x4))] 58 [] := by
  intro w x1 x2 x3 x4 h
  unfold fX0_coinUpTo_58 at h
  refine z_iload_n B 3 dX0_coinUpTo_58 rfl rfl ?_
  refine z_if_lt (tgt := 78) B dX0_coinUpTo_59 (by decide) h (fun h => ?_) (fun h => ?_)
  · refine z_lv (lv' := [(0, .ref (ad b)), (1, .int (hg_I x1)), (2, .int (hg_I x2)), (4, .int (hg_I x4))]) B [0, 1, 2, 4] rfl ?_
    exact rX0_coinUpTo_78 B hr hb0 hK7 _ _ _ _ h
  · refine z_aload_n B 0 dX0_coinUpTo_62 rfl rfl ?_
    refine z_get0 (v := .ref (ad (b + 1))) B 1 dX0_coinUpTo_63 inlX0 (hg_rd_lt hb0) (hg_rd_kd hb0) (by decide) (wl_3 6 rfl) rfl rfl ?_
    refine z_iload B 4 dX0_coinUpTo_66 rfl ?_
    obtain ⟨v1, q2, h⟩ := Option.bind_eq_some_iff.mp h
    refine z_iald (Or.inl rfl) B dX0_coinUpTo_68 q2 ?_
    refine z_aload_n B 0 dX0_coinUpTo_69 rfl rfl ?_
    refine z_get0 (v := .ref (ad (b + 1))) B 1 dX0_coinUpTo_70 inlX0 (hg_rd_lt hb0) (hg_rd_kd hb0) (by decide) (wl_3 6 rfl) rfl rfl ?_
    refine z_iload_n B 3 dX0_coinUpTo_73 rfl rfl ?_
    obtain ⟨v3, q4, h⟩ := Option.bind_eq_some_iff.mp h
    refine z_iald (Or.inl rfl) B dX0_coinUpTo_74 q4 ?_
    refine z_icmp_ge (tgt := 81) B dX0_coinUpTo_75 (by decide) h (fun h => ?_) (fun h => ?_)
    · exact rX0_coinUpTo_81 B hr hb0 hK7 _ _ _ _ _ h
    · refine z_lv (lv' := [(0, .ref (ad b)), (1, .int (hg_I x1)), (2, .int (hg_I x2)), (4, .int (hg_I x4))]) B [0, 1, 2, 4] rfl ?_
      exact rX0_coinUpTo_78 B hr hb0 hK7 _ _ _ _ h
set_option maxHeartbeats 4000000 in
set_option maxRecDepth 100000 in
theorem rX0_coinUpTo_55 (B : hg_B p s m args meth c cX0_coinUpTo RX0 wsL_law 5 D cI cA ad 0 A) (hr : meth.sig.returnType = (some .int)) {b : Nat} (hb0 : hg_rd b) {w1 : hg_W} {r1 : Int} {K7 : hg_W → Int → Int → Int → Int → Option (hg_W × Int)} (hK7 : ∀ (w : hg_W) (x1 : Int) (x2 : Int) (x3 : Int) (x4 : Int), K7 w x1 x2 x3 x4 = some (w1, r1) → hg_At p l e (rmX0_coinUpTo) s m args below meth c D cI cA ad 0 A (MQ below (hg_Qi D cI cA ad 0 A w1 r1) args s 0 0 A) 5 w [(0, .ref (ad b)), (1, .int (hg_I x1)), (2, .int (hg_I x2)), (3, .int (hg_I x3)), (4, .int (hg_I x4))] 7 []) : ∀ (w : hg_W) (x1 : Int) (x3 : Int) (x4 : Int), fX0_coinUpTo_55 K7 b w x1 x3 x4 = some (w1, r1) → hg_At p l e (rmX0_coinUpTo) s m args below meth c D cI cA ad 0 A (MQ below (hg_Qi D cI cA ad 0 A w1 r1) args s 0 0 A) 5 w [(0, .ref (ad b)), (1, .int (hg_I x1)), (3, .int (hg_I x3)), (4, .int (hg_I x4))] 55 [] := by
  intro w x1 x3 x4 h
  unfold fX0_coinUpTo_55 at h
  refine z_iload B 3 dX0_coinUpTo_55 rfl ?_
  refine z_istore_n B [(2, .int (hg_I x4)), (0, .ref (ad b)), (1, .int (hg_I x1)), (3, .int (hg_I x3)), (4, .int (hg_I x4))] dX0_coinUpTo_57 rfl (by decide) rfl ?_
  refine z_lv (lv' := [(0, .ref (ad b)), (1, .int (hg_I x1)), (2, .int (hg_I x4)), (3, .int (hg_I x3)), (4, .int (hg_I x4))]) B [1, 2, 0, 3, 4] rfl ?_
  exact rX0_coinUpTo_58 B hr hb0 hK7 _ _ _ _ _ h
set_option maxHeartbeats 4000000 in
set_option maxRecDepth 100000 in
theorem rX0_coinUpTo_7 (B : hg_B p s m args meth c cX0_coinUpTo RX0 wsL_law 5 D cI cA ad 0 A) (hr : meth.sig.returnType = (some .int)) {b : Nat} (hb0 : hg_rd b) {w1 : hg_W} {r1 : Int} : ∀ (n : Nat), ∀ (w : hg_W) (x1 : Int) (x2 : Int) (x3 : Int) (x4 : Int), fX0_coinUpTo_7 b n w x1 x2 x3 x4 = some (w1, r1) → hg_At p l e (rmX0_coinUpTo) s m args below meth c D cI cA ad 0 A (MQ below (hg_Qi D cI cA ad 0 A w1 r1) args s 0 0 A) 5 w [(0, .ref (ad b)), (1, .int (hg_I x1)), (2, .int (hg_I x2)), (3, .int (hg_I x3)), (4, .int (hg_I x4))] 7 [] := by
  intro n
  induction n with
  | zero =>
    intro w x1 x2 x3 x4 h
    cases h
  | succ n ih =>
    intro w x1 x2 x3 x4 h
    simp only [fX0_coinUpTo_7] at h
    refine z_iload B 4 dX0_coinUpTo_7 rfl ?_
    refine z_bipush B dX0_coinUpTo_9 (by decide) ?_
    refine z_icmp_ge (tgt := 87) B dX0_coinUpTo_11 (by decide) h (fun h => ?_) (fun h => ?_)
    · refine z_iload_n B 2 dX0_coinUpTo_87 rfl rfl ?_
      refine z_if_ge (tgt := 95) B dX0_coinUpTo_88 (by decide) h (fun h => ?_) (fun h => ?_)
      · refine z_iload_n B 2 dX0_coinUpTo_95 rfl rfl ?_
        exact z_iret B hr dX0_coinUpTo_96 h
      · refine z_iload_n B 3 dX0_coinUpTo_91 rfl rfl ?_
        refine z_goto (tgt := 96) B dX0_coinUpTo_92 (by decide) ?_
        exact z_iret B hr dX0_coinUpTo_96 h
    · refine z_aload_n B 0 dX0_coinUpTo_14 rfl rfl ?_
      refine z_get0 (v := .ref (ad (b + 2))) B 2 dX0_coinUpTo_15 inlX0 (hg_rd_lt hb0) (hg_rd_kd hb0) (by decide) (wl_3 7 rfl) rfl rfl ?_
      refine z_iload B 4 dX0_coinUpTo_18 rfl ?_
      obtain ⟨v1, q2, h⟩ := Option.bind_eq_some_iff.mp h
      refine z_iald (Or.inl rfl) B dX0_coinUpTo_20 q2 ?_
      refine z_if_le (tgt := 81) B dX0_coinUpTo_21 (by decide) h (fun h => ?_) (fun h => ?_)
      · exact rX0_coinUpTo_81 B hr hb0 ih _ _ _ _ _ h
      · refine z_aload_n B 0 dX0_coinUpTo_24 rfl rfl ?_
        refine z_get0 (v := .ref (ad (b + 1))) B 1 dX0_coinUpTo_25 inlX0 (hg_rd_lt hb0) (hg_rd_kd hb0) (by decide) (wl_3 6 rfl) rfl rfl ?_
        refine z_iload B 4 dX0_coinUpTo_28 rfl ?_
        obtain ⟨v3, q4, h⟩ := Option.bind_eq_some_iff.mp h
        refine z_iald (Or.inl rfl) B dX0_coinUpTo_30 q4 ?_
        refine z_iload_n B 1 dX0_coinUpTo_31 rfl rfl ?_
        refine z_icmp_gt (tgt := 58) B dX0_coinUpTo_32 (by decide) h (fun h => ?_) (fun h => ?_)
        · exact rX0_coinUpTo_58 B hr hb0 ih _ _ _ _ _ h
        · refine z_iload_n B 2 dX0_coinUpTo_35 rfl rfl ?_
          refine z_if_lt (tgt := 55) B dX0_coinUpTo_36 (by decide) h (fun h => ?_) (fun h => ?_)
          · refine z_lv (lv' := [(0, .ref (ad b)), (1, .int (hg_I x1)), (3, .int (hg_I x3)), (4, .int (hg_I x4))]) B [0, 1, 3, 4] rfl ?_
            exact rX0_coinUpTo_55 B hr hb0 ih _ _ _ _ h
          · refine z_aload_n B 0 dX0_coinUpTo_39 rfl rfl ?_
            refine z_get0 (v := .ref (ad (b + 1))) B 1 dX0_coinUpTo_40 inlX0 (hg_rd_lt hb0) (hg_rd_kd hb0) (by decide) (wl_3 6 rfl) rfl rfl ?_
            refine z_iload B 4 dX0_coinUpTo_43 rfl ?_
            obtain ⟨v5, q6, h⟩ := Option.bind_eq_some_iff.mp h
            refine z_iald (Or.inl rfl) B dX0_coinUpTo_45 q6 ?_
            refine z_aload_n B 0 dX0_coinUpTo_46 rfl rfl ?_
            refine z_get0 (v := .ref (ad (b + 1))) B 1 dX0_coinUpTo_47 inlX0 (hg_rd_lt hb0) (hg_rd_kd hb0) (by decide) (wl_3 6 rfl) rfl rfl ?_
            refine z_iload_n B 2 dX0_coinUpTo_50 rfl rfl ?_
            obtain ⟨v7, q8, h⟩ := Option.bind_eq_some_iff.mp h
            refine z_iald (Or.inl rfl) B dX0_coinUpTo_51 q8 ?_
            refine z_icmp_le (tgt := 58) B dX0_coinUpTo_52 (by decide) h (fun h => ?_) (fun h => ?_)
            · exact rX0_coinUpTo_58 B hr hb0 ih _ _ _ _ _ h
            · refine z_lv (lv' := [(0, .ref (ad b)), (1, .int (hg_I x1)), (3, .int (hg_I x3)), (4, .int (hg_I x4))]) B [0, 1, 3, 4] rfl ?_
              exact rX0_coinUpTo_55 B hr hb0 ih _ _ _ _ h
set_option maxHeartbeats 4000000 in
set_option maxRecDepth 100000 in
theorem rX0_coinUpTo_E (B : hg_B p s m args meth c cX0_coinUpTo RX0 wsL_law 5 D cI cA ad 0 A) (hr : meth.sig.returnType = (some .int)) {b : Nat} (hb0 : hg_rd b) {a1 : Int} {w1 : hg_W} {r1 : Int} {w : hg_W} (h : fX0_coinUpTo b w a1 = some (w1, r1)) : hg_At p l e (rmX0_coinUpTo) s m args below meth c D cI cA ad 0 A (MQ below (hg_Qi D cI cA ad 0 A w1 r1) args s 0 0 A) 5 w [(0, .ref (ad b)), (1, .int (hg_I a1))] 0 [] := by
  unfold fX0_coinUpTo at h
  refine z_iconst B dX0_coinUpTo_0 ?_
  refine z_istore_n B [(2, .int (hg_I (-1))), (0, .ref (ad b)), (1, .int (hg_I a1))] dX0_coinUpTo_1 rfl (by decide) rfl ?_
  refine z_iconst B dX0_coinUpTo_2 ?_
  refine z_istore_n B [(3, .int (hg_I (-1))), (2, .int (hg_I (-1))), (0, .ref (ad b)), (1, .int (hg_I a1))] dX0_coinUpTo_3 rfl (by decide) rfl ?_
  refine z_iconst B dX0_coinUpTo_4 ?_
  refine z_istore B [(4, .int (hg_I 0)), (3, .int (hg_I (-1))), (2, .int (hg_I (-1))), (0, .ref (ad b)), (1, .int (hg_I a1))] dX0_coinUpTo_5 (by decide) rfl ?_
  refine z_lv (lv' := [(0, .ref (ad b)), (1, .int (hg_I a1)), (2, .int (hg_I (-1))), (3, .int (hg_I (-1))), (4, .int (hg_I 0))]) B [3, 4, 2, 1, 0] rfl ?_
  exact rX0_coinUpTo_7 B hr hb0 hg_F _ _ _ _ _ h
set_option maxHeartbeats 4000000 in
set_option maxRecDepth 100000 in
theorem c_X0_coinUpTo {l : Launch} {D : va_G} {cI cA : ClassId} {ad : Nat → Nat} {b : Nat} (hb0 : hg_rd b) {a1 : Int} {w w1 : hg_W} {r1 : Int} (h : fX0_coinUpTo b w a1 = some (w1, r1)) : hg_Mi l yX0_coinUpTo wxX0_coinUpTo rmX0_coinUpTo D cI cA ad 0 w [.ref (ad b), .int (hg_I a1)] w1 r1 := by
  refine z_meti cX0_coinUpTo 5 (some .int) (by decide) (Nat.le_of_ble_eq_true rfl) ?_
  intro p e s m args below meth c A B hr
  exact rX0_coinUpTo_E B hr hb0 h
abbrev wxX0_take : List Cond := Cond.code yX0_take cX0_take 5 (some .int) :: wsL_law
def fX0_take_107  (b : Nat) (w : hg_W) (x2 : Int) : Option (hg_W × Int) :=
  (hg_pt w b 12 (hg_mn 999 ((w b 12) + 1))).bind fun w1 =>
  some (w1, wr x2)
def fX0_take (b : Nat) (w : hg_W) (a1 : Int) : Option (hg_W × Int) :=
  hg_bd (fX0_takes b w a1) fun w1 v2 =>
  hg_bd (fX0_coinUpTo b w1 v2) fun w4 v5 =>
  if wr v5 < 0 then
    (
      fX0_take_107 b w4 v5
    )
  else
    hg_bd (fX0_sounds b w4 a1 v5) fun w7 v8 =>
    hg_bd (fX0_costs b w7 a1 v5) fun w10 v11 =>
    (hg_ag 0 w10 (b + 2) v5).bind fun v13 =>
    hg_bd (fX0_setInHat b w10 v5 (v13 - 1)) fun w15 _ =>
    (hg_ag 0 w15 (b + 6) a1).bind fun v18 =>
    (hg_ag 0 w15 (b + 1) v5).bind fun v20 =>
    (hg_as 0 w15 (b + 6) a1 (hg_mn 9999 (v18 + v20))).bind fun w22 =>
    (hg_ag 0 w22 (b + 7) a1).bind fun v24 =>
    (hg_as 0 w22 (b + 7) a1 (hg_mx v24 v8)).bind fun w26 =>
    (hg_ag 0 w26 (b + 5) a1).bind fun v28 =>
    (hg_as 0 w26 (b + 5) a1 (hg_mx 0 (hg_mn 99 (v28 - v11)))).bind fun w30 =>
    fX0_take_107 b w30 v5
set_option maxHeartbeats 4000000 in
set_option maxRecDepth 100000 in
abbrev rmX0_take : Room := { frames := 4, cells := 0, slots := 0, locals := 96 }
set_option maxHeartbeats 4000000 in
set_option maxRecDepth 100000 in
theorem rX0_take_107 (B : hg_B p s m args meth c cX0_take RX0 wsL_law 5 D cI cA ad 0 A) (hr : meth.sig.returnType = (some .int)) {b : Nat} (hb0 : hg_rd b) {w1 : hg_W} {r1 : Int} : ∀ (w : hg_W) (x2 : Int), fX0_take_107 b w x2 = some (w1, r1) → hg_At p l e (rmX0_take) s m args below meth c D cI cA ad 0 A (MQ below (hg_Qi D cI cA ad 0 A w1 r1) args s 0 0 A) 5 w [(0, .ref (ad b)), (2, .int (hg_I x2))] 107 [] := by
  intro w x2 h
  unfold fX0_take_107 at h
  refine z_aload_n B 0 dX0_take_107 rfl rfl ?_
  refine z_sipush B dX0_take_108 (by decide) ?_
  refine z_aload_n B 0 dX0_take_111 rfl rfl ?_
  refine z_get0 (v := .int (hg_I (w b 12))) B 12 dX0_take_112 inlX0 (hg_rd_lt hb0) (hg_rd_kd hb0) (by decide) (wl_16 10 rfl) rfl rfl ?_
  refine z_iconst B dX0_take_115 ?_
  refine z_iadd B dX0_take_116 ?_
  refine z_mmin B dX0_take_117 (wl_16 6 rfl) (wl_16 7 rfl) (wl_16 8 rfl) (wl_16 9 rfl) ⟨Nat.le_of_ble_eq_true rfl, Nat.le_of_ble_eq_true rfl⟩ ?_
  obtain ⟨w1, q2, h⟩ := Option.bind_eq_some_iff.mp h
  refine z_put0 B 12 dX0_take_120 inlX0 (hg_rd_lt hb0) (hg_rd_kd hb0) (by decide) (wl_16 10 rfl) rfl rfl .int (by decide +kernel) rfl rfl hg_fs0_12 q2 ?_
  refine z_iload_n B 1 dX0_take_123 rfl rfl ?_
  exact z_iret B hr dX0_take_124 h
set_option maxHeartbeats 4000000 in
set_option maxRecDepth 100000 in
theorem rX0_take_E (B : hg_B p s m args meth c cX0_take RX0 wsL_law 5 D cI cA ad 0 A) (hr : meth.sig.returnType = (some .int)) {b : Nat} (hb0 : hg_rd b) {a1 : Int} {w1 : hg_W} {r1 : Int} {w : hg_W} (h : fX0_take b w a1 = some (w1, r1)) : hg_At p l e (rmX0_take) s m args below meth c D cI cA ad 0 A (MQ below (hg_Qi D cI cA ad 0 A w1 r1) args s 0 0 A) 5 w [(0, .ref (ad b)), (1, .int (hg_I a1))] 0 [] := by
  unfold fX0_take at h
  refine z_aload_n B 0 dX0_take_0 rfl rfl ?_
  refine z_aload_n B 0 dX0_take_1 rfl rfl ?_
  refine z_iload_n B 1 dX0_take_2 rfl rfl ?_
  obtain ⟨w1, v2, q3, h⟩ := hg_bd_some h
  refine z_calliV (a := b) (ci := 0) (N := 14) (T := TX0) (C := RX0) (As := [.int (hg_I a1)]) (n := 1) B dX0_take_3 (c_X0_takes hb0 q3) (gl_V (wl_21 12 rfl) (wl_19 3 rfl) (wl_19 4 rfl) (wl_1 22 rfl) (wl_19 5 rfl)) rfl ⟨rfl, rfl⟩ (by decide +kernel) ⟨Nat.le_of_ble_eq_true rfl, Nat.le_of_ble_eq_true rfl⟩ (hg_rd_lt hb0) (hg_rd_kd hb0) (by decide) rfl rfl rfl (Nat.le_of_ble_eq_true rfl) ?_
  obtain ⟨w4, v5, q6, h⟩ := hg_bd_some h
  refine z_calliV (a := b) (ci := 0) (N := 14) (T := TX0) (C := RX0) (As := [.int (hg_I v2)]) (n := 1) B dX0_take_6 (c_X0_coinUpTo hb0 q6) (gl_V (wl_21 13 rfl) (wl_19 8 rfl) (wl_19 9 rfl) (wl_1 22 rfl) (wl_19 10 rfl)) rfl ⟨rfl, rfl⟩ (by decide +kernel) ⟨Nat.le_of_ble_eq_true rfl, Nat.le_of_ble_eq_true rfl⟩ (hg_rd_lt hb0) (hg_rd_kd hb0) (by decide) rfl rfl rfl (Nat.le_of_ble_eq_true rfl) ?_
  refine z_istore_n B [(2, .int (hg_I v5)), (0, .ref (ad b)), (1, .int (hg_I a1))] dX0_take_9 rfl (by decide) rfl ?_
  refine z_iload_n B 0 dX0_take_10 rfl rfl ?_
  refine z_if_lt (tgt := 107) B dX0_take_11 (by decide) h (fun h => ?_) (fun h => ?_)
  · refine z_lv (lv' := [(0, .ref (ad b)), (2, .int (hg_I v5))]) B [1, 0] rfl ?_
    exact rX0_take_107 B hr hb0 _ _ h
  · refine z_aload_n B 1 dX0_take_14 rfl rfl ?_
    refine z_iload_n B 2 dX0_take_15 rfl rfl ?_
    refine z_iload_n B 0 dX0_take_16 rfl rfl ?_
    obtain ⟨w7, v8, q9, h⟩ := hg_bd_some h
    refine z_calliV (a := b) (ci := 0) (N := 14) (T := TX0) (C := RX0) (As := [.int (hg_I a1), .int (hg_I v5)]) (n := 2) B dX0_take_17 (c_X0_sounds hb0 q9) (gl_V (wl_21 14 rfl) (wl_20 4 rfl) (wl_20 5 rfl) (wl_1 22 rfl) (wl_20 6 rfl)) rfl ⟨rfl, rfl⟩ (by decide +kernel) ⟨Nat.le_of_ble_eq_true rfl, Nat.le_of_ble_eq_true rfl⟩ (hg_rd_lt hb0) (hg_rd_kd hb0) (by decide) rfl rfl rfl (Nat.le_of_ble_eq_true rfl) ?_
    refine z_istore_n B [(3, .int (hg_I v8)), (2, .int (hg_I v5)), (0, .ref (ad b)), (1, .int (hg_I a1))] dX0_take_20 rfl (by decide) rfl ?_
    refine z_aload_n B 2 dX0_take_21 rfl rfl ?_
    refine z_iload_n B 3 dX0_take_22 rfl rfl ?_
    refine z_iload_n B 1 dX0_take_23 rfl rfl ?_
    obtain ⟨w10, v11, q12, h⟩ := hg_bd_some h
    refine z_calliV (a := b) (ci := 0) (N := 14) (T := TX0) (C := RX0) (As := [.int (hg_I a1), .int (hg_I v5)]) (n := 2) B dX0_take_24 (c_X0_costs hb0 q12) (gl_V (wl_21 15 rfl) (wl_20 8 rfl) (wl_20 9 rfl) (wl_1 22 rfl) (wl_20 10 rfl)) rfl ⟨rfl, rfl⟩ (by decide +kernel) ⟨Nat.le_of_ble_eq_true rfl, Nat.le_of_ble_eq_true rfl⟩ (hg_rd_lt hb0) (hg_rd_kd hb0) (by decide) rfl rfl rfl (Nat.le_of_ble_eq_true rfl) ?_
    refine z_istore B [(4, .int (hg_I v11)), (3, .int (hg_I v8)), (2, .int (hg_I v5)), (0, .ref (ad b)), (1, .int (hg_I a1))] dX0_take_27 (by decide) rfl ?_
    refine z_aload_n B 3 dX0_take_29 rfl rfl ?_
    refine z_iload_n B 2 dX0_take_30 rfl rfl ?_
    refine z_aload_n B 3 dX0_take_31 rfl rfl ?_
    refine z_get0 (v := .ref (ad (b + 2))) B 2 dX0_take_32 inlX0 (hg_rd_lt hb0) (hg_rd_kd hb0) (by decide) (wl_3 7 rfl) rfl rfl ?_
    refine z_iload_n B 2 dX0_take_35 rfl rfl ?_
    obtain ⟨v13, q14, h⟩ := Option.bind_eq_some_iff.mp h
    refine z_iald (Or.inl rfl) B dX0_take_36 q14 ?_
    refine z_iconst B dX0_take_37 ?_
    refine z_isub B dX0_take_38 ?_
    obtain ⟨w15, v16, q17, h⟩ := hg_bd_some h
    refine z_callvV (a := b) (ci := 0) (N := 14) (T := TX0) (C := RX0) (As := [.int (hg_I v5), .int (hg_I (v13 - 1))]) (n := 2) B dX0_take_39 (c_X0_setInHat hb0 q17) (gl_V (wl_21 16 rfl) (wl_8 16 rfl) (wl_8 17 rfl) (wl_1 22 rfl) (wl_8 18 rfl)) rfl ⟨rfl, rfl⟩ (by decide +kernel) ⟨Nat.le_of_ble_eq_true rfl, Nat.le_of_ble_eq_true rfl⟩ (hg_rd_lt hb0) (hg_rd_kd hb0) (by decide) rfl rfl rfl (Nat.le_of_ble_eq_true rfl) ?_
    refine z_aload_n B 3 dX0_take_42 rfl rfl ?_
    refine z_get0 (v := .ref (ad (b + 6))) B 6 dX0_take_43 inlX0 (hg_rd_lt hb0) (hg_rd_kd hb0) (by decide) (wl_3 11 rfl) rfl rfl ?_
    refine z_iload_n B 4 dX0_take_46 rfl rfl ?_
    refine z_sipush B dX0_take_47 (by decide) ?_
    refine z_aload_n B 3 dX0_take_50 rfl rfl ?_
    refine z_get0 (v := .ref (ad (b + 6))) B 6 dX0_take_51 inlX0 (hg_rd_lt hb0) (hg_rd_kd hb0) (by decide) (wl_3 11 rfl) rfl rfl ?_
    refine z_iload_n B 4 dX0_take_54 rfl rfl ?_
    obtain ⟨v18, q19, h⟩ := Option.bind_eq_some_iff.mp h
    refine z_iald (Or.inl rfl) B dX0_take_55 q19 ?_
    refine z_aload_n B 3 dX0_take_56 rfl rfl ?_
    refine z_get0 (v := .ref (ad (b + 1))) B 1 dX0_take_57 inlX0 (hg_rd_lt hb0) (hg_rd_kd hb0) (by decide) (wl_3 6 rfl) rfl rfl ?_
    refine z_iload_n B 2 dX0_take_60 rfl rfl ?_
    obtain ⟨v20, q21, h⟩ := Option.bind_eq_some_iff.mp h
    refine z_iald (Or.inl rfl) B dX0_take_61 q21 ?_
    refine z_iadd B dX0_take_62 ?_
    refine z_mmin B dX0_take_63 (wl_16 6 rfl) (wl_16 7 rfl) (wl_16 8 rfl) (wl_16 9 rfl) ⟨Nat.le_of_ble_eq_true rfl, Nat.le_of_ble_eq_true rfl⟩ ?_
    obtain ⟨w22, q23, h⟩ := Option.bind_eq_some_iff.mp h
    refine z_iast (Or.inl rfl) B dX0_take_66 q23 ?_
    refine z_aload_n B 3 dX0_take_67 rfl rfl ?_
    refine z_get0 (v := .ref (ad (b + 7))) B 7 dX0_take_68 inlX0 (hg_rd_lt hb0) (hg_rd_kd hb0) (by decide) (wl_3 12 rfl) rfl rfl ?_
    refine z_iload_n B 4 dX0_take_71 rfl rfl ?_
    refine z_aload_n B 3 dX0_take_72 rfl rfl ?_
    refine z_get0 (v := .ref (ad (b + 7))) B 7 dX0_take_73 inlX0 (hg_rd_lt hb0) (hg_rd_kd hb0) (by decide) (wl_3 12 rfl) rfl rfl ?_
    refine z_iload_n B 4 dX0_take_76 rfl rfl ?_
    obtain ⟨v24, q25, h⟩ := Option.bind_eq_some_iff.mp h
    refine z_iald (Or.inl rfl) B dX0_take_77 q25 ?_
    refine z_iload_n B 1 dX0_take_78 rfl rfl ?_
    refine z_mmax B dX0_take_79 (wl_16 12 rfl) (wl_16 13 rfl) (wl_16 8 rfl) (wl_16 14 rfl) ⟨Nat.le_of_ble_eq_true rfl, Nat.le_of_ble_eq_true rfl⟩ ?_
    obtain ⟨w26, q27, h⟩ := Option.bind_eq_some_iff.mp h
    refine z_iast (Or.inl rfl) B dX0_take_82 q27 ?_
    refine z_aload_n B 3 dX0_take_83 rfl rfl ?_
    refine z_get0 (v := .ref (ad (b + 5))) B 5 dX0_take_84 inlX0 (hg_rd_lt hb0) (hg_rd_kd hb0) (by decide) (wl_3 10 rfl) rfl rfl ?_
    refine z_iload_n B 4 dX0_take_87 rfl rfl ?_
    refine z_iconst B dX0_take_88 ?_
    refine z_bipush B dX0_take_89 (by decide) ?_
    refine z_aload_n B 3 dX0_take_91 rfl rfl ?_
    refine z_get0 (v := .ref (ad (b + 5))) B 5 dX0_take_92 inlX0 (hg_rd_lt hb0) (hg_rd_kd hb0) (by decide) (wl_3 10 rfl) rfl rfl ?_
    refine z_iload_n B 4 dX0_take_95 rfl rfl ?_
    obtain ⟨v28, q29, h⟩ := Option.bind_eq_some_iff.mp h
    refine z_iald (Or.inl rfl) B dX0_take_96 q29 ?_
    refine z_iload B 0 dX0_take_97 rfl ?_
    refine z_isub B dX0_take_99 ?_
    refine z_mmin B dX0_take_100 (wl_16 6 rfl) (wl_16 7 rfl) (wl_16 8 rfl) (wl_16 9 rfl) ⟨Nat.le_of_ble_eq_true rfl, Nat.le_of_ble_eq_true rfl⟩ ?_
    refine z_mmax B dX0_take_103 (wl_16 12 rfl) (wl_16 13 rfl) (wl_16 8 rfl) (wl_16 14 rfl) ⟨Nat.le_of_ble_eq_true rfl, Nat.le_of_ble_eq_true rfl⟩ ?_
    obtain ⟨w30, q31, h⟩ := Option.bind_eq_some_iff.mp h
    refine z_iast (Or.inl rfl) B dX0_take_106 q31 ?_
    refine z_lv (lv' := [(0, .ref (ad b)), (2, .int (hg_I v5))]) B [3, 2] rfl ?_
    exact rX0_take_107 B hr hb0 _ _ h
set_option maxHeartbeats 4000000 in
set_option maxRecDepth 100000 in
theorem c_X0_take {l : Launch} {D : va_G} {cI cA : ClassId} {ad : Nat → Nat} {b : Nat} (hb0 : hg_rd b) {a1 : Int} {w w1 : hg_W} {r1 : Int} (h : fX0_take b w a1 = some (w1, r1)) : hg_Mi l yX0_take wxX0_take rmX0_take D cI cA ad 0 w [.ref (ad b), .int (hg_I a1)] w1 r1 := by
  refine z_meti cX0_take 5 (some .int) (by decide) (Nat.le_of_ble_eq_true rfl) ?_
  intro p e s m args below meth c A B hr
  exact rX0_take_E B hr hb0 h
abbrev wxX0_goOn : List Cond := Cond.code yX0_goOn cX0_goOn 2 (some .int) :: wsL_law
def fX0_goOn_42  (b : Nat) (w : hg_W) (x1 : Int) (s1 : Int) : Option (hg_W × Int) :=
  (hg_pt w b 11 s1).bind fun w1 =>
  some (w1, wr x1)
def fX0_goOn (b : Nat) (w : hg_W) : Option (hg_W × Int) :=
  if wr (w b 9) = 0 then
    (
      some (w, wr (-1))
    )
  else
    hg_bd (fX0_take b w (w b 11)) fun w1 v2 =>
    if wr (w1 b 9) ≤ wr ((w1 b 11) + 1) then
      (
        fX0_goOn_42 b w1 v2 0
      )
    else
      fX0_goOn_42 b w1 v2 ((w1 b 11) + 1)
set_option maxHeartbeats 4000000 in
set_option maxRecDepth 100000 in
abbrev rmX0_goOn : Room := { frames := 5, cells := 0, slots := 0, locals := 120 }
set_option maxHeartbeats 4000000 in
set_option maxRecDepth 100000 in
theorem rX0_goOn_42 (B : hg_B p s m args meth c cX0_goOn RX0 wsL_law 2 D cI cA ad 0 A) (hr : meth.sig.returnType = (some .int)) {b : Nat} (hb0 : hg_rd b) {w1 : hg_W} {r1 : Int} : ∀ (w : hg_W) (x1 : Int) (s1 : Int), fX0_goOn_42 b w x1 s1 = some (w1, r1) → hg_At p l e (rmX0_goOn) s m args below meth c D cI cA ad 0 A (MQ below (hg_Qi D cI cA ad 0 A w1 r1) args s 0 0 A) 2 w [(1, .int (hg_I x1))] 42 [.int (hg_I s1), .ref (ad b)] := by
  intro w x1 s1 h
  unfold fX0_goOn_42 at h
  obtain ⟨w1, q2, h⟩ := Option.bind_eq_some_iff.mp h
  refine z_put0 B 11 dX0_goOn_42 inlX0 (hg_rd_lt hb0) (hg_rd_kd hb0) (by decide) (wl_21 7 rfl) rfl rfl .int (by decide +kernel) rfl rfl hg_fs0_11 q2 ?_
  refine z_iload_n B 0 dX0_goOn_45 rfl rfl ?_
  exact z_iret B hr dX0_goOn_46 h
set_option maxHeartbeats 4000000 in
set_option maxRecDepth 100000 in
theorem rX0_goOn_E (B : hg_B p s m args meth c cX0_goOn RX0 wsL_law 2 D cI cA ad 0 A) (hr : meth.sig.returnType = (some .int)) {b : Nat} (hb0 : hg_rd b) {w1 : hg_W} {r1 : Int} {w : hg_W} (h : fX0_goOn b w = some (w1, r1)) : hg_At p l e (rmX0_goOn) s m args below meth c D cI cA ad 0 A (MQ below (hg_Qi D cI cA ad 0 A w1 r1) args s 0 0 A) 2 w [(0, .ref (ad b))] 0 [] := by
  unfold fX0_goOn at h
  refine z_aload_n B 0 dX0_goOn_0 rfl rfl ?_
  refine z_get0 (v := .int (hg_I (w b 9))) B 9 dX0_goOn_1 inlX0 (hg_rd_lt hb0) (hg_rd_kd hb0) (by decide) (wl_18 4 rfl) rfl rfl ?_
  refine z_if_ne (tgt := 9) B dX0_goOn_4 (by decide) h (fun h => ?_) (fun h => ?_)
  · refine z_aload_n B 0 dX0_goOn_9 rfl rfl ?_
    refine z_aload_n B 0 dX0_goOn_10 rfl rfl ?_
    refine z_get0 (v := .int (hg_I (w b 11))) B 11 dX0_goOn_11 inlX0 (hg_rd_lt hb0) (hg_rd_kd hb0) (by decide) (wl_21 7 rfl) rfl rfl ?_
    obtain ⟨w1, v2, q3, h⟩ := hg_bd_some h
    refine z_calliV (a := b) (ci := 0) (N := 14) (T := TX0) (C := RX0) (As := [.int (hg_I (w b 11))]) (n := 1) B dX0_goOn_14 (c_X0_take hb0 q3) (gl_V (wl_21 8 rfl) (wl_21 9 rfl) (wl_21 10 rfl) (wl_1 22 rfl) (wl_21 11 rfl)) rfl ⟨rfl, rfl⟩ (by decide +kernel) ⟨Nat.le_of_ble_eq_true rfl, Nat.le_of_ble_eq_true rfl⟩ (hg_rd_lt hb0) (hg_rd_kd hb0) (by decide) rfl rfl rfl (Nat.le_of_ble_eq_true rfl) ?_
    refine z_istore_n B [(1, .int (hg_I v2)), (0, .ref (ad b))] dX0_goOn_17 rfl (by decide) rfl ?_
    refine z_aload_n B 1 dX0_goOn_18 rfl rfl ?_
    refine z_aload_n B 1 dX0_goOn_19 rfl rfl ?_
    refine z_get0 (v := .int (hg_I (w1 b 11))) B 11 dX0_goOn_20 inlX0 (hg_rd_lt hb0) (hg_rd_kd hb0) (by decide) (wl_21 7 rfl) rfl rfl ?_
    refine z_iconst B dX0_goOn_23 ?_
    refine z_iadd B dX0_goOn_24 ?_
    refine z_aload_n B 1 dX0_goOn_25 rfl rfl ?_
    refine z_get0 (v := .int (hg_I (w1 b 9))) B 9 dX0_goOn_26 inlX0 (hg_rd_lt hb0) (hg_rd_kd hb0) (by decide) (wl_18 4 rfl) rfl rfl ?_
    refine z_icmp_ge (tgt := 41) B dX0_goOn_29 (by decide) h (fun h => ?_) (fun h => ?_)
    · refine z_iconst B dX0_goOn_41 ?_
      refine z_lv (lv' := [(1, .int (hg_I v2))]) B [0] rfl ?_
      exact rX0_goOn_42 B hr hb0 _ _ _ h
    · refine z_aload_n B 1 dX0_goOn_32 rfl rfl ?_
      refine z_get0 (v := .int (hg_I (w1 b 11))) B 11 dX0_goOn_33 inlX0 (hg_rd_lt hb0) (hg_rd_kd hb0) (by decide) (wl_21 7 rfl) rfl rfl ?_
      refine z_iconst B dX0_goOn_36 ?_
      refine z_iadd B dX0_goOn_37 ?_
      refine z_goto (tgt := 42) B dX0_goOn_38 (by decide) ?_
      refine z_lv (lv' := [(1, .int (hg_I v2))]) B [0] rfl ?_
      exact rX0_goOn_42 B hr hb0 _ _ _ h
  · refine z_iconst B dX0_goOn_7 ?_
    exact z_iret B hr dX0_goOn_8 h
set_option maxHeartbeats 4000000 in
set_option maxRecDepth 100000 in
theorem c_X0_goOn {l : Launch} {D : va_G} {cI cA : ClassId} {ad : Nat → Nat} {b : Nat} (hb0 : hg_rd b) {w w1 : hg_W} {r1 : Int} (h : fX0_goOn b w = some (w1, r1)) : hg_Mi l yX0_goOn wxX0_goOn rmX0_goOn D cI cA ad 0 w [.ref (ad b)] w1 r1 := by
  refine z_meti cX0_goOn 2 (some .int) (by decide) (Nat.le_of_ble_eq_true rfl) ?_
  intro p e s m args below meth c A B hr
  exact rX0_goOn_E B hr hb0 h
abbrev wxX0_goWhileCoins : List Cond := Cond.code yX0_goWhileCoins cX0_goWhileCoins 4 (some .int) :: wsL_law
def fX0_goWhileCoins_4  (b : Nat) : Nat → hg_W → Int → Int → Int → Option (hg_W × Int)
  | 0, _, _, _, _ => none
  | n + 1, w, x1, x2, x3 =>
    if wr x1 ≤ wr x3 then
      (
        some (w, wr x2)
      )
    else
      if wr (w b 9) ≤ 0 then
        (
          some (w, wr x2)
        )
      else
        if wr (w b 10) ≤ 0 then
          (
            some (w, wr x2)
          )
        else
          hg_bd (fX0_goOn b w) fun w1 v2 =>
          fX0_goWhileCoins_4 b n w1 x1 (w b 11) (x3 + 1)
def fX0_goWhileCoins (b : Nat) (w : hg_W) (a1 : Int) : Option (hg_W × Int) :=
  fX0_goWhileCoins_4 b hg_F w a1 (-1) 0
set_option maxHeartbeats 4000000 in
set_option maxRecDepth 100000 in
abbrev rmX0_goWhileCoins : Room := { frames := 6, cells := 0, slots := 0, locals := 141 }
set_option maxHeartbeats 4000000 in
set_option maxRecDepth 100000 in
theorem rX0_goWhileCoins_4 (B : hg_B p s m args meth c cX0_goWhileCoins RX0 wsL_law 4 D cI cA ad 0 A) (hr : meth.sig.returnType = (some .int)) {b : Nat} (hb0 : hg_rd b) {w1 : hg_W} {r1 : Int} : ∀ (n : Nat), ∀ (w : hg_W) (x1 : Int) (x2 : Int) (x3 : Int), fX0_goWhileCoins_4 b n w x1 x2 x3 = some (w1, r1) → hg_At p l e (rmX0_goWhileCoins) s m args below meth c D cI cA ad 0 A (MQ below (hg_Qi D cI cA ad 0 A w1 r1) args s 0 0 A) 4 w [(0, .ref (ad b)), (1, .int (hg_I x1)), (2, .int (hg_I x2)), (3, .int (hg_I x3))] 4 [] := by
  intro n
  induction n with
  | zero =>
    intro w x1 x2 x3 h
    cases h
  | succ n ih =>
    intro w x1 x2 x3 h
    simp only [fX0_goWhileCoins_4] at h
    refine z_iload_n B 3 dX0_goWhileCoins_4 rfl rfl ?_
    refine z_iload_n B 1 dX0_goWhileCoins_5 rfl rfl ?_
    refine z_icmp_ge (tgt := 39) B dX0_goWhileCoins_6 (by decide) h (fun h => ?_) (fun h => ?_)
    · refine z_iload_n B 2 dX0_goWhileCoins_39 rfl rfl ?_
      exact z_iret B hr dX0_goWhileCoins_40 h
    · refine z_aload_n B 0 dX0_goWhileCoins_9 rfl rfl ?_
      refine z_get0 (v := .int (hg_I (w b 9))) B 9 dX0_goWhileCoins_10 inlX0 (hg_rd_lt hb0) (hg_rd_kd hb0) (by decide) (wl_18 4 rfl) rfl rfl ?_
      refine z_if_le (tgt := 39) B dX0_goWhileCoins_13 (by decide) h (fun h => ?_) (fun h => ?_)
      · refine z_iload_n B 2 dX0_goWhileCoins_39 rfl rfl ?_
        exact z_iret B hr dX0_goWhileCoins_40 h
      · refine z_aload_n B 0 dX0_goWhileCoins_16 rfl rfl ?_
        refine z_get0 (v := .int (hg_I (w b 10))) B 10 dX0_goWhileCoins_17 inlX0 (hg_rd_lt hb0) (hg_rd_kd hb0) (by decide) (wl_8 19 rfl) rfl rfl ?_
        refine z_if_le (tgt := 39) B dX0_goWhileCoins_20 (by decide) h (fun h => ?_) (fun h => ?_)
        · refine z_iload_n B 2 dX0_goWhileCoins_39 rfl rfl ?_
          exact z_iret B hr dX0_goWhileCoins_40 h
        · refine z_aload_n B 0 dX0_goWhileCoins_23 rfl rfl ?_
          refine z_get0 (v := .int (hg_I (w b 11))) B 11 dX0_goWhileCoins_24 inlX0 (hg_rd_lt hb0) (hg_rd_kd hb0) (by decide) (wl_21 7 rfl) rfl rfl ?_
          refine z_istore_n B [(2, .int (hg_I (w b 11))), (0, .ref (ad b)), (1, .int (hg_I x1)), (3, .int (hg_I x3))] dX0_goWhileCoins_27 rfl (by decide) rfl ?_
          refine z_aload_n B 1 dX0_goWhileCoins_28 rfl rfl ?_
          obtain ⟨w1, v2, q3, h⟩ := hg_bd_some h
          refine z_calliV (a := b) (ci := 0) (N := 14) (T := TX0) (C := RX0) (As := []) (n := 0) B dX0_goWhileCoins_29 (c_X0_goOn hb0 q3) (gl_V (wl_23 13 rfl) (wl_21 4 rfl) (wl_21 5 rfl) (wl_1 22 rfl) (wl_21 6 rfl)) rfl ⟨rfl, rfl⟩ (by decide +kernel) ⟨Nat.le_of_ble_eq_true rfl, Nat.le_of_ble_eq_true rfl⟩ (hg_rd_lt hb0) (hg_rd_kd hb0) (by decide) rfl rfl rfl (Nat.le_of_ble_eq_true rfl) ?_
          refine z_pop B dX0_goWhileCoins_32 rfl ?_
          refine z_iinc B 3 [(3, .int (hg_I (x3 + 1))), (2, .int (hg_I (w b 11))), (0, .ref (ad b)), (1, .int (hg_I x1))] dX0_goWhileCoins_33 rfl (by decide) rfl ?_
          refine z_goto (tgt := 4) B dX0_goWhileCoins_36 (by decide) ?_
          refine z_lv (lv' := [(0, .ref (ad b)), (1, .int (hg_I x1)), (2, .int (hg_I (w b 11))), (3, .int (hg_I (x3 + 1)))]) B [2, 3, 1, 0] rfl ?_
          exact ih _ _ _ _ h
set_option maxHeartbeats 4000000 in
set_option maxRecDepth 100000 in
theorem rX0_goWhileCoins_E (B : hg_B p s m args meth c cX0_goWhileCoins RX0 wsL_law 4 D cI cA ad 0 A) (hr : meth.sig.returnType = (some .int)) {b : Nat} (hb0 : hg_rd b) {a1 : Int} {w1 : hg_W} {r1 : Int} {w : hg_W} (h : fX0_goWhileCoins b w a1 = some (w1, r1)) : hg_At p l e (rmX0_goWhileCoins) s m args below meth c D cI cA ad 0 A (MQ below (hg_Qi D cI cA ad 0 A w1 r1) args s 0 0 A) 4 w [(0, .ref (ad b)), (1, .int (hg_I a1))] 0 [] := by
  unfold fX0_goWhileCoins at h
  refine z_iconst B dX0_goWhileCoins_0 ?_
  refine z_istore_n B [(2, .int (hg_I (-1))), (0, .ref (ad b)), (1, .int (hg_I a1))] dX0_goWhileCoins_1 rfl (by decide) rfl ?_
  refine z_iconst B dX0_goWhileCoins_2 ?_
  refine z_istore_n B [(3, .int (hg_I 0)), (2, .int (hg_I (-1))), (0, .ref (ad b)), (1, .int (hg_I a1))] dX0_goWhileCoins_3 rfl (by decide) rfl ?_
  refine z_lv (lv' := [(0, .ref (ad b)), (1, .int (hg_I a1)), (2, .int (hg_I (-1))), (3, .int (hg_I 0))]) B [2, 3, 1, 0] rfl ?_
  exact rX0_goWhileCoins_4 B hr hb0 hg_F _ _ _ _ h
set_option maxHeartbeats 4000000 in
set_option maxRecDepth 100000 in
theorem c_X0_goWhileCoins {l : Launch} {D : va_G} {cI cA : ClassId} {ad : Nat → Nat} {b : Nat} (hb0 : hg_rd b) {a1 : Int} {w w1 : hg_W} {r1 : Int} (h : fX0_goWhileCoins b w a1 = some (w1, r1)) : hg_Mi l yX0_goWhileCoins wxX0_goWhileCoins rmX0_goWhileCoins D cI cA ad 0 w [.ref (ad b), .int (hg_I a1)] w1 r1 := by
  refine z_meti cX0_goWhileCoins 4 (some .int) (by decide) (Nat.le_of_ble_eq_true rfl) ?_
  intro p e s m args below meth c A B hr
  exact rX0_goWhileCoins_E B hr hb0 h
abbrev wxX1_isMissing : List Cond := Cond.code yX1_isMissing cX1_isMissing 2 (some .boolean) :: wsL_law
def fX1_isMissing (w : hg_W) (a1 : Int) : Option (hg_W × Int) :=
  (hg_ag 0 w 47 a1).bind fun v1 =>
  if 0 ≤ wr v1 then
    (
      if wr 0 = 0 ∨ wr 0 = 1 then some (w, wr 0) else none
    )
  else
    if wr 1 = 0 ∨ wr 1 = 1 then some (w, wr 1) else none
set_option maxHeartbeats 4000000 in
set_option maxRecDepth 100000 in
abbrev rmX1_isMissing : Room := { frames := 0, cells := 0, slots := 0, locals := 0 }
set_option maxHeartbeats 4000000 in
set_option maxRecDepth 100000 in
theorem rX1_isMissing_E (B : hg_B p s m args meth c cX1_isMissing RX1 wsL_law 2 D cI cA ad 0 A) (hr : meth.sig.returnType = (some .boolean)) {a1 : Int} {w1 : hg_W} {r1 : Int} {w : hg_W} (h : fX1_isMissing w a1 = some (w1, r1)) : hg_At p l e (rmX1_isMissing) s m args below meth c D cI cA ad 0 A (MQ below (hg_Qi D cI cA ad 0 A w1 r1) args s 0 0 A) 2 w [(0, .ref (ad 46)), (1, .int (hg_I a1))] 0 [] := by
  unfold fX1_isMissing at h
  refine z_aload_n B 0 dX1_isMissing_0 rfl rfl ?_
  refine z_get1 (v := .ref (ad 47)) B 0 dX1_isMissing_1 inlX1 (by decide) rfl (by decide) (wl_3 18 rfl) rfl rfl ?_
  refine z_iload_n B 1 dX1_isMissing_4 rfl rfl ?_
  obtain ⟨v1, q2, h⟩ := Option.bind_eq_some_iff.mp h
  refine z_iald (Or.inl rfl) B dX1_isMissing_5 q2 ?_
  refine z_if_ge (tgt := 13) B dX1_isMissing_6 (by decide) h (fun h => ?_) (fun h => ?_)
  · refine z_iconst B dX1_isMissing_13 ?_
    exact z_bret B hr dX1_isMissing_14 h
  · refine z_iconst B dX1_isMissing_9 ?_
    refine z_goto (tgt := 14) B dX1_isMissing_10 (by decide) ?_
    exact z_bret B hr dX1_isMissing_14 h
set_option maxHeartbeats 4000000 in
set_option maxRecDepth 100000 in
theorem c_X1_isMissing {l : Launch} {D : va_G} {cI cA : ClassId} {ad : Nat → Nat} {a1 : Int} {w w1 : hg_W} {r1 : Int} (h : fX1_isMissing w a1 = some (w1, r1)) : hg_Mi l yX1_isMissing wxX1_isMissing rmX1_isMissing D cI cA ad 0 w [.ref (ad 46), .int (hg_I a1)] w1 r1 := by
  refine z_meti cX1_isMissing 2 (some .boolean) (by decide) (Nat.le_of_ble_eq_true rfl) ?_
  intro p e s m args below meth c A B hr
  exact rX1_isMissing_E B hr h
abbrev wxX1_become : List Cond := Cond.code yX1_become cX1_become 5 none :: wsL_law
def fX1_become_17   : Nat → hg_W → Int → Int → Option (hg_W × Int)
  | 0, _, _, _ => none
  | n + 1, w, x1, x4 =>
    if wr 40 ≤ wr x4 then
      (
        some (w, 0)
      )
    else
      (hg_ar 49 x1).bind fun c1 =>
      (hg_as 0 w c1 x4 0).bind fun w3 =>
      fX1_become_17 n w3 x1 (x4 + 1)
def fX1_become (w : hg_W) (a1 : Int) (a2 : Int) (a3 : Int) : Option (hg_W × Int) :=
  (hg_as 0 w 47 a1 a2).bind fun w1 =>
  (hg_as 0 w1 48 a1 a3).bind fun w3 =>
  fX1_become_17 hg_F w3 a1 0
set_option maxHeartbeats 4000000 in
set_option maxRecDepth 100000 in
abbrev rmX1_become : Room := { frames := 0, cells := 0, slots := 0, locals := 0 }
set_option maxHeartbeats 4000000 in
set_option maxRecDepth 100000 in
theorem rX1_become_17 (B : hg_B p s m args meth c cX1_become RX1 wsL_law 5 D cI cA ad 0 A) (hr : meth.sig.returnType = none) {w1 : hg_W} {r1 : Int} : ∀ (n : Nat), ∀ (w : hg_W) (x1 : Int) (x4 : Int), fX1_become_17 n w x1 x4 = some (w1, r1) → hg_At p l e (rmX1_become) s m args below meth c D cI cA ad 0 A (MQ below (hg_Qv D cI cA ad 0 A w1) args s 0 0 A) 5 w [(0, .ref (ad 46)), (1, .int (hg_I x1)), (4, .int (hg_I x4))] 17 [] := by
  intro n
  induction n with
  | zero =>
    intro w x1 x4 h
    cases h
  | succ n ih =>
    intro w x1 x4 h
    simp only [fX1_become_17] at h
    refine z_iload B 2 dX1_become_17 rfl ?_
    refine z_bipush B dX1_become_19 (by decide) ?_
    refine z_icmp_ge (tgt := 40) B dX1_become_21 (by decide) h (fun h => ?_) (fun h => ?_)
    · exact z_vret B hr dX1_become_40 h
    · refine z_aload_n B 0 dX1_become_24 rfl rfl ?_
      refine z_get1 (v := .ref (ad 49)) B 2 dX1_become_25 inlX1 (by decide) rfl (by decide) (wl_3 21 rfl) rfl rfl ?_
      refine z_iload_n B 1 dX1_become_28 rfl rfl ?_
      obtain ⟨c1, q2, h⟩ := Option.bind_eq_some_iff.mp h
      refine z_aald B rfl dX1_become_29 q2 ?_
      refine z_iload B 2 dX1_become_30 rfl ?_
      refine z_iconst B dX1_become_32 ?_
      obtain ⟨w3, q4, h⟩ := Option.bind_eq_some_iff.mp h
      refine z_iast (Or.inl rfl) B dX1_become_33 q4 ?_
      refine z_iinc B 2 [(4, .int (hg_I (x4 + 1))), (0, .ref (ad 46)), (1, .int (hg_I x1))] dX1_become_34 rfl (by decide) rfl ?_
      refine z_goto (tgt := 17) B dX1_become_37 (by decide) ?_
      refine z_lv (lv' := [(0, .ref (ad 46)), (1, .int (hg_I x1)), (4, .int (hg_I (x4 + 1)))]) B [1, 2, 0] rfl ?_
      exact ih _ _ _ h
set_option maxHeartbeats 4000000 in
set_option maxRecDepth 100000 in
theorem rX1_become_E (B : hg_B p s m args meth c cX1_become RX1 wsL_law 5 D cI cA ad 0 A) (hr : meth.sig.returnType = none) {a1 : Int} {a2 : Int} {a3 : Int} {w1 : hg_W} {r1 : Int} {w : hg_W} (h : fX1_become w a1 a2 a3 = some (w1, r1)) : hg_At p l e (rmX1_become) s m args below meth c D cI cA ad 0 A (MQ below (hg_Qv D cI cA ad 0 A w1) args s 0 0 A) 5 w [(0, .ref (ad 46)), (1, .int (hg_I a1)), (2, .int (hg_I a2)), (3, .int (hg_I a3))] 0 [] := by
  unfold fX1_become at h
  refine z_aload_n B 0 dX1_become_0 rfl rfl ?_
  refine z_get1 (v := .ref (ad 47)) B 0 dX1_become_1 inlX1 (by decide) rfl (by decide) (wl_3 18 rfl) rfl rfl ?_
  refine z_iload_n B 1 dX1_become_4 rfl rfl ?_
  refine z_iload_n B 2 dX1_become_5 rfl rfl ?_
  obtain ⟨w1, q2, h⟩ := Option.bind_eq_some_iff.mp h
  refine z_iast (Or.inl rfl) B dX1_become_6 q2 ?_
  refine z_aload_n B 0 dX1_become_7 rfl rfl ?_
  refine z_get1 (v := .ref (ad 48)) B 1 dX1_become_8 inlX1 (by decide) rfl (by decide) (wl_3 19 rfl) rfl rfl ?_
  refine z_iload_n B 1 dX1_become_11 rfl rfl ?_
  refine z_iload_n B 3 dX1_become_12 rfl rfl ?_
  obtain ⟨w3, q4, h⟩ := Option.bind_eq_some_iff.mp h
  refine z_iast (Or.inl rfl) B dX1_become_13 q4 ?_
  refine z_iconst B dX1_become_14 ?_
  refine z_istore B [(4, .int (hg_I 0)), (0, .ref (ad 46)), (1, .int (hg_I a1)), (2, .int (hg_I a2)), (3, .int (hg_I a3))] dX1_become_15 (by decide) rfl ?_
  refine z_lv (lv' := [(0, .ref (ad 46)), (1, .int (hg_I a1)), (4, .int (hg_I 0))]) B [1, 2, 0] rfl ?_
  exact rX1_become_17 B hr hg_F _ _ _ h
set_option maxHeartbeats 4000000 in
set_option maxRecDepth 100000 in
theorem c_X1_become {l : Launch} {D : va_G} {cI cA : ClassId} {ad : Nat → Nat} {a1 : Int} {a2 : Int} {a3 : Int} {w w1 : hg_W} {r1 : Int} (h : fX1_become w a1 a2 a3 = some (w1, r1)) : hg_Mv l yX1_become wxX1_become rmX1_become D cI cA ad 0 w [.ref (ad 46), .int (hg_I a1), .int (hg_I a2), .int (hg_I a3)] w1 := by
  refine z_metv cX1_become 5 none (by decide) (Nat.le_of_ble_eq_true rfl) ?_
  intro p e s m args below meth c A B hr
  exact rX1_become_E B hr h
abbrev wxX1_store : List Cond := Cond.code yX1_store cX1_store 4 none :: wsL_law
def fX1_store (w : hg_W) (a1 : Int) (a2 : Int) (a3 : Int) : Option (hg_W × Int) :=
  (hg_ag 0 w 47 a1).bind fun v1 =>
  if wr v1 = 0 then
    (
      (hg_ar 49 a1).bind fun c4 =>
      (hg_as 0 w c4 a2 (hg_i2b a3)).bind fun w6 =>
      some (w6, 0)
    )
  else
  if wr v1 = 1 then
    (
      (hg_ar 49 a1).bind fun c9 =>
      (hg_as 0 w c9 a2 (hg_i2s a3)).bind fun w11 =>
      some (w11, 0)
    )
  else
  (hg_ar 49 a1).bind fun c13 =>
  (hg_as 0 w c13 a2 a3).bind fun w15 =>
  some (w15, 0)
set_option maxHeartbeats 4000000 in
set_option maxRecDepth 100000 in
abbrev rmX1_store : Room := { frames := 0, cells := 0, slots := 0, locals := 0 }
set_option maxHeartbeats 4000000 in
set_option maxRecDepth 100000 in
theorem rX1_store_E (B : hg_B p s m args meth c cX1_store RX1 wsL_law 4 D cI cA ad 0 A) (hr : meth.sig.returnType = none) {a1 : Int} {a2 : Int} {a3 : Int} {w1 : hg_W} {r1 : Int} {w : hg_W} (h : fX1_store w a1 a2 a3 = some (w1, r1)) : hg_At p l e (rmX1_store) s m args below meth c D cI cA ad 0 A (MQ below (hg_Qv D cI cA ad 0 A w1) args s 0 0 A) 4 w [(0, .ref (ad 46)), (1, .int (hg_I a1)), (2, .int (hg_I a2)), (3, .int (hg_I a3))] 0 [] := by
  unfold fX1_store at h
  refine z_aload_n B 0 dX1_store_0 rfl rfl ?_
  refine z_get1 (v := .ref (ad 47)) B 0 dX1_store_1 inlX1 (by decide) rfl (by decide) (wl_3 18 rfl) rfl rfl ?_
  refine z_iload_n B 1 dX1_store_4 rfl rfl ?_
  obtain ⟨v1, q2, h⟩ := Option.bind_eq_some_iff.mp h
  refine z_iald (Or.inl rfl) B dX1_store_5 q2 ?_
  by_cases z3 : wr v1 = 0
  · rw [if_pos z3] at h
    refine z_look (off := 26) (tgt := 32) B dX1_store_6 (by decide +kernel) (by rw [z3]; rfl) (by decide) ?_
    refine z_aload_n B 0 dX1_store_32 rfl rfl ?_
    refine z_get1 (v := .ref (ad 49)) B 2 dX1_store_33 inlX1 (by decide) rfl (by decide) (wl_3 21 rfl) rfl rfl ?_
    refine z_iload_n B 1 dX1_store_36 rfl rfl ?_
    obtain ⟨c4, q5, h⟩ := Option.bind_eq_some_iff.mp h
    refine z_aald B rfl dX1_store_37 q5 ?_
    refine z_iload_n B 2 dX1_store_38 rfl rfl ?_
    refine z_iload_n B 3 dX1_store_39 rfl rfl ?_
    refine z_i2b B dX1_store_40 ?_
    obtain ⟨w6, q7, h⟩ := Option.bind_eq_some_iff.mp h
    refine z_iast (Or.inl rfl) B dX1_store_41 q7 ?_
    refine z_goto (tgt := 67) B dX1_store_42 (by decide) ?_
    exact z_vret B hr dX1_store_67 h
  rw [if_neg z3] at h
  by_cases z8 : wr v1 = 1
  · rw [if_pos z8] at h
    refine z_look (off := 39) (tgt := 45) B dX1_store_6 (by decide +kernel) (by rw [z8]; rfl) (by decide) ?_
    refine z_aload_n B 0 dX1_store_45 rfl rfl ?_
    refine z_get1 (v := .ref (ad 49)) B 2 dX1_store_46 inlX1 (by decide) rfl (by decide) (wl_3 21 rfl) rfl rfl ?_
    refine z_iload_n B 1 dX1_store_49 rfl rfl ?_
    obtain ⟨c9, q10, h⟩ := Option.bind_eq_some_iff.mp h
    refine z_aald B rfl dX1_store_50 q10 ?_
    refine z_iload_n B 2 dX1_store_51 rfl rfl ?_
    refine z_iload_n B 3 dX1_store_52 rfl rfl ?_
    refine z_i2s B dX1_store_53 ?_
    obtain ⟨w11, q12, h⟩ := Option.bind_eq_some_iff.mp h
    refine z_iast (Or.inl rfl) B dX1_store_54 q12 ?_
    refine z_goto (tgt := 67) B dX1_store_55 (by decide) ?_
    exact z_vret B hr dX1_store_67 h
  rw [if_neg z8] at h
  refine z_look (off := 52) (tgt := 58) B dX1_store_6 (by decide +kernel) (by simp [Op.lookupswitch.offset, (show ¬ ((0 : Int) = wr v1) from fun q => z3 q.symm), (show ¬ ((1 : Int) = wr v1) from fun q => z8 q.symm)]) (by decide) ?_
  refine z_aload_n B 0 dX1_store_58 rfl rfl ?_
  refine z_get1 (v := .ref (ad 49)) B 2 dX1_store_59 inlX1 (by decide) rfl (by decide) (wl_3 21 rfl) rfl rfl ?_
  refine z_iload_n B 1 dX1_store_62 rfl rfl ?_
  obtain ⟨c13, q14, h⟩ := Option.bind_eq_some_iff.mp h
  refine z_aald B rfl dX1_store_63 q14 ?_
  refine z_iload_n B 2 dX1_store_64 rfl rfl ?_
  refine z_iload_n B 3 dX1_store_65 rfl rfl ?_
  obtain ⟨w15, q16, h⟩ := Option.bind_eq_some_iff.mp h
  refine z_iast (Or.inl rfl) B dX1_store_66 q16 ?_
  exact z_vret B hr dX1_store_67 h
set_option maxHeartbeats 4000000 in
set_option maxRecDepth 100000 in
theorem c_X1_store {l : Launch} {D : va_G} {cI cA : ClassId} {ad : Nat → Nat} {a1 : Int} {a2 : Int} {a3 : Int} {w w1 : hg_W} {r1 : Int} (h : fX1_store w a1 a2 a3 = some (w1, r1)) : hg_Mv l yX1_store wxX1_store rmX1_store D cI cA ad 0 w [.ref (ad 46), .int (hg_I a1), .int (hg_I a2), .int (hg_I a3)] w1 := by
  refine z_metv cX1_store 4 none (by decide) (Nat.le_of_ble_eq_true rfl) ?_
  intro p e s m args below meth c A B hr
  exact rX1_store_E B hr h
abbrev wxX4_isSheet : List Cond := Cond.code yX4_isSheet cX4_isSheet 1 (some .boolean) :: wsL_law
def fX4_isSheet (w : hg_W) (a1 : Int) : Option (hg_W × Int) :=
  if wr a1 < 0 then
    (
      if wr 0 = 0 ∨ wr 0 = 1 then some (w, wr 0) else none
    )
  else
    if wr 4 ≤ wr a1 then
      (
        if wr 0 = 0 ∨ wr 0 = 1 then some (w, wr 0) else none
      )
    else
      if wr 1 = 0 ∨ wr 1 = 1 then some (w, wr 1) else none
set_option maxHeartbeats 4000000 in
set_option maxRecDepth 100000 in
abbrev rmX4_isSheet : Room := { frames := 0, cells := 0, slots := 0, locals := 0 }
set_option maxHeartbeats 4000000 in
set_option maxRecDepth 100000 in
theorem rX4_isSheet_E (B : hg_B p s m args meth c cX4_isSheet RX4 wsL_law 1 D cI cA ad 0 A) (hr : meth.sig.returnType = (some .boolean)) {a1 : Int} {w1 : hg_W} {r1 : Int} {w : hg_W} (h : fX4_isSheet w a1 = some (w1, r1)) : hg_At p l e (rmX4_isSheet) s m args below meth c D cI cA ad 0 A (MQ below (hg_Qi D cI cA ad 0 A w1 r1) args s 0 0 A) 1 w [(0, .int (hg_I a1))] 0 [] := by
  unfold fX4_isSheet at h
  refine z_iload_n B 0 dX4_isSheet_0 rfl rfl ?_
  refine z_if_lt (tgt := 13) B dX4_isSheet_1 (by decide) h (fun h => ?_) (fun h => ?_)
  · refine z_iconst B dX4_isSheet_13 ?_
    exact z_bret B hr dX4_isSheet_14 h
  · refine z_iload_n B 0 dX4_isSheet_4 rfl rfl ?_
    refine z_iconst B dX4_isSheet_5 ?_
    refine z_icmp_ge (tgt := 13) B dX4_isSheet_6 (by decide) h (fun h => ?_) (fun h => ?_)
    · refine z_iconst B dX4_isSheet_13 ?_
      exact z_bret B hr dX4_isSheet_14 h
    · refine z_iconst B dX4_isSheet_9 ?_
      refine z_goto (tgt := 14) B dX4_isSheet_10 (by decide) ?_
      exact z_bret B hr dX4_isSheet_14 h
set_option maxHeartbeats 4000000 in
set_option maxRecDepth 100000 in
theorem c_X4_isSheet {l : Launch} {D : va_G} {cI cA : ClassId} {ad : Nat → Nat} {a1 : Int} {w w1 : hg_W} {r1 : Int} (h : fX4_isSheet w a1 = some (w1, r1)) : hg_Mi l yX4_isSheet wxX4_isSheet rmX4_isSheet D cI cA ad 0 w [.int (hg_I a1)] w1 r1 := by
  refine z_meti cX4_isSheet 1 (some .boolean) (by decide) (Nat.le_of_ble_eq_true rfl) ?_
  intro p e s m args below meth c A B hr
  exact rX4_isSheet_E B hr h
abbrev wxX1_refusalToTell : List Cond := Cond.code yX1_refusalToTell cX1_refusalToTell 2 (some .int) :: wsL_law
def fX1_refusalToTell (w : hg_W) (a1 : Int) : Option (hg_W × Int) :=
  hg_bd (fX4_isSheet w a1) fun w1 v2 =>
  if wr v2 = 0 then
    (
      some (w1, wr (-2))
    )
  else
    hg_bd (fX1_isMissing w1 a1) fun w4 v5 =>
    if wr v5 = 0 then
      (
        (hg_ag 0 w4 48 a1).bind fun v7 =>
        if wr v7 ≤ wr 30 then
          (
            some (w4, wr 0)
          )
        else
          some (w4, wr (-2))
      )
    else
      some (w4, wr (-11))
set_option maxHeartbeats 4000000 in
set_option maxRecDepth 100000 in
abbrev rmX1_refusalToTell : Room := { frames := 1, cells := 0, slots := 0, locals := 21 }
set_option maxHeartbeats 4000000 in
set_option maxRecDepth 100000 in
theorem rX1_refusalToTell_E (B : hg_B p s m args meth c cX1_refusalToTell RX1 wsL_law 2 D cI cA ad 0 A) (hr : meth.sig.returnType = (some .int)) {a1 : Int} {w1 : hg_W} {r1 : Int} {w : hg_W} (h : fX1_refusalToTell w a1 = some (w1, r1)) : hg_At p l e (rmX1_refusalToTell) s m args below meth c D cI cA ad 0 A (MQ below (hg_Qi D cI cA ad 0 A w1 r1) args s 0 0 A) 2 w [(0, .ref (ad 46)), (1, .int (hg_I a1))] 0 [] := by
  unfold fX1_refusalToTell at h
  refine z_iload_n B 1 dX1_refusalToTell_0 rfl rfl ?_
  obtain ⟨w1, v2, q3, h⟩ := hg_bd_some h
  refine z_calliSN (As := [.int (hg_I a1)]) (n := 1) B rfl dX1_refusalToTell_1 (c_X4_isSheet q3) (gl_0 (wl_28 18 rfl)) rfl ⟨rfl, rfl⟩ (by decide +kernel) ⟨Nat.le_of_ble_eq_true rfl, Nat.le_of_ble_eq_true rfl⟩ rfl (wl_28 17 rfl) (wl_1 2 rfl) rfl rfl (Nat.le_of_ble_eq_true rfl) ?_
  refine z_if_ne (tgt := 10) B dX1_refusalToTell_4 (by decide) h (fun h => ?_) (fun h => ?_)
  · refine z_aload_n B 0 dX1_refusalToTell_10 rfl rfl ?_
    refine z_iload_n B 1 dX1_refusalToTell_11 rfl rfl ?_
    obtain ⟨w4, v5, q6, h⟩ := hg_bd_some h
    refine z_calliV (a := 46) (ci := 1) (N := 3) (T := TX1) (C := RX1) (As := [.int (hg_I a1)]) (n := 1) B dX1_refusalToTell_12 (c_X1_isMissing q6) (gl_V (wl_28 19 rfl) (wl_28 20 rfl) (wl_28 21 rfl) (wl_2 5 rfl) (wl_28 22 rfl)) rfl ⟨rfl, rfl⟩ (by decide +kernel) ⟨Nat.le_of_ble_eq_true rfl, Nat.le_of_ble_eq_true rfl⟩ (by decide) rfl (by decide) rfl rfl rfl (Nat.le_of_ble_eq_true rfl) ?_
    refine z_if_eq (tgt := 21) B dX1_refusalToTell_15 (by decide) h (fun h => ?_) (fun h => ?_)
    · refine z_aload_n B 0 dX1_refusalToTell_21 rfl rfl ?_
      refine z_get1 (v := .ref (ad 48)) B 1 dX1_refusalToTell_22 inlX1 (by decide) rfl (by decide) (wl_3 19 rfl) rfl rfl ?_
      refine z_iload_n B 1 dX1_refusalToTell_25 rfl rfl ?_
      obtain ⟨v7, q8, h⟩ := Option.bind_eq_some_iff.mp h
      refine z_iald (Or.inl rfl) B dX1_refusalToTell_26 q8 ?_
      refine z_bipush B dX1_refusalToTell_27 (by decide) ?_
      refine z_icmp_le (tgt := 37) B dX1_refusalToTell_29 (by decide) h (fun h => ?_) (fun h => ?_)
      · refine z_iconst B dX1_refusalToTell_37 ?_
        exact z_iret B hr dX1_refusalToTell_38 h
      · refine z_bipush B dX1_refusalToTell_32 (by decide) ?_
        refine z_goto (tgt := 38) B dX1_refusalToTell_34 (by decide) ?_
        exact z_iret B hr dX1_refusalToTell_38 h
    · refine z_bipush B dX1_refusalToTell_18 (by decide) ?_
      exact z_iret B hr dX1_refusalToTell_20 h
  · refine z_bipush B dX1_refusalToTell_7 (by decide) ?_
    exact z_iret B hr dX1_refusalToTell_9 h
set_option maxHeartbeats 4000000 in
set_option maxRecDepth 100000 in
theorem c_X1_refusalToTell {l : Launch} {D : va_G} {cI cA : ClassId} {ad : Nat → Nat} {a1 : Int} {w w1 : hg_W} {r1 : Int} (h : fX1_refusalToTell w a1 = some (w1, r1)) : hg_Mi l yX1_refusalToTell wxX1_refusalToTell rmX1_refusalToTell D cI cA ad 0 w [.ref (ad 46), .int (hg_I a1)] w1 r1 := by
  refine z_meti cX1_refusalToTell 2 (some .int) (by decide) (Nat.le_of_ble_eq_true rfl) ?_
  intro p e s m args below meth c A B hr
  exact rX1_refusalToTell_E B hr h
abbrev wxX2_add : List Cond := Cond.code yX2_add cX2_add 2 none :: wsL_law
def fX2_add (w : hg_W) (a1 : Int) : Option (hg_W × Int) :=
  if wr 160 ≤ wr (w 17 1) then
    (
      some (w, 0)
    )
  else
    (hg_as 0 w 18 (w 17 1) a1).bind fun w1 =>
    (hg_pt w1 17 1 ((w1 17 1) + 1)).bind fun w3 =>
    some (w3, 0)
set_option maxHeartbeats 4000000 in
set_option maxRecDepth 100000 in
abbrev rmX2_add : Room := { frames := 0, cells := 0, slots := 0, locals := 0 }
set_option maxHeartbeats 4000000 in
set_option maxRecDepth 100000 in
theorem rX2_add_E (B : hg_B p s m args meth c cX2_add RX2 wsL_law 2 D cI cA ad 0 A) (hr : meth.sig.returnType = none) {a1 : Int} {w1 : hg_W} {r1 : Int} {w : hg_W} (h : fX2_add w a1 = some (w1, r1)) : hg_At p l e (rmX2_add) s m args below meth c D cI cA ad 0 A (MQ below (hg_Qv D cI cA ad 0 A w1) args s 0 0 A) 2 w [(0, .ref (ad 17)), (1, .int (hg_I a1))] 0 [] := by
  unfold fX2_add at h
  refine z_aload_n B 0 dX2_add_0 rfl rfl ?_
  refine z_get2 (v := .int (hg_I (w 17 1))) B 1 dX2_add_1 inlX2 (by decide) rfl (by decide) (wl_10 6 rfl) rfl rfl ?_
  refine z_sipush B dX2_add_4 (by decide) ?_
  refine z_icmp_ge (tgt := 30) B dX2_add_7 (by decide) h (fun h => ?_) (fun h => ?_)
  · exact z_vret B hr dX2_add_30 h
  · refine z_aload_n B 0 dX2_add_10 rfl rfl ?_
    refine z_get2 (v := .ref (ad 18)) B 0 dX2_add_11 inlX2 (by decide) rfl (by decide) (wl_2 23 rfl) rfl rfl ?_
    refine z_aload_n B 0 dX2_add_14 rfl rfl ?_
    refine z_get2 (v := .int (hg_I (w 17 1))) B 1 dX2_add_15 inlX2 (by decide) rfl (by decide) (wl_10 6 rfl) rfl rfl ?_
    refine z_iload_n B 1 dX2_add_18 rfl rfl ?_
    obtain ⟨w1, q2, h⟩ := Option.bind_eq_some_iff.mp h
    refine z_iast (Or.inl rfl) B dX2_add_19 q2 ?_
    refine z_aload_n B 0 dX2_add_20 rfl rfl ?_
    refine z_dup B dX2_add_21 rfl ?_
    refine z_get2 (v := .int (hg_I (w1 17 1))) B 1 dX2_add_22 inlX2 (by decide) rfl (by decide) (wl_10 6 rfl) rfl rfl ?_
    refine z_iconst B dX2_add_25 ?_
    refine z_iadd B dX2_add_26 ?_
    obtain ⟨w3, q4, h⟩ := Option.bind_eq_some_iff.mp h
    refine z_put2 B 1 dX2_add_27 inlX2 (by decide) rfl (by decide) (wl_10 6 rfl) rfl rfl .int (by decide +kernel) rfl rfl hg_fs2_1 q4 ?_
    exact z_vret B hr dX2_add_30 h
set_option maxHeartbeats 4000000 in
set_option maxRecDepth 100000 in
theorem c_X2_add {l : Launch} {D : va_G} {cI cA : ClassId} {ad : Nat → Nat} {a1 : Int} {w w1 : hg_W} {r1 : Int} (h : fX2_add w a1 = some (w1, r1)) : hg_Mv l yX2_add wxX2_add rmX2_add D cI cA ad 0 w [.ref (ad 17), .int (hg_I a1)] w1 := by
  refine z_metv cX2_add 2 none (by decide) (Nat.le_of_ble_eq_true rfl) ?_
  intro p e s m args below meth c A B hr
  exact rX2_add_E B hr h
abbrev wxX2_isLetter : List Cond := Cond.code yX2_isLetter cX2_isLetter 1 (some .boolean) :: wsL_law
def fX2_isLetter (w : hg_W) (a1 : Int) : Option (hg_W × Int) :=
  if wr a1 < wr 97 then
    (
      if wr 0 = 0 ∨ wr 0 = 1 then some (w, wr 0) else none
    )
  else
    if wr 122 < wr a1 then
      (
        if wr 0 = 0 ∨ wr 0 = 1 then some (w, wr 0) else none
      )
    else
      if wr 1 = 0 ∨ wr 1 = 1 then some (w, wr 1) else none
set_option maxHeartbeats 4000000 in
set_option maxRecDepth 100000 in
abbrev rmX2_isLetter : Room := { frames := 0, cells := 0, slots := 0, locals := 0 }
set_option maxHeartbeats 4000000 in
set_option maxRecDepth 100000 in
theorem rX2_isLetter_E (B : hg_B p s m args meth c cX2_isLetter RX2 wsL_law 1 D cI cA ad 0 A) (hr : meth.sig.returnType = (some .boolean)) {a1 : Int} {w1 : hg_W} {r1 : Int} {w : hg_W} (h : fX2_isLetter w a1 = some (w1, r1)) : hg_At p l e (rmX2_isLetter) s m args below meth c D cI cA ad 0 A (MQ below (hg_Qi D cI cA ad 0 A w1 r1) args s 0 0 A) 1 w [(0, .int (hg_I a1))] 0 [] := by
  unfold fX2_isLetter at h
  refine z_iload_n B 0 dX2_isLetter_0 rfl rfl ?_
  refine z_bipush B dX2_isLetter_1 (by decide) ?_
  refine z_icmp_lt (tgt := 16) B dX2_isLetter_3 (by decide) h (fun h => ?_) (fun h => ?_)
  · refine z_iconst B dX2_isLetter_16 ?_
    exact z_bret B hr dX2_isLetter_17 h
  · refine z_iload_n B 0 dX2_isLetter_6 rfl rfl ?_
    refine z_bipush B dX2_isLetter_7 (by decide) ?_
    refine z_icmp_gt (tgt := 16) B dX2_isLetter_9 (by decide) h (fun h => ?_) (fun h => ?_)
    · refine z_iconst B dX2_isLetter_16 ?_
      exact z_bret B hr dX2_isLetter_17 h
    · refine z_iconst B dX2_isLetter_12 ?_
      refine z_goto (tgt := 17) B dX2_isLetter_13 (by decide) ?_
      exact z_bret B hr dX2_isLetter_17 h
set_option maxHeartbeats 4000000 in
set_option maxRecDepth 100000 in
theorem c_X2_isLetter {l : Launch} {D : va_G} {cI cA : ClassId} {ad : Nat → Nat} {a1 : Int} {w w1 : hg_W} {r1 : Int} (h : fX2_isLetter w a1 = some (w1, r1)) : hg_Mi l yX2_isLetter wxX2_isLetter rmX2_isLetter D cI cA ad 0 w [.int (hg_I a1)] w1 r1 := by
  refine z_meti cX2_isLetter 1 (some .boolean) (by decide) (Nat.le_of_ble_eq_true rfl) ?_
  intro p e s m args below meth c A B hr
  exact rX2_isLetter_E B hr h
end G_06_hat1
