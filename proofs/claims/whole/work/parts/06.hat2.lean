section G_06_hat2
variable {p : Program} {l : Launch} {e : Env} {s : State} {m : MethodId} {args : Array Value} {below : List Frame} {meth : Method} {c : Code} {D : va_G} {cI cA : ClassId} {ad : Nat → Nat} {A : Nat → Prop}
abbrev wxX2_wordOf : List Cond := Cond.code yX2_wordOf cX2_wordOf 1 (some (.object "java/lang/String")) :: wsL_law
def fX2_wordOf (w : hg_W) (a1 : Int) : Option (hg_W × Int) :=
  if wr a1 = (-24) then
    (
      some (w, 11)
    )
  else
  if wr a1 = (-23) then
    (
      some (w, 10)
    )
  else
  if wr a1 = (-22) then
    (
      some (w, 9)
    )
  else
  if wr a1 = (-21) then
    (
      some (w, 12)
    )
  else
  if wr a1 = (-20) then
    (
      some (w, 12)
    )
  else
  if wr a1 = (-19) then
    (
      some (w, 12)
    )
  else
  if wr a1 = (-18) then
    (
      some (w, 12)
    )
  else
  if wr a1 = (-17) then
    (
      some (w, 12)
    )
  else
  if wr a1 = (-16) then
    (
      some (w, 12)
    )
  else
  if wr a1 = (-15) then
    (
      some (w, 12)
    )
  else
  if wr a1 = (-14) then
    (
      some (w, 12)
    )
  else
  if wr a1 = (-13) then
    (
      some (w, 12)
    )
  else
  if wr a1 = (-12) then
    (
      some (w, 12)
    )
  else
  if wr a1 = (-11) then
    (
      some (w, 12)
    )
  else
  if wr a1 = (-10) then
    (
      some (w, 12)
    )
  else
  if wr a1 = (-9) then
    (
      some (w, 8)
    )
  else
  if wr a1 = (-8) then
    (
      some (w, 7)
    )
  else
  if wr a1 = (-7) then
    (
      some (w, 6)
    )
  else
  if wr a1 = (-6) then
    (
      some (w, 5)
    )
  else
  if wr a1 = (-5) then
    (
      some (w, 4)
    )
  else
  if wr a1 = (-4) then
    (
      some (w, 3)
    )
  else
  if wr a1 = (-3) then
    (
      some (w, 2)
    )
  else
  if wr a1 = (-2) then
    (
      some (w, 1)
    )
  else
  if wr a1 = (-1) then
    (
      some (w, 0)
    )
  else
  some (w, 12)
set_option maxHeartbeats 4000000 in
set_option maxRecDepth 100000 in
abbrev rmX2_wordOf : Room := { frames := 0, cells := 0, slots := 0, locals := 0 }
set_option maxHeartbeats 4000000 in
set_option maxRecDepth 100000 in
theorem rX2_wordOf_E (B : hg_B p s m args meth c cX2_wordOf RX2 wsL_law 1 D cI cA ad 0 A) (hr : meth.sig.returnType = (some (.object "java/lang/String"))) {a1 : Int} {w1 : hg_W} {r1 : Int} {w : hg_W} (h : fX2_wordOf w a1 = some (w1, r1)) : hg_At p l e (rmX2_wordOf) s m args below meth c D cI cA ad 0 A (MQ below (hg_Qr D cI cA ad 0 A w1 r1) args s 0 0 A) 1 w [(0, .int (hg_I a1))] 0 [] := by
  unfold fX2_wordOf at h
  refine z_iload_n B 0 dX2_wordOf_0 rfl rfl ?_
  by_cases z1 : wr a1 = (-24)
  · rw [if_pos z1] at h
    refine z_tabIn (off := 144) (tgt := 145) B dX2_wordOf_1 z1 (by decide) rfl (by decide) ?_
    refine z_ldcS B dX2_wordOf_145 11 (by decide) rfl rfl rfl ?_
    exact z_aret B hr dX2_wordOf_147 h
  rw [if_neg z1] at h
  by_cases z2 : wr a1 = (-23)
  · rw [if_pos z2] at h
    refine z_tabIn (off := 141) (tgt := 142) B dX2_wordOf_1 z2 (by decide) rfl (by decide) ?_
    refine z_ldcS B dX2_wordOf_142 10 (by decide) rfl rfl rfl ?_
    exact z_aret B hr dX2_wordOf_144 h
  rw [if_neg z2] at h
  by_cases z3 : wr a1 = (-22)
  · rw [if_pos z3] at h
    refine z_tabIn (off := 138) (tgt := 139) B dX2_wordOf_1 z3 (by decide) rfl (by decide) ?_
    refine z_ldcS B dX2_wordOf_139 9 (by decide) rfl rfl rfl ?_
    exact z_aret B hr dX2_wordOf_141 h
  rw [if_neg z3] at h
  by_cases z4 : wr a1 = (-21)
  · rw [if_pos z4] at h
    refine z_tabIn (off := 147) (tgt := 148) B dX2_wordOf_1 z4 (by decide) rfl (by decide) ?_
    refine z_ldcS B dX2_wordOf_148 12 (by decide) rfl rfl rfl ?_
    exact z_aret B hr dX2_wordOf_150 h
  rw [if_neg z4] at h
  by_cases z5 : wr a1 = (-20)
  · rw [if_pos z5] at h
    refine z_tabIn (off := 147) (tgt := 148) B dX2_wordOf_1 z5 (by decide) rfl (by decide) ?_
    refine z_ldcS B dX2_wordOf_148 12 (by decide) rfl rfl rfl ?_
    exact z_aret B hr dX2_wordOf_150 h
  rw [if_neg z5] at h
  by_cases z6 : wr a1 = (-19)
  · rw [if_pos z6] at h
    refine z_tabIn (off := 147) (tgt := 148) B dX2_wordOf_1 z6 (by decide) rfl (by decide) ?_
    refine z_ldcS B dX2_wordOf_148 12 (by decide) rfl rfl rfl ?_
    exact z_aret B hr dX2_wordOf_150 h
  rw [if_neg z6] at h
  by_cases z7 : wr a1 = (-18)
  · rw [if_pos z7] at h
    refine z_tabIn (off := 147) (tgt := 148) B dX2_wordOf_1 z7 (by decide) rfl (by decide) ?_
    refine z_ldcS B dX2_wordOf_148 12 (by decide) rfl rfl rfl ?_
    exact z_aret B hr dX2_wordOf_150 h
  rw [if_neg z7] at h
  by_cases z8 : wr a1 = (-17)
  · rw [if_pos z8] at h
    refine z_tabIn (off := 147) (tgt := 148) B dX2_wordOf_1 z8 (by decide) rfl (by decide) ?_
    refine z_ldcS B dX2_wordOf_148 12 (by decide) rfl rfl rfl ?_
    exact z_aret B hr dX2_wordOf_150 h
  rw [if_neg z8] at h
  by_cases z9 : wr a1 = (-16)
  · rw [if_pos z9] at h
    refine z_tabIn (off := 147) (tgt := 148) B dX2_wordOf_1 z9 (by decide) rfl (by decide) ?_
    refine z_ldcS B dX2_wordOf_148 12 (by decide) rfl rfl rfl ?_
    exact z_aret B hr dX2_wordOf_150 h
  rw [if_neg z9] at h
  by_cases z10 : wr a1 = (-15)
  · rw [if_pos z10] at h
    refine z_tabIn (off := 147) (tgt := 148) B dX2_wordOf_1 z10 (by decide) rfl (by decide) ?_
    refine z_ldcS B dX2_wordOf_148 12 (by decide) rfl rfl rfl ?_
    exact z_aret B hr dX2_wordOf_150 h
  rw [if_neg z10] at h
  by_cases z11 : wr a1 = (-14)
  · rw [if_pos z11] at h
    refine z_tabIn (off := 147) (tgt := 148) B dX2_wordOf_1 z11 (by decide) rfl (by decide) ?_
    refine z_ldcS B dX2_wordOf_148 12 (by decide) rfl rfl rfl ?_
    exact z_aret B hr dX2_wordOf_150 h
  rw [if_neg z11] at h
  by_cases z12 : wr a1 = (-13)
  · rw [if_pos z12] at h
    refine z_tabIn (off := 147) (tgt := 148) B dX2_wordOf_1 z12 (by decide) rfl (by decide) ?_
    refine z_ldcS B dX2_wordOf_148 12 (by decide) rfl rfl rfl ?_
    exact z_aret B hr dX2_wordOf_150 h
  rw [if_neg z12] at h
  by_cases z13 : wr a1 = (-12)
  · rw [if_pos z13] at h
    refine z_tabIn (off := 147) (tgt := 148) B dX2_wordOf_1 z13 (by decide) rfl (by decide) ?_
    refine z_ldcS B dX2_wordOf_148 12 (by decide) rfl rfl rfl ?_
    exact z_aret B hr dX2_wordOf_150 h
  rw [if_neg z13] at h
  by_cases z14 : wr a1 = (-11)
  · rw [if_pos z14] at h
    refine z_tabIn (off := 147) (tgt := 148) B dX2_wordOf_1 z14 (by decide) rfl (by decide) ?_
    refine z_ldcS B dX2_wordOf_148 12 (by decide) rfl rfl rfl ?_
    exact z_aret B hr dX2_wordOf_150 h
  rw [if_neg z14] at h
  by_cases z15 : wr a1 = (-10)
  · rw [if_pos z15] at h
    refine z_tabIn (off := 147) (tgt := 148) B dX2_wordOf_1 z15 (by decide) rfl (by decide) ?_
    refine z_ldcS B dX2_wordOf_148 12 (by decide) rfl rfl rfl ?_
    exact z_aret B hr dX2_wordOf_150 h
  rw [if_neg z15] at h
  by_cases z16 : wr a1 = (-9)
  · rw [if_pos z16] at h
    refine z_tabIn (off := 135) (tgt := 136) B dX2_wordOf_1 z16 (by decide) rfl (by decide) ?_
    refine z_ldcS B dX2_wordOf_136 8 (by decide) rfl rfl rfl ?_
    exact z_aret B hr dX2_wordOf_138 h
  rw [if_neg z16] at h
  by_cases z17 : wr a1 = (-8)
  · rw [if_pos z17] at h
    refine z_tabIn (off := 132) (tgt := 133) B dX2_wordOf_1 z17 (by decide) rfl (by decide) ?_
    refine z_ldcS B dX2_wordOf_133 7 (by decide) rfl rfl rfl ?_
    exact z_aret B hr dX2_wordOf_135 h
  rw [if_neg z17] at h
  by_cases z18 : wr a1 = (-7)
  · rw [if_pos z18] at h
    refine z_tabIn (off := 129) (tgt := 130) B dX2_wordOf_1 z18 (by decide) rfl (by decide) ?_
    refine z_ldcS B dX2_wordOf_130 6 (by decide) rfl rfl rfl ?_
    exact z_aret B hr dX2_wordOf_132 h
  rw [if_neg z18] at h
  by_cases z19 : wr a1 = (-6)
  · rw [if_pos z19] at h
    refine z_tabIn (off := 126) (tgt := 127) B dX2_wordOf_1 z19 (by decide) rfl (by decide) ?_
    refine z_ldcS B dX2_wordOf_127 5 (by decide) rfl rfl rfl ?_
    exact z_aret B hr dX2_wordOf_129 h
  rw [if_neg z19] at h
  by_cases z20 : wr a1 = (-5)
  · rw [if_pos z20] at h
    refine z_tabIn (off := 123) (tgt := 124) B dX2_wordOf_1 z20 (by decide) rfl (by decide) ?_
    refine z_ldcS B dX2_wordOf_124 4 (by decide) rfl rfl rfl ?_
    exact z_aret B hr dX2_wordOf_126 h
  rw [if_neg z20] at h
  by_cases z21 : wr a1 = (-4)
  · rw [if_pos z21] at h
    refine z_tabIn (off := 120) (tgt := 121) B dX2_wordOf_1 z21 (by decide) rfl (by decide) ?_
    refine z_ldcS B dX2_wordOf_121 3 (by decide) rfl rfl rfl ?_
    exact z_aret B hr dX2_wordOf_123 h
  rw [if_neg z21] at h
  by_cases z22 : wr a1 = (-3)
  · rw [if_pos z22] at h
    refine z_tabIn (off := 117) (tgt := 118) B dX2_wordOf_1 z22 (by decide) rfl (by decide) ?_
    refine z_ldcS B dX2_wordOf_118 2 (by decide) rfl rfl rfl ?_
    exact z_aret B hr dX2_wordOf_120 h
  rw [if_neg z22] at h
  by_cases z23 : wr a1 = (-2)
  · rw [if_pos z23] at h
    refine z_tabIn (off := 114) (tgt := 115) B dX2_wordOf_1 z23 (by decide) rfl (by decide) ?_
    refine z_ldcS B dX2_wordOf_115 1 (by decide) rfl rfl rfl ?_
    exact z_aret B hr dX2_wordOf_117 h
  rw [if_neg z23] at h
  by_cases z24 : wr a1 = (-1)
  · rw [if_pos z24] at h
    refine z_tabIn (off := 111) (tgt := 112) B dX2_wordOf_1 z24 (by decide) rfl (by decide) ?_
    refine z_ldcS B dX2_wordOf_112 0 (by decide) rfl rfl rfl ?_
    exact z_aret B hr dX2_wordOf_114 h
  rw [if_neg z24] at h
  refine z_tabOut (tgt := 148) B dX2_wordOf_1 (by omega) (by decide) ?_
  refine z_ldcS B dX2_wordOf_148 12 (by decide) rfl rfl rfl ?_
  exact z_aret B hr dX2_wordOf_150 h
set_option maxHeartbeats 4000000 in
set_option maxRecDepth 100000 in
theorem c_X2_wordOf {l : Launch} {D : va_G} {cI cA : ClassId} {ad : Nat → Nat} {a1 : Int} {w w1 : hg_W} {r1 : Int} (h : fX2_wordOf w a1 = some (w1, r1)) : hg_Mr l yX2_wordOf wxX2_wordOf rmX2_wordOf D cI cA ad 0 w [.int (hg_I a1)] w1 r1 := by
  refine z_metr cX2_wordOf 1 (some (.object "java/lang/String")) (by decide) (Nat.le_of_ble_eq_true rfl) ?_
  intro p e s m args below meth c A B hr
  exact rX2_wordOf_E B hr h
abbrev wxX2_stands : List Cond := Cond.code yX2_stands cX2_stands 3 (some .boolean) :: wsL_law
def fX2_stands_20   : Nat → hg_W → Int → Int → Option (hg_W × Int)
  | 0, _, _, _ => none
  | n + 1, w, x1, x2 =>
    (hg_sl x1).bind fun v1 =>
    if wr v1 ≤ wr x2 then
      (
        if wr 1 = 0 ∨ wr 1 = 1 then some (w, wr 1) else none
      )
    else
      (hg_sc x1 x2).bind fun v3 =>
      (hg_ag 0 w 18 ((w 17 5) + x2)).bind fun v5 =>
      if wr v3 = wr v5 then
        (
          fX2_stands_20 n w x1 (x2 + 1)
        )
      else
        if wr 0 = 0 ∨ wr 0 = 1 then some (w, wr 0) else none
def fX2_stands (w : hg_W) (a1 : Int) : Option (hg_W × Int) :=
  (hg_sl a1).bind fun v1 =>
  if wr v1 = wr ((w 17 4) - (w 17 5)) then
    (
      fX2_stands_20 hg_F w a1 0
    )
  else
    if wr 0 = 0 ∨ wr 0 = 1 then some (w, wr 0) else none
set_option maxHeartbeats 4000000 in
set_option maxRecDepth 100000 in
abbrev rmX2_stands : Room := { frames := 8, cells := 0, slots := 0, locals := 260 }
set_option maxHeartbeats 4000000 in
set_option maxRecDepth 100000 in
theorem rX2_stands_20 (B : hg_B p s m args meth c cX2_stands RX2 wsL_law 3 D cI cA ad 0 A) (hr : meth.sig.returnType = (some .boolean)) {w1 : hg_W} {r1 : Int} : ∀ (n : Nat), ∀ (w : hg_W) (x1 : Int) (x2 : Int), fX2_stands_20 n w x1 x2 = some (w1, r1) → hg_At p l e (rmX2_stands) s m args below meth c D cI cA ad 0 A (MQ below (hg_Qi D cI cA ad 0 A w1 r1) args s 0 0 A) 3 w [(0, .ref (ad 17)), (1, .ref (ad (1000 + (x1).toNat))), (2, .int (hg_I x2))] 20 [] := by
  intro n
  induction n with
  | zero =>
    intro w x1 x2 h
    cases h
  | succ n ih =>
    intro w x1 x2 h
    simp only [fX2_stands_20] at h
    refine z_iload_n B 2 dX2_stands_20 rfl rfl ?_
    refine z_aload_n B 1 dX2_stands_21 rfl rfl ?_
    obtain ⟨v1, q2, h⟩ := Option.bind_eq_some_iff.mp h
    refine z_slen rfl B ⟨Nat.le_of_ble_eq_true rfl, Nat.le_of_ble_eq_true rfl⟩ (wl_11 23 rfl) dX2_stands_22 (Nat.le_of_ble_eq_true rfl) q2 ?_
    refine z_icmp_ge (tgt := 55) B dX2_stands_25 (by decide) h (fun h => ?_) (fun h => ?_)
    · refine z_iconst B dX2_stands_55 ?_
      exact z_bret B hr dX2_stands_56 h
    · refine z_aload_n B 1 dX2_stands_28 rfl rfl ?_
      refine z_iload_n B 2 dX2_stands_29 rfl rfl ?_
      obtain ⟨v3, q4, h⟩ := Option.bind_eq_some_iff.mp h
      refine z_schar rfl B ⟨Nat.le_of_ble_eq_true rfl, Nat.le_of_ble_eq_true rfl⟩ (wl_12 11 rfl) dX2_stands_30 (Nat.le_of_ble_eq_true rfl) q4 ?_
      refine z_aload_n B 0 dX2_stands_33 rfl rfl ?_
      refine z_get2 (v := .ref (ad 18)) B 0 dX2_stands_34 inlX2 (by decide) rfl (by decide) (wl_2 23 rfl) rfl rfl ?_
      refine z_aload_n B 0 dX2_stands_37 rfl rfl ?_
      refine z_get2 (v := .int (hg_I (w 17 5))) B 5 dX2_stands_38 inlX2 (by decide) rfl (by decide) (wl_11 8 rfl) rfl rfl ?_
      refine z_iload_n B 2 dX2_stands_41 rfl rfl ?_
      refine z_iadd B dX2_stands_42 ?_
      obtain ⟨v5, q6, h⟩ := Option.bind_eq_some_iff.mp h
      refine z_iald (Or.inl rfl) B dX2_stands_43 q6 ?_
      refine z_icmp_eq (tgt := 49) B dX2_stands_44 (by decide) h (fun h => ?_) (fun h => ?_)
      · refine z_iinc B 2 [(2, .int (hg_I (x2 + 1))), (0, .ref (ad 17)), (1, .ref (ad (1000 + (x1).toNat)))] dX2_stands_49 rfl (by decide) rfl ?_
        refine z_goto (tgt := 20) B dX2_stands_52 (by decide) ?_
        refine z_lv (lv' := [(0, .ref (ad 17)), (1, .ref (ad (1000 + (x1).toNat))), (2, .int (hg_I (x2 + 1)))]) B [1, 2, 0] rfl ?_
        exact ih _ _ _ h
      · refine z_iconst B dX2_stands_47 ?_
        exact z_bret B hr dX2_stands_48 h
set_option maxHeartbeats 4000000 in
set_option maxRecDepth 100000 in
theorem rX2_stands_E (B : hg_B p s m args meth c cX2_stands RX2 wsL_law 3 D cI cA ad 0 A) (hr : meth.sig.returnType = (some .boolean)) {a1 : Int} {w1 : hg_W} {r1 : Int} {w : hg_W} (h : fX2_stands w a1 = some (w1, r1)) : hg_At p l e (rmX2_stands) s m args below meth c D cI cA ad 0 A (MQ below (hg_Qi D cI cA ad 0 A w1 r1) args s 0 0 A) 3 w [(0, .ref (ad 17)), (1, .ref (ad (1000 + (a1).toNat)))] 0 [] := by
  unfold fX2_stands at h
  refine z_aload_n B 1 dX2_stands_0 rfl rfl ?_
  obtain ⟨v1, q2, h⟩ := Option.bind_eq_some_iff.mp h
  refine z_slen rfl B ⟨Nat.le_of_ble_eq_true rfl, Nat.le_of_ble_eq_true rfl⟩ (wl_11 23 rfl) dX2_stands_1 (Nat.le_of_ble_eq_true rfl) q2 ?_
  refine z_aload_n B 0 dX2_stands_4 rfl rfl ?_
  refine z_get2 (v := .int (hg_I (w 17 4))) B 4 dX2_stands_5 inlX2 (by decide) rfl (by decide) (wl_11 1 rfl) rfl rfl ?_
  refine z_aload_n B 0 dX2_stands_8 rfl rfl ?_
  refine z_get2 (v := .int (hg_I (w 17 5))) B 5 dX2_stands_9 inlX2 (by decide) rfl (by decide) (wl_11 8 rfl) rfl rfl ?_
  refine z_isub B dX2_stands_12 ?_
  refine z_icmp_eq (tgt := 18) B dX2_stands_13 (by decide) h (fun h => ?_) (fun h => ?_)
  · refine z_iconst B dX2_stands_18 ?_
    refine z_istore_n B [(2, .int (hg_I 0)), (0, .ref (ad 17)), (1, .ref (ad (1000 + (a1).toNat)))] dX2_stands_19 rfl (by decide) rfl ?_
    refine z_lv (lv' := [(0, .ref (ad 17)), (1, .ref (ad (1000 + (a1).toNat))), (2, .int (hg_I 0))]) B [1, 2, 0] rfl ?_
    exact rX2_stands_20 B hr hg_F _ _ _ h
  · refine z_iconst B dX2_stands_16 ?_
    exact z_bret B hr dX2_stands_17 h
set_option maxHeartbeats 4000000 in
set_option maxRecDepth 100000 in
theorem c_X2_stands {l : Launch} {D : va_G} {cI cA : ClassId} {ad : Nat → Nat} {a1 : Int} {w w1 : hg_W} {r1 : Int} (h : fX2_stands w a1 = some (w1, r1)) : hg_Mi l yX2_stands wxX2_stands rmX2_stands D cI cA ad 0 w [.ref (ad 17), .ref (ad (1000 + (a1).toNat))] w1 r1 := by
  refine z_meti cX2_stands 3 (some .boolean) (by decide) (Nat.le_of_ble_eq_true rfl) ?_
  intro p e s m args below meth c A B hr
  exact rX2_stands_E B hr h
abbrev wxX2_stepOverWord : List Cond := Cond.code yX2_stepOverWord cX2_stepOverWord 2 (some .int) :: wsL_law
def fX2_stepOverWord_41   : Nat → hg_W → Int → Option (hg_W × Int)
  | 0, _, _ => none
  | n + 1, w, x1 =>
    if wr x1 < wr (-24) then
      (
        some (w, wr (-21))
      )
    else
      hg_bd (fX2_wordOf w x1) fun w1 v2 =>
      hg_bd (fX2_stands w1 v2) fun w4 v5 =>
      if wr v5 = 0 then
        (
          fX2_stepOverWord_41 n w4 (x1 + (-1))
        )
      else
        some (w4, wr x1)
def fX2_stepOverWord_39   (w : hg_W) : Option (hg_W × Int) :=
  fX2_stepOverWord_41 hg_F w (-1)
def fX2_stepOverWord_0   : Nat → hg_W → Option (hg_W × Int)
  | 0, _ => none
  | n + 1, w =>
    if wr (w 17 1) ≤ wr (w 17 4) then
      (
        fX2_stepOverWord_39 w
      )
    else
      (hg_ag 0 w 18 (w 17 4)).bind fun v1 =>
      hg_bd (fX2_isLetter w v1) fun w3 v4 =>
      if wr v4 = 0 then
        (
          fX2_stepOverWord_39 w3
        )
      else
        (hg_pt w3 17 4 ((w3 17 4) + 1)).bind fun w6 =>
        fX2_stepOverWord_0 n w6
def fX2_stepOverWord (w : hg_W) : Option (hg_W × Int) :=
  fX2_stepOverWord_0 hg_F w
set_option maxHeartbeats 4000000 in
set_option maxRecDepth 100000 in
abbrev rmX2_stepOverWord : Room := { frames := 9, cells := 0, slots := 0, locals := 282 }
set_option maxHeartbeats 4000000 in
set_option maxRecDepth 100000 in
theorem rX2_stepOverWord_41 (B : hg_B p s m args meth c cX2_stepOverWord RX2 wsL_law 2 D cI cA ad 0 A) (hr : meth.sig.returnType = (some .int)) {w1 : hg_W} {r1 : Int} : ∀ (n : Nat), ∀ (w : hg_W) (x1 : Int), fX2_stepOverWord_41 n w x1 = some (w1, r1) → hg_At p l e (rmX2_stepOverWord) s m args below meth c D cI cA ad 0 A (MQ below (hg_Qi D cI cA ad 0 A w1 r1) args s 0 0 A) 2 w [(0, .ref (ad 17)), (1, .int (hg_I x1))] 41 [] := by
  intro n
  induction n with
  | zero =>
    intro w x1 h
    cases h
  | succ n ih =>
    intro w x1 h
    simp only [fX2_stepOverWord_41] at h
    refine z_iload_n B 1 dX2_stepOverWord_41 rfl rfl ?_
    refine z_bipush B dX2_stepOverWord_42 (by decide) ?_
    refine z_icmp_lt (tgt := 66) B dX2_stepOverWord_44 (by decide) h (fun h => ?_) (fun h => ?_)
    · refine z_bipush B dX2_stepOverWord_66 (by decide) ?_
      exact z_iret B hr dX2_stepOverWord_68 h
    · refine z_aload_n B 0 dX2_stepOverWord_47 rfl rfl ?_
      refine z_iload_n B 1 dX2_stepOverWord_48 rfl rfl ?_
      obtain ⟨w1, v2, q3, h⟩ := hg_bd_some h
      refine z_callrS (As := [.int (hg_I x1)]) (n := 1) B dX2_stepOverWord_49 (c_X2_wordOf q3) (gl_S (wl_11 16 rfl) (wl_11 17 rfl) (wl_1 18 rfl) (wl_11 18 rfl)) rfl ⟨rfl, rfl⟩ (by decide +kernel) ⟨Nat.le_of_ble_eq_true rfl, Nat.le_of_ble_eq_true rfl⟩ rfl rfl (Nat.le_of_ble_eq_true rfl) ?_
      obtain ⟨w4, v5, q6, h⟩ := hg_bd_some h
      refine z_calliV (a := 17) (ci := 2) (N := 9) (T := TX2) (C := RX2) (As := [.ref (ad (1000 + (v2).toNat))]) (n := 1) B dX2_stepOverWord_52 (c_X2_stands q6) (gl_V (wl_11 19 rfl) (wl_11 20 rfl) (wl_11 21 rfl) (wl_1 18 rfl) (wl_11 22 rfl)) rfl ⟨rfl, rfl⟩ (by decide +kernel) ⟨Nat.le_of_ble_eq_true rfl, Nat.le_of_ble_eq_true rfl⟩ (by decide) rfl (by decide) rfl rfl rfl (Nat.le_of_ble_eq_true rfl) ?_
      refine z_if_eq (tgt := 60) B dX2_stepOverWord_55 (by decide) h (fun h => ?_) (fun h => ?_)
      · refine z_iinc B 1 [(1, .int (hg_I (x1 + (-1)))), (0, .ref (ad 17))] dX2_stepOverWord_60 rfl (by decide) rfl ?_
        refine z_goto (tgt := 41) B dX2_stepOverWord_63 (by decide) ?_
        refine z_lv (lv' := [(0, .ref (ad 17)), (1, .int (hg_I (x1 + (-1))))]) B [1, 0] rfl ?_
        exact ih _ _ h
      · refine z_iload_n B 1 dX2_stepOverWord_58 rfl rfl ?_
        exact z_iret B hr dX2_stepOverWord_59 h
set_option maxHeartbeats 4000000 in
set_option maxRecDepth 100000 in
theorem rX2_stepOverWord_39 (B : hg_B p s m args meth c cX2_stepOverWord RX2 wsL_law 2 D cI cA ad 0 A) (hr : meth.sig.returnType = (some .int)) {w1 : hg_W} {r1 : Int} : ∀ (w : hg_W), fX2_stepOverWord_39 w = some (w1, r1) → hg_At p l e (rmX2_stepOverWord) s m args below meth c D cI cA ad 0 A (MQ below (hg_Qi D cI cA ad 0 A w1 r1) args s 0 0 A) 2 w [(0, .ref (ad 17))] 39 [] := by
  intro w h
  unfold fX2_stepOverWord_39 at h
  refine z_iconst B dX2_stepOverWord_39 ?_
  refine z_istore_n B [(1, .int (hg_I (-1))), (0, .ref (ad 17))] dX2_stepOverWord_40 rfl (by decide) rfl ?_
  refine z_lv (lv' := [(0, .ref (ad 17)), (1, .int (hg_I (-1)))]) B [1, 0] rfl ?_
  exact rX2_stepOverWord_41 B hr hg_F _ _ h
set_option maxHeartbeats 4000000 in
set_option maxRecDepth 100000 in
theorem rX2_stepOverWord_0 (B : hg_B p s m args meth c cX2_stepOverWord RX2 wsL_law 2 D cI cA ad 0 A) (hr : meth.sig.returnType = (some .int)) {w1 : hg_W} {r1 : Int} : ∀ (n : Nat), ∀ (w : hg_W), fX2_stepOverWord_0 n w = some (w1, r1) → hg_At p l e (rmX2_stepOverWord) s m args below meth c D cI cA ad 0 A (MQ below (hg_Qi D cI cA ad 0 A w1 r1) args s 0 0 A) 2 w [(0, .ref (ad 17))] 0 [] := by
  intro n
  induction n with
  | zero =>
    intro w h
    cases h
  | succ n ih =>
    intro w h
    simp only [fX2_stepOverWord_0] at h
    refine z_aload_n B 0 dX2_stepOverWord_0 rfl rfl ?_
    refine z_get2 (v := .int (hg_I (w 17 4))) B 4 dX2_stepOverWord_1 inlX2 (by decide) rfl (by decide) (wl_11 1 rfl) rfl rfl ?_
    refine z_aload_n B 0 dX2_stepOverWord_4 rfl rfl ?_
    refine z_get2 (v := .int (hg_I (w 17 1))) B 1 dX2_stepOverWord_5 inlX2 (by decide) rfl (by decide) (wl_10 6 rfl) rfl rfl ?_
    refine z_icmp_ge (tgt := 39) B dX2_stepOverWord_8 (by decide) h (fun h => ?_) (fun h => ?_)
    · exact rX2_stepOverWord_39 B hr _ h
    · refine z_aload_n B 0 dX2_stepOverWord_11 rfl rfl ?_
      refine z_get2 (v := .ref (ad 18)) B 0 dX2_stepOverWord_12 inlX2 (by decide) rfl (by decide) (wl_2 23 rfl) rfl rfl ?_
      refine z_aload_n B 0 dX2_stepOverWord_15 rfl rfl ?_
      refine z_get2 (v := .int (hg_I (w 17 4))) B 4 dX2_stepOverWord_16 inlX2 (by decide) rfl (by decide) (wl_11 1 rfl) rfl rfl ?_
      obtain ⟨v1, q2, h⟩ := Option.bind_eq_some_iff.mp h
      refine z_iald (Or.inl rfl) B dX2_stepOverWord_19 q2 ?_
      obtain ⟨w3, v4, q5, h⟩ := hg_bd_some h
      refine z_calliS (As := [.int (hg_I v1)]) (n := 1) B dX2_stepOverWord_20 (c_X2_isLetter q5) (gl_S (wl_11 9 rfl) (wl_11 10 rfl) (wl_1 18 rfl) (wl_11 11 rfl)) rfl ⟨rfl, rfl⟩ (by decide +kernel) ⟨Nat.le_of_ble_eq_true rfl, Nat.le_of_ble_eq_true rfl⟩ rfl rfl (Nat.le_of_ble_eq_true rfl) ?_
      refine z_if_eq (tgt := 39) B dX2_stepOverWord_23 (by decide) h (fun h => ?_) (fun h => ?_)
      · exact rX2_stepOverWord_39 B hr _ h
      · refine z_aload_n B 0 dX2_stepOverWord_26 rfl rfl ?_
        refine z_dup B dX2_stepOverWord_27 rfl ?_
        refine z_get2 (v := .int (hg_I (w3 17 4))) B 4 dX2_stepOverWord_28 inlX2 (by decide) rfl (by decide) (wl_11 1 rfl) rfl rfl ?_
        refine z_iconst B dX2_stepOverWord_31 ?_
        refine z_iadd B dX2_stepOverWord_32 ?_
        obtain ⟨w6, q7, h⟩ := Option.bind_eq_some_iff.mp h
        refine z_put2 B 4 dX2_stepOverWord_33 inlX2 (by decide) rfl (by decide) (wl_11 1 rfl) rfl rfl .int (by decide +kernel) rfl rfl hg_fs2_4 q7 ?_
        refine z_goto (tgt := 0) B dX2_stepOverWord_36 (by decide) ?_
        exact ih _ h
set_option maxHeartbeats 4000000 in
set_option maxRecDepth 100000 in
theorem rX2_stepOverWord_E (B : hg_B p s m args meth c cX2_stepOverWord RX2 wsL_law 2 D cI cA ad 0 A) (hr : meth.sig.returnType = (some .int)) {w1 : hg_W} {r1 : Int} {w : hg_W} (h : fX2_stepOverWord w = some (w1, r1)) : hg_At p l e (rmX2_stepOverWord) s m args below meth c D cI cA ad 0 A (MQ below (hg_Qi D cI cA ad 0 A w1 r1) args s 0 0 A) 2 w [(0, .ref (ad 17))] 0 [] := by
  unfold fX2_stepOverWord at h
  exact rX2_stepOverWord_0 B hr hg_F _ h
set_option maxHeartbeats 4000000 in
set_option maxRecDepth 100000 in
theorem c_X2_stepOverWord {l : Launch} {D : va_G} {cI cA : ClassId} {ad : Nat → Nat} {w w1 : hg_W} {r1 : Int} (h : fX2_stepOverWord w = some (w1, r1)) : hg_Mi l yX2_stepOverWord wxX2_stepOverWord rmX2_stepOverWord D cI cA ad 0 w [.ref (ad 17)] w1 r1 := by
  refine z_meti cX2_stepOverWord 2 (some .int) (by decide) (Nat.le_of_ble_eq_true rfl) ?_
  intro p e s m args below meth c A B hr
  exact rX2_stepOverWord_E B hr h
abbrev wxX2_isDigit : List Cond := Cond.code yX2_isDigit cX2_isDigit 1 (some .boolean) :: wsL_law
def fX2_isDigit (w : hg_W) (a1 : Int) : Option (hg_W × Int) :=
  if wr a1 < wr 48 then
    (
      if wr 0 = 0 ∨ wr 0 = 1 then some (w, wr 0) else none
    )
  else
    if wr 57 < wr a1 then
      (
        if wr 0 = 0 ∨ wr 0 = 1 then some (w, wr 0) else none
      )
    else
      if wr 1 = 0 ∨ wr 1 = 1 then some (w, wr 1) else none
set_option maxHeartbeats 4000000 in
set_option maxRecDepth 100000 in
abbrev rmX2_isDigit : Room := { frames := 0, cells := 0, slots := 0, locals := 0 }
set_option maxHeartbeats 4000000 in
set_option maxRecDepth 100000 in
theorem rX2_isDigit_E (B : hg_B p s m args meth c cX2_isDigit RX2 wsL_law 1 D cI cA ad 0 A) (hr : meth.sig.returnType = (some .boolean)) {a1 : Int} {w1 : hg_W} {r1 : Int} {w : hg_W} (h : fX2_isDigit w a1 = some (w1, r1)) : hg_At p l e (rmX2_isDigit) s m args below meth c D cI cA ad 0 A (MQ below (hg_Qi D cI cA ad 0 A w1 r1) args s 0 0 A) 1 w [(0, .int (hg_I a1))] 0 [] := by
  unfold fX2_isDigit at h
  refine z_iload_n B 0 dX2_isDigit_0 rfl rfl ?_
  refine z_bipush B dX2_isDigit_1 (by decide) ?_
  refine z_icmp_lt (tgt := 16) B dX2_isDigit_3 (by decide) h (fun h => ?_) (fun h => ?_)
  · refine z_iconst B dX2_isDigit_16 ?_
    exact z_bret B hr dX2_isDigit_17 h
  · refine z_iload_n B 0 dX2_isDigit_6 rfl rfl ?_
    refine z_bipush B dX2_isDigit_7 (by decide) ?_
    refine z_icmp_gt (tgt := 16) B dX2_isDigit_9 (by decide) h (fun h => ?_) (fun h => ?_)
    · refine z_iconst B dX2_isDigit_16 ?_
      exact z_bret B hr dX2_isDigit_17 h
    · refine z_iconst B dX2_isDigit_12 ?_
      refine z_goto (tgt := 17) B dX2_isDigit_13 (by decide) ?_
      exact z_bret B hr dX2_isDigit_17 h
set_option maxHeartbeats 4000000 in
set_option maxRecDepth 100000 in
theorem c_X2_isDigit {l : Launch} {D : va_G} {cI cA : ClassId} {ad : Nat → Nat} {a1 : Int} {w w1 : hg_W} {r1 : Int} (h : fX2_isDigit w a1 = some (w1, r1)) : hg_Mi l yX2_isDigit wxX2_isDigit rmX2_isDigit D cI cA ad 0 w [.int (hg_I a1)] w1 r1 := by
  refine z_meti cX2_isDigit 1 (some .boolean) (by decide) (Nat.le_of_ble_eq_true rfl) ?_
  intro p e s m args below meth c A B hr
  exact rX2_isDigit_E B hr h
abbrev wxX2_stepOverNumber : List Cond := Cond.code yX2_stepOverNumber cX2_stepOverNumber 1 (some .int) :: wsL_law
def fX2_stepOverNumber_68   (w : hg_W) : Option (hg_W × Int) :=
  if wr ((w 17 4) - (w 17 5)) ≤ wr 4 then
    (
      some (w, wr (-19))
    )
  else
    some (w, wr (-21))
def fX2_stepOverNumber_5   : Nat → hg_W → Option (hg_W × Int)
  | 0, _ => none
  | n + 1, w =>
    if wr (w 17 1) ≤ wr (w 17 4) then
      (
        fX2_stepOverNumber_68 w
      )
    else
      (hg_ag 0 w 18 (w 17 4)).bind fun v1 =>
      hg_bd (fX2_isDigit w v1) fun w3 v4 =>
      if wr v4 = 0 then
        (
          fX2_stepOverNumber_68 w3
        )
      else
        (hg_ag 0 w3 18 (w3 17 4)).bind fun v6 =>
        (hg_pt w3 17 7 ((((w3 17 7) * 10) + v6) - 48)).bind fun w8 =>
        (hg_pt w8 17 4 ((w8 17 4) + 1)).bind fun w10 =>
        fX2_stepOverNumber_5 n w10
def fX2_stepOverNumber (w : hg_W) : Option (hg_W × Int) :=
  (hg_pt w 17 7 0).bind fun w1 =>
  fX2_stepOverNumber_5 hg_F w1
set_option maxHeartbeats 4000000 in
set_option maxRecDepth 100000 in
abbrev rmX2_stepOverNumber : Room := { frames := 1, cells := 0, slots := 0, locals := 20 }
set_option maxHeartbeats 4000000 in
set_option maxRecDepth 100000 in
theorem rX2_stepOverNumber_68 (B : hg_B p s m args meth c cX2_stepOverNumber RX2 wsL_law 1 D cI cA ad 0 A) (hr : meth.sig.returnType = (some .int)) {w1 : hg_W} {r1 : Int} : ∀ (w : hg_W), fX2_stepOverNumber_68 w = some (w1, r1) → hg_At p l e (rmX2_stepOverNumber) s m args below meth c D cI cA ad 0 A (MQ below (hg_Qi D cI cA ad 0 A w1 r1) args s 0 0 A) 1 w [(0, .ref (ad 17))] 68 [] := by
  intro w h
  unfold fX2_stepOverNumber_68 at h
  refine z_aload_n B 0 dX2_stepOverNumber_68 rfl rfl ?_
  refine z_get2 (v := .int (hg_I (w 17 4))) B 4 dX2_stepOverNumber_69 inlX2 (by decide) rfl (by decide) (wl_11 1 rfl) rfl rfl ?_
  refine z_aload_n B 0 dX2_stepOverNumber_72 rfl rfl ?_
  refine z_get2 (v := .int (hg_I (w 17 5))) B 5 dX2_stepOverNumber_73 inlX2 (by decide) rfl (by decide) (wl_11 8 rfl) rfl rfl ?_
  refine z_isub B dX2_stepOverNumber_76 ?_
  refine z_iconst B dX2_stepOverNumber_77 ?_
  refine z_icmp_le (tgt := 86) B dX2_stepOverNumber_78 (by decide) h (fun h => ?_) (fun h => ?_)
  · refine z_bipush B dX2_stepOverNumber_86 (by decide) ?_
    exact z_iret B hr dX2_stepOverNumber_88 h
  · refine z_bipush B dX2_stepOverNumber_81 (by decide) ?_
    refine z_goto (tgt := 88) B dX2_stepOverNumber_83 (by decide) ?_
    exact z_iret B hr dX2_stepOverNumber_88 h
set_option maxHeartbeats 4000000 in
set_option maxRecDepth 100000 in
theorem rX2_stepOverNumber_5 (B : hg_B p s m args meth c cX2_stepOverNumber RX2 wsL_law 1 D cI cA ad 0 A) (hr : meth.sig.returnType = (some .int)) {w1 : hg_W} {r1 : Int} : ∀ (n : Nat), ∀ (w : hg_W), fX2_stepOverNumber_5 n w = some (w1, r1) → hg_At p l e (rmX2_stepOverNumber) s m args below meth c D cI cA ad 0 A (MQ below (hg_Qi D cI cA ad 0 A w1 r1) args s 0 0 A) 1 w [(0, .ref (ad 17))] 5 [] := by
  intro n
  induction n with
  | zero =>
    intro w h
    cases h
  | succ n ih =>
    intro w h
    simp only [fX2_stepOverNumber_5] at h
    refine z_aload_n B 0 dX2_stepOverNumber_5 rfl rfl ?_
    refine z_get2 (v := .int (hg_I (w 17 4))) B 4 dX2_stepOverNumber_6 inlX2 (by decide) rfl (by decide) (wl_11 1 rfl) rfl rfl ?_
    refine z_aload_n B 0 dX2_stepOverNumber_9 rfl rfl ?_
    refine z_get2 (v := .int (hg_I (w 17 1))) B 1 dX2_stepOverNumber_10 inlX2 (by decide) rfl (by decide) (wl_10 6 rfl) rfl rfl ?_
    refine z_icmp_ge (tgt := 68) B dX2_stepOverNumber_13 (by decide) h (fun h => ?_) (fun h => ?_)
    · exact rX2_stepOverNumber_68 B hr _ h
    · refine z_aload_n B 0 dX2_stepOverNumber_16 rfl rfl ?_
      refine z_get2 (v := .ref (ad 18)) B 0 dX2_stepOverNumber_17 inlX2 (by decide) rfl (by decide) (wl_2 23 rfl) rfl rfl ?_
      refine z_aload_n B 0 dX2_stepOverNumber_20 rfl rfl ?_
      refine z_get2 (v := .int (hg_I (w 17 4))) B 4 dX2_stepOverNumber_21 inlX2 (by decide) rfl (by decide) (wl_11 1 rfl) rfl rfl ?_
      obtain ⟨v1, q2, h⟩ := Option.bind_eq_some_iff.mp h
      refine z_iald (Or.inl rfl) B dX2_stepOverNumber_24 q2 ?_
      obtain ⟨w3, v4, q5, h⟩ := hg_bd_some h
      refine z_calliS (As := [.int (hg_I v1)]) (n := 1) B dX2_stepOverNumber_25 (c_X2_isDigit q5) (gl_S (wl_14 0 rfl) (wl_14 1 rfl) (wl_1 18 rfl) (wl_14 2 rfl)) rfl ⟨rfl, rfl⟩ (by decide +kernel) ⟨Nat.le_of_ble_eq_true rfl, Nat.le_of_ble_eq_true rfl⟩ rfl rfl (Nat.le_of_ble_eq_true rfl) ?_
      refine z_if_eq (tgt := 68) B dX2_stepOverNumber_28 (by decide) h (fun h => ?_) (fun h => ?_)
      · exact rX2_stepOverNumber_68 B hr _ h
      · refine z_aload_n B 0 dX2_stepOverNumber_31 rfl rfl ?_
        refine z_aload_n B 0 dX2_stepOverNumber_32 rfl rfl ?_
        refine z_get2 (v := .int (hg_I (w3 17 7))) B 7 dX2_stepOverNumber_33 inlX2 (by decide) rfl (by decide) (wl_14 7 rfl) rfl rfl ?_
        refine z_bipush B dX2_stepOverNumber_36 (by decide) ?_
        refine z_imul B dX2_stepOverNumber_38 ?_
        refine z_aload_n B 0 dX2_stepOverNumber_39 rfl rfl ?_
        refine z_get2 (v := .ref (ad 18)) B 0 dX2_stepOverNumber_40 inlX2 (by decide) rfl (by decide) (wl_2 23 rfl) rfl rfl ?_
        refine z_aload_n B 0 dX2_stepOverNumber_43 rfl rfl ?_
        refine z_get2 (v := .int (hg_I (w3 17 4))) B 4 dX2_stepOverNumber_44 inlX2 (by decide) rfl (by decide) (wl_11 1 rfl) rfl rfl ?_
        obtain ⟨v6, q7, h⟩ := Option.bind_eq_some_iff.mp h
        refine z_iald (Or.inl rfl) B dX2_stepOverNumber_47 q7 ?_
        refine z_iadd B dX2_stepOverNumber_48 ?_
        refine z_bipush B dX2_stepOverNumber_49 (by decide) ?_
        refine z_isub B dX2_stepOverNumber_51 ?_
        obtain ⟨w8, q9, h⟩ := Option.bind_eq_some_iff.mp h
        refine z_put2 B 7 dX2_stepOverNumber_52 inlX2 (by decide) rfl (by decide) (wl_14 7 rfl) rfl rfl .int (by decide +kernel) rfl rfl hg_fs2_7 q9 ?_
        refine z_aload_n B 0 dX2_stepOverNumber_55 rfl rfl ?_
        refine z_dup B dX2_stepOverNumber_56 rfl ?_
        refine z_get2 (v := .int (hg_I (w8 17 4))) B 4 dX2_stepOverNumber_57 inlX2 (by decide) rfl (by decide) (wl_11 1 rfl) rfl rfl ?_
        refine z_iconst B dX2_stepOverNumber_60 ?_
        refine z_iadd B dX2_stepOverNumber_61 ?_
        obtain ⟨w10, q11, h⟩ := Option.bind_eq_some_iff.mp h
        refine z_put2 B 4 dX2_stepOverNumber_62 inlX2 (by decide) rfl (by decide) (wl_11 1 rfl) rfl rfl .int (by decide +kernel) rfl rfl hg_fs2_4 q11 ?_
        refine z_goto (tgt := 5) B dX2_stepOverNumber_65 (by decide) ?_
        exact ih _ h
set_option maxHeartbeats 4000000 in
set_option maxRecDepth 100000 in
theorem rX2_stepOverNumber_E (B : hg_B p s m args meth c cX2_stepOverNumber RX2 wsL_law 1 D cI cA ad 0 A) (hr : meth.sig.returnType = (some .int)) {w1 : hg_W} {r1 : Int} {w : hg_W} (h : fX2_stepOverNumber w = some (w1, r1)) : hg_At p l e (rmX2_stepOverNumber) s m args below meth c D cI cA ad 0 A (MQ below (hg_Qi D cI cA ad 0 A w1 r1) args s 0 0 A) 1 w [(0, .ref (ad 17))] 0 [] := by
  unfold fX2_stepOverNumber at h
  refine z_aload_n B 0 dX2_stepOverNumber_0 rfl rfl ?_
  refine z_iconst B dX2_stepOverNumber_1 ?_
  obtain ⟨w1, q2, h⟩ := Option.bind_eq_some_iff.mp h
  refine z_put2 B 7 dX2_stepOverNumber_2 inlX2 (by decide) rfl (by decide) (wl_14 7 rfl) rfl rfl .int (by decide +kernel) rfl rfl hg_fs2_7 q2 ?_
  exact rX2_stepOverNumber_5 B hr hg_F _ h
set_option maxHeartbeats 4000000 in
set_option maxRecDepth 100000 in
theorem c_X2_stepOverNumber {l : Launch} {D : va_G} {cI cA : ClassId} {ad : Nat → Nat} {w w1 : hg_W} {r1 : Int} (h : fX2_stepOverNumber w = some (w1, r1)) : hg_Mi l yX2_stepOverNumber wxX2_stepOverNumber rmX2_stepOverNumber D cI cA ad 0 w [.ref (ad 17)] w1 r1 := by
  refine z_meti cX2_stepOverNumber 1 (some .int) (by decide) (Nat.le_of_ble_eq_true rfl) ?_
  intro p e s m args below meth c A B hr
  exact rX2_stepOverNumber_E B hr h
abbrev wxX2_signOf : List Cond := Cond.code yX2_signOf cX2_signOf 1 (some .int) :: wsL_law
def fX2_signOf (w : hg_W) (a1 : Int) : Option (hg_W × Int) :=
  if wr a1 = 40 then
    (
      some (w, wr (-16))
    )
  else
  if wr a1 = 41 then
    (
      some (w, wr (-17))
    )
  else
  if wr a1 = 42 then
    (
      some (w, wr (-14))
    )
  else
  if wr a1 = 43 then
    (
      some (w, wr (-12))
    )
  else
  if wr a1 = 44 then
    (
      some (w, wr (-21))
    )
  else
  if wr a1 = 45 then
    (
      some (w, wr (-13))
    )
  else
  if wr a1 = 46 then
    (
      some (w, wr (-21))
    )
  else
  if wr a1 = 47 then
    (
      some (w, wr (-21))
    )
  else
  if wr a1 = 48 then
    (
      some (w, wr (-21))
    )
  else
  if wr a1 = 49 then
    (
      some (w, wr (-21))
    )
  else
  if wr a1 = 50 then
    (
      some (w, wr (-21))
    )
  else
  if wr a1 = 51 then
    (
      some (w, wr (-21))
    )
  else
  if wr a1 = 52 then
    (
      some (w, wr (-21))
    )
  else
  if wr a1 = 53 then
    (
      some (w, wr (-21))
    )
  else
  if wr a1 = 54 then
    (
      some (w, wr (-21))
    )
  else
  if wr a1 = 55 then
    (
      some (w, wr (-21))
    )
  else
  if wr a1 = 56 then
    (
      some (w, wr (-21))
    )
  else
  if wr a1 = 57 then
    (
      some (w, wr (-21))
    )
  else
  if wr a1 = 58 then
    (
      some (w, wr (-21))
    )
  else
  if wr a1 = 59 then
    (
      some (w, wr (-18))
    )
  else
  if wr a1 = 60 then
    (
      some (w, wr (-10))
    )
  else
  if wr a1 = 61 then
    (
      some (w, wr (-11))
    )
  else
  some (w, wr (-21))
set_option maxHeartbeats 4000000 in
set_option maxRecDepth 100000 in
abbrev rmX2_signOf : Room := { frames := 0, cells := 0, slots := 0, locals := 0 }
set_option maxHeartbeats 4000000 in
set_option maxRecDepth 100000 in
theorem rX2_signOf_E (B : hg_B p s m args meth c cX2_signOf RX2 wsL_law 1 D cI cA ad 0 A) (hr : meth.sig.returnType = (some .int)) {a1 : Int} {w1 : hg_W} {r1 : Int} {w : hg_W} (h : fX2_signOf w a1 = some (w1, r1)) : hg_At p l e (rmX2_signOf) s m args below meth c D cI cA ad 0 A (MQ below (hg_Qi D cI cA ad 0 A w1 r1) args s 0 0 A) 1 w [(0, .int (hg_I a1))] 0 [] := by
  unfold fX2_signOf at h
  refine z_iload_n B 0 dX2_signOf_0 rfl rfl ?_
  by_cases z1 : wr a1 = 40
  · rw [if_pos z1] at h
    refine z_tabIn (off := 103) (tgt := 104) B dX2_signOf_1 z1 (by decide) rfl (by decide) ?_
    refine z_bipush B dX2_signOf_104 (by decide) ?_
    exact z_iret B hr dX2_signOf_106 h
  rw [if_neg z1] at h
  by_cases z2 : wr a1 = 41
  · rw [if_pos z2] at h
    refine z_tabIn (off := 106) (tgt := 107) B dX2_signOf_1 z2 (by decide) rfl (by decide) ?_
    refine z_bipush B dX2_signOf_107 (by decide) ?_
    exact z_iret B hr dX2_signOf_109 h
  rw [if_neg z2] at h
  by_cases z3 : wr a1 = 42
  · rw [if_pos z3] at h
    refine z_tabIn (off := 118) (tgt := 119) B dX2_signOf_1 z3 (by decide) rfl (by decide) ?_
    refine z_bipush B dX2_signOf_119 (by decide) ?_
    exact z_iret B hr dX2_signOf_121 h
  rw [if_neg z3] at h
  by_cases z4 : wr a1 = 43
  · rw [if_pos z4] at h
    refine z_tabIn (off := 112) (tgt := 113) B dX2_signOf_1 z4 (by decide) rfl (by decide) ?_
    refine z_bipush B dX2_signOf_113 (by decide) ?_
    exact z_iret B hr dX2_signOf_115 h
  rw [if_neg z4] at h
  by_cases z5 : wr a1 = 44
  · rw [if_pos z5] at h
    refine z_tabIn (off := 127) (tgt := 128) B dX2_signOf_1 z5 (by decide) rfl (by decide) ?_
    refine z_bipush B dX2_signOf_128 (by decide) ?_
    exact z_iret B hr dX2_signOf_130 h
  rw [if_neg z5] at h
  by_cases z6 : wr a1 = 45
  · rw [if_pos z6] at h
    refine z_tabIn (off := 115) (tgt := 116) B dX2_signOf_1 z6 (by decide) rfl (by decide) ?_
    refine z_bipush B dX2_signOf_116 (by decide) ?_
    exact z_iret B hr dX2_signOf_118 h
  rw [if_neg z6] at h
  by_cases z7 : wr a1 = 46
  · rw [if_pos z7] at h
    refine z_tabIn (off := 127) (tgt := 128) B dX2_signOf_1 z7 (by decide) rfl (by decide) ?_
    refine z_bipush B dX2_signOf_128 (by decide) ?_
    exact z_iret B hr dX2_signOf_130 h
  rw [if_neg z7] at h
  by_cases z8 : wr a1 = 47
  · rw [if_pos z8] at h
    refine z_tabIn (off := 127) (tgt := 128) B dX2_signOf_1 z8 (by decide) rfl (by decide) ?_
    refine z_bipush B dX2_signOf_128 (by decide) ?_
    exact z_iret B hr dX2_signOf_130 h
  rw [if_neg z8] at h
  by_cases z9 : wr a1 = 48
  · rw [if_pos z9] at h
    refine z_tabIn (off := 127) (tgt := 128) B dX2_signOf_1 z9 (by decide) rfl (by decide) ?_
    refine z_bipush B dX2_signOf_128 (by decide) ?_
    exact z_iret B hr dX2_signOf_130 h
  rw [if_neg z9] at h
  by_cases z10 : wr a1 = 49
  · rw [if_pos z10] at h
    refine z_tabIn (off := 127) (tgt := 128) B dX2_signOf_1 z10 (by decide) rfl (by decide) ?_
    refine z_bipush B dX2_signOf_128 (by decide) ?_
    exact z_iret B hr dX2_signOf_130 h
  rw [if_neg z10] at h
  by_cases z11 : wr a1 = 50
  · rw [if_pos z11] at h
    refine z_tabIn (off := 127) (tgt := 128) B dX2_signOf_1 z11 (by decide) rfl (by decide) ?_
    refine z_bipush B dX2_signOf_128 (by decide) ?_
    exact z_iret B hr dX2_signOf_130 h
  rw [if_neg z11] at h
  by_cases z12 : wr a1 = 51
  · rw [if_pos z12] at h
    refine z_tabIn (off := 127) (tgt := 128) B dX2_signOf_1 z12 (by decide) rfl (by decide) ?_
    refine z_bipush B dX2_signOf_128 (by decide) ?_
    exact z_iret B hr dX2_signOf_130 h
  rw [if_neg z12] at h
  by_cases z13 : wr a1 = 52
  · rw [if_pos z13] at h
    refine z_tabIn (off := 127) (tgt := 128) B dX2_signOf_1 z13 (by decide) rfl (by decide) ?_
    refine z_bipush B dX2_signOf_128 (by decide) ?_
    exact z_iret B hr dX2_signOf_130 h
  rw [if_neg z13] at h
  by_cases z14 : wr a1 = 53
  · rw [if_pos z14] at h
    refine z_tabIn (off := 127) (tgt := 128) B dX2_signOf_1 z14 (by decide) rfl (by decide) ?_
    refine z_bipush B dX2_signOf_128 (by decide) ?_
    exact z_iret B hr dX2_signOf_130 h
  rw [if_neg z14] at h
  by_cases z15 : wr a1 = 54
  · rw [if_pos z15] at h
    refine z_tabIn (off := 127) (tgt := 128) B dX2_signOf_1 z15 (by decide) rfl (by decide) ?_
    refine z_bipush B dX2_signOf_128 (by decide) ?_
    exact z_iret B hr dX2_signOf_130 h
  rw [if_neg z15] at h
  by_cases z16 : wr a1 = 55
  · rw [if_pos z16] at h
    refine z_tabIn (off := 127) (tgt := 128) B dX2_signOf_1 z16 (by decide) rfl (by decide) ?_
    refine z_bipush B dX2_signOf_128 (by decide) ?_
    exact z_iret B hr dX2_signOf_130 h
  rw [if_neg z16] at h
  by_cases z17 : wr a1 = 56
  · rw [if_pos z17] at h
    refine z_tabIn (off := 127) (tgt := 128) B dX2_signOf_1 z17 (by decide) rfl (by decide) ?_
    refine z_bipush B dX2_signOf_128 (by decide) ?_
    exact z_iret B hr dX2_signOf_130 h
  rw [if_neg z17] at h
  by_cases z18 : wr a1 = 57
  · rw [if_pos z18] at h
    refine z_tabIn (off := 127) (tgt := 128) B dX2_signOf_1 z18 (by decide) rfl (by decide) ?_
    refine z_bipush B dX2_signOf_128 (by decide) ?_
    exact z_iret B hr dX2_signOf_130 h
  rw [if_neg z18] at h
  by_cases z19 : wr a1 = 58
  · rw [if_pos z19] at h
    refine z_tabIn (off := 127) (tgt := 128) B dX2_signOf_1 z19 (by decide) rfl (by decide) ?_
    refine z_bipush B dX2_signOf_128 (by decide) ?_
    exact z_iret B hr dX2_signOf_130 h
  rw [if_neg z19] at h
  by_cases z20 : wr a1 = 59
  · rw [if_pos z20] at h
    refine z_tabIn (off := 109) (tgt := 110) B dX2_signOf_1 z20 (by decide) rfl (by decide) ?_
    refine z_bipush B dX2_signOf_110 (by decide) ?_
    exact z_iret B hr dX2_signOf_112 h
  rw [if_neg z20] at h
  by_cases z21 : wr a1 = 60
  · rw [if_pos z21] at h
    refine z_tabIn (off := 121) (tgt := 122) B dX2_signOf_1 z21 (by decide) rfl (by decide) ?_
    refine z_bipush B dX2_signOf_122 (by decide) ?_
    exact z_iret B hr dX2_signOf_124 h
  rw [if_neg z21] at h
  by_cases z22 : wr a1 = 61
  · rw [if_pos z22] at h
    refine z_tabIn (off := 124) (tgt := 125) B dX2_signOf_1 z22 (by decide) rfl (by decide) ?_
    refine z_bipush B dX2_signOf_125 (by decide) ?_
    exact z_iret B hr dX2_signOf_127 h
  rw [if_neg z22] at h
  refine z_tabOut (tgt := 128) B dX2_signOf_1 (by omega) (by decide) ?_
  refine z_bipush B dX2_signOf_128 (by decide) ?_
  exact z_iret B hr dX2_signOf_130 h
set_option maxHeartbeats 4000000 in
set_option maxRecDepth 100000 in
theorem c_X2_signOf {l : Launch} {D : va_G} {cI cA : ClassId} {ad : Nat → Nat} {a1 : Int} {w w1 : hg_W} {r1 : Int} (h : fX2_signOf w a1 = some (w1, r1)) : hg_Mi l yX2_signOf wxX2_signOf rmX2_signOf D cI cA ad 0 w [.int (hg_I a1)] w1 r1 := by
  refine z_meti cX2_signOf 1 (some .int) (by decide) (Nat.le_of_ble_eq_true rfl) ?_
  intro p e s m args below meth c A B hr
  exact rX2_signOf_E B hr h
abbrev wxX2_step : List Cond := Cond.code yX2_step cX2_step 1 none :: wsL_law
def fX2_step_60   (w : hg_W) : Option (hg_W × Int) :=
  (hg_pt w 17 5 (w 17 4)).bind fun w1 =>
  if wr (w1 17 4) < wr (w1 17 1) then
    (
      (hg_ag 0 w1 18 (w1 17 4)).bind fun v3 =>
      hg_bd (fX2_isLetter w1 v3) fun w5 v6 =>
      if wr v6 = 0 then
        (
          (hg_ag 0 w5 18 (w5 17 4)).bind fun v8 =>
          hg_bd (fX2_isDigit w5 v8) fun w10 v11 =>
          if wr v11 = 0 then
            (
              (hg_ag 0 w10 18 (w10 17 4)).bind fun v13 =>
              hg_bd (fX2_signOf w10 v13) fun w15 v16 =>
              (hg_pt w15 17 6 v16).bind fun w18 =>
              (hg_pt w18 17 4 ((w18 17 4) + 1)).bind fun w20 =>
              some (w20, 0)
            )
          else
            hg_bd (fX2_stepOverNumber w10) fun w22 v23 =>
            (hg_pt w22 17 6 v23).bind fun w25 =>
            some (w25, 0)
        )
      else
        hg_bd (fX2_stepOverWord w5) fun w27 v28 =>
        (hg_pt w27 17 6 v28).bind fun w30 =>
        some (w30, 0)
    )
  else
    (hg_pt w1 17 6 (-20)).bind fun w32 =>
    some (w32, 0)
def fX2_step_47 (K8 : hg_W → Option (hg_W × Int))  (w : hg_W) : Option (hg_W × Int) :=
  (hg_pt w 17 4 ((w 17 4) + 1)).bind fun w1 =>
  K8 w1
def fX2_step_8   : Nat → hg_W → Option (hg_W × Int)
  | 0, _ => none
  | n + 1, w =>
    if wr (w 17 1) ≤ wr (w 17 4) then
      (
        fX2_step_60 w
      )
    else
      (hg_ag 0 w 18 (w 17 4)).bind fun v1 =>
      if wr v1 = wr 32 then
        (
          fX2_step_47 (fX2_step_8 n) w
        )
      else
        (hg_ag 0 w 18 (w 17 4)).bind fun v3 =>
        if wr v3 = wr 10 then
          (
            fX2_step_47 (fX2_step_8 n) w
          )
        else
          fX2_step_60 w
def fX2_step (w : hg_W) : Option (hg_W × Int) :=
  if wr (w 17 8) < 0 then
    (
      fX2_step_8 hg_F w
    )
  else
    some (w, 0)
set_option maxHeartbeats 4000000 in
set_option maxRecDepth 100000 in
abbrev rmX2_step : Room := { frames := 10, cells := 0, slots := 0, locals := 303 }
set_option maxHeartbeats 4000000 in
set_option maxRecDepth 100000 in
theorem rX2_step_60 (B : hg_B p s m args meth c cX2_step RX2 wsL_law 1 D cI cA ad 0 A) (hr : meth.sig.returnType = none) {w1 : hg_W} {r1 : Int} : ∀ (w : hg_W), fX2_step_60 w = some (w1, r1) → hg_At p l e (rmX2_step) s m args below meth c D cI cA ad 0 A (MQ below (hg_Qv D cI cA ad 0 A w1) args s 0 0 A) 1 w [(0, .ref (ad 17))] 60 [] := by
  intro w h
  unfold fX2_step_60 at h
  refine z_aload_n B 0 dX2_step_60 rfl rfl ?_
  refine z_aload_n B 0 dX2_step_61 rfl rfl ?_
  refine z_get2 (v := .int (hg_I (w 17 4))) B 4 dX2_step_62 inlX2 (by decide) rfl (by decide) (wl_11 1 rfl) rfl rfl ?_
  obtain ⟨w1, q2, h⟩ := Option.bind_eq_some_iff.mp h
  refine z_put2 B 5 dX2_step_65 inlX2 (by decide) rfl (by decide) (wl_11 8 rfl) rfl rfl .int (by decide +kernel) rfl rfl hg_fs2_5 q2 ?_
  refine z_aload_n B 0 dX2_step_68 rfl rfl ?_
  refine z_get2 (v := .int (hg_I (w1 17 4))) B 4 dX2_step_69 inlX2 (by decide) rfl (by decide) (wl_11 1 rfl) rfl rfl ?_
  refine z_aload_n B 0 dX2_step_72 rfl rfl ?_
  refine z_get2 (v := .int (hg_I (w1 17 1))) B 1 dX2_step_73 inlX2 (by decide) rfl (by decide) (wl_10 6 rfl) rfl rfl ?_
  refine z_icmp_lt (tgt := 88) B dX2_step_76 (by decide) h (fun h => ?_) (fun h => ?_)
  · refine z_aload_n B 0 dX2_step_88 rfl rfl ?_
    refine z_get2 (v := .ref (ad 18)) B 0 dX2_step_89 inlX2 (by decide) rfl (by decide) (wl_2 23 rfl) rfl rfl ?_
    refine z_aload_n B 0 dX2_step_92 rfl rfl ?_
    refine z_get2 (v := .int (hg_I (w1 17 4))) B 4 dX2_step_93 inlX2 (by decide) rfl (by decide) (wl_11 1 rfl) rfl rfl ?_
    obtain ⟨v3, q4, h⟩ := Option.bind_eq_some_iff.mp h
    refine z_iald (Or.inl rfl) B dX2_step_96 q4 ?_
    obtain ⟨w5, v6, q7, h⟩ := hg_bd_some h
    refine z_calliS (As := [.int (hg_I v3)]) (n := 1) B dX2_step_97 (c_X2_isLetter q7) (gl_S (wl_11 9 rfl) (wl_11 10 rfl) (wl_1 18 rfl) (wl_11 11 rfl)) rfl ⟨rfl, rfl⟩ (by decide +kernel) ⟨Nat.le_of_ble_eq_true rfl, Nat.le_of_ble_eq_true rfl⟩ rfl rfl (Nat.le_of_ble_eq_true rfl) ?_
    refine z_if_eq (tgt := 114) B dX2_step_100 (by decide) h (fun h => ?_) (fun h => ?_)
    · refine z_aload_n B 0 dX2_step_114 rfl rfl ?_
      refine z_get2 (v := .ref (ad 18)) B 0 dX2_step_115 inlX2 (by decide) rfl (by decide) (wl_2 23 rfl) rfl rfl ?_
      refine z_aload_n B 0 dX2_step_118 rfl rfl ?_
      refine z_get2 (v := .int (hg_I (w5 17 4))) B 4 dX2_step_119 inlX2 (by decide) rfl (by decide) (wl_11 1 rfl) rfl rfl ?_
      obtain ⟨v8, q9, h⟩ := Option.bind_eq_some_iff.mp h
      refine z_iald (Or.inl rfl) B dX2_step_122 q9 ?_
      obtain ⟨w10, v11, q12, h⟩ := hg_bd_some h
      refine z_calliS (As := [.int (hg_I v8)]) (n := 1) B dX2_step_123 (c_X2_isDigit q12) (gl_S (wl_14 0 rfl) (wl_14 1 rfl) (wl_1 18 rfl) (wl_14 2 rfl)) rfl ⟨rfl, rfl⟩ (by decide +kernel) ⟨Nat.le_of_ble_eq_true rfl, Nat.le_of_ble_eq_true rfl⟩ rfl rfl (Nat.le_of_ble_eq_true rfl) ?_
      refine z_if_eq (tgt := 140) B dX2_step_126 (by decide) h (fun h => ?_) (fun h => ?_)
      · refine z_aload_n B 0 dX2_step_140 rfl rfl ?_
        refine z_aload_n B 0 dX2_step_141 rfl rfl ?_
        refine z_get2 (v := .ref (ad 18)) B 0 dX2_step_142 inlX2 (by decide) rfl (by decide) (wl_2 23 rfl) rfl rfl ?_
        refine z_aload_n B 0 dX2_step_145 rfl rfl ?_
        refine z_get2 (v := .int (hg_I (w10 17 4))) B 4 dX2_step_146 inlX2 (by decide) rfl (by decide) (wl_11 1 rfl) rfl rfl ?_
        obtain ⟨v13, q14, h⟩ := Option.bind_eq_some_iff.mp h
        refine z_iald (Or.inl rfl) B dX2_step_149 q14 ?_
        obtain ⟨w15, v16, q17, h⟩ := hg_bd_some h
        refine z_calliS (As := [.int (hg_I v13)]) (n := 1) B dX2_step_150 (c_X2_signOf q17) (gl_S (wl_14 8 rfl) (wl_14 9 rfl) (wl_1 18 rfl) (wl_14 10 rfl)) rfl ⟨rfl, rfl⟩ (by decide +kernel) ⟨Nat.le_of_ble_eq_true rfl, Nat.le_of_ble_eq_true rfl⟩ rfl rfl (Nat.le_of_ble_eq_true rfl) ?_
        obtain ⟨w18, q19, h⟩ := Option.bind_eq_some_iff.mp h
        refine z_put2 B 6 dX2_step_153 inlX2 (by decide) rfl (by decide) (wl_11 3 rfl) rfl rfl .int (by decide +kernel) rfl rfl hg_fs2_6 q19 ?_
        refine z_aload_n B 0 dX2_step_156 rfl rfl ?_
        refine z_dup B dX2_step_157 rfl ?_
        refine z_get2 (v := .int (hg_I (w18 17 4))) B 4 dX2_step_158 inlX2 (by decide) rfl (by decide) (wl_11 1 rfl) rfl rfl ?_
        refine z_iconst B dX2_step_161 ?_
        refine z_iadd B dX2_step_162 ?_
        obtain ⟨w20, q21, h⟩ := Option.bind_eq_some_iff.mp h
        refine z_put2 B 4 dX2_step_163 inlX2 (by decide) rfl (by decide) (wl_11 1 rfl) rfl rfl .int (by decide +kernel) rfl rfl hg_fs2_4 q21 ?_
        exact z_vret B hr dX2_step_166 h
      · refine z_aload_n B 0 dX2_step_129 rfl rfl ?_
        refine z_aload_n B 0 dX2_step_130 rfl rfl ?_
        obtain ⟨w22, v23, q24, h⟩ := hg_bd_some h
        refine z_calliV (a := 17) (ci := 2) (N := 9) (T := TX2) (C := RX2) (As := []) (n := 0) B dX2_step_131 (c_X2_stepOverNumber q24) (gl_V (wl_14 3 rfl) (wl_14 4 rfl) (wl_14 5 rfl) (wl_1 18 rfl) (wl_14 6 rfl)) rfl ⟨rfl, rfl⟩ (by decide +kernel) ⟨Nat.le_of_ble_eq_true rfl, Nat.le_of_ble_eq_true rfl⟩ (by decide) rfl (by decide) rfl rfl rfl (Nat.le_of_ble_eq_true rfl) ?_
        obtain ⟨w25, q26, h⟩ := Option.bind_eq_some_iff.mp h
        refine z_put2 B 6 dX2_step_134 inlX2 (by decide) rfl (by decide) (wl_11 3 rfl) rfl rfl .int (by decide +kernel) rfl rfl hg_fs2_6 q26 ?_
        refine z_goto (tgt := 166) B dX2_step_137 (by decide) ?_
        exact z_vret B hr dX2_step_166 h
    · refine z_aload_n B 0 dX2_step_103 rfl rfl ?_
      refine z_aload_n B 0 dX2_step_104 rfl rfl ?_
      obtain ⟨w27, v28, q29, h⟩ := hg_bd_some h
      refine z_calliV (a := 17) (ci := 2) (N := 9) (T := TX2) (C := RX2) (As := []) (n := 0) B dX2_step_105 (c_X2_stepOverWord q29) (gl_V (wl_11 12 rfl) (wl_11 13 rfl) (wl_11 14 rfl) (wl_1 18 rfl) (wl_11 15 rfl)) rfl ⟨rfl, rfl⟩ (by decide +kernel) ⟨Nat.le_of_ble_eq_true rfl, Nat.le_of_ble_eq_true rfl⟩ (by decide) rfl (by decide) rfl rfl rfl (Nat.le_of_ble_eq_true rfl) ?_
      obtain ⟨w30, q31, h⟩ := Option.bind_eq_some_iff.mp h
      refine z_put2 B 6 dX2_step_108 inlX2 (by decide) rfl (by decide) (wl_11 3 rfl) rfl rfl .int (by decide +kernel) rfl rfl hg_fs2_6 q31 ?_
      refine z_goto (tgt := 166) B dX2_step_111 (by decide) ?_
      exact z_vret B hr dX2_step_166 h
  · refine z_aload_n B 0 dX2_step_79 rfl rfl ?_
    refine z_bipush B dX2_step_80 (by decide) ?_
    obtain ⟨w32, q33, h⟩ := Option.bind_eq_some_iff.mp h
    refine z_put2 B 6 dX2_step_82 inlX2 (by decide) rfl (by decide) (wl_11 3 rfl) rfl rfl .int (by decide +kernel) rfl rfl hg_fs2_6 q33 ?_
    refine z_goto (tgt := 166) B dX2_step_85 (by decide) ?_
    exact z_vret B hr dX2_step_166 h
set_option maxHeartbeats 4000000 in
set_option maxRecDepth 100000 in
theorem rX2_step_47 (B : hg_B p s m args meth c cX2_step RX2 wsL_law 1 D cI cA ad 0 A) (hr : meth.sig.returnType = none) {w1 : hg_W} {r1 : Int} {K8 : hg_W → Option (hg_W × Int)} (hK8 : ∀ (w : hg_W), K8 w = some (w1, r1) → hg_At p l e (rmX2_step) s m args below meth c D cI cA ad 0 A (MQ below (hg_Qv D cI cA ad 0 A w1) args s 0 0 A) 1 w [(0, .ref (ad 17))] 8 []) : ∀ (w : hg_W), fX2_step_47 K8 w = some (w1, r1) → hg_At p l e (rmX2_step) s m args below meth c D cI cA ad 0 A (MQ below (hg_Qv D cI cA ad 0 A w1) args s 0 0 A) 1 w [(0, .ref (ad 17))] 47 [] := by
  intro w h
  unfold fX2_step_47 at h
  refine z_aload_n B 0 dX2_step_47 rfl rfl ?_
  refine z_dup B dX2_step_48 rfl ?_
  refine z_get2 (v := .int (hg_I (w 17 4))) B 4 dX2_step_49 inlX2 (by decide) rfl (by decide) (wl_11 1 rfl) rfl rfl ?_
  refine z_iconst B dX2_step_52 ?_
  refine z_iadd B dX2_step_53 ?_
  obtain ⟨w1, q2, h⟩ := Option.bind_eq_some_iff.mp h
  refine z_put2 B 4 dX2_step_54 inlX2 (by decide) rfl (by decide) (wl_11 1 rfl) rfl rfl .int (by decide +kernel) rfl rfl hg_fs2_4 q2 ?_
  refine z_goto (tgt := 8) B dX2_step_57 (by decide) ?_
  exact hK8 _ h
set_option maxHeartbeats 4000000 in
set_option maxRecDepth 100000 in
theorem rX2_step_8 (B : hg_B p s m args meth c cX2_step RX2 wsL_law 1 D cI cA ad 0 A) (hr : meth.sig.returnType = none) {w1 : hg_W} {r1 : Int} : ∀ (n : Nat), ∀ (w : hg_W), fX2_step_8 n w = some (w1, r1) → hg_At p l e (rmX2_step) s m args below meth c D cI cA ad 0 A (MQ below (hg_Qv D cI cA ad 0 A w1) args s 0 0 A) 1 w [(0, .ref (ad 17))] 8 [] := by
  intro n
  induction n with
  | zero =>
    intro w h
    cases h
  | succ n ih =>
    intro w h
    simp only [fX2_step_8] at h
    refine z_aload_n B 0 dX2_step_8 rfl rfl ?_
    refine z_get2 (v := .int (hg_I (w 17 4))) B 4 dX2_step_9 inlX2 (by decide) rfl (by decide) (wl_11 1 rfl) rfl rfl ?_
    refine z_aload_n B 0 dX2_step_12 rfl rfl ?_
    refine z_get2 (v := .int (hg_I (w 17 1))) B 1 dX2_step_13 inlX2 (by decide) rfl (by decide) (wl_10 6 rfl) rfl rfl ?_
    refine z_icmp_ge (tgt := 60) B dX2_step_16 (by decide) h (fun h => ?_) (fun h => ?_)
    · exact rX2_step_60 B hr _ h
    · refine z_aload_n B 0 dX2_step_19 rfl rfl ?_
      refine z_get2 (v := .ref (ad 18)) B 0 dX2_step_20 inlX2 (by decide) rfl (by decide) (wl_2 23 rfl) rfl rfl ?_
      refine z_aload_n B 0 dX2_step_23 rfl rfl ?_
      refine z_get2 (v := .int (hg_I (w 17 4))) B 4 dX2_step_24 inlX2 (by decide) rfl (by decide) (wl_11 1 rfl) rfl rfl ?_
      obtain ⟨v1, q2, h⟩ := Option.bind_eq_some_iff.mp h
      refine z_iald (Or.inl rfl) B dX2_step_27 q2 ?_
      refine z_bipush B dX2_step_28 (by decide) ?_
      refine z_icmp_eq (tgt := 47) B dX2_step_30 (by decide) h (fun h => ?_) (fun h => ?_)
      · exact rX2_step_47 B hr ih _ h
      · refine z_aload_n B 0 dX2_step_33 rfl rfl ?_
        refine z_get2 (v := .ref (ad 18)) B 0 dX2_step_34 inlX2 (by decide) rfl (by decide) (wl_2 23 rfl) rfl rfl ?_
        refine z_aload_n B 0 dX2_step_37 rfl rfl ?_
        refine z_get2 (v := .int (hg_I (w 17 4))) B 4 dX2_step_38 inlX2 (by decide) rfl (by decide) (wl_11 1 rfl) rfl rfl ?_
        obtain ⟨v3, q4, h⟩ := Option.bind_eq_some_iff.mp h
        refine z_iald (Or.inl rfl) B dX2_step_41 q4 ?_
        refine z_bipush B dX2_step_42 (by decide) ?_
        refine z_icmp_ne (tgt := 60) B dX2_step_44 (by decide) h (fun h => ?_) (fun h => ?_)
        · exact rX2_step_60 B hr _ h
        · exact rX2_step_47 B hr ih _ h
set_option maxHeartbeats 4000000 in
set_option maxRecDepth 100000 in
theorem rX2_step_E (B : hg_B p s m args meth c cX2_step RX2 wsL_law 1 D cI cA ad 0 A) (hr : meth.sig.returnType = none) {w1 : hg_W} {r1 : Int} {w : hg_W} (h : fX2_step w = some (w1, r1)) : hg_At p l e (rmX2_step) s m args below meth c D cI cA ad 0 A (MQ below (hg_Qv D cI cA ad 0 A w1) args s 0 0 A) 1 w [(0, .ref (ad 17))] 0 [] := by
  unfold fX2_step at h
  refine z_aload_n B 0 dX2_step_0 rfl rfl ?_
  refine z_get2 (v := .int (hg_I (w 17 8))) B 8 dX2_step_1 inlX2 (by decide) rfl (by decide) (wl_11 2 rfl) rfl rfl ?_
  refine z_if_lt (tgt := 8) B dX2_step_4 (by decide) h (fun h => ?_) (fun h => ?_)
  · exact rX2_step_8 B hr hg_F _ h
  · exact z_vret B hr dX2_step_7 h
set_option maxHeartbeats 4000000 in
set_option maxRecDepth 100000 in
theorem c_X2_step {l : Launch} {D : va_G} {cI cA : ClassId} {ad : Nat → Nat} {w w1 : hg_W} {r1 : Int} (h : fX2_step w = some (w1, r1)) : hg_Mv l yX2_step wxX2_step rmX2_step D cI cA ad 0 w [.ref (ad 17)] w1 := by
  refine z_metv cX2_step 1 none (by decide) (Nat.le_of_ble_eq_true rfl) ?_
  intro p e s m args below meth c A B hr
  exact rX2_step_E B hr h
abbrev wxX2_refuse : List Cond := Cond.code yX2_refuse cX2_refuse 1 none :: wsL_law
def fX2_refuse_15   (w : hg_W) : Option (hg_W × Int) :=
  (hg_pt w 17 6 (-21)).bind fun w1 =>
  some (w1, 0)
def fX2_refuse (w : hg_W) : Option (hg_W × Int) :=
  if 0 ≤ wr (w 17 8) then
    (
      fX2_refuse_15 w
    )
  else
    (hg_pt w 17 8 (w 17 5)).bind fun w1 =>
    fX2_refuse_15 w1
set_option maxHeartbeats 4000000 in
set_option maxRecDepth 100000 in
abbrev rmX2_refuse : Room := { frames := 0, cells := 0, slots := 0, locals := 0 }
set_option maxHeartbeats 4000000 in
set_option maxRecDepth 100000 in
theorem rX2_refuse_15 (B : hg_B p s m args meth c cX2_refuse RX2 wsL_law 1 D cI cA ad 0 A) (hr : meth.sig.returnType = none) {w1 : hg_W} {r1 : Int} : ∀ (w : hg_W), fX2_refuse_15 w = some (w1, r1) → hg_At p l e (rmX2_refuse) s m args below meth c D cI cA ad 0 A (MQ below (hg_Qv D cI cA ad 0 A w1) args s 0 0 A) 1 w [(0, .ref (ad 17))] 15 [] := by
  intro w h
  unfold fX2_refuse_15 at h
  refine z_aload_n B 0 dX2_refuse_15 rfl rfl ?_
  refine z_bipush B dX2_refuse_16 (by decide) ?_
  obtain ⟨w1, q2, h⟩ := Option.bind_eq_some_iff.mp h
  refine z_put2 B 6 dX2_refuse_18 inlX2 (by decide) rfl (by decide) (wl_11 3 rfl) rfl rfl .int (by decide +kernel) rfl rfl hg_fs2_6 q2 ?_
  exact z_vret B hr dX2_refuse_21 h
set_option maxHeartbeats 4000000 in
set_option maxRecDepth 100000 in
theorem rX2_refuse_E (B : hg_B p s m args meth c cX2_refuse RX2 wsL_law 1 D cI cA ad 0 A) (hr : meth.sig.returnType = none) {w1 : hg_W} {r1 : Int} {w : hg_W} (h : fX2_refuse w = some (w1, r1)) : hg_At p l e (rmX2_refuse) s m args below meth c D cI cA ad 0 A (MQ below (hg_Qv D cI cA ad 0 A w1) args s 0 0 A) 1 w [(0, .ref (ad 17))] 0 [] := by
  unfold fX2_refuse at h
  refine z_aload_n B 0 dX2_refuse_0 rfl rfl ?_
  refine z_get2 (v := .int (hg_I (w 17 8))) B 8 dX2_refuse_1 inlX2 (by decide) rfl (by decide) (wl_11 2 rfl) rfl rfl ?_
  refine z_if_ge (tgt := 15) B dX2_refuse_4 (by decide) h (fun h => ?_) (fun h => ?_)
  · exact rX2_refuse_15 B hr _ h
  · refine z_aload_n B 0 dX2_refuse_7 rfl rfl ?_
    refine z_aload_n B 0 dX2_refuse_8 rfl rfl ?_
    refine z_get2 (v := .int (hg_I (w 17 5))) B 5 dX2_refuse_9 inlX2 (by decide) rfl (by decide) (wl_11 8 rfl) rfl rfl ?_
    obtain ⟨w1, q2, h⟩ := Option.bind_eq_some_iff.mp h
    refine z_put2 B 8 dX2_refuse_12 inlX2 (by decide) rfl (by decide) (wl_11 2 rfl) rfl rfl .int (by decide +kernel) rfl rfl hg_fs2_8 q2 ?_
    exact rX2_refuse_15 B hr _ h
set_option maxHeartbeats 4000000 in
set_option maxRecDepth 100000 in
theorem c_X2_refuse {l : Launch} {D : va_G} {cI cA : ClassId} {ad : Nat → Nat} {w w1 : hg_W} {r1 : Int} (h : fX2_refuse w = some (w1, r1)) : hg_Mv l yX2_refuse wxX2_refuse rmX2_refuse D cI cA ad 0 w [.ref (ad 17)] w1 := by
  refine z_metv cX2_refuse 1 none (by decide) (Nat.le_of_ble_eq_true rfl) ?_
  intro p e s m args below meth c A B hr
  exact rX2_refuse_E B hr h
abbrev wxX2_must : List Cond := Cond.code yX2_must cX2_must 2 none :: wsL_law
def fX2_must (w : hg_W) (a1 : Int) : Option (hg_W × Int) :=
  if wr (w 17 6) = wr a1 then
    (
      hg_bd (fX2_step w) fun w4 _ =>
      some (w4, 0)
    )
  else
    hg_bd (fX2_refuse w) fun w1 _ =>
    some (w1, 0)
set_option maxHeartbeats 4000000 in
set_option maxRecDepth 100000 in
abbrev rmX2_must : Room := { frames := 11, cells := 0, slots := 0, locals := 323 }
set_option maxHeartbeats 4000000 in
set_option maxRecDepth 100000 in
theorem rX2_must_E (B : hg_B p s m args meth c cX2_must RX2 wsL_law 2 D cI cA ad 0 A) (hr : meth.sig.returnType = none) {a1 : Int} {w1 : hg_W} {r1 : Int} {w : hg_W} (h : fX2_must w a1 = some (w1, r1)) : hg_At p l e (rmX2_must) s m args below meth c D cI cA ad 0 A (MQ below (hg_Qv D cI cA ad 0 A w1) args s 0 0 A) 2 w [(0, .ref (ad 17)), (1, .int (hg_I a1))] 0 [] := by
  unfold fX2_must at h
  refine z_aload_n B 0 dX2_must_0 rfl rfl ?_
  refine z_get2 (v := .int (hg_I (w 17 6))) B 6 dX2_must_1 inlX2 (by decide) rfl (by decide) (wl_11 3 rfl) rfl rfl ?_
  refine z_iload_n B 1 dX2_must_4 rfl rfl ?_
  refine z_icmp_ne (tgt := 15) B dX2_must_5 (by decide) h (fun h => ?_) (fun h => ?_)
  · refine z_aload_n B 0 dX2_must_15 rfl rfl ?_
    obtain ⟨w1, v2, q3, h⟩ := hg_bd_some h
    refine z_callvV (a := 17) (ci := 2) (N := 9) (T := TX2) (C := RX2) (As := []) (n := 0) B dX2_must_16 (c_X2_refuse q3) (gl_V (wl_14 15 rfl) (wl_14 16 rfl) (wl_14 17 rfl) (wl_1 18 rfl) (wl_14 18 rfl)) rfl ⟨rfl, rfl⟩ (by decide +kernel) ⟨Nat.le_of_ble_eq_true rfl, Nat.le_of_ble_eq_true rfl⟩ (by decide) rfl (by decide) rfl rfl rfl (Nat.le_of_ble_eq_true rfl) ?_
    exact z_vret B hr dX2_must_19 h
  · refine z_aload_n B 0 dX2_must_8 rfl rfl ?_
    obtain ⟨w4, v5, q6, h⟩ := hg_bd_some h
    refine z_callvV (a := 17) (ci := 2) (N := 9) (T := TX2) (C := RX2) (As := []) (n := 0) B dX2_must_9 (c_X2_step q6) (gl_V (wl_11 4 rfl) (wl_11 5 rfl) (wl_11 6 rfl) (wl_1 18 rfl) (wl_11 7 rfl)) rfl ⟨rfl, rfl⟩ (by decide +kernel) ⟨Nat.le_of_ble_eq_true rfl, Nat.le_of_ble_eq_true rfl⟩ (by decide) rfl (by decide) rfl rfl rfl (Nat.le_of_ble_eq_true rfl) ?_
    refine z_goto (tgt := 19) B dX2_must_12 (by decide) ?_
    exact z_vret B hr dX2_must_19 h
set_option maxHeartbeats 4000000 in
set_option maxRecDepth 100000 in
theorem c_X2_must {l : Launch} {D : va_G} {cI cA : ClassId} {ad : Nat → Nat} {a1 : Int} {w w1 : hg_W} {r1 : Int} (h : fX2_must w a1 = some (w1, r1)) : hg_Mv l yX2_must wxX2_must rmX2_must D cI cA ad 0 w [.ref (ad 17), .int (hg_I a1)] w1 := by
  refine z_metv cX2_must 2 none (by decide) (Nat.le_of_ble_eq_true rfl) ?_
  intro p e s m args below meth c A B hr
  exact rX2_must_E B hr h
abbrev wxX2_opens : List Cond := Cond.code yX2_opens cX2_opens 2 (some .boolean) :: wsL_law
def fX2_opens (w : hg_W) (a1 : Int) : Option (hg_W × Int) :=
  if wr a1 < wr 5 then
    (
      hg_bd (fX2_step w) fun w1 _ =>
      if wr 1 = 0 ∨ wr 1 = 1 then some (w1, wr 1) else none
    )
  else
    hg_bd (fX2_refuse w) fun w4 _ =>
    if wr 0 = 0 ∨ wr 0 = 1 then some (w4, wr 0) else none
set_option maxHeartbeats 4000000 in
set_option maxRecDepth 100000 in
abbrev rmX2_opens : Room := { frames := 11, cells := 0, slots := 0, locals := 323 }
set_option maxHeartbeats 4000000 in
set_option maxRecDepth 100000 in
theorem rX2_opens_E (B : hg_B p s m args meth c cX2_opens RX2 wsL_law 2 D cI cA ad 0 A) (hr : meth.sig.returnType = (some .boolean)) {a1 : Int} {w1 : hg_W} {r1 : Int} {w : hg_W} (h : fX2_opens w a1 = some (w1, r1)) : hg_At p l e (rmX2_opens) s m args below meth c D cI cA ad 0 A (MQ below (hg_Qi D cI cA ad 0 A w1 r1) args s 0 0 A) 2 w [(0, .ref (ad 17)), (1, .int (hg_I a1))] 0 [] := by
  unfold fX2_opens at h
  refine z_iload_n B 1 dX2_opens_0 rfl rfl ?_
  refine z_iconst B dX2_opens_1 ?_
  refine z_icmp_lt (tgt := 11) B dX2_opens_2 (by decide) h (fun h => ?_) (fun h => ?_)
  · refine z_aload_n B 0 dX2_opens_11 rfl rfl ?_
    obtain ⟨w1, v2, q3, h⟩ := hg_bd_some h
    refine z_callvV (a := 17) (ci := 2) (N := 9) (T := TX2) (C := RX2) (As := []) (n := 0) B dX2_opens_12 (c_X2_step q3) (gl_V (wl_11 4 rfl) (wl_11 5 rfl) (wl_11 6 rfl) (wl_1 18 rfl) (wl_11 7 rfl)) rfl ⟨rfl, rfl⟩ (by decide +kernel) ⟨Nat.le_of_ble_eq_true rfl, Nat.le_of_ble_eq_true rfl⟩ (by decide) rfl (by decide) rfl rfl rfl (Nat.le_of_ble_eq_true rfl) ?_
    refine z_iconst B dX2_opens_15 ?_
    exact z_bret B hr dX2_opens_16 h
  · refine z_aload_n B 0 dX2_opens_5 rfl rfl ?_
    obtain ⟨w4, v5, q6, h⟩ := hg_bd_some h
    refine z_callvV (a := 17) (ci := 2) (N := 9) (T := TX2) (C := RX2) (As := []) (n := 0) B dX2_opens_6 (c_X2_refuse q6) (gl_V (wl_14 15 rfl) (wl_14 16 rfl) (wl_14 17 rfl) (wl_1 18 rfl) (wl_14 18 rfl)) rfl ⟨rfl, rfl⟩ (by decide +kernel) ⟨Nat.le_of_ble_eq_true rfl, Nat.le_of_ble_eq_true rfl⟩ (by decide) rfl (by decide) rfl rfl rfl (Nat.le_of_ble_eq_true rfl) ?_
    refine z_iconst B dX2_opens_9 ?_
    exact z_bret B hr dX2_opens_10 h
set_option maxHeartbeats 4000000 in
set_option maxRecDepth 100000 in
theorem c_X2_opens {l : Launch} {D : va_G} {cI cA : ClassId} {ad : Nat → Nat} {a1 : Int} {w w1 : hg_W} {r1 : Int} (h : fX2_opens w a1 = some (w1, r1)) : hg_Mi l yX2_opens wxX2_opens rmX2_opens D cI cA ad 0 w [.ref (ad 17), .int (hg_I a1)] w1 r1 := by
  refine z_meti cX2_opens 2 (some .boolean) (by decide) (Nat.le_of_ble_eq_true rfl) ?_
  intro p e s m args below meth c A B hr
  exact rX2_opens_E B hr h
abbrev wxX2_write : List Cond := Cond.code yX2_write cX2_write 2 none :: wsL_law
def fX2_write (w : hg_W) (a1 : Int) : Option (hg_W × Int) :=
  (hg_al 0 ((w 17 2).toNat)).bind fun v1 =>
  if wr v1 ≤ wr (w 17 3) then
    (
      some (w, 0)
    )
  else
    (hg_as 0 w ((w 17 2).toNat) (w 17 3) a1).bind fun w3 =>
    (hg_pt w3 17 3 ((w3 17 3) + 1)).bind fun w5 =>
    some (w5, 0)
set_option maxHeartbeats 4000000 in
set_option maxRecDepth 100000 in
abbrev rmX2_write : Room := { frames := 0, cells := 0, slots := 0, locals := 0 }
set_option maxHeartbeats 4000000 in
set_option maxRecDepth 100000 in
theorem rX2_write_E (B : hg_B p s m args meth c cX2_write RX2 wsL_law 2 D cI cA ad 0 A) (hr : meth.sig.returnType = none) {a1 : Int} {w1 : hg_W} {r1 : Int} {w : hg_W} (h : fX2_write w a1 = some (w1, r1)) : hg_At p l e (rmX2_write) s m args below meth c D cI cA ad 0 A (MQ below (hg_Qv D cI cA ad 0 A w1) args s 0 0 A) 2 w [(0, .ref (ad 17)), (1, .int (hg_I a1))] 0 [] := by
  unfold fX2_write at h
  refine z_aload_n B 0 dX2_write_0 rfl rfl ?_
  refine z_get2 (v := .int (hg_I (w 17 3))) B 3 dX2_write_1 inlX2 (by decide) rfl (by decide) (wl_11 0 rfl) rfl rfl ?_
  refine z_aload_n B 0 dX2_write_4 rfl rfl ?_
  refine z_get2 (v := .ref (ad ((w 17 2).toNat))) B 2 dX2_write_5 inlX2 (by decide) rfl (by decide) (wl_3 0 rfl) rfl rfl ?_
  obtain ⟨v1, q2, h⟩ := Option.bind_eq_some_iff.mp h
  refine z_alen (Or.inl rfl) B dX2_write_8 q2 ?_
  refine z_icmp_ge (tgt := 32) B dX2_write_9 (by decide) h (fun h => ?_) (fun h => ?_)
  · exact z_vret B hr dX2_write_32 h
  · refine z_aload_n B 0 dX2_write_12 rfl rfl ?_
    refine z_get2 (v := .ref (ad ((w 17 2).toNat))) B 2 dX2_write_13 inlX2 (by decide) rfl (by decide) (wl_3 0 rfl) rfl rfl ?_
    refine z_aload_n B 0 dX2_write_16 rfl rfl ?_
    refine z_get2 (v := .int (hg_I (w 17 3))) B 3 dX2_write_17 inlX2 (by decide) rfl (by decide) (wl_11 0 rfl) rfl rfl ?_
    refine z_iload_n B 1 dX2_write_20 rfl rfl ?_
    obtain ⟨w3, q4, h⟩ := Option.bind_eq_some_iff.mp h
    refine z_iast (Or.inl rfl) B dX2_write_21 q4 ?_
    refine z_aload_n B 0 dX2_write_22 rfl rfl ?_
    refine z_dup B dX2_write_23 rfl ?_
    refine z_get2 (v := .int (hg_I (w3 17 3))) B 3 dX2_write_24 inlX2 (by decide) rfl (by decide) (wl_11 0 rfl) rfl rfl ?_
    refine z_iconst B dX2_write_27 ?_
    refine z_iadd B dX2_write_28 ?_
    obtain ⟨w5, q6, h⟩ := Option.bind_eq_some_iff.mp h
    refine z_put2 B 3 dX2_write_29 inlX2 (by decide) rfl (by decide) (wl_11 0 rfl) rfl rfl .int (by decide +kernel) rfl rfl hg_fs2_3 q6 ?_
    exact z_vret B hr dX2_write_32 h
set_option maxHeartbeats 4000000 in
set_option maxRecDepth 100000 in
theorem c_X2_write {l : Launch} {D : va_G} {cI cA : ClassId} {ad : Nat → Nat} {a1 : Int} {w w1 : hg_W} {r1 : Int} (h : fX2_write w a1 = some (w1, r1)) : hg_Mv l yX2_write wxX2_write rmX2_write D cI cA ad 0 w [.ref (ad 17), .int (hg_I a1)] w1 := by
  refine z_metv cX2_write 2 none (by decide) (Nat.le_of_ble_eq_true rfl) ?_
  intro p e s m args below meth c A B hr
  exact rX2_write_E B hr h
abbrev wxX2_levelOf : List Cond := Cond.code yX2_levelOf cX2_levelOf 1 (some .int) :: wsL_law
def fX2_levelOf (w : hg_W) (a1 : Int) : Option (hg_W × Int) :=
  if wr a1 = (-14) then
    (
      some (w, wr 4)
    )
  else
  if wr a1 = (-13) then
    (
      some (w, wr 3)
    )
  else
  if wr a1 = (-12) then
    (
      some (w, wr 3)
    )
  else
  if wr a1 = (-11) then
    (
      some (w, wr 2)
    )
  else
  if wr a1 = (-10) then
    (
      some (w, wr 2)
    )
  else
  if wr a1 = (-9) then
    (
      some (w, wr (-1))
    )
  else
  if wr a1 = (-8) then
    (
      some (w, wr 1)
    )
  else
  if wr a1 = (-7) then
    (
      some (w, wr 0)
    )
  else
  some (w, wr (-1))
set_option maxHeartbeats 4000000 in
set_option maxRecDepth 100000 in
abbrev rmX2_levelOf : Room := { frames := 0, cells := 0, slots := 0, locals := 0 }
set_option maxHeartbeats 4000000 in
set_option maxRecDepth 100000 in
theorem rX2_levelOf_E (B : hg_B p s m args meth c cX2_levelOf RX2 wsL_law 1 D cI cA ad 0 A) (hr : meth.sig.returnType = (some .int)) {a1 : Int} {w1 : hg_W} {r1 : Int} {w : hg_W} (h : fX2_levelOf w a1 = some (w1, r1)) : hg_At p l e (rmX2_levelOf) s m args below meth c D cI cA ad 0 A (MQ below (hg_Qi D cI cA ad 0 A w1 r1) args s 0 0 A) 1 w [(0, .int (hg_I a1))] 0 [] := by
  unfold fX2_levelOf at h
  refine z_iload_n B 0 dX2_levelOf_0 rfl rfl ?_
  by_cases z1 : wr a1 = (-14)
  · rw [if_pos z1] at h
    refine z_tabIn (off := 55) (tgt := 56) B dX2_levelOf_1 z1 (by decide) rfl (by decide) ?_
    refine z_iconst B dX2_levelOf_56 ?_
    exact z_iret B hr dX2_levelOf_57 h
  rw [if_neg z1] at h
  by_cases z2 : wr a1 = (-13)
  · rw [if_pos z2] at h
    refine z_tabIn (off := 53) (tgt := 54) B dX2_levelOf_1 z2 (by decide) rfl (by decide) ?_
    refine z_iconst B dX2_levelOf_54 ?_
    exact z_iret B hr dX2_levelOf_55 h
  rw [if_neg z2] at h
  by_cases z3 : wr a1 = (-12)
  · rw [if_pos z3] at h
    refine z_tabIn (off := 53) (tgt := 54) B dX2_levelOf_1 z3 (by decide) rfl (by decide) ?_
    refine z_iconst B dX2_levelOf_54 ?_
    exact z_iret B hr dX2_levelOf_55 h
  rw [if_neg z3] at h
  by_cases z4 : wr a1 = (-11)
  · rw [if_pos z4] at h
    refine z_tabIn (off := 51) (tgt := 52) B dX2_levelOf_1 z4 (by decide) rfl (by decide) ?_
    refine z_iconst B dX2_levelOf_52 ?_
    exact z_iret B hr dX2_levelOf_53 h
  rw [if_neg z4] at h
  by_cases z5 : wr a1 = (-10)
  · rw [if_pos z5] at h
    refine z_tabIn (off := 51) (tgt := 52) B dX2_levelOf_1 z5 (by decide) rfl (by decide) ?_
    refine z_iconst B dX2_levelOf_52 ?_
    exact z_iret B hr dX2_levelOf_53 h
  rw [if_neg z5] at h
  by_cases z6 : wr a1 = (-9)
  · rw [if_pos z6] at h
    refine z_tabIn (off := 57) (tgt := 58) B dX2_levelOf_1 z6 (by decide) rfl (by decide) ?_
    refine z_iconst B dX2_levelOf_58 ?_
    exact z_iret B hr dX2_levelOf_59 h
  rw [if_neg z6] at h
  by_cases z7 : wr a1 = (-8)
  · rw [if_pos z7] at h
    refine z_tabIn (off := 49) (tgt := 50) B dX2_levelOf_1 z7 (by decide) rfl (by decide) ?_
    refine z_iconst B dX2_levelOf_50 ?_
    exact z_iret B hr dX2_levelOf_51 h
  rw [if_neg z7] at h
  by_cases z8 : wr a1 = (-7)
  · rw [if_pos z8] at h
    refine z_tabIn (off := 47) (tgt := 48) B dX2_levelOf_1 z8 (by decide) rfl (by decide) ?_
    refine z_iconst B dX2_levelOf_48 ?_
    exact z_iret B hr dX2_levelOf_49 h
  rw [if_neg z8] at h
  refine z_tabOut (tgt := 58) B dX2_levelOf_1 (by omega) (by decide) ?_
  refine z_iconst B dX2_levelOf_58 ?_
  exact z_iret B hr dX2_levelOf_59 h
set_option maxHeartbeats 4000000 in
set_option maxRecDepth 100000 in
theorem c_X2_levelOf {l : Launch} {D : va_G} {cI cA : ClassId} {ad : Nat → Nat} {a1 : Int} {w w1 : hg_W} {r1 : Int} (h : fX2_levelOf w a1 = some (w1, r1)) : hg_Mi l yX2_levelOf wxX2_levelOf rmX2_levelOf D cI cA ad 0 w [.int (hg_I a1)] w1 r1 := by
  refine z_meti cX2_levelOf 1 (some .int) (by decide) (Nat.le_of_ble_eq_true rfl) ?_
  intro p e s m args below meth c A B hr
  exact rX2_levelOf_E B hr h
abbrev wxX2_readPart : List Cond := Cond.code yX2_readPart cX2_readPart 7 none :: wsL_law
def fX2_readPart_207  (rec : hg_W → Int → Int → Option (hg_W × Int))  (w : hg_W) (s1 : Int) : Option (hg_W × Int) :=
  hg_bd (fX2_write w s1) fun w1 _ =>
  hg_bd (fX2_step w1) fun w4 _ =>
  some (w4, 0)
def fX2_readPart_192  (rec : hg_W → Int → Int → Option (hg_W × Int))  (w : hg_W) (x3 : Int) : Option (hg_W × Int) :=
  if wr x3 = wr (-19) then
    (
      fX2_readPart_207 rec w (w 17 7)
    )
  else
    fX2_readPart_207 rec w x3
def fX2_readPart_217  (rec : hg_W → Int → Int → Option (hg_W × Int))  (w : hg_W) : Option (hg_W × Int) :=
  hg_bd (fX2_refuse w) fun w1 _ =>
  some (w1, 0)
def fX2_readPart_141  (rec : hg_W → Int → Int → Option (hg_W × Int))  (w : hg_W) : Option (hg_W × Int) :=
  some (w, 0)
def fX2_readPart_93  (rec : hg_W → Int → Int → Option (hg_W × Int))  : Nat → hg_W → Int → Int → Int → Int → Option (hg_W × Int)
  | 0, _, _, _, _, _ => none
  | n + 1, w, x1, x2, x4, x5 =>
    if wr x4 ≤ wr x5 then
      (
        fX2_readPart_141 rec w
      )
    else
      hg_bd (fX2_levelOf w (w 17 6)) fun w1 v2 =>
      if wr v2 = wr x1 then
        (
          hg_bd (fX2_step w1) fun w4 _ =>
          hg_bd (rec w4 (x1 + 1) x2) fun w7 _ =>
          hg_bd (fX2_write w7 (w1 17 6)) fun w10 _ =>
          fX2_readPart_93 rec n w10 x1 x2 x4 (x5 + 1)
        )
      else
        fX2_readPart_141 rec w1
def fX2_readPart_88  (rec : hg_W → Int → Int → Option (hg_W × Int))  (w : hg_W) (x1 : Int) (x2 : Int) (s0 : Int) : Option (hg_W × Int) :=
  fX2_readPart_93 rec hg_F w x1 x2 s0 0
def fX2_readPart_63  (rec : hg_W → Int → Int → Option (hg_W × Int))  (w : hg_W) (x1 : Int) (x2 : Int) (x3 : Int) : Option (hg_W × Int) :=
  if wr 5 ≤ wr x1 then
    (
      if wr x3 = wr (-16) then
        (
          hg_bd (fX2_opens w x2) fun w1 v2 =>
          if wr v2 = 0 then
            (
              some (w1, 0)
            )
          else
            hg_bd (rec w1 0 (x2 + 1)) fun w4 _ =>
            hg_bd (fX2_must w4 (-17)) fun w7 _ =>
            some (w7, 0)
        )
      else
        if wr x3 = wr (-19) then
          (
            fX2_readPart_192 rec w x3
          )
        else
          if wr (-1) < wr x3 then
            (
              fX2_readPart_217 rec w
            )
          else
            if wr x3 < wr (-6) then
              (
                fX2_readPart_217 rec w
              )
            else
              fX2_readPart_192 rec w x3
    )
  else
    hg_bd (rec w (x1 + 1) x2) fun w10 _ =>
    if wr x1 = wr 2 then
      (
        fX2_readPart_88 rec w10 x1 x2 1
      )
    else
      fX2_readPart_88 rec w10 x1 x2 160
def fX2_readPart_57  (rec : hg_W → Int → Int → Option (hg_W × Int))  (w : hg_W) (s1 : Int) : Option (hg_W × Int) :=
  hg_bd (fX2_write w s1) fun w1 _ =>
  some (w1, 0)
def fX2_readPart_27  (rec : hg_W → Int → Int → Option (hg_W × Int))  (w : hg_W) (x1 : Int) (x2 : Int) (x3 : Int) : Option (hg_W × Int) :=
  hg_bd (fX2_opens w x2) fun w1 v2 =>
  if wr v2 = 0 then
    (
      some (w1, 0)
    )
  else
    hg_bd (rec w1 x1 (x2 + 1)) fun w4 _ =>
    if wr x3 = wr (-9) then
      (
        fX2_readPart_57 rec w4 (-9)
      )
    else
      fX2_readPart_57 rec w4 (-15)
def fX2_readPart_16  (rec : hg_W → Int → Int → Option (hg_W × Int))  (w : hg_W) (x1 : Int) (x2 : Int) (x3 : Int) : Option (hg_W × Int) :=
  if wr x1 = wr 5 then
    (
      if wr x3 = wr (-13) then
        (
          fX2_readPart_27 rec w x1 x2 x3
        )
      else
        fX2_readPart_63 rec w x1 x2 x3
    )
  else
    fX2_readPart_63 rec w x1 x2 x3
def fX2_readPart_E (rec : hg_W → Int → Int → Option (hg_W × Int)) (w : hg_W) (a1 : Int) (a2 : Int) : Option (hg_W × Int) :=
  if wr a1 = wr 2 then
    (
      if wr (w 17 6) = wr (-9) then
        (
          fX2_readPart_27 rec w a1 a2 (w 17 6)
        )
      else
        fX2_readPart_16 rec w a1 a2 (w 17 6)
    )
  else
    fX2_readPart_16 rec w a1 a2 (w 17 6)
def fX2_readPart : Nat → hg_W → Int → Int → Option (hg_W × Int)
  | 0, _, _, _ => none
  | n + 1, w, a1, a2 => fX2_readPart_E (fX2_readPart n) w a1 a2
set_option maxHeartbeats 4000000 in
set_option maxRecDepth 100000 in
abbrev rmX2_readPart (nn : Nat) : Room := { frames := 12 + nn, cells := 0, slots := 0, locals := 344 + nn * 26 }
set_option maxHeartbeats 4000000 in
set_option maxRecDepth 100000 in
theorem rX2_readPart_207 (B : hg_B p s m args meth c cX2_readPart RX2 wsL_law 7 D cI cA ad 0 A) (hr : meth.sig.returnType = none) {nn : Nat} {rec : hg_W → Int → Int → Option (hg_W × Int)} (hrec : ∀ (w : hg_W) (a1 a2 : Int) (w2 : hg_W) (r2 : Int), rec w a1 a2 = some (w2, r2) → hg_Mv l yX2_readPart wxX2_readPart (rmX2_readPart nn) D cI cA ad 0 w [.ref (ad 17), .int (hg_I a1), .int (hg_I a2)] w2) {w1 : hg_W} {r1 : Int} : ∀ (w : hg_W) (s1 : Int), fX2_readPart_207 rec w s1 = some (w1, r1) → hg_At p l e (rmX2_readPart (nn + 1)) s m args below meth c D cI cA ad 0 A (MQ below (hg_Qv D cI cA ad 0 A w1) args s 0 0 A) 7 w [(0, .ref (ad 17))] 207 [.int (hg_I s1), .ref (ad 17)] := by
  intro w s1 h
  unfold fX2_readPart_207 at h
  obtain ⟨w1, v2, q3, h⟩ := hg_bd_some h
  refine z_callvV (a := 17) (ci := 2) (N := 9) (T := TX2) (C := RX2) (As := [.int (hg_I s1)]) (n := 1) B dX2_readPart_207 (c_X2_write q3) (gl_V (wl_15 2 rfl) (wl_15 3 rfl) (wl_15 4 rfl) (wl_1 18 rfl) (wl_15 5 rfl)) rfl ⟨rfl, rfl⟩ (by decide +kernel) ⟨by simp only [rmX2_readPart]; exact Nat.le_trans (Nat.le_of_ble_eq_true rfl) (Nat.le_add_right _ _), by simp only [rmX2_readPart]; exact Nat.le_trans (Nat.le_of_ble_eq_true rfl) (Nat.le_add_right _ _)⟩ (by decide) rfl (by decide) rfl rfl rfl (Nat.le_of_ble_eq_true rfl) ?_
  refine z_aload_n B 0 dX2_readPart_210 rfl rfl ?_
  obtain ⟨w4, v5, q6, h⟩ := hg_bd_some h
  refine z_callvV (a := 17) (ci := 2) (N := 9) (T := TX2) (C := RX2) (As := []) (n := 0) B dX2_readPart_211 (c_X2_step q6) (gl_V (wl_11 4 rfl) (wl_11 5 rfl) (wl_11 6 rfl) (wl_1 18 rfl) (wl_11 7 rfl)) rfl ⟨rfl, rfl⟩ (by decide +kernel) ⟨by simp only [rmX2_readPart]; exact Nat.le_trans (Nat.le_of_ble_eq_true rfl) (Nat.le_add_right _ _), by simp only [rmX2_readPart]; exact Nat.le_trans (Nat.le_of_ble_eq_true rfl) (Nat.le_add_right _ _)⟩ (by decide) rfl (by decide) rfl rfl rfl (Nat.le_of_ble_eq_true rfl) ?_
  refine z_goto (tgt := 221) B dX2_readPart_214 (by decide) ?_
  exact z_vret B hr dX2_readPart_221 h
set_option maxHeartbeats 4000000 in
set_option maxRecDepth 100000 in
theorem rX2_readPart_192 (B : hg_B p s m args meth c cX2_readPart RX2 wsL_law 7 D cI cA ad 0 A) (hr : meth.sig.returnType = none) {nn : Nat} {rec : hg_W → Int → Int → Option (hg_W × Int)} (hrec : ∀ (w : hg_W) (a1 a2 : Int) (w2 : hg_W) (r2 : Int), rec w a1 a2 = some (w2, r2) → hg_Mv l yX2_readPart wxX2_readPart (rmX2_readPart nn) D cI cA ad 0 w [.ref (ad 17), .int (hg_I a1), .int (hg_I a2)] w2) {w1 : hg_W} {r1 : Int} : ∀ (w : hg_W) (x3 : Int), fX2_readPart_192 rec w x3 = some (w1, r1) → hg_At p l e (rmX2_readPart (nn + 1)) s m args below meth c D cI cA ad 0 A (MQ below (hg_Qv D cI cA ad 0 A w1) args s 0 0 A) 7 w [(0, .ref (ad 17)), (3, .int (hg_I x3))] 192 [] := by
  intro w x3 h
  unfold fX2_readPart_192 at h
  refine z_aload_n B 0 dX2_readPart_192 rfl rfl ?_
  refine z_iload_n B 1 dX2_readPart_193 rfl rfl ?_
  refine z_bipush B dX2_readPart_194 (by decide) ?_
  refine z_icmp_ne (tgt := 206) B dX2_readPart_196 (by decide) h (fun h => ?_) (fun h => ?_)
  · refine z_iload_n B 1 dX2_readPart_206 rfl rfl ?_
    refine z_lv (lv' := [(0, .ref (ad 17))]) B [0] rfl ?_
    exact rX2_readPart_207 B hr hrec _ _ h
  · refine z_aload_n B 0 dX2_readPart_199 rfl rfl ?_
    refine z_get2 (v := .int (hg_I (w 17 7))) B 7 dX2_readPart_200 inlX2 (by decide) rfl (by decide) (wl_14 7 rfl) rfl rfl ?_
    refine z_goto (tgt := 207) B dX2_readPart_203 (by decide) ?_
    refine z_lv (lv' := [(0, .ref (ad 17))]) B [0] rfl ?_
    exact rX2_readPart_207 B hr hrec _ _ h
set_option maxHeartbeats 4000000 in
set_option maxRecDepth 100000 in
theorem rX2_readPart_217 (B : hg_B p s m args meth c cX2_readPart RX2 wsL_law 7 D cI cA ad 0 A) (hr : meth.sig.returnType = none) {nn : Nat} {rec : hg_W → Int → Int → Option (hg_W × Int)} (hrec : ∀ (w : hg_W) (a1 a2 : Int) (w2 : hg_W) (r2 : Int), rec w a1 a2 = some (w2, r2) → hg_Mv l yX2_readPart wxX2_readPart (rmX2_readPart nn) D cI cA ad 0 w [.ref (ad 17), .int (hg_I a1), .int (hg_I a2)] w2) {w1 : hg_W} {r1 : Int} : ∀ (w : hg_W), fX2_readPart_217 rec w = some (w1, r1) → hg_At p l e (rmX2_readPart (nn + 1)) s m args below meth c D cI cA ad 0 A (MQ below (hg_Qv D cI cA ad 0 A w1) args s 0 0 A) 7 w [(0, .ref (ad 17))] 217 [] := by
  intro w h
  unfold fX2_readPart_217 at h
  refine z_aload_n B 0 dX2_readPart_217 rfl rfl ?_
  obtain ⟨w1, v2, q3, h⟩ := hg_bd_some h
  refine z_callvV (a := 17) (ci := 2) (N := 9) (T := TX2) (C := RX2) (As := []) (n := 0) B dX2_readPart_218 (c_X2_refuse q3) (gl_V (wl_14 15 rfl) (wl_14 16 rfl) (wl_14 17 rfl) (wl_1 18 rfl) (wl_14 18 rfl)) rfl ⟨rfl, rfl⟩ (by decide +kernel) ⟨by simp only [rmX2_readPart]; exact Nat.le_trans (Nat.le_of_ble_eq_true rfl) (Nat.le_add_right _ _), by simp only [rmX2_readPart]; exact Nat.le_trans (Nat.le_of_ble_eq_true rfl) (Nat.le_add_right _ _)⟩ (by decide) rfl (by decide) rfl rfl rfl (Nat.le_of_ble_eq_true rfl) ?_
  exact z_vret B hr dX2_readPart_221 h
set_option maxHeartbeats 4000000 in
set_option maxRecDepth 100000 in
theorem rX2_readPart_141 (B : hg_B p s m args meth c cX2_readPart RX2 wsL_law 7 D cI cA ad 0 A) (hr : meth.sig.returnType = none) {nn : Nat} {rec : hg_W → Int → Int → Option (hg_W × Int)} (hrec : ∀ (w : hg_W) (a1 a2 : Int) (w2 : hg_W) (r2 : Int), rec w a1 a2 = some (w2, r2) → hg_Mv l yX2_readPart wxX2_readPart (rmX2_readPart nn) D cI cA ad 0 w [.ref (ad 17), .int (hg_I a1), .int (hg_I a2)] w2) {w1 : hg_W} {r1 : Int} : ∀ (w : hg_W), fX2_readPart_141 rec w = some (w1, r1) → hg_At p l e (rmX2_readPart (nn + 1)) s m args below meth c D cI cA ad 0 A (MQ below (hg_Qv D cI cA ad 0 A w1) args s 0 0 A) 7 w [] 141 [] := by
  intro w h
  unfold fX2_readPart_141 at h
  refine z_goto (tgt := 221) B dX2_readPart_141 (by decide) ?_
  exact z_vret B hr dX2_readPart_221 h
set_option maxHeartbeats 4000000 in
set_option maxRecDepth 100000 in
theorem rX2_readPart_93 (B : hg_B p s m args meth c cX2_readPart RX2 wsL_law 7 D cI cA ad 0 A) (hr : meth.sig.returnType = none) {nn : Nat} {rec : hg_W → Int → Int → Option (hg_W × Int)} (hrec : ∀ (w : hg_W) (a1 a2 : Int) (w2 : hg_W) (r2 : Int), rec w a1 a2 = some (w2, r2) → hg_Mv l yX2_readPart wxX2_readPart (rmX2_readPart nn) D cI cA ad 0 w [.ref (ad 17), .int (hg_I a1), .int (hg_I a2)] w2) {w1 : hg_W} {r1 : Int} : ∀ (n : Nat), ∀ (w : hg_W) (x1 : Int) (x2 : Int) (x4 : Int) (x5 : Int), fX2_readPart_93 rec n w x1 x2 x4 x5 = some (w1, r1) → hg_At p l e (rmX2_readPart (nn + 1)) s m args below meth c D cI cA ad 0 A (MQ below (hg_Qv D cI cA ad 0 A w1) args s 0 0 A) 7 w [(0, .ref (ad 17)), (1, .int (hg_I x1)), (2, .int (hg_I x2)), (4, .int (hg_I x4)), (5, .int (hg_I x5))] 93 [] := by
  intro n
  induction n with
  | zero =>
    intro w x1 x2 x4 x5 h
    cases h
  | succ n ih =>
    intro w x1 x2 x4 x5 h
    simp only [fX2_readPart_93] at h
    refine z_iload B 4 dX2_readPart_93 rfl ?_
    refine z_iload B 3 dX2_readPart_95 rfl ?_
    refine z_icmp_ge (tgt := 141) B dX2_readPart_97 (by decide) h (fun h => ?_) (fun h => ?_)
    · refine z_lv (lv' := []) B [] rfl ?_
      exact rX2_readPart_141 B hr hrec _ h
    · refine z_aload_n B 0 dX2_readPart_100 rfl rfl ?_
      refine z_get2 (v := .int (hg_I (w 17 6))) B 6 dX2_readPart_101 inlX2 (by decide) rfl (by decide) (wl_11 3 rfl) rfl rfl ?_
      obtain ⟨w1, v2, q3, h⟩ := hg_bd_some h
      refine z_calliS (As := [.int (hg_I (w 17 6))]) (n := 1) B dX2_readPart_104 (c_X2_levelOf q3) (gl_S (wl_15 6 rfl) (wl_15 7 rfl) (wl_1 18 rfl) (wl_15 8 rfl)) rfl ⟨rfl, rfl⟩ (by decide +kernel) ⟨by simp only [rmX2_readPart]; exact Nat.le_trans (Nat.le_of_ble_eq_true rfl) (Nat.le_add_right _ _), by simp only [rmX2_readPart]; exact Nat.le_trans (Nat.le_of_ble_eq_true rfl) (Nat.le_add_right _ _)⟩ rfl rfl (Nat.le_of_ble_eq_true rfl) ?_
      refine z_iload_n B 1 dX2_readPart_107 rfl rfl ?_
      refine z_icmp_ne (tgt := 141) B dX2_readPart_108 (by decide) h (fun h => ?_) (fun h => ?_)
      · refine z_lv (lv' := []) B [] rfl ?_
        exact rX2_readPart_141 B hr hrec _ h
      · refine z_aload_n B 0 dX2_readPart_111 rfl rfl ?_
        refine z_get2 (v := .int (hg_I (w1 17 6))) B 6 dX2_readPart_112 inlX2 (by decide) rfl (by decide) (wl_11 3 rfl) rfl rfl ?_
        refine z_istore B [(6, .int (hg_I (w1 17 6))), (0, .ref (ad 17)), (1, .int (hg_I x1)), (2, .int (hg_I x2)), (4, .int (hg_I x4)), (5, .int (hg_I x5))] dX2_readPart_115 (by decide) rfl ?_
        refine z_aload_n B 1 dX2_readPart_117 rfl rfl ?_
        obtain ⟨w4, v5, q6, h⟩ := hg_bd_some h
        refine z_callvV (a := 17) (ci := 2) (N := 9) (T := TX2) (C := RX2) (As := []) (n := 0) B dX2_readPart_118 (c_X2_step q6) (gl_V (wl_11 4 rfl) (wl_11 5 rfl) (wl_11 6 rfl) (wl_1 18 rfl) (wl_11 7 rfl)) rfl ⟨rfl, rfl⟩ (by decide +kernel) ⟨by simp only [rmX2_readPart]; exact Nat.le_trans (Nat.le_of_ble_eq_true rfl) (Nat.le_add_right _ _), by simp only [rmX2_readPart]; exact Nat.le_trans (Nat.le_of_ble_eq_true rfl) (Nat.le_add_right _ _)⟩ (by decide) rfl (by decide) rfl rfl rfl (Nat.le_of_ble_eq_true rfl) ?_
        refine z_aload_n B 1 dX2_readPart_121 rfl rfl ?_
        refine z_iload_n B 2 dX2_readPart_122 rfl rfl ?_
        refine z_iconst B dX2_readPart_123 ?_
        refine z_iadd B dX2_readPart_124 ?_
        refine z_iload_n B 3 dX2_readPart_125 rfl rfl ?_
        obtain ⟨w7, v8, q9, h⟩ := hg_bd_some h
        refine z_callvS (As := [.ref (ad 17), .int (hg_I (x1 + 1)), .int (hg_I x2)]) (n := 3) B dX2_readPart_126 (hrec _ _ _ _ _ q9) (gl_S (wl_14 19 rfl) (wl_14 20 rfl) (wl_1 18 rfl) (wl_14 21 rfl)) rfl ⟨rfl, rfl⟩ (by decide +kernel) ⟨by show _ + _ ≤ _; simp only [rmX2_readPart]; omega, by show _ + _ + _ ≤ _; simp only [rmX2_readPart]; omega⟩ rfl rfl (Nat.le_of_ble_eq_true rfl) ?_
        refine z_aload_n B 1 dX2_readPart_129 rfl rfl ?_
        refine z_iload B 0 dX2_readPart_130 rfl ?_
        obtain ⟨w10, v11, q12, h⟩ := hg_bd_some h
        refine z_callvV (a := 17) (ci := 2) (N := 9) (T := TX2) (C := RX2) (As := [.int (hg_I (w1 17 6))]) (n := 1) B dX2_readPart_132 (c_X2_write q12) (gl_V (wl_15 2 rfl) (wl_15 3 rfl) (wl_15 4 rfl) (wl_1 18 rfl) (wl_15 5 rfl)) rfl ⟨rfl, rfl⟩ (by decide +kernel) ⟨by simp only [rmX2_readPart]; exact Nat.le_trans (Nat.le_of_ble_eq_true rfl) (Nat.le_add_right _ _), by simp only [rmX2_readPart]; exact Nat.le_trans (Nat.le_of_ble_eq_true rfl) (Nat.le_add_right _ _)⟩ (by decide) rfl (by decide) rfl rfl rfl (Nat.le_of_ble_eq_true rfl) ?_
        refine z_iinc B 5 [(5, .int (hg_I (x5 + 1))), (6, .int (hg_I (w1 17 6))), (0, .ref (ad 17)), (1, .int (hg_I x1)), (2, .int (hg_I x2)), (4, .int (hg_I x4))] dX2_readPart_135 rfl (by decide) rfl ?_
        refine z_goto (tgt := 93) B dX2_readPart_138 (by decide) ?_
        refine z_lv (lv' := [(0, .ref (ad 17)), (1, .int (hg_I x1)), (2, .int (hg_I x2)), (4, .int (hg_I x4)), (5, .int (hg_I (x5 + 1)))]) B [2, 3, 4, 5, 0] rfl ?_
        exact ih _ _ _ _ _ h
set_option maxHeartbeats 4000000 in
set_option maxRecDepth 100000 in
theorem rX2_readPart_88 (B : hg_B p s m args meth c cX2_readPart RX2 wsL_law 7 D cI cA ad 0 A) (hr : meth.sig.returnType = none) {nn : Nat} {rec : hg_W → Int → Int → Option (hg_W × Int)} (hrec : ∀ (w : hg_W) (a1 a2 : Int) (w2 : hg_W) (r2 : Int), rec w a1 a2 = some (w2, r2) → hg_Mv l yX2_readPart wxX2_readPart (rmX2_readPart nn) D cI cA ad 0 w [.ref (ad 17), .int (hg_I a1), .int (hg_I a2)] w2) {w1 : hg_W} {r1 : Int} : ∀ (w : hg_W) (x1 : Int) (x2 : Int) (s0 : Int), fX2_readPart_88 rec w x1 x2 s0 = some (w1, r1) → hg_At p l e (rmX2_readPart (nn + 1)) s m args below meth c D cI cA ad 0 A (MQ below (hg_Qv D cI cA ad 0 A w1) args s 0 0 A) 7 w [(0, .ref (ad 17)), (1, .int (hg_I x1)), (2, .int (hg_I x2))] 88 [.int (hg_I s0)] := by
  intro w x1 x2 s0 h
  unfold fX2_readPart_88 at h
  refine z_istore B [(4, .int (hg_I s0)), (0, .ref (ad 17)), (1, .int (hg_I x1)), (2, .int (hg_I x2))] dX2_readPart_88 (by decide) rfl ?_
  refine z_iconst B dX2_readPart_90 ?_
  refine z_istore B [(5, .int (hg_I 0)), (4, .int (hg_I s0)), (0, .ref (ad 17)), (1, .int (hg_I x1)), (2, .int (hg_I x2))] dX2_readPart_91 (by decide) rfl ?_
  refine z_lv (lv' := [(0, .ref (ad 17)), (1, .int (hg_I x1)), (2, .int (hg_I x2)), (4, .int (hg_I s0)), (5, .int (hg_I 0))]) B [2, 3, 4, 1, 0] rfl ?_
  exact rX2_readPart_93 B hr hrec hg_F _ _ _ _ _ h
set_option maxHeartbeats 4000000 in
set_option maxRecDepth 100000 in
theorem rX2_readPart_63 (B : hg_B p s m args meth c cX2_readPart RX2 wsL_law 7 D cI cA ad 0 A) (hr : meth.sig.returnType = none) {nn : Nat} {rec : hg_W → Int → Int → Option (hg_W × Int)} (hrec : ∀ (w : hg_W) (a1 a2 : Int) (w2 : hg_W) (r2 : Int), rec w a1 a2 = some (w2, r2) → hg_Mv l yX2_readPart wxX2_readPart (rmX2_readPart nn) D cI cA ad 0 w [.ref (ad 17), .int (hg_I a1), .int (hg_I a2)] w2) {w1 : hg_W} {r1 : Int} : ∀ (w : hg_W) (x1 : Int) (x2 : Int) (x3 : Int), fX2_readPart_63 rec w x1 x2 x3 = some (w1, r1) → hg_At p l e (rmX2_readPart (nn + 1)) s m args below meth c D cI cA ad 0 A (MQ below (hg_Qv D cI cA ad 0 A w1) args s 0 0 A) 7 w [(0, .ref (ad 17)), (1, .int (hg_I x1)), (2, .int (hg_I x2)), (3, .int (hg_I x3))] 63 [] := by
  intro w x1 x2 x3 h
  unfold fX2_readPart_63 at h
  refine z_iload_n B 1 dX2_readPart_63 rfl rfl ?_
  refine z_iconst B dX2_readPart_64 ?_
  refine z_icmp_ge (tgt := 144) B dX2_readPart_65 (by decide) h (fun h => ?_) (fun h => ?_)
  · refine z_iload_n B 3 dX2_readPart_144 rfl rfl ?_
    refine z_bipush B dX2_readPart_145 (by decide) ?_
    refine z_icmp_ne (tgt := 175) B dX2_readPart_147 (by decide) h (fun h => ?_) (fun h => ?_)
    · refine z_iload_n B 3 dX2_readPart_175 rfl rfl ?_
      refine z_bipush B dX2_readPart_176 (by decide) ?_
      refine z_icmp_eq (tgt := 192) B dX2_readPart_178 (by decide) h (fun h => ?_) (fun h => ?_)
      · refine z_lv (lv' := [(0, .ref (ad 17)), (3, .int (hg_I x3))]) B [0, 3] rfl ?_
        exact rX2_readPart_192 B hr hrec _ _ h
      · refine z_iload_n B 3 dX2_readPart_181 rfl rfl ?_
        refine z_iconst B dX2_readPart_182 ?_
        refine z_icmp_gt (tgt := 217) B dX2_readPart_183 (by decide) h (fun h => ?_) (fun h => ?_)
        · refine z_lv (lv' := [(0, .ref (ad 17))]) B [0] rfl ?_
          exact rX2_readPart_217 B hr hrec _ h
        · refine z_iload_n B 3 dX2_readPart_186 rfl rfl ?_
          refine z_bipush B dX2_readPart_187 (by decide) ?_
          refine z_icmp_lt (tgt := 217) B dX2_readPart_189 (by decide) h (fun h => ?_) (fun h => ?_)
          · refine z_lv (lv' := [(0, .ref (ad 17))]) B [0] rfl ?_
            exact rX2_readPart_217 B hr hrec _ h
          · refine z_lv (lv' := [(0, .ref (ad 17)), (3, .int (hg_I x3))]) B [0, 3] rfl ?_
            exact rX2_readPart_192 B hr hrec _ _ h
    · refine z_aload_n B 0 dX2_readPart_150 rfl rfl ?_
      refine z_iload_n B 2 dX2_readPart_151 rfl rfl ?_
      obtain ⟨w1, v2, q3, h⟩ := hg_bd_some h
      refine z_calliV (a := 17) (ci := 2) (N := 9) (T := TX2) (C := RX2) (As := [.int (hg_I x2)]) (n := 1) B dX2_readPart_152 (c_X2_opens q3) (gl_V (wl_14 22 rfl) (wl_14 23 rfl) (wl_15 0 rfl) (wl_1 18 rfl) (wl_15 1 rfl)) rfl ⟨rfl, rfl⟩ (by decide +kernel) ⟨by simp only [rmX2_readPart]; exact Nat.le_trans (Nat.le_of_ble_eq_true rfl) (Nat.le_add_right _ _), by simp only [rmX2_readPart]; exact Nat.le_trans (Nat.le_of_ble_eq_true rfl) (Nat.le_add_right _ _)⟩ (by decide) rfl (by decide) rfl rfl rfl (Nat.le_of_ble_eq_true rfl) ?_
      refine z_if_eq (tgt := 221) B dX2_readPart_155 (by decide) h (fun h => ?_) (fun h => ?_)
      · exact z_vret B hr dX2_readPart_221 h
      · refine z_aload_n B 0 dX2_readPart_158 rfl rfl ?_
        refine z_iconst B dX2_readPart_159 ?_
        refine z_iload_n B 2 dX2_readPart_160 rfl rfl ?_
        refine z_iconst B dX2_readPart_161 ?_
        refine z_iadd B dX2_readPart_162 ?_
        obtain ⟨w4, v5, q6, h⟩ := hg_bd_some h
        refine z_callvS (As := [.ref (ad 17), .int (hg_I 0), .int (hg_I (x2 + 1))]) (n := 3) B dX2_readPart_163 (hrec _ _ _ _ _ q6) (gl_S (wl_14 19 rfl) (wl_14 20 rfl) (wl_1 18 rfl) (wl_14 21 rfl)) rfl ⟨rfl, rfl⟩ (by decide +kernel) ⟨by show _ + _ ≤ _; simp only [rmX2_readPart]; omega, by show _ + _ + _ ≤ _; simp only [rmX2_readPart]; omega⟩ rfl rfl (Nat.le_of_ble_eq_true rfl) ?_
        refine z_aload_n B 0 dX2_readPart_166 rfl rfl ?_
        refine z_bipush B dX2_readPart_167 (by decide) ?_
        obtain ⟨w7, v8, q9, h⟩ := hg_bd_some h
        refine z_callvV (a := 17) (ci := 2) (N := 9) (T := TX2) (C := RX2) (As := [.int (hg_I (-17))]) (n := 1) B dX2_readPart_169 (c_X2_must q9) (gl_V (wl_14 11 rfl) (wl_14 12 rfl) (wl_14 13 rfl) (wl_1 18 rfl) (wl_14 14 rfl)) rfl ⟨rfl, rfl⟩ (by decide +kernel) ⟨by simp only [rmX2_readPart]; exact Nat.le_trans (Nat.le_of_ble_eq_true rfl) (Nat.le_add_right _ _), by simp only [rmX2_readPart]; exact Nat.le_trans (Nat.le_of_ble_eq_true rfl) (Nat.le_add_right _ _)⟩ (by decide) rfl (by decide) rfl rfl rfl (Nat.le_of_ble_eq_true rfl) ?_
        refine z_goto (tgt := 221) B dX2_readPart_172 (by decide) ?_
        exact z_vret B hr dX2_readPart_221 h
  · refine z_aload_n B 0 dX2_readPart_68 rfl rfl ?_
    refine z_iload_n B 1 dX2_readPart_69 rfl rfl ?_
    refine z_iconst B dX2_readPart_70 ?_
    refine z_iadd B dX2_readPart_71 ?_
    refine z_iload_n B 2 dX2_readPart_72 rfl rfl ?_
    obtain ⟨w10, v11, q12, h⟩ := hg_bd_some h
    refine z_callvS (As := [.ref (ad 17), .int (hg_I (x1 + 1)), .int (hg_I x2)]) (n := 3) B dX2_readPart_73 (hrec _ _ _ _ _ q12) (gl_S (wl_14 19 rfl) (wl_14 20 rfl) (wl_1 18 rfl) (wl_14 21 rfl)) rfl ⟨rfl, rfl⟩ (by decide +kernel) ⟨by show _ + _ ≤ _; simp only [rmX2_readPart]; omega, by show _ + _ + _ ≤ _; simp only [rmX2_readPart]; omega⟩ rfl rfl (Nat.le_of_ble_eq_true rfl) ?_
    refine z_iload_n B 1 dX2_readPart_76 rfl rfl ?_
    refine z_iconst B dX2_readPart_77 ?_
    refine z_icmp_ne (tgt := 85) B dX2_readPart_78 (by decide) h (fun h => ?_) (fun h => ?_)
    · refine z_sipush B dX2_readPart_85 (by decide) ?_
      refine z_lv (lv' := [(0, .ref (ad 17)), (1, .int (hg_I x1)), (2, .int (hg_I x2))]) B [0, 1, 2] rfl ?_
      exact rX2_readPart_88 B hr hrec _ _ _ _ h
    · refine z_iconst B dX2_readPart_81 ?_
      refine z_goto (tgt := 88) B dX2_readPart_82 (by decide) ?_
      refine z_lv (lv' := [(0, .ref (ad 17)), (1, .int (hg_I x1)), (2, .int (hg_I x2))]) B [0, 1, 2] rfl ?_
      exact rX2_readPart_88 B hr hrec _ _ _ _ h
set_option maxHeartbeats 4000000 in
set_option maxRecDepth 100000 in
theorem rX2_readPart_57 (B : hg_B p s m args meth c cX2_readPart RX2 wsL_law 7 D cI cA ad 0 A) (hr : meth.sig.returnType = none) {nn : Nat} {rec : hg_W → Int → Int → Option (hg_W × Int)} (hrec : ∀ (w : hg_W) (a1 a2 : Int) (w2 : hg_W) (r2 : Int), rec w a1 a2 = some (w2, r2) → hg_Mv l yX2_readPart wxX2_readPart (rmX2_readPart nn) D cI cA ad 0 w [.ref (ad 17), .int (hg_I a1), .int (hg_I a2)] w2) {w1 : hg_W} {r1 : Int} : ∀ (w : hg_W) (s1 : Int), fX2_readPart_57 rec w s1 = some (w1, r1) → hg_At p l e (rmX2_readPart (nn + 1)) s m args below meth c D cI cA ad 0 A (MQ below (hg_Qv D cI cA ad 0 A w1) args s 0 0 A) 7 w [] 57 [.int (hg_I s1), .ref (ad 17)] := by
  intro w s1 h
  unfold fX2_readPart_57 at h
  obtain ⟨w1, v2, q3, h⟩ := hg_bd_some h
  refine z_callvV (a := 17) (ci := 2) (N := 9) (T := TX2) (C := RX2) (As := [.int (hg_I s1)]) (n := 1) B dX2_readPart_57 (c_X2_write q3) (gl_V (wl_15 2 rfl) (wl_15 3 rfl) (wl_15 4 rfl) (wl_1 18 rfl) (wl_15 5 rfl)) rfl ⟨rfl, rfl⟩ (by decide +kernel) ⟨by simp only [rmX2_readPart]; exact Nat.le_trans (Nat.le_of_ble_eq_true rfl) (Nat.le_add_right _ _), by simp only [rmX2_readPart]; exact Nat.le_trans (Nat.le_of_ble_eq_true rfl) (Nat.le_add_right _ _)⟩ (by decide) rfl (by decide) rfl rfl rfl (Nat.le_of_ble_eq_true rfl) ?_
  refine z_goto (tgt := 221) B dX2_readPart_60 (by decide) ?_
  exact z_vret B hr dX2_readPart_221 h
set_option maxHeartbeats 4000000 in
set_option maxRecDepth 100000 in
theorem rX2_readPart_27 (B : hg_B p s m args meth c cX2_readPart RX2 wsL_law 7 D cI cA ad 0 A) (hr : meth.sig.returnType = none) {nn : Nat} {rec : hg_W → Int → Int → Option (hg_W × Int)} (hrec : ∀ (w : hg_W) (a1 a2 : Int) (w2 : hg_W) (r2 : Int), rec w a1 a2 = some (w2, r2) → hg_Mv l yX2_readPart wxX2_readPart (rmX2_readPart nn) D cI cA ad 0 w [.ref (ad 17), .int (hg_I a1), .int (hg_I a2)] w2) {w1 : hg_W} {r1 : Int} : ∀ (w : hg_W) (x1 : Int) (x2 : Int) (x3 : Int), fX2_readPart_27 rec w x1 x2 x3 = some (w1, r1) → hg_At p l e (rmX2_readPart (nn + 1)) s m args below meth c D cI cA ad 0 A (MQ below (hg_Qv D cI cA ad 0 A w1) args s 0 0 A) 7 w [(0, .ref (ad 17)), (1, .int (hg_I x1)), (2, .int (hg_I x2)), (3, .int (hg_I x3))] 27 [] := by
  intro w x1 x2 x3 h
  unfold fX2_readPart_27 at h
  refine z_aload_n B 0 dX2_readPart_27 rfl rfl ?_
  refine z_iload_n B 2 dX2_readPart_28 rfl rfl ?_
  obtain ⟨w1, v2, q3, h⟩ := hg_bd_some h
  refine z_calliV (a := 17) (ci := 2) (N := 9) (T := TX2) (C := RX2) (As := [.int (hg_I x2)]) (n := 1) B dX2_readPart_29 (c_X2_opens q3) (gl_V (wl_14 22 rfl) (wl_14 23 rfl) (wl_15 0 rfl) (wl_1 18 rfl) (wl_15 1 rfl)) rfl ⟨rfl, rfl⟩ (by decide +kernel) ⟨by simp only [rmX2_readPart]; exact Nat.le_trans (Nat.le_of_ble_eq_true rfl) (Nat.le_add_right _ _), by simp only [rmX2_readPart]; exact Nat.le_trans (Nat.le_of_ble_eq_true rfl) (Nat.le_add_right _ _)⟩ (by decide) rfl (by decide) rfl rfl rfl (Nat.le_of_ble_eq_true rfl) ?_
  refine z_if_eq (tgt := 221) B dX2_readPart_32 (by decide) h (fun h => ?_) (fun h => ?_)
  · exact z_vret B hr dX2_readPart_221 h
  · refine z_aload_n B 0 dX2_readPart_35 rfl rfl ?_
    refine z_iload_n B 1 dX2_readPart_36 rfl rfl ?_
    refine z_iload_n B 2 dX2_readPart_37 rfl rfl ?_
    refine z_iconst B dX2_readPart_38 ?_
    refine z_iadd B dX2_readPart_39 ?_
    obtain ⟨w4, v5, q6, h⟩ := hg_bd_some h
    refine z_callvS (As := [.ref (ad 17), .int (hg_I x1), .int (hg_I (x2 + 1))]) (n := 3) B dX2_readPart_40 (hrec _ _ _ _ _ q6) (gl_S (wl_14 19 rfl) (wl_14 20 rfl) (wl_1 18 rfl) (wl_14 21 rfl)) rfl ⟨rfl, rfl⟩ (by decide +kernel) ⟨by show _ + _ ≤ _; simp only [rmX2_readPart]; omega, by show _ + _ + _ ≤ _; simp only [rmX2_readPart]; omega⟩ rfl rfl (Nat.le_of_ble_eq_true rfl) ?_
    refine z_aload_n B 0 dX2_readPart_43 rfl rfl ?_
    refine z_iload_n B 3 dX2_readPart_44 rfl rfl ?_
    refine z_bipush B dX2_readPart_45 (by decide) ?_
    refine z_icmp_ne (tgt := 55) B dX2_readPart_47 (by decide) h (fun h => ?_) (fun h => ?_)
    · refine z_bipush B dX2_readPart_55 (by decide) ?_
      refine z_lv (lv' := []) B [] rfl ?_
      exact rX2_readPart_57 B hr hrec _ _ h
    · refine z_bipush B dX2_readPart_50 (by decide) ?_
      refine z_goto (tgt := 57) B dX2_readPart_52 (by decide) ?_
      refine z_lv (lv' := []) B [] rfl ?_
      exact rX2_readPart_57 B hr hrec _ _ h
set_option maxHeartbeats 4000000 in
set_option maxRecDepth 100000 in
theorem rX2_readPart_16 (B : hg_B p s m args meth c cX2_readPart RX2 wsL_law 7 D cI cA ad 0 A) (hr : meth.sig.returnType = none) {nn : Nat} {rec : hg_W → Int → Int → Option (hg_W × Int)} (hrec : ∀ (w : hg_W) (a1 a2 : Int) (w2 : hg_W) (r2 : Int), rec w a1 a2 = some (w2, r2) → hg_Mv l yX2_readPart wxX2_readPart (rmX2_readPart nn) D cI cA ad 0 w [.ref (ad 17), .int (hg_I a1), .int (hg_I a2)] w2) {w1 : hg_W} {r1 : Int} : ∀ (w : hg_W) (x1 : Int) (x2 : Int) (x3 : Int), fX2_readPart_16 rec w x1 x2 x3 = some (w1, r1) → hg_At p l e (rmX2_readPart (nn + 1)) s m args below meth c D cI cA ad 0 A (MQ below (hg_Qv D cI cA ad 0 A w1) args s 0 0 A) 7 w [(0, .ref (ad 17)), (1, .int (hg_I x1)), (2, .int (hg_I x2)), (3, .int (hg_I x3))] 16 [] := by
  intro w x1 x2 x3 h
  unfold fX2_readPart_16 at h
  refine z_iload_n B 1 dX2_readPart_16 rfl rfl ?_
  refine z_iconst B dX2_readPart_17 ?_
  refine z_icmp_ne (tgt := 63) B dX2_readPart_18 (by decide) h (fun h => ?_) (fun h => ?_)
  · exact rX2_readPart_63 B hr hrec _ _ _ _ h
  · refine z_iload_n B 3 dX2_readPart_21 rfl rfl ?_
    refine z_bipush B dX2_readPart_22 (by decide) ?_
    refine z_icmp_ne (tgt := 63) B dX2_readPart_24 (by decide) h (fun h => ?_) (fun h => ?_)
    · exact rX2_readPart_63 B hr hrec _ _ _ _ h
    · exact rX2_readPart_27 B hr hrec _ _ _ _ h
set_option maxHeartbeats 4000000 in
set_option maxRecDepth 100000 in
theorem rX2_readPart_E (B : hg_B p s m args meth c cX2_readPart RX2 wsL_law 7 D cI cA ad 0 A) (hr : meth.sig.returnType = none) {nn : Nat} {rec : hg_W → Int → Int → Option (hg_W × Int)} (hrec : ∀ (w : hg_W) (a1 a2 : Int) (w2 : hg_W) (r2 : Int), rec w a1 a2 = some (w2, r2) → hg_Mv l yX2_readPart wxX2_readPart (rmX2_readPart nn) D cI cA ad 0 w [.ref (ad 17), .int (hg_I a1), .int (hg_I a2)] w2) {a1 : Int} {a2 : Int} {w1 : hg_W} {r1 : Int} {w : hg_W} (h : fX2_readPart_E rec w a1 a2 = some (w1, r1)) : hg_At p l e (rmX2_readPart (nn + 1)) s m args below meth c D cI cA ad 0 A (MQ below (hg_Qv D cI cA ad 0 A w1) args s 0 0 A) 7 w [(0, .ref (ad 17)), (1, .int (hg_I a1)), (2, .int (hg_I a2))] 0 [] := by
  unfold fX2_readPart_E at h
  refine z_aload_n B 0 dX2_readPart_0 rfl rfl ?_
  refine z_get2 (v := .int (hg_I (w 17 6))) B 6 dX2_readPart_1 inlX2 (by decide) rfl (by decide) (wl_11 3 rfl) rfl rfl ?_
  refine z_istore_n B [(3, .int (hg_I (w 17 6))), (0, .ref (ad 17)), (1, .int (hg_I a1)), (2, .int (hg_I a2))] dX2_readPart_4 rfl (by decide) rfl ?_
  refine z_iload_n B 2 dX2_readPart_5 rfl rfl ?_
  refine z_iconst B dX2_readPart_6 ?_
  refine z_icmp_ne (tgt := 16) B dX2_readPart_7 (by decide) h (fun h => ?_) (fun h => ?_)
  · refine z_lv (lv' := [(0, .ref (ad 17)), (1, .int (hg_I a1)), (2, .int (hg_I a2)), (3, .int (hg_I (w 17 6)))]) B [1, 2, 3, 0] rfl ?_
    exact rX2_readPart_16 B hr hrec _ _ _ _ h
  · refine z_iload_n B 0 dX2_readPart_10 rfl rfl ?_
    refine z_bipush B dX2_readPart_11 (by decide) ?_
    refine z_icmp_eq (tgt := 27) B dX2_readPart_13 (by decide) h (fun h => ?_) (fun h => ?_)
    · refine z_lv (lv' := [(0, .ref (ad 17)), (1, .int (hg_I a1)), (2, .int (hg_I a2)), (3, .int (hg_I (w 17 6)))]) B [1, 2, 3, 0] rfl ?_
      exact rX2_readPart_27 B hr hrec _ _ _ _ h
    · refine z_lv (lv' := [(0, .ref (ad 17)), (1, .int (hg_I a1)), (2, .int (hg_I a2)), (3, .int (hg_I (w 17 6)))]) B [1, 2, 3, 0] rfl ?_
      exact rX2_readPart_16 B hr hrec _ _ _ _ h
set_option maxHeartbeats 4000000 in
set_option maxRecDepth 100000 in
theorem c_X2_readPart {l : Launch} {D : va_G} {cI cA : ClassId} {ad : Nat → Nat} : ∀ (nn : Nat) (w : hg_W) (a1 a2 : Int) (w1 : hg_W) (r1 : Int), fX2_readPart nn w a1 a2 = some (w1, r1) → hg_Mv l yX2_readPart wxX2_readPart (rmX2_readPart nn) D cI cA ad 0 w [.ref (ad 17), .int (hg_I a1), .int (hg_I a2)] w1 := by
  intro nn
  induction nn with
  | zero => intro w a1 a2 w1 r1 h; cases h
  | succ nn ih =>
    intro w a1 a2 w1 r1 h
    simp only [fX2_readPart] at h
    refine z_metv cX2_readPart 7 none (by decide) (Nat.le_of_ble_eq_true rfl) ?_
    intro p e s m args below meth c A B hr
    exact rX2_readPart_E B hr ih h
abbrev wxX2_read : List Cond := Cond.code yX2_read cX2_read 4 (some .int) :: wsL_law
def fX2_read_83   (w : hg_W) : Option (hg_W × Int) :=
  some (w, wr (w 17 8))
def fX2_read_70   (w : hg_W) : Option (hg_W × Int) :=
  if wr (w 17 6) = wr (-20) then
    (
      fX2_read_83 w
    )
  else
    hg_bd (fX2_refuse w) fun w1 _ =>
    fX2_read_83 w1
def fX2_read_26   : Nat → hg_W → Nat → Int → Option (hg_W × Int)
  | 0, _, _, _ => none
  | n + 1, w, x2, x3 =>
    if wr 3 ≤ wr x3 then
      (
        fX2_read_70 w
      )
    else
      (hg_al 0 x2).bind fun v1 =>
      if wr v1 ≤ wr x3 then
        (
          fX2_read_70 w
        )
      else
        hg_bd (fX2_must w ((-22) - x3)) fun w3 _ =>
        hg_bd (fX2_readPart 64 w3 0 0) fun w6 _ =>
        hg_bd (fX2_must w6 (-18)) fun w9 _ =>
        (hg_as 0 w9 x2 x3 (w9 17 3)).bind fun w12 =>
        fX2_read_26 n w12 x2 (x3 + 1)
def fX2_read (w : hg_W) (a1 : Nat) (a2 : Nat) : Option (hg_W × Int) :=
  (hg_pr w 17 2 (a1 : Int)).bind fun w1 =>
  (hg_pt w1 17 3 0).bind fun w3 =>
  (hg_pt w3 17 4 0).bind fun w5 =>
  (hg_pt w5 17 8 (-1)).bind fun w7 =>
  hg_bd (fX2_step w7) fun w9 _ =>
  fX2_read_26 hg_F w9 a2 0
set_option maxHeartbeats 4000000 in
set_option maxRecDepth 100000 in
abbrev rmX2_read : Room := { frames := 77, cells := 0, slots := 0, locals := 2034 }
set_option maxHeartbeats 4000000 in
set_option maxRecDepth 100000 in
theorem rX2_read_83 (B : hg_B p s m args meth c cX2_read RX2 wsL_law 4 D cI cA ad 0 A) (hr : meth.sig.returnType = (some .int)) {w1 : hg_W} {r1 : Int} : ∀ (w : hg_W), fX2_read_83 w = some (w1, r1) → hg_At p l e (rmX2_read) s m args below meth c D cI cA ad 0 A (MQ below (hg_Qi D cI cA ad 0 A w1 r1) args s 0 0 A) 4 w [(0, .ref (ad 17))] 83 [] := by
  intro w h
  unfold fX2_read_83 at h
  refine z_aload_n B 0 dX2_read_83 rfl rfl ?_
  refine z_get2 (v := .int (hg_I (w 17 8))) B 8 dX2_read_84 inlX2 (by decide) rfl (by decide) (wl_11 2 rfl) rfl rfl ?_
  exact z_iret B hr dX2_read_87 h
set_option maxHeartbeats 4000000 in
set_option maxRecDepth 100000 in
theorem rX2_read_70 (B : hg_B p s m args meth c cX2_read RX2 wsL_law 4 D cI cA ad 0 A) (hr : meth.sig.returnType = (some .int)) {w1 : hg_W} {r1 : Int} : ∀ (w : hg_W), fX2_read_70 w = some (w1, r1) → hg_At p l e (rmX2_read) s m args below meth c D cI cA ad 0 A (MQ below (hg_Qi D cI cA ad 0 A w1 r1) args s 0 0 A) 4 w [(0, .ref (ad 17))] 70 [] := by
  intro w h
  unfold fX2_read_70 at h
  refine z_aload_n B 0 dX2_read_70 rfl rfl ?_
  refine z_get2 (v := .int (hg_I (w 17 6))) B 6 dX2_read_71 inlX2 (by decide) rfl (by decide) (wl_11 3 rfl) rfl rfl ?_
  refine z_bipush B dX2_read_74 (by decide) ?_
  refine z_icmp_eq (tgt := 83) B dX2_read_76 (by decide) h (fun h => ?_) (fun h => ?_)
  · exact rX2_read_83 B hr _ h
  · refine z_aload_n B 0 dX2_read_79 rfl rfl ?_
    obtain ⟨w1, v2, q3, h⟩ := hg_bd_some h
    refine z_callvV (a := 17) (ci := 2) (N := 9) (T := TX2) (C := RX2) (As := []) (n := 0) B dX2_read_80 (c_X2_refuse q3) (gl_V (wl_14 15 rfl) (wl_14 16 rfl) (wl_14 17 rfl) (wl_1 18 rfl) (wl_14 18 rfl)) rfl ⟨rfl, rfl⟩ (by decide +kernel) ⟨Nat.le_of_ble_eq_true rfl, Nat.le_of_ble_eq_true rfl⟩ (by decide) rfl (by decide) rfl rfl rfl (Nat.le_of_ble_eq_true rfl) ?_
    exact rX2_read_83 B hr _ h
set_option maxHeartbeats 4000000 in
set_option maxRecDepth 100000 in
theorem rX2_read_26 (B : hg_B p s m args meth c cX2_read RX2 wsL_law 4 D cI cA ad 0 A) (hr : meth.sig.returnType = (some .int)) {w1 : hg_W} {r1 : Int} : ∀ (n : Nat), ∀ (w : hg_W) (x2 : Nat) (x3 : Int), fX2_read_26 n w x2 x3 = some (w1, r1) → hg_At p l e (rmX2_read) s m args below meth c D cI cA ad 0 A (MQ below (hg_Qi D cI cA ad 0 A w1 r1) args s 0 0 A) 4 w [(0, .ref (ad 17)), (2, .ref (ad x2)), (3, .int (hg_I x3))] 26 [] := by
  intro n
  induction n with
  | zero =>
    intro w x2 x3 h
    cases h
  | succ n ih =>
    intro w x2 x3 h
    simp only [fX2_read_26] at h
    refine z_iload_n B 2 dX2_read_26 rfl rfl ?_
    refine z_iconst B dX2_read_27 ?_
    refine z_icmp_ge (tgt := 70) B dX2_read_28 (by decide) h (fun h => ?_) (fun h => ?_)
    · refine z_lv (lv' := [(0, .ref (ad 17))]) B [0] rfl ?_
      exact rX2_read_70 B hr _ h
    · refine z_iload_n B 2 dX2_read_31 rfl rfl ?_
      refine z_aload_n B 1 dX2_read_32 rfl rfl ?_
      obtain ⟨v1, q2, h⟩ := Option.bind_eq_some_iff.mp h
      refine z_alen (Or.inl rfl) B dX2_read_33 q2 ?_
      refine z_icmp_ge (tgt := 70) B dX2_read_34 (by decide) h (fun h => ?_) (fun h => ?_)
      · refine z_lv (lv' := [(0, .ref (ad 17))]) B [0] rfl ?_
        exact rX2_read_70 B hr _ h
      · refine z_aload_n B 0 dX2_read_37 rfl rfl ?_
        refine z_bipush B dX2_read_38 (by decide) ?_
        refine z_iload_n B 2 dX2_read_40 rfl rfl ?_
        refine z_isub B dX2_read_41 ?_
        obtain ⟨w3, v4, q5, h⟩ := hg_bd_some h
        refine z_callvV (a := 17) (ci := 2) (N := 9) (T := TX2) (C := RX2) (As := [.int (hg_I ((-22) - x3))]) (n := 1) B dX2_read_42 (c_X2_must q5) (gl_V (wl_14 11 rfl) (wl_14 12 rfl) (wl_14 13 rfl) (wl_1 18 rfl) (wl_14 14 rfl)) rfl ⟨rfl, rfl⟩ (by decide +kernel) ⟨Nat.le_of_ble_eq_true rfl, Nat.le_of_ble_eq_true rfl⟩ (by decide) rfl (by decide) rfl rfl rfl (Nat.le_of_ble_eq_true rfl) ?_
        refine z_aload_n B 0 dX2_read_45 rfl rfl ?_
        refine z_iconst B dX2_read_46 ?_
        refine z_iconst B dX2_read_47 ?_
        obtain ⟨w6, v7, q8, h⟩ := hg_bd_some h
        refine z_callvS (As := [.ref (ad 17), .int (hg_I 0), .int (hg_I 0)]) (n := 3) B dX2_read_48 (c_X2_readPart 64 _ _ _ _ _ q8) (gl_S (wl_14 19 rfl) (wl_14 20 rfl) (wl_1 18 rfl) (wl_14 21 rfl)) rfl ⟨rfl, rfl⟩ (by decide +kernel) ⟨Nat.le_of_ble_eq_true rfl, Nat.le_of_ble_eq_true rfl⟩ rfl rfl (Nat.le_of_ble_eq_true rfl) ?_
        refine z_aload_n B 0 dX2_read_51 rfl rfl ?_
        refine z_bipush B dX2_read_52 (by decide) ?_
        obtain ⟨w9, v10, q11, h⟩ := hg_bd_some h
        refine z_callvV (a := 17) (ci := 2) (N := 9) (T := TX2) (C := RX2) (As := [.int (hg_I (-18))]) (n := 1) B dX2_read_54 (c_X2_must q11) (gl_V (wl_14 11 rfl) (wl_14 12 rfl) (wl_14 13 rfl) (wl_1 18 rfl) (wl_14 14 rfl)) rfl ⟨rfl, rfl⟩ (by decide +kernel) ⟨Nat.le_of_ble_eq_true rfl, Nat.le_of_ble_eq_true rfl⟩ (by decide) rfl (by decide) rfl rfl rfl (Nat.le_of_ble_eq_true rfl) ?_
        refine z_aload_n B 1 dX2_read_57 rfl rfl ?_
        refine z_iload_n B 2 dX2_read_58 rfl rfl ?_
        refine z_aload_n B 0 dX2_read_59 rfl rfl ?_
        refine z_get2 (v := .int (hg_I (w9 17 3))) B 3 dX2_read_60 inlX2 (by decide) rfl (by decide) (wl_11 0 rfl) rfl rfl ?_
        obtain ⟨w12, q13, h⟩ := Option.bind_eq_some_iff.mp h
        refine z_iast (Or.inl rfl) B dX2_read_63 q13 ?_
        refine z_iinc B 2 [(3, .int (hg_I (x3 + 1))), (0, .ref (ad 17)), (2, .ref (ad x2))] dX2_read_64 rfl (by decide) rfl ?_
        refine z_goto (tgt := 26) B dX2_read_67 (by decide) ?_
        refine z_lv (lv' := [(0, .ref (ad 17)), (2, .ref (ad x2)), (3, .int (hg_I (x3 + 1)))]) B [1, 2, 0] rfl ?_
        exact ih _ _ _ h
set_option maxHeartbeats 4000000 in
set_option maxRecDepth 100000 in
theorem rX2_read_E (B : hg_B p s m args meth c cX2_read RX2 wsL_law 4 D cI cA ad 0 A) (hr : meth.sig.returnType = (some .int)) {a1 : Nat} {a2 : Nat} {w1 : hg_W} {r1 : Int} {w : hg_W} (h : fX2_read w a1 a2 = some (w1, r1)) : hg_At p l e (rmX2_read) s m args below meth c D cI cA ad 0 A (MQ below (hg_Qi D cI cA ad 0 A w1 r1) args s 0 0 A) 4 w [(0, .ref (ad 17)), (1, .ref (ad a1)), (2, .ref (ad a2))] 0 [] := by
  unfold fX2_read at h
  refine z_aload_n B 0 dX2_read_0 rfl rfl ?_
  refine z_aload_n B 1 dX2_read_1 rfl rfl ?_
  obtain ⟨w1, q2, h⟩ := Option.bind_eq_some_iff.mp h
  refine z_putcode B dX2_read_2 q2 inlX2 (by decide) rfl (wl_3 0 rfl) ?_
  refine z_aload_n B 0 dX2_read_5 rfl rfl ?_
  refine z_iconst B dX2_read_6 ?_
  obtain ⟨w3, q4, h⟩ := Option.bind_eq_some_iff.mp h
  refine z_put2 B 3 dX2_read_7 inlX2 (by decide) rfl (by decide) (wl_11 0 rfl) rfl rfl .int (by decide +kernel) rfl rfl hg_fs2_3 q4 ?_
  refine z_aload_n B 0 dX2_read_10 rfl rfl ?_
  refine z_iconst B dX2_read_11 ?_
  obtain ⟨w5, q6, h⟩ := Option.bind_eq_some_iff.mp h
  refine z_put2 B 4 dX2_read_12 inlX2 (by decide) rfl (by decide) (wl_11 1 rfl) rfl rfl .int (by decide +kernel) rfl rfl hg_fs2_4 q6 ?_
  refine z_aload_n B 0 dX2_read_15 rfl rfl ?_
  refine z_iconst B dX2_read_16 ?_
  obtain ⟨w7, q8, h⟩ := Option.bind_eq_some_iff.mp h
  refine z_put2 B 8 dX2_read_17 inlX2 (by decide) rfl (by decide) (wl_11 2 rfl) rfl rfl .int (by decide +kernel) rfl rfl hg_fs2_8 q8 ?_
  refine z_aload_n B 0 dX2_read_20 rfl rfl ?_
  obtain ⟨w9, v10, q11, h⟩ := hg_bd_some h
  refine z_callvV (a := 17) (ci := 2) (N := 9) (T := TX2) (C := RX2) (As := []) (n := 0) B dX2_read_21 (c_X2_step q11) (gl_V (wl_11 4 rfl) (wl_11 5 rfl) (wl_11 6 rfl) (wl_1 18 rfl) (wl_11 7 rfl)) rfl ⟨rfl, rfl⟩ (by decide +kernel) ⟨Nat.le_of_ble_eq_true rfl, Nat.le_of_ble_eq_true rfl⟩ (by decide) rfl (by decide) rfl rfl rfl (Nat.le_of_ble_eq_true rfl) ?_
  refine z_iconst B dX2_read_24 ?_
  refine z_istore_n B [(3, .int (hg_I 0)), (0, .ref (ad 17)), (1, .ref (ad a1)), (2, .ref (ad a2))] dX2_read_25 rfl (by decide) rfl ?_
  refine z_lv (lv' := [(0, .ref (ad 17)), (2, .ref (ad a2)), (3, .int (hg_I 0))]) B [1, 3, 0] rfl ?_
  exact rX2_read_26 B hr hg_F _ _ _ h
set_option maxHeartbeats 4000000 in
set_option maxRecDepth 100000 in
theorem c_X2_read {l : Launch} {D : va_G} {cI cA : ClassId} {ad : Nat → Nat} {a1 : Nat} {a2 : Nat} {w w1 : hg_W} {r1 : Int} (h : fX2_read w a1 a2 = some (w1, r1)) : hg_Mi l yX2_read wxX2_read rmX2_read D cI cA ad 0 w [.ref (ad 17), .ref (ad a1), .ref (ad a2)] w1 r1 := by
  refine z_meti cX2_read 4 (some .int) (by decide) (Nat.le_of_ble_eq_true rfl) ?_
  intro p e s m args below meth c A B hr
  exact rX2_read_E B hr h
abbrev wxX4_count : List Cond := Cond.code yX4_count cX4_count 2 (some .int) :: wsL_law
def fX4_count (w : hg_W) (a1 : Int) : Option (hg_W × Int) :=
  if wr a1 = 0 then
    (
      some (w, wr (w 19 9))
    )
  else
  if wr a1 = 1 then
    (
      some (w, wr (w 19 10))
    )
  else
  if wr a1 = 2 then
    (
      some (w, wr (w 19 12))
    )
  else
  if wr a1 = 3 then
    (
      some (w, wr (w 1 3))
    )
  else
  if wr a1 = 4 then
    (
      some (w, wr (w 19 13))
    )
  else
  if wr a1 = 5 then
    (
      some (w, wr (w 17 1))
    )
  else
  if wr a1 = 6 then
    (
      some (w, wr (w 19 11))
    )
  else
  some (w, wr (-2))
set_option maxHeartbeats 4000000 in
set_option maxRecDepth 100000 in
abbrev rmX4_count : Room := { frames := 0, cells := 0, slots := 0, locals := 0 }
set_option maxHeartbeats 4000000 in
set_option maxRecDepth 100000 in
theorem rX4_count_E (B : hg_B p s m args meth c cX4_count RX4 wsL_law 2 D cI cA ad 0 A) (hr : meth.sig.returnType = (some .int)) {a1 : Int} {w1 : hg_W} {r1 : Int} {w : hg_W} (h : fX4_count w a1 = some (w1, r1)) : hg_At p l e (rmX4_count) s m args below meth c D cI cA ad 0 A (MQ below (hg_Qi D cI cA ad 0 A w1 r1) args s 0 0 A) 2 w [(0, .ref (ad 0)), (1, .int (hg_I a1))] 0 [] := by
  unfold fX4_count at h
  refine z_iload_n B 1 dX4_count_0 rfl rfl ?_
  by_cases z1 : wr a1 = 0
  · rw [if_pos z1] at h
    refine z_tabIn (off := 43) (tgt := 44) B dX4_count_1 z1 (by decide) rfl (by decide) ?_
    refine z_aload_n B 0 dX4_count_44 rfl rfl ?_
    refine z_get4 (v := .ref (ad 19)) B 2 dX4_count_45 inlX4 (by decide) rfl (by decide) (wl_1 23 rfl) rfl rfl ?_
    refine z_get0 (v := .int (hg_I (w 19 9))) B 9 dX4_count_48 inlX0 (by decide) rfl (by decide) (wl_7 11 rfl) rfl rfl ?_
    exact z_iret B hr dX4_count_51 h
  rw [if_neg z1] at h
  by_cases z2 : wr a1 = 1
  · rw [if_pos z2] at h
    refine z_tabIn (off := 51) (tgt := 52) B dX4_count_1 z2 (by decide) rfl (by decide) ?_
    refine z_aload_n B 0 dX4_count_52 rfl rfl ?_
    refine z_get4 (v := .ref (ad 19)) B 2 dX4_count_53 inlX4 (by decide) rfl (by decide) (wl_1 23 rfl) rfl rfl ?_
    refine z_get0 (v := .int (hg_I (w 19 10))) B 10 dX4_count_56 inlX0 (by decide) rfl (by decide) (wl_7 12 rfl) rfl rfl ?_
    exact z_iret B hr dX4_count_59 h
  rw [if_neg z2] at h
  by_cases z3 : wr a1 = 2
  · rw [if_pos z3] at h
    refine z_tabIn (off := 59) (tgt := 60) B dX4_count_1 z3 (by decide) rfl (by decide) ?_
    refine z_aload_n B 0 dX4_count_60 rfl rfl ?_
    refine z_get4 (v := .ref (ad 19)) B 2 dX4_count_61 inlX4 (by decide) rfl (by decide) (wl_1 23 rfl) rfl rfl ?_
    refine z_get0 (v := .int (hg_I (w 19 12))) B 12 dX4_count_64 inlX0 (by decide) rfl (by decide) (wl_7 13 rfl) rfl rfl ?_
    exact z_iret B hr dX4_count_67 h
  rw [if_neg z3] at h
  by_cases z4 : wr a1 = 3
  · rw [if_pos z4] at h
    refine z_tabIn (off := 67) (tgt := 68) B dX4_count_1 z4 (by decide) rfl (by decide) ?_
    refine z_aload_n B 0 dX4_count_68 rfl rfl ?_
    refine z_get4 (v := .ref (ad 1)) B 0 dX4_count_69 inlX4 (by decide) rfl (by decide) (wl_1 15 rfl) rfl rfl ?_
    refine z_get3 (v := .int (hg_I (w 1 3))) B 3 dX4_count_72 inlX3 (by decide) rfl (by decide) (wl_7 14 rfl) rfl rfl ?_
    exact z_iret B hr dX4_count_75 h
  rw [if_neg z4] at h
  by_cases z5 : wr a1 = 4
  · rw [if_pos z5] at h
    refine z_tabIn (off := 75) (tgt := 76) B dX4_count_1 z5 (by decide) rfl (by decide) ?_
    refine z_aload_n B 0 dX4_count_76 rfl rfl ?_
    refine z_get4 (v := .ref (ad 19)) B 2 dX4_count_77 inlX4 (by decide) rfl (by decide) (wl_1 23 rfl) rfl rfl ?_
    refine z_get0 (v := .int (hg_I (w 19 13))) B 13 dX4_count_80 inlX0 (by decide) rfl (by decide) (wl_7 15 rfl) rfl rfl ?_
    exact z_iret B hr dX4_count_83 h
  rw [if_neg z5] at h
  by_cases z6 : wr a1 = 5
  · rw [if_pos z6] at h
    refine z_tabIn (off := 83) (tgt := 84) B dX4_count_1 z6 (by decide) rfl (by decide) ?_
    refine z_aload_n B 0 dX4_count_84 rfl rfl ?_
    refine z_get4 (v := .ref (ad 17)) B 1 dX4_count_85 inlX4 (by decide) rfl (by decide) (wl_1 19 rfl) rfl rfl ?_
    refine z_get2 (v := .int (hg_I (w 17 1))) B 1 dX4_count_88 inlX2 (by decide) rfl (by decide) (wl_7 16 rfl) rfl rfl ?_
    exact z_iret B hr dX4_count_91 h
  rw [if_neg z6] at h
  by_cases z7 : wr a1 = 6
  · rw [if_pos z7] at h
    refine z_tabIn (off := 91) (tgt := 92) B dX4_count_1 z7 (by decide) rfl (by decide) ?_
    refine z_aload_n B 0 dX4_count_92 rfl rfl ?_
    refine z_get4 (v := .ref (ad 19)) B 2 dX4_count_93 inlX4 (by decide) rfl (by decide) (wl_1 23 rfl) rfl rfl ?_
    refine z_get0 (v := .int (hg_I (w 19 11))) B 11 dX4_count_96 inlX0 (by decide) rfl (by decide) (wl_7 17 rfl) rfl rfl ?_
    exact z_iret B hr dX4_count_99 h
  rw [if_neg z7] at h
  refine z_tabOut (tgt := 100) B dX4_count_1 (by omega) (by decide) ?_
  refine z_bipush B dX4_count_100 (by decide) ?_
  exact z_iret B hr dX4_count_102 h
set_option maxHeartbeats 4000000 in
set_option maxRecDepth 100000 in
theorem c_X4_count {l : Launch} {D : va_G} {cI cA : ClassId} {ad : Nat → Nat} {a1 : Int} {w w1 : hg_W} {r1 : Int} (h : fX4_count w a1 = some (w1, r1)) : hg_Mi l yX4_count wxX4_count rmX4_count D cI cA ad 0 w [.ref (ad 0), .int (hg_I a1)] w1 r1 := by
  refine z_meti cX4_count 2 (some .int) (by decide) (Nat.le_of_ble_eq_true rfl) ?_
  intro p e s m args below meth c A B hr
  exact rX4_count_E B hr h
abbrev wxX4_isSort : List Cond := Cond.code yX4_isSort cX4_isSort 1 (some .boolean) :: wsL_law
def fX4_isSort (w : hg_W) (a1 : Int) : Option (hg_W × Int) :=
  if wr a1 < 0 then
    (
      if wr 0 = 0 ∨ wr 0 = 1 then some (w, wr 0) else none
    )
  else
    if wr 6 ≤ wr a1 then
      (
        if wr 0 = 0 ∨ wr 0 = 1 then some (w, wr 0) else none
      )
    else
      if wr 1 = 0 ∨ wr 1 = 1 then some (w, wr 1) else none
set_option maxHeartbeats 4000000 in
set_option maxRecDepth 100000 in
abbrev rmX4_isSort : Room := { frames := 0, cells := 0, slots := 0, locals := 0 }
set_option maxHeartbeats 4000000 in
set_option maxRecDepth 100000 in
theorem rX4_isSort_E (B : hg_B p s m args meth c cX4_isSort RX4 wsL_law 1 D cI cA ad 0 A) (hr : meth.sig.returnType = (some .boolean)) {a1 : Int} {w1 : hg_W} {r1 : Int} {w : hg_W} (h : fX4_isSort w a1 = some (w1, r1)) : hg_At p l e (rmX4_isSort) s m args below meth c D cI cA ad 0 A (MQ below (hg_Qi D cI cA ad 0 A w1 r1) args s 0 0 A) 1 w [(0, .int (hg_I a1))] 0 [] := by
  unfold fX4_isSort at h
  refine z_iload_n B 0 dX4_isSort_0 rfl rfl ?_
  refine z_if_lt (tgt := 14) B dX4_isSort_1 (by decide) h (fun h => ?_) (fun h => ?_)
  · refine z_iconst B dX4_isSort_14 ?_
    exact z_bret B hr dX4_isSort_15 h
  · refine z_iload_n B 0 dX4_isSort_4 rfl rfl ?_
    refine z_bipush B dX4_isSort_5 (by decide) ?_
    refine z_icmp_ge (tgt := 14) B dX4_isSort_7 (by decide) h (fun h => ?_) (fun h => ?_)
    · refine z_iconst B dX4_isSort_14 ?_
      exact z_bret B hr dX4_isSort_15 h
    · refine z_iconst B dX4_isSort_10 ?_
      refine z_goto (tgt := 15) B dX4_isSort_11 (by decide) ?_
      exact z_bret B hr dX4_isSort_15 h
set_option maxHeartbeats 4000000 in
set_option maxRecDepth 100000 in
theorem c_X4_isSort {l : Launch} {D : va_G} {cI cA : ClassId} {ad : Nat → Nat} {a1 : Int} {w w1 : hg_W} {r1 : Int} (h : fX4_isSort w a1 = some (w1, r1)) : hg_Mi l yX4_isSort wxX4_isSort rmX4_isSort D cI cA ad 0 w [.int (hg_I a1)] w1 r1 := by
  refine z_meti cX4_isSort 1 (some .boolean) (by decide) (Nat.le_of_ble_eq_true rfl) ?_
  intro p e s m args below meth c A B hr
  exact rX4_isSort_E B hr h
abbrev wxX4_fill : List Cond := Cond.code yX4_fill cX4_fill 5 (some .int) :: wsL_law
def fX4_fill_66   (w : hg_W) (x1 : Int) (x2 : Int) (x3 : Int) (s0 : Int) : Option (hg_W × Int) :=
  if wr x2 = 0 then
    (
      (hg_as 0 w 20 x1 x3).bind fun w4 =>
      some (w4, wr s0)
    )
  else
    hg_bd (fX0_setInHat 19 w x1 x3) fun w1 _ =>
    some (w1, wr s0)
def fX4_fill_35   (w : hg_W) (x1 : Int) (x2 : Int) (x3 : Int) (s0 : Int) (s1 : Int) : Option (hg_W × Int) :=
  if wr s0 ≤ wr s1 then
    (
      if wr x2 = 0 then
        (
          (hg_ag 0 w 20 x1).bind fun v3 =>
          fX4_fill_66 w x1 x2 x3 v3
        )
      else
        (hg_ag 0 w 21 x1).bind fun v1 =>
        fX4_fill_66 w x1 x2 x3 v1
    )
  else
    some (w, wr (-7))
def fX4_fill (w : hg_W) (a1 : Int) (a2 : Int) (a3 : Int) : Option (hg_W × Int) :=
  hg_bd (fX4_isSort w a1) fun w1 v2 =>
  if wr v2 = 0 then
    (
      some (w1, wr (-5))
    )
  else
    if wr a2 < 0 then
      (
        some (w1, wr (-7))
      )
    else
      if wr 1 < wr a2 then
        (
          some (w1, wr (-7))
        )
      else
        if wr a3 < 0 then
          (
            some (w1, wr (-7))
          )
        else
          if wr a2 = 0 then
            (
              fX4_fill_35 w1 a1 a2 a3 a3 99
            )
          else
            fX4_fill_35 w1 a1 a2 a3 a3 20
set_option maxHeartbeats 4000000 in
set_option maxRecDepth 100000 in
abbrev rmX4_fill : Room := { frames := 1, cells := 0, slots := 0, locals := 22 }
set_option maxHeartbeats 4000000 in
set_option maxRecDepth 100000 in
theorem rX4_fill_66 (B : hg_B p s m args meth c cX4_fill RX4 wsL_law 5 D cI cA ad 0 A) (hr : meth.sig.returnType = (some .int)) {w1 : hg_W} {r1 : Int} : ∀ (w : hg_W) (x1 : Int) (x2 : Int) (x3 : Int) (s0 : Int), fX4_fill_66 w x1 x2 x3 s0 = some (w1, r1) → hg_At p l e (rmX4_fill) s m args below meth c D cI cA ad 0 A (MQ below (hg_Qi D cI cA ad 0 A w1 r1) args s 0 0 A) 5 w [(0, .ref (ad 0)), (1, .int (hg_I x1)), (2, .int (hg_I x2)), (3, .int (hg_I x3))] 66 [.int (hg_I s0)] := by
  intro w x1 x2 x3 s0 h
  unfold fX4_fill_66 at h
  refine z_istore B [(4, .int (hg_I s0)), (0, .ref (ad 0)), (1, .int (hg_I x1)), (2, .int (hg_I x2)), (3, .int (hg_I x3))] dX4_fill_66 (by decide) rfl ?_
  refine z_iload_n B 3 dX4_fill_68 rfl rfl ?_
  refine z_if_ne (tgt := 85) B dX4_fill_69 (by decide) h (fun h => ?_) (fun h => ?_)
  · refine z_aload_n B 1 dX4_fill_85 rfl rfl ?_
    refine z_get4 (v := .ref (ad 19)) B 2 dX4_fill_86 inlX4 (by decide) rfl (by decide) (wl_1 23 rfl) rfl rfl ?_
    refine z_iload_n B 2 dX4_fill_89 rfl rfl ?_
    refine z_iload_n B 4 dX4_fill_90 rfl rfl ?_
    obtain ⟨w1, v2, q3, h⟩ := hg_bd_some h
    refine z_callvV (a := 19) (ci := 0) (N := 14) (T := TX0) (C := RX0) (As := [.int (hg_I x1), .int (hg_I x3)]) (n := 2) B dX4_fill_91 (c_X0_setInHat (by unfold hg_rd; decide) q3) (gl_V (wl_8 15 rfl) (wl_8 16 rfl) (wl_8 17 rfl) (wl_1 22 rfl) (wl_8 18 rfl)) rfl ⟨rfl, rfl⟩ (by decide +kernel) ⟨Nat.le_of_ble_eq_true rfl, Nat.le_of_ble_eq_true rfl⟩ (by decide) rfl (by decide) rfl rfl rfl (Nat.le_of_ble_eq_true rfl) ?_
    refine z_iload B 0 dX4_fill_94 rfl ?_
    exact z_iret B hr dX4_fill_96 h
  · refine z_aload_n B 1 dX4_fill_72 rfl rfl ?_
    refine z_get4 (v := .ref (ad 19)) B 2 dX4_fill_73 inlX4 (by decide) rfl (by decide) (wl_1 23 rfl) rfl rfl ?_
    refine z_get0 (v := .ref (ad 20)) B 1 dX4_fill_76 inlX0 (by decide) rfl (by decide) (wl_8 10 rfl) rfl rfl ?_
    refine z_iload_n B 2 dX4_fill_79 rfl rfl ?_
    refine z_iload_n B 4 dX4_fill_80 rfl rfl ?_
    obtain ⟨w4, q5, h⟩ := Option.bind_eq_some_iff.mp h
    refine z_iast (Or.inl rfl) B dX4_fill_81 q5 ?_
    refine z_goto (tgt := 94) B dX4_fill_82 (by decide) ?_
    refine z_iload B 0 dX4_fill_94 rfl ?_
    exact z_iret B hr dX4_fill_96 h
set_option maxHeartbeats 4000000 in
set_option maxRecDepth 100000 in
theorem rX4_fill_35 (B : hg_B p s m args meth c cX4_fill RX4 wsL_law 5 D cI cA ad 0 A) (hr : meth.sig.returnType = (some .int)) {w1 : hg_W} {r1 : Int} : ∀ (w : hg_W) (x1 : Int) (x2 : Int) (x3 : Int) (s0 : Int) (s1 : Int), fX4_fill_35 w x1 x2 x3 s0 s1 = some (w1, r1) → hg_At p l e (rmX4_fill) s m args below meth c D cI cA ad 0 A (MQ below (hg_Qi D cI cA ad 0 A w1 r1) args s 0 0 A) 5 w [(0, .ref (ad 0)), (1, .int (hg_I x1)), (2, .int (hg_I x2)), (3, .int (hg_I x3))] 35 [.int (hg_I s1), .int (hg_I s0)] := by
  intro w x1 x2 x3 s0 s1 h
  unfold fX4_fill_35 at h
  refine z_icmp_le (tgt := 41) B dX4_fill_35 (by decide) h (fun h => ?_) (fun h => ?_)
  · refine z_iload_n B 2 dX4_fill_41 rfl rfl ?_
    refine z_if_ne (tgt := 57) B dX4_fill_42 (by decide) h (fun h => ?_) (fun h => ?_)
    · refine z_aload_n B 0 dX4_fill_57 rfl rfl ?_
      refine z_get4 (v := .ref (ad 19)) B 2 dX4_fill_58 inlX4 (by decide) rfl (by decide) (wl_1 23 rfl) rfl rfl ?_
      refine z_get0 (v := .ref (ad 21)) B 2 dX4_fill_61 inlX0 (by decide) rfl (by decide) (wl_8 11 rfl) rfl rfl ?_
      refine z_iload_n B 1 dX4_fill_64 rfl rfl ?_
      obtain ⟨v1, q2, h⟩ := Option.bind_eq_some_iff.mp h
      refine z_iald (Or.inl rfl) B dX4_fill_65 q2 ?_
      exact rX4_fill_66 B hr _ _ _ _ _ h
    · refine z_aload_n B 0 dX4_fill_45 rfl rfl ?_
      refine z_get4 (v := .ref (ad 19)) B 2 dX4_fill_46 inlX4 (by decide) rfl (by decide) (wl_1 23 rfl) rfl rfl ?_
      refine z_get0 (v := .ref (ad 20)) B 1 dX4_fill_49 inlX0 (by decide) rfl (by decide) (wl_8 10 rfl) rfl rfl ?_
      refine z_iload_n B 1 dX4_fill_52 rfl rfl ?_
      obtain ⟨v3, q4, h⟩ := Option.bind_eq_some_iff.mp h
      refine z_iald (Or.inl rfl) B dX4_fill_53 q4 ?_
      refine z_goto (tgt := 66) B dX4_fill_54 (by decide) ?_
      exact rX4_fill_66 B hr _ _ _ _ _ h
  · refine z_bipush B dX4_fill_38 (by decide) ?_
    exact z_iret B hr dX4_fill_40 h
set_option maxHeartbeats 4000000 in
set_option maxRecDepth 100000 in
theorem rX4_fill_E (B : hg_B p s m args meth c cX4_fill RX4 wsL_law 5 D cI cA ad 0 A) (hr : meth.sig.returnType = (some .int)) {a1 : Int} {a2 : Int} {a3 : Int} {w1 : hg_W} {r1 : Int} {w : hg_W} (h : fX4_fill w a1 a2 a3 = some (w1, r1)) : hg_At p l e (rmX4_fill) s m args below meth c D cI cA ad 0 A (MQ below (hg_Qi D cI cA ad 0 A w1 r1) args s 0 0 A) 5 w [(0, .ref (ad 0)), (1, .int (hg_I a1)), (2, .int (hg_I a2)), (3, .int (hg_I a3))] 0 [] := by
  unfold fX4_fill at h
  refine z_iload_n B 1 dX4_fill_0 rfl rfl ?_
  obtain ⟨w1, v2, q3, h⟩ := hg_bd_some h
  refine z_calliS (As := [.int (hg_I a1)]) (n := 1) B dX4_fill_1 (c_X4_isSort q3) (gl_S (wl_8 12 rfl) (wl_8 13 rfl) (wl_1 2 rfl) (wl_8 14 rfl)) rfl ⟨rfl, rfl⟩ (by decide +kernel) ⟨Nat.le_of_ble_eq_true rfl, Nat.le_of_ble_eq_true rfl⟩ rfl rfl (Nat.le_of_ble_eq_true rfl) ?_
  refine z_if_ne (tgt := 10) B dX4_fill_4 (by decide) h (fun h => ?_) (fun h => ?_)
  · refine z_iload_n B 2 dX4_fill_10 rfl rfl ?_
    refine z_if_lt (tgt := 38) B dX4_fill_11 (by decide) h (fun h => ?_) (fun h => ?_)
    · refine z_bipush B dX4_fill_38 (by decide) ?_
      exact z_iret B hr dX4_fill_40 h
    · refine z_iload_n B 2 dX4_fill_14 rfl rfl ?_
      refine z_iconst B dX4_fill_15 ?_
      refine z_icmp_gt (tgt := 38) B dX4_fill_16 (by decide) h (fun h => ?_) (fun h => ?_)
      · refine z_bipush B dX4_fill_38 (by decide) ?_
        exact z_iret B hr dX4_fill_40 h
      · refine z_iload_n B 3 dX4_fill_19 rfl rfl ?_
        refine z_if_lt (tgt := 38) B dX4_fill_20 (by decide) h (fun h => ?_) (fun h => ?_)
        · refine z_bipush B dX4_fill_38 (by decide) ?_
          exact z_iret B hr dX4_fill_40 h
        · refine z_iload_n B 3 dX4_fill_23 rfl rfl ?_
          refine z_iload_n B 2 dX4_fill_24 rfl rfl ?_
          refine z_if_ne (tgt := 33) B dX4_fill_25 (by decide) h (fun h => ?_) (fun h => ?_)
          · refine z_bipush B dX4_fill_33 (by decide) ?_
            exact rX4_fill_35 B hr _ _ _ _ _ _ h
          · refine z_bipush B dX4_fill_28 (by decide) ?_
            refine z_goto (tgt := 35) B dX4_fill_30 (by decide) ?_
            exact rX4_fill_35 B hr _ _ _ _ _ _ h
  · refine z_bipush B dX4_fill_7 (by decide) ?_
    exact z_iret B hr dX4_fill_9 h
set_option maxHeartbeats 4000000 in
set_option maxRecDepth 100000 in
theorem c_X4_fill {l : Launch} {D : va_G} {cI cA : ClassId} {ad : Nat → Nat} {a1 : Int} {a2 : Int} {a3 : Int} {w w1 : hg_W} {r1 : Int} (h : fX4_fill w a1 a2 a3 = some (w1, r1)) : hg_Mi l yX4_fill wxX4_fill rmX4_fill D cI cA ad 0 w [.ref (ad 0), .int (hg_I a1), .int (hg_I a2), .int (hg_I a3)] w1 r1 := by
  refine z_meti cX4_fill 5 (some .int) (by decide) (Nat.le_of_ble_eq_true rfl) ?_
  intro p e s m args below meth c A B hr
  exact rX4_fill_E B hr h
abbrev wxX4_hat : List Cond := Cond.code yX4_hat cX4_hat 3 (some .int) :: wsL_law
def fX4_hat (w : hg_W) (a1 : Int) (a2 : Int) : Option (hg_W × Int) :=
  if wr a2 = wr 2 then
    (
      hg_bd (fX0_worthOfAll 19 w) fun w8 v9 =>
      some (w8, wr v9)
    )
  else
    hg_bd (fX4_isSort w a1) fun w1 v2 =>
    if wr v2 = 0 then
      (
        some (w1, wr (-5))
      )
    else
      if wr a2 < 0 then
        (
          some (w1, wr (-7))
        )
      else
        if wr a2 ≤ wr 1 then
          (
            if wr a2 = 0 then
              (
                (hg_ag 0 w1 20 a1).bind fun v6 =>
                some (w1, wr v6)
              )
            else
              (hg_ag 0 w1 21 a1).bind fun v4 =>
              some (w1, wr v4)
          )
        else
          some (w1, wr (-7))
set_option maxHeartbeats 4000000 in
set_option maxRecDepth 100000 in
abbrev rmX4_hat : Room := { frames := 1, cells := 0, slots := 0, locals := 22 }
set_option maxHeartbeats 4000000 in
set_option maxRecDepth 100000 in
theorem rX4_hat_E (B : hg_B p s m args meth c cX4_hat RX4 wsL_law 3 D cI cA ad 0 A) (hr : meth.sig.returnType = (some .int)) {a1 : Int} {a2 : Int} {w1 : hg_W} {r1 : Int} {w : hg_W} (h : fX4_hat w a1 a2 = some (w1, r1)) : hg_At p l e (rmX4_hat) s m args below meth c D cI cA ad 0 A (MQ below (hg_Qi D cI cA ad 0 A w1 r1) args s 0 0 A) 3 w [(0, .ref (ad 0)), (1, .int (hg_I a1)), (2, .int (hg_I a2))] 0 [] := by
  unfold fX4_hat at h
  refine z_iload_n B 2 dX4_hat_0 rfl rfl ?_
  refine z_iconst B dX4_hat_1 ?_
  refine z_icmp_ne (tgt := 13) B dX4_hat_2 (by decide) h (fun h => ?_) (fun h => ?_)
  · refine z_iload_n B 1 dX4_hat_13 rfl rfl ?_
    obtain ⟨w1, v2, q3, h⟩ := hg_bd_some h
    refine z_calliS (As := [.int (hg_I a1)]) (n := 1) B dX4_hat_14 (c_X4_isSort q3) (gl_S (wl_8 12 rfl) (wl_8 13 rfl) (wl_1 2 rfl) (wl_8 14 rfl)) rfl ⟨rfl, rfl⟩ (by decide +kernel) ⟨Nat.le_of_ble_eq_true rfl, Nat.le_of_ble_eq_true rfl⟩ rfl rfl (Nat.le_of_ble_eq_true rfl) ?_
    refine z_if_ne (tgt := 23) B dX4_hat_17 (by decide) h (fun h => ?_) (fun h => ?_)
    · refine z_iload_n B 2 dX4_hat_23 rfl rfl ?_
      refine z_if_lt (tgt := 32) B dX4_hat_24 (by decide) h (fun h => ?_) (fun h => ?_)
      · refine z_bipush B dX4_hat_32 (by decide) ?_
        exact z_iret B hr dX4_hat_34 h
      · refine z_iload_n B 2 dX4_hat_27 rfl rfl ?_
        refine z_iconst B dX4_hat_28 ?_
        refine z_icmp_le (tgt := 35) B dX4_hat_29 (by decide) h (fun h => ?_) (fun h => ?_)
        · refine z_iload_n B 2 dX4_hat_35 rfl rfl ?_
          refine z_if_ne (tgt := 51) B dX4_hat_36 (by decide) h (fun h => ?_) (fun h => ?_)
          · refine z_aload_n B 0 dX4_hat_51 rfl rfl ?_
            refine z_get4 (v := .ref (ad 19)) B 2 dX4_hat_52 inlX4 (by decide) rfl (by decide) (wl_1 23 rfl) rfl rfl ?_
            refine z_get0 (v := .ref (ad 21)) B 2 dX4_hat_55 inlX0 (by decide) rfl (by decide) (wl_8 11 rfl) rfl rfl ?_
            refine z_iload_n B 1 dX4_hat_58 rfl rfl ?_
            obtain ⟨v4, q5, h⟩ := Option.bind_eq_some_iff.mp h
            refine z_iald (Or.inl rfl) B dX4_hat_59 q5 ?_
            exact z_iret B hr dX4_hat_60 h
          · refine z_aload_n B 0 dX4_hat_39 rfl rfl ?_
            refine z_get4 (v := .ref (ad 19)) B 2 dX4_hat_40 inlX4 (by decide) rfl (by decide) (wl_1 23 rfl) rfl rfl ?_
            refine z_get0 (v := .ref (ad 20)) B 1 dX4_hat_43 inlX0 (by decide) rfl (by decide) (wl_8 10 rfl) rfl rfl ?_
            refine z_iload_n B 1 dX4_hat_46 rfl rfl ?_
            obtain ⟨v6, q7, h⟩ := Option.bind_eq_some_iff.mp h
            refine z_iald (Or.inl rfl) B dX4_hat_47 q7 ?_
            refine z_goto (tgt := 60) B dX4_hat_48 (by decide) ?_
            exact z_iret B hr dX4_hat_60 h
        · refine z_bipush B dX4_hat_32 (by decide) ?_
          exact z_iret B hr dX4_hat_34 h
    · refine z_bipush B dX4_hat_20 (by decide) ?_
      exact z_iret B hr dX4_hat_22 h
  · refine z_aload_n B 0 dX4_hat_5 rfl rfl ?_
    refine z_get4 (v := .ref (ad 19)) B 2 dX4_hat_6 inlX4 (by decide) rfl (by decide) (wl_1 23 rfl) rfl rfl ?_
    obtain ⟨w8, v9, q10, h⟩ := hg_bd_some h
    refine z_calliV (a := 19) (ci := 0) (N := 14) (T := TX0) (C := RX0) (As := []) (n := 0) B dX4_hat_9 (c_X0_worthOfAll (by unfold hg_rd; decide) q10) (gl_V (wl_9 7 rfl) (wl_9 8 rfl) (wl_9 9 rfl) (wl_1 22 rfl) (wl_9 10 rfl)) rfl ⟨rfl, rfl⟩ (by decide +kernel) ⟨Nat.le_of_ble_eq_true rfl, Nat.le_of_ble_eq_true rfl⟩ (by decide) rfl (by decide) rfl rfl rfl (Nat.le_of_ble_eq_true rfl) ?_
    exact z_iret B hr dX4_hat_12 h
set_option maxHeartbeats 4000000 in
set_option maxRecDepth 100000 in
theorem c_X4_hat {l : Launch} {D : va_G} {cI cA : ClassId} {ad : Nat → Nat} {a1 : Int} {a2 : Int} {w w1 : hg_W} {r1 : Int} (h : fX4_hat w a1 a2 = some (w1, r1)) : hg_Mi l yX4_hat wxX4_hat rmX4_hat D cI cA ad 0 w [.ref (ad 0), .int (hg_I a1), .int (hg_I a2)] w1 r1 := by
  refine z_meti cX4_hat 3 (some .int) (by decide) (Nat.le_of_ble_eq_true rfl) ?_
  intro p e s m args below meth c A B hr
  exact rX4_hat_E B hr h
abbrev wxX4_isByte : List Cond := Cond.code yX4_isByte cX4_isByte 1 (some .boolean) :: wsL_law
def fX4_isByte (w : hg_W) (a1 : Int) : Option (hg_W × Int) :=
  if wr a1 < 0 then
    (
      if wr 0 = 0 ∨ wr 0 = 1 then some (w, wr 0) else none
    )
  else
    if wr 255 < wr a1 then
      (
        if wr 0 = 0 ∨ wr 0 = 1 then some (w, wr 0) else none
      )
    else
      if wr 1 = 0 ∨ wr 1 = 1 then some (w, wr 1) else none
set_option maxHeartbeats 4000000 in
set_option maxRecDepth 100000 in
abbrev rmX4_isByte : Room := { frames := 0, cells := 0, slots := 0, locals := 0 }
set_option maxHeartbeats 4000000 in
set_option maxRecDepth 100000 in
theorem rX4_isByte_E (B : hg_B p s m args meth c cX4_isByte RX4 wsL_law 1 D cI cA ad 0 A) (hr : meth.sig.returnType = (some .boolean)) {a1 : Int} {w1 : hg_W} {r1 : Int} {w : hg_W} (h : fX4_isByte w a1 = some (w1, r1)) : hg_At p l e (rmX4_isByte) s m args below meth c D cI cA ad 0 A (MQ below (hg_Qi D cI cA ad 0 A w1 r1) args s 0 0 A) 1 w [(0, .int (hg_I a1))] 0 [] := by
  unfold fX4_isByte at h
  refine z_iload_n B 0 dX4_isByte_0 rfl rfl ?_
  refine z_if_lt (tgt := 15) B dX4_isByte_1 (by decide) h (fun h => ?_) (fun h => ?_)
  · refine z_iconst B dX4_isByte_15 ?_
    exact z_bret B hr dX4_isByte_16 h
  · refine z_iload_n B 0 dX4_isByte_4 rfl rfl ?_
    refine z_sipush B dX4_isByte_5 (by decide) ?_
    refine z_icmp_gt (tgt := 15) B dX4_isByte_8 (by decide) h (fun h => ?_) (fun h => ?_)
    · refine z_iconst B dX4_isByte_15 ?_
      exact z_bret B hr dX4_isByte_16 h
    · refine z_iconst B dX4_isByte_11 ?_
      refine z_goto (tgt := 16) B dX4_isByte_12 (by decide) ?_
      exact z_bret B hr dX4_isByte_16 h
set_option maxHeartbeats 4000000 in
set_option maxRecDepth 100000 in
theorem c_X4_isByte {l : Launch} {D : va_G} {cI cA : ClassId} {ad : Nat → Nat} {a1 : Int} {w w1 : hg_W} {r1 : Int} (h : fX4_isByte w a1 = some (w1, r1)) : hg_Mi l yX4_isByte wxX4_isByte rmX4_isByte D cI cA ad 0 w [.int (hg_I a1)] w1 r1 := by
  refine z_meti cX4_isByte 1 (some .boolean) (by decide) (Nat.le_of_ble_eq_true rfl) ?_
  intro p e s m args below meth c A B hr
  exact rX4_isByte_E B hr h
end G_06_hat2
