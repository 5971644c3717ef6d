section G_05_model1
variable {p : Program} {l : Launch} {e : Env} {s : State} {m : MethodId} {args : Array Value} {below : List Frame} {meth : Method} {c : Code} {D : va_G} {cI cA : ClassId} {ad : Nat → Nat} {A : Nat → Prop}
abbrev wxX5_in : List Cond := Cond.code yX5_in cX5_in 3 (some .boolean) :: wsL_law
def fX5_in (w : hg_W) (a1 : Int) (a2 : Int) (a3 : Int) : Option (hg_W × Int) :=
  if wr a1 < wr a2 then
    (
      if wr 0 = 0 ∨ wr 0 = 1 then some (w, wr 0) else none
    )
  else
    if wr a3 < wr a1 then
      (
        if wr 0 = 0 ∨ wr 0 = 1 then some (w, wr 0) else none
      )
    else
      if wr 1 = 0 ∨ wr 1 = 1 then some (w, wr 1) else none
set_option maxHeartbeats 4000000 in
set_option maxRecDepth 100000 in
abbrev rmX5_in : Room := { frames := 0, cells := 0, slots := 0, locals := 0 }
set_option maxHeartbeats 4000000 in
set_option maxRecDepth 100000 in
theorem rX5_in_E (B : hg_B p s m args meth c cX5_in RX5 wsL_law 3 D cI cA ad 1 A) (hr : meth.sig.returnType = (some .boolean)) {a1 : Int} {a2 : Int} {a3 : Int} {w1 : hg_W} {r1 : Int} {w : hg_W} (h : fX5_in w a1 a2 a3 = some (w1, r1)) : hg_At p l e (rmX5_in) s m args below meth c D cI cA ad 1 A (MQ below (hg_Qi D cI cA ad 1 A w1 r1) args s 0 0 A) 3 w [(0, .int (hg_I a1)), (1, .int (hg_I a2)), (2, .int (hg_I a3))] 0 [] := by
  unfold fX5_in at h
  refine z_iload_n B 0 dX5_in_0 rfl rfl ?_
  refine z_iload_n B 1 dX5_in_1 rfl rfl ?_
  refine z_icmp_lt (tgt := 14) B dX5_in_2 (by decide) h (fun h => ?_) (fun h => ?_)
  · refine z_iconst B dX5_in_14 ?_
    exact z_bret B hr dX5_in_15 h
  · refine z_iload_n B 0 dX5_in_5 rfl rfl ?_
    refine z_iload_n B 2 dX5_in_6 rfl rfl ?_
    refine z_icmp_gt (tgt := 14) B dX5_in_7 (by decide) h (fun h => ?_) (fun h => ?_)
    · refine z_iconst B dX5_in_14 ?_
      exact z_bret B hr dX5_in_15 h
    · refine z_iconst B dX5_in_10 ?_
      refine z_goto (tgt := 15) B dX5_in_11 (by decide) ?_
      exact z_bret B hr dX5_in_15 h
set_option maxHeartbeats 4000000 in
set_option maxRecDepth 100000 in
theorem c_X5_in {l : Launch} {D : va_G} {cI cA : ClassId} {ad : Nat → Nat} {a1 : Int} {a2 : Int} {a3 : Int} {w w1 : hg_W} {r1 : Int} (h : fX5_in w a1 a2 a3 = some (w1, r1)) : hg_Mi l yX5_in wxX5_in rmX5_in D cI cA ad 1 w [.int (hg_I a1), .int (hg_I a2), .int (hg_I a3)] w1 r1 := by
  refine z_meti cX5_in 3 (some .boolean) (by decide) (Nat.le_of_ble_eq_true rfl) ?_
  intro p e s m args below meth c A B hr
  exact rX5_in_E B hr h
abbrev wxX5_wordFrom : List Cond := Cond.code yX5_wordFrom cX5_wordFrom 6 (some .int) :: wsL_law
def fX5_wordFrom_88 (K2 : hg_W → Int → Int → Int → Option (hg_W × Int))  (w : hg_W) (x1 : Int) (x2 : Int) (x3 : Int) (x4 : Int) : Option (hg_W × Int) :=
  if wr x4 = 0 then
    (
      K2 w x1 x2 (x3 + 1)
    )
  else
    some (w, wr x3)
def fX5_wordFrom_80 (K2 : hg_W → Int → Int → Int → Option (hg_W × Int)) (K26 : hg_W → Int → Int → Int → Int → Int → Option (hg_W × Int))  (w : hg_W) (x1 : Int) (x2 : Int) (x3 : Int) (x5 : Int) (s0 : Int) : Option (hg_W × Int) :=
  K26 w x1 x2 x3 s0 (x5 + 1)
def fX5_wordFrom_72 (K2 : hg_W → Int → Int → Int → Option (hg_W × Int)) (K26 : hg_W → Int → Int → Int → Int → Int → Option (hg_W × Int))  (w : hg_W) (x1 : Int) (x2 : Int) (x3 : Int) (x5 : Int) (s0 : Int) (s1 : Int) : Option (hg_W × Int) :=
  if wr s0 = wr s1 then
    (
      fX5_wordFrom_80 K2 K26 w x1 x2 x3 x5 1
    )
  else
    fX5_wordFrom_80 K2 K26 w x1 x2 x3 x5 0
def fX5_wordFrom_26 (K2 : hg_W → Int → Int → Int → Option (hg_W × Int))  : Nat → hg_W → Int → Int → Int → Int → Int → Option (hg_W × Int)
  | 0, _, _, _, _, _, _ => none
  | n + 1, w, x1, x2, x3, x4, x5 =>
    if wr 8 ≤ wr x5 then
      (
        fX5_wordFrom_88 K2 w x1 x2 x3 x4
      )
    else
      if wr x4 = 0 then
        (
          fX5_wordFrom_88 K2 w x1 x2 x3 x4
        )
      else
        (hg_ag 1 w 14 ((8 * x3) + x5)).bind fun v1 =>
        if wr x2 ≤ wr (x1 + x5) then
          (
            fX5_wordFrom_72 K2 (fX5_wordFrom_26 K2 n) w x1 x2 x3 x5 v1 32
          )
        else
          (hg_ag 1 w 5 (x1 + x5)).bind fun v3 =>
          fX5_wordFrom_72 K2 (fX5_wordFrom_26 K2 n) w x1 x2 x3 x5 v1 v3
def fX5_wordFrom_21 (K2 : hg_W → Int → Int → Int → Option (hg_W × Int))  (w : hg_W) (x1 : Int) (x2 : Int) (x3 : Int) (s0 : Int) : Option (hg_W × Int) :=
  fX5_wordFrom_26 K2 hg_F w x1 x2 x3 s0 0
def fX5_wordFrom_2   : Nat → hg_W → Int → Int → Int → Option (hg_W × Int)
  | 0, _, _, _, _ => none
  | n + 1, w, x1, x2, x3 =>
    if wr 12 ≤ wr x3 then
      (
        some (w, wr 12)
      )
    else
      if wr 8 < wr (x2 - x1) then
        (
          fX5_wordFrom_21 (fX5_wordFrom_2 n) w x1 x2 x3 0
        )
      else
        fX5_wordFrom_21 (fX5_wordFrom_2 n) w x1 x2 x3 1
def fX5_wordFrom (w : hg_W) (a1 : Int) (a2 : Int) : Option (hg_W × Int) :=
  fX5_wordFrom_2 hg_F w a1 a2 0
set_option maxHeartbeats 4000000 in
set_option maxRecDepth 100000 in
abbrev rmX5_wordFrom : Room := { frames := 0, cells := 0, slots := 0, locals := 0 }
set_option maxHeartbeats 4000000 in
set_option maxRecDepth 100000 in
theorem rX5_wordFrom_88 (B : hg_B p s m args meth c cX5_wordFrom RX5 wsL_law 6 D cI cA ad 1 A) (hr : meth.sig.returnType = (some .int)) {w1 : hg_W} {r1 : Int} {K2 : hg_W → Int → Int → Int → Option (hg_W × Int)} (hK2 : ∀ (w : hg_W) (x1 : Int) (x2 : Int) (x3 : Int), K2 w x1 x2 x3 = some (w1, r1) → hg_At p l e (rmX5_wordFrom) s m args below meth c D cI cA ad 1 A (MQ below (hg_Qi D cI cA ad 1 A w1 r1) args s 0 0 A) 6 w [(0, .ref (ad 0)), (1, .int (hg_I x1)), (2, .int (hg_I x2)), (3, .int (hg_I x3))] 2 []) : ∀ (w : hg_W) (x1 : Int) (x2 : Int) (x3 : Int) (x4 : Int), fX5_wordFrom_88 K2 w x1 x2 x3 x4 = some (w1, r1) → hg_At p l e (rmX5_wordFrom) s m args below meth c D cI cA ad 1 A (MQ below (hg_Qi D cI cA ad 1 A w1 r1) args s 0 0 A) 6 w [(0, .ref (ad 0)), (1, .int (hg_I x1)), (2, .int (hg_I x2)), (3, .int (hg_I x3)), (4, .int (hg_I x4))] 88 [] := by
  intro w x1 x2 x3 x4 h
  unfold fX5_wordFrom_88 at h
  refine z_iload B 4 dX5_wordFrom_88 rfl ?_
  refine z_if_eq (tgt := 95) B dX5_wordFrom_90 (by decide) h (fun h => ?_) (fun h => ?_)
  · refine z_iinc B 3 [(3, .int (hg_I (x3 + 1))), (0, .ref (ad 0)), (1, .int (hg_I x1)), (2, .int (hg_I x2)), (4, .int (hg_I x4))] dX5_wordFrom_95 rfl (by decide) rfl ?_
    refine z_goto (tgt := 2) B dX5_wordFrom_98 (by decide) ?_
    refine z_lv (lv' := [(0, .ref (ad 0)), (1, .int (hg_I x1)), (2, .int (hg_I x2)), (3, .int (hg_I (x3 + 1)))]) B [1, 2, 3, 0] rfl ?_
    exact hK2 _ _ _ _ h
  · refine z_iload_n B 3 dX5_wordFrom_93 rfl rfl ?_
    exact z_iret B hr dX5_wordFrom_94 h
set_option maxHeartbeats 4000000 in
set_option maxRecDepth 100000 in
theorem rX5_wordFrom_80 (B : hg_B p s m args meth c cX5_wordFrom RX5 wsL_law 6 D cI cA ad 1 A) (hr : meth.sig.returnType = (some .int)) {w1 : hg_W} {r1 : Int} {K2 : hg_W → Int → Int → Int → Option (hg_W × Int)} {K26 : hg_W → Int → Int → Int → Int → Int → Option (hg_W × Int)} (hK2 : ∀ (w : hg_W) (x1 : Int) (x2 : Int) (x3 : Int), K2 w x1 x2 x3 = some (w1, r1) → hg_At p l e (rmX5_wordFrom) s m args below meth c D cI cA ad 1 A (MQ below (hg_Qi D cI cA ad 1 A w1 r1) args s 0 0 A) 6 w [(0, .ref (ad 0)), (1, .int (hg_I x1)), (2, .int (hg_I x2)), (3, .int (hg_I x3))] 2 []) (hK26 : ∀ (w : hg_W) (x1 : Int) (x2 : Int) (x3 : Int) (x4 : Int) (x5 : Int), K26 w x1 x2 x3 x4 x5 = some (w1, r1) → hg_At p l e (rmX5_wordFrom) s m args below meth c D cI cA ad 1 A (MQ below (hg_Qi D cI cA ad 1 A w1 r1) args s 0 0 A) 6 w [(0, .ref (ad 0)), (1, .int (hg_I x1)), (2, .int (hg_I x2)), (3, .int (hg_I x3)), (4, .int (hg_I x4)), (5, .int (hg_I x5))] 26 []) : ∀ (w : hg_W) (x1 : Int) (x2 : Int) (x3 : Int) (x5 : Int) (s0 : Int), fX5_wordFrom_80 K2 K26 w x1 x2 x3 x5 s0 = some (w1, r1) → hg_At p l e (rmX5_wordFrom) s m args below meth c D cI cA ad 1 A (MQ below (hg_Qi D cI cA ad 1 A w1 r1) args s 0 0 A) 6 w [(0, .ref (ad 0)), (1, .int (hg_I x1)), (2, .int (hg_I x2)), (3, .int (hg_I x3)), (5, .int (hg_I x5))] 80 [.int (hg_I s0)] := by
  intro w x1 x2 x3 x5 s0 h
  unfold fX5_wordFrom_80 at h
  refine z_istore B [(4, .int (hg_I s0)), (0, .ref (ad 0)), (1, .int (hg_I x1)), (2, .int (hg_I x2)), (3, .int (hg_I x3)), (5, .int (hg_I x5))] dX5_wordFrom_80 (by decide) rfl ?_
  refine z_iinc B 5 [(5, .int (hg_I (x5 + 1))), (4, .int (hg_I s0)), (0, .ref (ad 0)), (1, .int (hg_I x1)), (2, .int (hg_I x2)), (3, .int (hg_I x3))] dX5_wordFrom_82 rfl (by decide) rfl ?_
  refine z_goto (tgt := 26) B dX5_wordFrom_85 (by decide) ?_
  refine z_lv (lv' := [(0, .ref (ad 0)), (1, .int (hg_I x1)), (2, .int (hg_I x2)), (3, .int (hg_I x3)), (4, .int (hg_I s0)), (5, .int (hg_I (x5 + 1)))]) B [2, 3, 4, 5, 1, 0] rfl ?_
  exact hK26 _ _ _ _ _ _ h
set_option maxHeartbeats 4000000 in
set_option maxRecDepth 100000 in
theorem rX5_wordFrom_72 (B : hg_B p s m args meth c cX5_wordFrom RX5 wsL_law 6 D cI cA ad 1 A) (hr : meth.sig.returnType = (some .int)) {w1 : hg_W} {r1 : Int} {K2 : hg_W → Int → Int → Int → Option (hg_W × Int)} {K26 : hg_W → Int → Int → Int → Int → Int → Option (hg_W × Int)} (hK2 : ∀ (w : hg_W) (x1 : Int) (x2 : Int) (x3 : Int), K2 w x1 x2 x3 = some (w1, r1) → hg_At p l e (rmX5_wordFrom) s m args below meth c D cI cA ad 1 A (MQ below (hg_Qi D cI cA ad 1 A w1 r1) args s 0 0 A) 6 w [(0, .ref (ad 0)), (1, .int (hg_I x1)), (2, .int (hg_I x2)), (3, .int (hg_I x3))] 2 []) (hK26 : ∀ (w : hg_W) (x1 : Int) (x2 : Int) (x3 : Int) (x4 : Int) (x5 : Int), K26 w x1 x2 x3 x4 x5 = some (w1, r1) → hg_At p l e (rmX5_wordFrom) s m args below meth c D cI cA ad 1 A (MQ below (hg_Qi D cI cA ad 1 A w1 r1) args s 0 0 A) 6 w [(0, .ref (ad 0)), (1, .int (hg_I x1)), (2, .int (hg_I x2)), (3, .int (hg_I x3)), (4, .int (hg_I x4)), (5, .int (hg_I x5))] 26 []) : ∀ (w : hg_W) (x1 : Int) (x2 : Int) (x3 : Int) (x5 : Int) (s0 : Int) (s1 : Int), fX5_wordFrom_72 K2 K26 w x1 x2 x3 x5 s0 s1 = some (w1, r1) → hg_At p l e (rmX5_wordFrom) s m args below meth c D cI cA ad 1 A (MQ below (hg_Qi D cI cA ad 1 A w1 r1) args s 0 0 A) 6 w [(0, .ref (ad 0)), (1, .int (hg_I x1)), (2, .int (hg_I x2)), (3, .int (hg_I x3)), (5, .int (hg_I x5))] 72 [.int (hg_I s1), .int (hg_I s0)] := by
  intro w x1 x2 x3 x5 s0 s1 h
  unfold fX5_wordFrom_72 at h
  refine z_icmp_ne (tgt := 79) B dX5_wordFrom_72 (by decide) h (fun h => ?_) (fun h => ?_)
  · refine z_iconst B dX5_wordFrom_79 ?_
    exact rX5_wordFrom_80 B hr hK2 hK26 _ _ _ _ _ _ h
  · refine z_iconst B dX5_wordFrom_75 ?_
    refine z_goto (tgt := 80) B dX5_wordFrom_76 (by decide) ?_
    exact rX5_wordFrom_80 B hr hK2 hK26 _ _ _ _ _ _ h
set_option maxHeartbeats 4000000 in
set_option maxRecDepth 100000 in
theorem rX5_wordFrom_26 (B : hg_B p s m args meth c cX5_wordFrom RX5 wsL_law 6 D cI cA ad 1 A) (hr : meth.sig.returnType = (some .int)) {w1 : hg_W} {r1 : Int} {K2 : hg_W → Int → Int → Int → Option (hg_W × Int)} (hK2 : ∀ (w : hg_W) (x1 : Int) (x2 : Int) (x3 : Int), K2 w x1 x2 x3 = some (w1, r1) → hg_At p l e (rmX5_wordFrom) s m args below meth c D cI cA ad 1 A (MQ below (hg_Qi D cI cA ad 1 A w1 r1) args s 0 0 A) 6 w [(0, .ref (ad 0)), (1, .int (hg_I x1)), (2, .int (hg_I x2)), (3, .int (hg_I x3))] 2 []) : ∀ (n : Nat), ∀ (w : hg_W) (x1 : Int) (x2 : Int) (x3 : Int) (x4 : Int) (x5 : Int), fX5_wordFrom_26 K2 n w x1 x2 x3 x4 x5 = some (w1, r1) → hg_At p l e (rmX5_wordFrom) s m args below meth c D cI cA ad 1 A (MQ below (hg_Qi D cI cA ad 1 A w1 r1) args s 0 0 A) 6 w [(0, .ref (ad 0)), (1, .int (hg_I x1)), (2, .int (hg_I x2)), (3, .int (hg_I x3)), (4, .int (hg_I x4)), (5, .int (hg_I x5))] 26 [] := by
  intro n
  induction n with
  | zero =>
    intro w x1 x2 x3 x4 x5 h
    cases h
  | succ n ih =>
    intro w x1 x2 x3 x4 x5 h
    simp only [fX5_wordFrom_26] at h
    refine z_iload B 5 dX5_wordFrom_26 rfl ?_
    refine z_bipush B dX5_wordFrom_28 (by decide) ?_
    refine z_icmp_ge (tgt := 88) B dX5_wordFrom_30 (by decide) h (fun h => ?_) (fun h => ?_)
    · refine z_lv (lv' := [(0, .ref (ad 0)), (1, .int (hg_I x1)), (2, .int (hg_I x2)), (3, .int (hg_I x3)), (4, .int (hg_I x4))]) B [0, 1, 2, 3, 4] rfl ?_
      exact rX5_wordFrom_88 B hr hK2 _ _ _ _ _ h
    · refine z_iload B 4 dX5_wordFrom_33 rfl ?_
      refine z_if_eq (tgt := 88) B dX5_wordFrom_35 (by decide) h (fun h => ?_) (fun h => ?_)
      · refine z_lv (lv' := [(0, .ref (ad 0)), (1, .int (hg_I x1)), (2, .int (hg_I x2)), (3, .int (hg_I x3)), (4, .int (hg_I x4))]) B [0, 1, 2, 3, 4] rfl ?_
        exact rX5_wordFrom_88 B hr hK2 _ _ _ _ _ h
      · refine z_aload_n B 0 dX5_wordFrom_38 rfl rfl ?_
        refine z_get5 (v := .ref (ad 14)) B 24 dX5_wordFrom_39 inlX5 (by decide) rfl (by decide) (wl_4 15 rfl) rfl rfl ?_
        refine z_bipush B dX5_wordFrom_42 (by decide) ?_
        refine z_iload_n B 3 dX5_wordFrom_44 rfl rfl ?_
        refine z_imul B dX5_wordFrom_45 ?_
        refine z_iload B 5 dX5_wordFrom_46 rfl ?_
        refine z_iadd B dX5_wordFrom_48 ?_
        obtain ⟨v1, q2, h⟩ := Option.bind_eq_some_iff.mp h
        refine z_iald (Or.inr rfl) B dX5_wordFrom_49 q2 ?_
        refine z_iload_n B 1 dX5_wordFrom_50 rfl rfl ?_
        refine z_iload B 5 dX5_wordFrom_51 rfl ?_
        refine z_iadd B dX5_wordFrom_53 ?_
        refine z_iload_n B 2 dX5_wordFrom_54 rfl rfl ?_
        refine z_icmp_ge (tgt := 70) B dX5_wordFrom_55 (by decide) h (fun h => ?_) (fun h => ?_)
        · refine z_bipush B dX5_wordFrom_70 (by decide) ?_
          refine z_lv (lv' := [(0, .ref (ad 0)), (1, .int (hg_I x1)), (2, .int (hg_I x2)), (3, .int (hg_I x3)), (5, .int (hg_I x5))]) B [0, 1, 2, 3, 5] rfl ?_
          exact rX5_wordFrom_72 B hr hK2 ih _ _ _ _ _ _ _ h
        · refine z_aload_n B 0 dX5_wordFrom_58 rfl rfl ?_
          refine z_get5 (v := .ref (ad 5)) B 7 dX5_wordFrom_59 inlX5 (by decide) rfl (by decide) (wl_4 6 rfl) rfl rfl ?_
          refine z_iload_n B 1 dX5_wordFrom_62 rfl rfl ?_
          refine z_iload B 5 dX5_wordFrom_63 rfl ?_
          refine z_iadd B dX5_wordFrom_65 ?_
          obtain ⟨v3, q4, h⟩ := Option.bind_eq_some_iff.mp h
          refine z_iald (Or.inr rfl) B dX5_wordFrom_66 q4 ?_
          refine z_goto (tgt := 72) B dX5_wordFrom_67 (by decide) ?_
          refine z_lv (lv' := [(0, .ref (ad 0)), (1, .int (hg_I x1)), (2, .int (hg_I x2)), (3, .int (hg_I x3)), (5, .int (hg_I x5))]) B [0, 1, 2, 3, 5] rfl ?_
          exact rX5_wordFrom_72 B hr hK2 ih _ _ _ _ _ _ _ h
set_option maxHeartbeats 4000000 in
set_option maxRecDepth 100000 in
theorem rX5_wordFrom_21 (B : hg_B p s m args meth c cX5_wordFrom RX5 wsL_law 6 D cI cA ad 1 A) (hr : meth.sig.returnType = (some .int)) {w1 : hg_W} {r1 : Int} {K2 : hg_W → Int → Int → Int → Option (hg_W × Int)} (hK2 : ∀ (w : hg_W) (x1 : Int) (x2 : Int) (x3 : Int), K2 w x1 x2 x3 = some (w1, r1) → hg_At p l e (rmX5_wordFrom) s m args below meth c D cI cA ad 1 A (MQ below (hg_Qi D cI cA ad 1 A w1 r1) args s 0 0 A) 6 w [(0, .ref (ad 0)), (1, .int (hg_I x1)), (2, .int (hg_I x2)), (3, .int (hg_I x3))] 2 []) : ∀ (w : hg_W) (x1 : Int) (x2 : Int) (x3 : Int) (s0 : Int), fX5_wordFrom_21 K2 w x1 x2 x3 s0 = some (w1, r1) → hg_At p l e (rmX5_wordFrom) s m args below meth c D cI cA ad 1 A (MQ below (hg_Qi D cI cA ad 1 A w1 r1) args s 0 0 A) 6 w [(0, .ref (ad 0)), (1, .int (hg_I x1)), (2, .int (hg_I x2)), (3, .int (hg_I x3))] 21 [.int (hg_I s0)] := by
  intro w x1 x2 x3 s0 h
  unfold fX5_wordFrom_21 at h
  refine z_istore B [(4, .int (hg_I s0)), (0, .ref (ad 0)), (1, .int (hg_I x1)), (2, .int (hg_I x2)), (3, .int (hg_I x3))] dX5_wordFrom_21 (by decide) rfl ?_
  refine z_iconst B dX5_wordFrom_23 ?_
  refine z_istore B [(5, .int (hg_I 0)), (4, .int (hg_I s0)), (0, .ref (ad 0)), (1, .int (hg_I x1)), (2, .int (hg_I x2)), (3, .int (hg_I x3))] dX5_wordFrom_24 (by decide) rfl ?_
  refine z_lv (lv' := [(0, .ref (ad 0)), (1, .int (hg_I x1)), (2, .int (hg_I x2)), (3, .int (hg_I x3)), (4, .int (hg_I s0)), (5, .int (hg_I 0))]) B [2, 3, 4, 5, 1, 0] rfl ?_
  exact rX5_wordFrom_26 B hr hK2 hg_F _ _ _ _ _ _ h
set_option maxHeartbeats 4000000 in
set_option maxRecDepth 100000 in
theorem rX5_wordFrom_2 (B : hg_B p s m args meth c cX5_wordFrom RX5 wsL_law 6 D cI cA ad 1 A) (hr : meth.sig.returnType = (some .int)) {w1 : hg_W} {r1 : Int} : ∀ (n : Nat), ∀ (w : hg_W) (x1 : Int) (x2 : Int) (x3 : Int), fX5_wordFrom_2 n w x1 x2 x3 = some (w1, r1) → hg_At p l e (rmX5_wordFrom) s m args below meth c D cI cA ad 1 A (MQ below (hg_Qi D cI cA ad 1 A w1 r1) args s 0 0 A) 6 w [(0, .ref (ad 0)), (1, .int (hg_I x1)), (2, .int (hg_I x2)), (3, .int (hg_I x3))] 2 [] := by
  intro n
  induction n with
  | zero =>
    intro w x1 x2 x3 h
    cases h
  | succ n ih =>
    intro w x1 x2 x3 h
    simp only [fX5_wordFrom_2] at h
    refine z_iload_n B 3 dX5_wordFrom_2 rfl rfl ?_
    refine z_bipush B dX5_wordFrom_3 (by decide) ?_
    refine z_icmp_ge (tgt := 101) B dX5_wordFrom_5 (by decide) h (fun h => ?_) (fun h => ?_)
    · refine z_bipush B dX5_wordFrom_101 (by decide) ?_
      exact z_iret B hr dX5_wordFrom_103 h
    · refine z_iload_n B 2 dX5_wordFrom_8 rfl rfl ?_
      refine z_iload_n B 1 dX5_wordFrom_9 rfl rfl ?_
      refine z_isub B dX5_wordFrom_10 ?_
      refine z_bipush B dX5_wordFrom_11 (by decide) ?_
      refine z_icmp_gt (tgt := 20) B dX5_wordFrom_13 (by decide) h (fun h => ?_) (fun h => ?_)
      · refine z_iconst B dX5_wordFrom_20 ?_
        exact rX5_wordFrom_21 B hr ih _ _ _ _ _ h
      · refine z_iconst B dX5_wordFrom_16 ?_
        refine z_goto (tgt := 21) B dX5_wordFrom_17 (by decide) ?_
        exact rX5_wordFrom_21 B hr ih _ _ _ _ _ h
set_option maxHeartbeats 4000000 in
set_option maxRecDepth 100000 in
theorem rX5_wordFrom_E (B : hg_B p s m args meth c cX5_wordFrom RX5 wsL_law 6 D cI cA ad 1 A) (hr : meth.sig.returnType = (some .int)) {a1 : Int} {a2 : Int} {w1 : hg_W} {r1 : Int} {w : hg_W} (h : fX5_wordFrom w a1 a2 = some (w1, r1)) : hg_At p l e (rmX5_wordFrom) s m args below meth c D cI cA ad 1 A (MQ below (hg_Qi D cI cA ad 1 A w1 r1) args s 0 0 A) 6 w [(0, .ref (ad 0)), (1, .int (hg_I a1)), (2, .int (hg_I a2))] 0 [] := by
  unfold fX5_wordFrom at h
  refine z_iconst B dX5_wordFrom_0 ?_
  refine z_istore_n B [(3, .int (hg_I 0)), (0, .ref (ad 0)), (1, .int (hg_I a1)), (2, .int (hg_I a2))] dX5_wordFrom_1 rfl (by decide) rfl ?_
  refine z_lv (lv' := [(0, .ref (ad 0)), (1, .int (hg_I a1)), (2, .int (hg_I a2)), (3, .int (hg_I 0))]) B [1, 2, 3, 0] rfl ?_
  exact rX5_wordFrom_2 B hr hg_F _ _ _ _ h
set_option maxHeartbeats 4000000 in
set_option maxRecDepth 100000 in
theorem c_X5_wordFrom {l : Launch} {D : va_G} {cI cA : ClassId} {ad : Nat → Nat} {a1 : Int} {a2 : Int} {w w1 : hg_W} {r1 : Int} (h : fX5_wordFrom w a1 a2 = some (w1, r1)) : hg_Mi l yX5_wordFrom wxX5_wordFrom rmX5_wordFrom D cI cA ad 1 w [.ref (ad 0), .int (hg_I a1), .int (hg_I a2)] w1 r1 := by
  refine z_meti cX5_wordFrom 6 (some .int) (by decide) (Nat.le_of_ble_eq_true rfl) ?_
  intro p e s m args below meth c A B hr
  exact rX5_wordFrom_E B hr h
abbrev wxX5_next : List Cond := Cond.code yX5_next cX5_next 3 none :: wsL_law
def fX5_next_390   (w : hg_W) (s1 : Int) : Option (hg_W × Int) :=
  (hg_pt w 0 22 s1).bind fun w1 =>
  (hg_pt w1 0 20 ((w1 0 20) + 1)).bind fun w3 =>
  some (w3, 0)
def fX5_next_379   (w : hg_W) (x1 : Int) (s0 : Int) : Option (hg_W × Int) :=
  if wr s0 = 0 then
    (
      fX5_next_390 w (-1)
    )
  else
    fX5_next_390 w x1
def fX5_next_374   (w : hg_W) (x1 : Int) : Option (hg_W × Int) :=
  fX5_next_379 w x1 1
def fX5_next_320   (w : hg_W) (s1 : Int) : Option (hg_W × Int) :=
  (hg_pt w 0 22 s1).bind fun w1 =>
  some (w1, 0)
def fX5_next_309   (w : hg_W) (x2 : Int) : Option (hg_W × Int) :=
  if wr x2 ≤ wr 4 then
    (
      fX5_next_320 w 1
    )
  else
    fX5_next_320 w (-1)
def fX5_next_290 (K230 : hg_W → Int → Option (hg_W × Int))  (w : hg_W) (x2 : Int) (s1 : Int) : Option (hg_W × Int) :=
  (hg_pt w 0 23 s1).bind fun w1 =>
  (hg_pt w1 0 20 ((w1 0 20) + 1)).bind fun w3 =>
  K230 w3 (x2 + 1)
def fX5_next_230   : Nat → hg_W → Int → Option (hg_W × Int)
  | 0, _, _ => none
  | n + 1, w, x2 =>
    if wr (w 0 8) ≤ wr (w 0 20) then
      (
        fX5_next_309 w x2
      )
    else
      (hg_ag 1 w 5 (w 0 20)).bind fun v1 =>
      hg_bd (fX5_in w v1 48 57) fun w3 v4 =>
      if wr v4 = 0 then
        (
          fX5_next_309 w3 x2
        )
      else
        if wr 4 ≤ wr x2 then
          (
            fX5_next_290 (fX5_next_230 n) w3 x2 0
          )
        else
          (hg_ag 1 w3 5 (w3 0 20)).bind fun v6 =>
          fX5_next_290 (fX5_next_230 n) w3 x2 (((10 * (w3 0 23)) + v6) - 48)
def fX5_next_211   (w : hg_W) (s1 : Int) : Option (hg_W × Int) :=
  (hg_pt w 0 23 s1).bind fun w1 =>
  some (w1, 0)
def fX5_next_195   (w : hg_W) (x2 : Int) (s1 : Int) : Option (hg_W × Int) :=
  (hg_pt w 0 22 s1).bind fun w1 =>
  if wr 3 ≤ wr x2 then
    (
      fX5_next_211 w1 (x2 - 3)
    )
  else
    fX5_next_211 w1 x2
def fX5_next_146   (w : hg_W) : Option (hg_W × Int) :=
  hg_bd (fX5_wordFrom w (w 0 21) (w 0 20)) fun w1 v2 =>
  if wr 3 ≤ wr v2 then
    (
      if wr 9 ≤ wr v2 then
        (
          if wr v2 = wr 12 then
            (
              fX5_next_195 w1 v2 (-1)
            )
          else
            fX5_next_195 w1 v2 ((4 + v2) - 9)
        )
      else
        fX5_next_195 w1 v2 2
    )
  else
    fX5_next_195 w1 v2 3
def fX5_next_103   : Nat → hg_W → Option (hg_W × Int)
  | 0, _ => none
  | n + 1, w =>
    if wr (w 0 8) ≤ wr (w 0 20) then
      (
        fX5_next_146 w
      )
    else
      (hg_ag 1 w 5 (w 0 20)).bind fun v1 =>
      hg_bd (fX5_in w v1 97 122) fun w3 v4 =>
      if wr v4 = 0 then
        (
          fX5_next_146 w3
        )
      else
        (hg_pt w3 0 20 ((w3 0 20) + 1)).bind fun w6 =>
        fX5_next_103 n w6
def fX5_next_52   (w : hg_W) : Option (hg_W × Int) :=
  (hg_pt w 0 21 (w 0 20)).bind fun w1 =>
  (hg_pt w1 0 22 0).bind fun w3 =>
  (hg_pt w3 0 23 0).bind fun w5 =>
  if wr (w5 0 20) = wr (w5 0 8) then
    (
      some (w5, 0)
    )
  else
    (hg_ag 1 w5 5 (w5 0 20)).bind fun v7 =>
    hg_bd (fX5_in w5 v7 97 122) fun w9 v10 =>
    if wr v10 = 0 then
      (
        hg_bd (fX5_in w9 v7 48 57) fun w12 v13 =>
        if wr v13 = 0 then
          (
            if wr v7 = wr 40 then
              (
                fX5_next_374 w12 v7
              )
            else
              if wr v7 = wr 41 then
                (
                  fX5_next_374 w12 v7
                )
              else
                if wr v7 = wr 59 then
                  (
                    fX5_next_374 w12 v7
                  )
                else
                  if wr v7 = wr 43 then
                    (
                      fX5_next_374 w12 v7
                    )
                  else
                    if wr v7 = wr 45 then
                      (
                        fX5_next_374 w12 v7
                      )
                    else
                      if wr v7 = wr 42 then
                        (
                          fX5_next_374 w12 v7
                        )
                      else
                        if wr v7 = wr 60 then
                          (
                            fX5_next_374 w12 v7
                          )
                        else
                          if wr v7 = wr 61 then
                            (
                              fX5_next_374 w12 v7
                            )
                          else
                            fX5_next_379 w12 v7 0
          )
        else
          fX5_next_230 hg_F w12 0
      )
    else
      fX5_next_103 hg_F w9
def fX5_next_39 (K0 : hg_W → Option (hg_W × Int))  (w : hg_W) : Option (hg_W × Int) :=
  (hg_pt w 0 20 ((w 0 20) + 1)).bind fun w1 =>
  K0 w1
def fX5_next_0   : Nat → hg_W → Option (hg_W × Int)
  | 0, _ => none
  | n + 1, w =>
    if wr (w 0 8) ≤ wr (w 0 20) then
      (
        fX5_next_52 w
      )
    else
      (hg_ag 1 w 5 (w 0 20)).bind fun v1 =>
      if wr v1 = wr 32 then
        (
          fX5_next_39 (fX5_next_0 n) w
        )
      else
        (hg_ag 1 w 5 (w 0 20)).bind fun v3 =>
        if wr v3 = wr 10 then
          (
            fX5_next_39 (fX5_next_0 n) w
          )
        else
          fX5_next_52 w
def fX5_next (w : hg_W) : Option (hg_W × Int) :=
  fX5_next_0 hg_F w
set_option maxHeartbeats 4000000 in
set_option maxRecDepth 100000 in
abbrev rmX5_next : Room := { frames := 1, cells := 0, slots := 0, locals := 25 }
set_option maxHeartbeats 4000000 in
set_option maxRecDepth 100000 in
theorem rX5_next_390 (B : hg_B p s m args meth c cX5_next RX5 wsL_law 3 D cI cA ad 1 A) (hr : meth.sig.returnType = none) {w1 : hg_W} {r1 : Int} : ∀ (w : hg_W) (s1 : Int), fX5_next_390 w s1 = some (w1, r1) → hg_At p l e (rmX5_next) s m args below meth c D cI cA ad 1 A (MQ below (hg_Qv D cI cA ad 1 A w1) args s 0 0 A) 3 w [(0, .ref (ad 0))] 390 [.int (hg_I s1), .ref (ad 0)] := by
  intro w s1 h
  unfold fX5_next_390 at h
  obtain ⟨w1, q2, h⟩ := Option.bind_eq_some_iff.mp h
  refine z_put5 B 22 dX5_next_390 inlX5 (by decide) rfl (by decide) (wl_5 7 rfl) rfl rfl .int (by decide +kernel) rfl rfl hg_fs5_22 q2 ?_
  refine z_aload_n B 0 dX5_next_393 rfl rfl ?_
  refine z_dup B dX5_next_394 rfl ?_
  refine z_get5 (v := .int (hg_I (w1 0 20))) B 20 dX5_next_395 inlX5 (by decide) rfl (by decide) (wl_5 5 rfl) rfl rfl ?_
  refine z_iconst B dX5_next_398 ?_
  refine z_iadd B dX5_next_399 ?_
  obtain ⟨w3, q4, h⟩ := Option.bind_eq_some_iff.mp h
  refine z_put5 B 20 dX5_next_400 inlX5 (by decide) rfl (by decide) (wl_5 5 rfl) rfl rfl .int (by decide +kernel) rfl rfl hg_fs5_20 q4 ?_
  exact z_vret B hr dX5_next_403 h
set_option maxHeartbeats 4000000 in
set_option maxRecDepth 100000 in
theorem rX5_next_379 (B : hg_B p s m args meth c cX5_next RX5 wsL_law 3 D cI cA ad 1 A) (hr : meth.sig.returnType = none) {w1 : hg_W} {r1 : Int} : ∀ (w : hg_W) (x1 : Int) (s0 : Int), fX5_next_379 w x1 s0 = some (w1, r1) → hg_At p l e (rmX5_next) s m args below meth c D cI cA ad 1 A (MQ below (hg_Qv D cI cA ad 1 A w1) args s 0 0 A) 3 w [(0, .ref (ad 0)), (1, .int (hg_I x1))] 379 [.int (hg_I s0)] := by
  intro w x1 s0 h
  unfold fX5_next_379 at h
  refine z_istore_n B [(2, .int (hg_I s0)), (0, .ref (ad 0)), (1, .int (hg_I x1))] dX5_next_379 rfl (by decide) rfl ?_
  refine z_aload_n B 1 dX5_next_380 rfl rfl ?_
  refine z_iload_n B 0 dX5_next_381 rfl rfl ?_
  refine z_if_eq (tgt := 389) B dX5_next_382 (by decide) h (fun h => ?_) (fun h => ?_)
  · refine z_iconst B dX5_next_389 ?_
    refine z_lv (lv' := [(0, .ref (ad 0))]) B [1] rfl ?_
    exact rX5_next_390 B hr _ _ h
  · refine z_iload_n B 2 dX5_next_385 rfl rfl ?_
    refine z_goto (tgt := 390) B dX5_next_386 (by decide) ?_
    refine z_lv (lv' := [(0, .ref (ad 0))]) B [1] rfl ?_
    exact rX5_next_390 B hr _ _ h
set_option maxHeartbeats 4000000 in
set_option maxRecDepth 100000 in
theorem rX5_next_374 (B : hg_B p s m args meth c cX5_next RX5 wsL_law 3 D cI cA ad 1 A) (hr : meth.sig.returnType = none) {w1 : hg_W} {r1 : Int} : ∀ (w : hg_W) (x1 : Int), fX5_next_374 w x1 = some (w1, r1) → hg_At p l e (rmX5_next) s m args below meth c D cI cA ad 1 A (MQ below (hg_Qv D cI cA ad 1 A w1) args s 0 0 A) 3 w [(0, .ref (ad 0)), (1, .int (hg_I x1))] 374 [] := by
  intro w x1 h
  unfold fX5_next_374 at h
  refine z_iconst B dX5_next_374 ?_
  refine z_goto (tgt := 379) B dX5_next_375 (by decide) ?_
  exact rX5_next_379 B hr _ _ _ h
set_option maxHeartbeats 4000000 in
set_option maxRecDepth 100000 in
theorem rX5_next_320 (B : hg_B p s m args meth c cX5_next RX5 wsL_law 3 D cI cA ad 1 A) (hr : meth.sig.returnType = none) {w1 : hg_W} {r1 : Int} : ∀ (w : hg_W) (s1 : Int), fX5_next_320 w s1 = some (w1, r1) → hg_At p l e (rmX5_next) s m args below meth c D cI cA ad 1 A (MQ below (hg_Qv D cI cA ad 1 A w1) args s 0 0 A) 3 w [] 320 [.int (hg_I s1), .ref (ad 0)] := by
  intro w s1 h
  unfold fX5_next_320 at h
  obtain ⟨w1, q2, h⟩ := Option.bind_eq_some_iff.mp h
  refine z_put5 B 22 dX5_next_320 inlX5 (by decide) rfl (by decide) (wl_5 7 rfl) rfl rfl .int (by decide +kernel) rfl rfl hg_fs5_22 q2 ?_
  refine z_goto (tgt := 403) B dX5_next_323 (by decide) ?_
  exact z_vret B hr dX5_next_403 h
set_option maxHeartbeats 4000000 in
set_option maxRecDepth 100000 in
theorem rX5_next_309 (B : hg_B p s m args meth c cX5_next RX5 wsL_law 3 D cI cA ad 1 A) (hr : meth.sig.returnType = none) {w1 : hg_W} {r1 : Int} : ∀ (w : hg_W) (x2 : Int), fX5_next_309 w x2 = some (w1, r1) → hg_At p l e (rmX5_next) s m args below meth c D cI cA ad 1 A (MQ below (hg_Qv D cI cA ad 1 A w1) args s 0 0 A) 3 w [(0, .ref (ad 0)), (2, .int (hg_I x2))] 309 [] := by
  intro w x2 h
  unfold fX5_next_309 at h
  refine z_aload_n B 0 dX5_next_309 rfl rfl ?_
  refine z_iload_n B 1 dX5_next_310 rfl rfl ?_
  refine z_iconst B dX5_next_311 ?_
  refine z_icmp_le (tgt := 319) B dX5_next_312 (by decide) h (fun h => ?_) (fun h => ?_)
  · refine z_iconst B dX5_next_319 ?_
    refine z_lv (lv' := []) B [] rfl ?_
    exact rX5_next_320 B hr _ _ h
  · refine z_iconst B dX5_next_315 ?_
    refine z_goto (tgt := 320) B dX5_next_316 (by decide) ?_
    refine z_lv (lv' := []) B [] rfl ?_
    exact rX5_next_320 B hr _ _ h
set_option maxHeartbeats 4000000 in
set_option maxRecDepth 100000 in
theorem rX5_next_290 (B : hg_B p s m args meth c cX5_next RX5 wsL_law 3 D cI cA ad 1 A) (hr : meth.sig.returnType = none) {w1 : hg_W} {r1 : Int} {K230 : hg_W → Int → Option (hg_W × Int)} (hK230 : ∀ (w : hg_W) (x2 : Int), K230 w x2 = some (w1, r1) → hg_At p l e (rmX5_next) s m args below meth c D cI cA ad 1 A (MQ below (hg_Qv D cI cA ad 1 A w1) args s 0 0 A) 3 w [(0, .ref (ad 0)), (2, .int (hg_I x2))] 230 []) : ∀ (w : hg_W) (x2 : Int) (s1 : Int), fX5_next_290 K230 w x2 s1 = some (w1, r1) → hg_At p l e (rmX5_next) s m args below meth c D cI cA ad 1 A (MQ below (hg_Qv D cI cA ad 1 A w1) args s 0 0 A) 3 w [(0, .ref (ad 0)), (2, .int (hg_I x2))] 290 [.int (hg_I s1), .ref (ad 0)] := by
  intro w x2 s1 h
  unfold fX5_next_290 at h
  obtain ⟨w1, q2, h⟩ := Option.bind_eq_some_iff.mp h
  refine z_put5 B 23 dX5_next_290 inlX5 (by decide) rfl (by decide) (wl_5 8 rfl) rfl rfl .int (by decide +kernel) rfl rfl hg_fs5_23 q2 ?_
  refine z_iinc B 1 [(2, .int (hg_I (x2 + 1))), (0, .ref (ad 0))] dX5_next_293 rfl (by decide) rfl ?_
  refine z_aload_n B 1 dX5_next_296 rfl rfl ?_
  refine z_dup B dX5_next_297 rfl ?_
  refine z_get5 (v := .int (hg_I (w1 0 20))) B 20 dX5_next_298 inlX5 (by decide) rfl (by decide) (wl_5 5 rfl) rfl rfl ?_
  refine z_iconst B dX5_next_301 ?_
  refine z_iadd B dX5_next_302 ?_
  obtain ⟨w3, q4, h⟩ := Option.bind_eq_some_iff.mp h
  refine z_put5 B 20 dX5_next_303 inlX5 (by decide) rfl (by decide) (wl_5 5 rfl) rfl rfl .int (by decide +kernel) rfl rfl hg_fs5_20 q4 ?_
  refine z_goto (tgt := 230) B dX5_next_306 (by decide) ?_
  refine z_lv (lv' := [(0, .ref (ad 0)), (2, .int (hg_I (x2 + 1)))]) B [1, 0] rfl ?_
  exact hK230 _ _ h
set_option maxHeartbeats 4000000 in
set_option maxRecDepth 100000 in
theorem rX5_next_230 (B : hg_B p s m args meth c cX5_next RX5 wsL_law 3 D cI cA ad 1 A) (hr : meth.sig.returnType = none) {w1 : hg_W} {r1 : Int} : ∀ (n : Nat), ∀ (w : hg_W) (x2 : Int), fX5_next_230 n w x2 = some (w1, r1) → hg_At p l e (rmX5_next) s m args below meth c D cI cA ad 1 A (MQ below (hg_Qv D cI cA ad 1 A w1) args s 0 0 A) 3 w [(0, .ref (ad 0)), (2, .int (hg_I x2))] 230 [] := by
  intro n
  induction n with
  | zero =>
    intro w x2 h
    cases h
  | succ n ih =>
    intro w x2 h
    simp only [fX5_next_230] at h
    refine z_aload_n B 0 dX5_next_230 rfl rfl ?_
    refine z_get5 (v := .int (hg_I (w 0 20))) B 20 dX5_next_231 inlX5 (by decide) rfl (by decide) (wl_5 5 rfl) rfl rfl ?_
    refine z_aload_n B 0 dX5_next_234 rfl rfl ?_
    refine z_get5 (v := .int (hg_I (w 0 8))) B 8 dX5_next_235 inlX5 (by decide) rfl (by decide) (wl_4 23 rfl) rfl rfl ?_
    refine z_icmp_ge (tgt := 309) B dX5_next_238 (by decide) h (fun h => ?_) (fun h => ?_)
    · exact rX5_next_309 B hr _ _ h
    · refine z_aload_n B 0 dX5_next_241 rfl rfl ?_
      refine z_get5 (v := .ref (ad 5)) B 7 dX5_next_242 inlX5 (by decide) rfl (by decide) (wl_4 6 rfl) rfl rfl ?_
      refine z_aload_n B 0 dX5_next_245 rfl rfl ?_
      refine z_get5 (v := .int (hg_I (w 0 20))) B 20 dX5_next_246 inlX5 (by decide) rfl (by decide) (wl_5 5 rfl) rfl rfl ?_
      obtain ⟨v1, q2, h⟩ := Option.bind_eq_some_iff.mp h
      refine z_iald (Or.inr rfl) B dX5_next_249 q2 ?_
      refine z_bipush B dX5_next_250 (by decide) ?_
      refine z_bipush B dX5_next_252 (by decide) ?_
      obtain ⟨w3, v4, q5, h⟩ := hg_bd_some h
      refine z_calliS (As := [.int (hg_I v1), .int (hg_I 48), .int (hg_I 57)]) (n := 3) B dX5_next_254 (c_X5_in q5) (gl_S (wl_5 14 rfl) (wl_5 15 rfl) (wl_1 5 rfl) (wl_5 16 rfl)) rfl ⟨rfl, rfl⟩ (by decide +kernel) ⟨Nat.le_of_ble_eq_true rfl, Nat.le_of_ble_eq_true rfl⟩ rfl rfl (Nat.le_of_ble_eq_true rfl) ?_
      refine z_if_eq (tgt := 309) B dX5_next_257 (by decide) h (fun h => ?_) (fun h => ?_)
      · exact rX5_next_309 B hr _ _ h
      · refine z_aload_n B 0 dX5_next_260 rfl rfl ?_
        refine z_iload_n B 1 dX5_next_261 rfl rfl ?_
        refine z_iconst B dX5_next_262 ?_
        refine z_icmp_ge (tgt := 289) B dX5_next_263 (by decide) h (fun h => ?_) (fun h => ?_)
        · refine z_iconst B dX5_next_289 ?_
          exact rX5_next_290 B hr ih _ _ _ h
        · refine z_bipush B dX5_next_266 (by decide) ?_
          refine z_aload_n B 0 dX5_next_268 rfl rfl ?_
          refine z_get5 (v := .int (hg_I (w3 0 23))) B 23 dX5_next_269 inlX5 (by decide) rfl (by decide) (wl_5 8 rfl) rfl rfl ?_
          refine z_imul B dX5_next_272 ?_
          refine z_aload_n B 0 dX5_next_273 rfl rfl ?_
          refine z_get5 (v := .ref (ad 5)) B 7 dX5_next_274 inlX5 (by decide) rfl (by decide) (wl_4 6 rfl) rfl rfl ?_
          refine z_aload_n B 0 dX5_next_277 rfl rfl ?_
          refine z_get5 (v := .int (hg_I (w3 0 20))) B 20 dX5_next_278 inlX5 (by decide) rfl (by decide) (wl_5 5 rfl) rfl rfl ?_
          obtain ⟨v6, q7, h⟩ := Option.bind_eq_some_iff.mp h
          refine z_iald (Or.inr rfl) B dX5_next_281 q7 ?_
          refine z_iadd B dX5_next_282 ?_
          refine z_bipush B dX5_next_283 (by decide) ?_
          refine z_isub B dX5_next_285 ?_
          refine z_goto (tgt := 290) B dX5_next_286 (by decide) ?_
          exact rX5_next_290 B hr ih _ _ _ h
set_option maxHeartbeats 4000000 in
set_option maxRecDepth 100000 in
theorem rX5_next_211 (B : hg_B p s m args meth c cX5_next RX5 wsL_law 3 D cI cA ad 1 A) (hr : meth.sig.returnType = none) {w1 : hg_W} {r1 : Int} : ∀ (w : hg_W) (s1 : Int), fX5_next_211 w s1 = some (w1, r1) → hg_At p l e (rmX5_next) s m args below meth c D cI cA ad 1 A (MQ below (hg_Qv D cI cA ad 1 A w1) args s 0 0 A) 3 w [] 211 [.int (hg_I s1), .ref (ad 0)] := by
  intro w s1 h
  unfold fX5_next_211 at h
  obtain ⟨w1, q2, h⟩ := Option.bind_eq_some_iff.mp h
  refine z_put5 B 23 dX5_next_211 inlX5 (by decide) rfl (by decide) (wl_5 8 rfl) rfl rfl .int (by decide +kernel) rfl rfl hg_fs5_23 q2 ?_
  refine z_goto (tgt := 403) B dX5_next_214 (by decide) ?_
  exact z_vret B hr dX5_next_403 h
set_option maxHeartbeats 4000000 in
set_option maxRecDepth 100000 in
theorem rX5_next_195 (B : hg_B p s m args meth c cX5_next RX5 wsL_law 3 D cI cA ad 1 A) (hr : meth.sig.returnType = none) {w1 : hg_W} {r1 : Int} : ∀ (w : hg_W) (x2 : Int) (s1 : Int), fX5_next_195 w x2 s1 = some (w1, r1) → hg_At p l e (rmX5_next) s m args below meth c D cI cA ad 1 A (MQ below (hg_Qv D cI cA ad 1 A w1) args s 0 0 A) 3 w [(0, .ref (ad 0)), (2, .int (hg_I x2))] 195 [.int (hg_I s1), .ref (ad 0)] := by
  intro w x2 s1 h
  unfold fX5_next_195 at h
  obtain ⟨w1, q2, h⟩ := Option.bind_eq_some_iff.mp h
  refine z_put5 B 22 dX5_next_195 inlX5 (by decide) rfl (by decide) (wl_5 7 rfl) rfl rfl .int (by decide +kernel) rfl rfl hg_fs5_22 q2 ?_
  refine z_aload_n B 0 dX5_next_198 rfl rfl ?_
  refine z_iload_n B 1 dX5_next_199 rfl rfl ?_
  refine z_iconst B dX5_next_200 ?_
  refine z_icmp_ge (tgt := 208) B dX5_next_201 (by decide) h (fun h => ?_) (fun h => ?_)
  · refine z_iload_n B 1 dX5_next_208 rfl rfl ?_
    refine z_iconst B dX5_next_209 ?_
    refine z_isub B dX5_next_210 ?_
    refine z_lv (lv' := []) B [] rfl ?_
    exact rX5_next_211 B hr _ _ h
  · refine z_iload_n B 1 dX5_next_204 rfl rfl ?_
    refine z_goto (tgt := 211) B dX5_next_205 (by decide) ?_
    refine z_lv (lv' := []) B [] rfl ?_
    exact rX5_next_211 B hr _ _ h
set_option maxHeartbeats 4000000 in
set_option maxRecDepth 100000 in
theorem rX5_next_146 (B : hg_B p s m args meth c cX5_next RX5 wsL_law 3 D cI cA ad 1 A) (hr : meth.sig.returnType = none) {w1 : hg_W} {r1 : Int} : ∀ (w : hg_W), fX5_next_146 w = some (w1, r1) → hg_At p l e (rmX5_next) s m args below meth c D cI cA ad 1 A (MQ below (hg_Qv D cI cA ad 1 A w1) args s 0 0 A) 3 w [(0, .ref (ad 0))] 146 [] := by
  intro w h
  unfold fX5_next_146 at h
  refine z_aload_n B 0 dX5_next_146 rfl rfl ?_
  refine z_aload_n B 0 dX5_next_147 rfl rfl ?_
  refine z_get5 (v := .int (hg_I (w 0 21))) B 21 dX5_next_148 inlX5 (by decide) rfl (by decide) (wl_5 9 rfl) rfl rfl ?_
  refine z_aload_n B 0 dX5_next_151 rfl rfl ?_
  refine z_get5 (v := .int (hg_I (w 0 20))) B 20 dX5_next_152 inlX5 (by decide) rfl (by decide) (wl_5 5 rfl) rfl rfl ?_
  obtain ⟨w1, v2, q3, h⟩ := hg_bd_some h
  refine z_calliV (a := 0) (ci := 5) (N := 37) (T := TX5) (C := RX5) (As := [.int (hg_I (w 0 21)), .int (hg_I (w 0 20))]) (n := 2) B dX5_next_155 (c_X5_wordFrom q3) (gl_V (wl_5 17 rfl) (wl_5 18 rfl) (wl_5 19 rfl) (wl_1 5 rfl) (wl_5 20 rfl)) rfl ⟨rfl, rfl⟩ (by decide +kernel) ⟨Nat.le_of_ble_eq_true rfl, Nat.le_of_ble_eq_true rfl⟩ (by decide) rfl (by decide) rfl rfl rfl (Nat.le_of_ble_eq_true rfl) ?_
  refine z_istore_n B [(2, .int (hg_I v2)), (0, .ref (ad 0))] dX5_next_158 rfl (by decide) rfl ?_
  refine z_aload_n B 1 dX5_next_159 rfl rfl ?_
  refine z_iload_n B 0 dX5_next_160 rfl rfl ?_
  refine z_iconst B dX5_next_161 ?_
  refine z_icmp_ge (tgt := 169) B dX5_next_162 (by decide) h (fun h => ?_) (fun h => ?_)
  · refine z_iload_n B 0 dX5_next_169 rfl rfl ?_
    refine z_bipush B dX5_next_170 (by decide) ?_
    refine z_icmp_ge (tgt := 179) B dX5_next_172 (by decide) h (fun h => ?_) (fun h => ?_)
    · refine z_iload_n B 0 dX5_next_179 rfl rfl ?_
      refine z_bipush B dX5_next_180 (by decide) ?_
      refine z_icmp_ne (tgt := 189) B dX5_next_182 (by decide) h (fun h => ?_) (fun h => ?_)
      · refine z_iconst B dX5_next_189 ?_
        refine z_iload_n B 0 dX5_next_190 rfl rfl ?_
        refine z_iadd B dX5_next_191 ?_
        refine z_bipush B dX5_next_192 (by decide) ?_
        refine z_isub B dX5_next_194 ?_
        refine z_lv (lv' := [(0, .ref (ad 0)), (2, .int (hg_I v2))]) B [1, 0] rfl ?_
        exact rX5_next_195 B hr _ _ _ h
      · refine z_iconst B dX5_next_185 ?_
        refine z_goto (tgt := 195) B dX5_next_186 (by decide) ?_
        refine z_lv (lv' := [(0, .ref (ad 0)), (2, .int (hg_I v2))]) B [1, 0] rfl ?_
        exact rX5_next_195 B hr _ _ _ h
    · refine z_iconst B dX5_next_175 ?_
      refine z_goto (tgt := 195) B dX5_next_176 (by decide) ?_
      refine z_lv (lv' := [(0, .ref (ad 0)), (2, .int (hg_I v2))]) B [1, 0] rfl ?_
      exact rX5_next_195 B hr _ _ _ h
  · refine z_iconst B dX5_next_165 ?_
    refine z_goto (tgt := 195) B dX5_next_166 (by decide) ?_
    refine z_lv (lv' := [(0, .ref (ad 0)), (2, .int (hg_I v2))]) B [1, 0] rfl ?_
    exact rX5_next_195 B hr _ _ _ h
set_option maxHeartbeats 4000000 in
set_option maxRecDepth 100000 in
theorem rX5_next_103 (B : hg_B p s m args meth c cX5_next RX5 wsL_law 3 D cI cA ad 1 A) (hr : meth.sig.returnType = none) {w1 : hg_W} {r1 : Int} : ∀ (n : Nat), ∀ (w : hg_W), fX5_next_103 n w = some (w1, r1) → hg_At p l e (rmX5_next) s m args below meth c D cI cA ad 1 A (MQ below (hg_Qv D cI cA ad 1 A w1) args s 0 0 A) 3 w [(0, .ref (ad 0))] 103 [] := by
  intro n
  induction n with
  | zero =>
    intro w h
    cases h
  | succ n ih =>
    intro w h
    simp only [fX5_next_103] at h
    refine z_aload_n B 0 dX5_next_103 rfl rfl ?_
    refine z_get5 (v := .int (hg_I (w 0 20))) B 20 dX5_next_104 inlX5 (by decide) rfl (by decide) (wl_5 5 rfl) rfl rfl ?_
    refine z_aload_n B 0 dX5_next_107 rfl rfl ?_
    refine z_get5 (v := .int (hg_I (w 0 8))) B 8 dX5_next_108 inlX5 (by decide) rfl (by decide) (wl_4 23 rfl) rfl rfl ?_
    refine z_icmp_ge (tgt := 146) B dX5_next_111 (by decide) h (fun h => ?_) (fun h => ?_)
    · exact rX5_next_146 B hr _ h
    · refine z_aload_n B 0 dX5_next_114 rfl rfl ?_
      refine z_get5 (v := .ref (ad 5)) B 7 dX5_next_115 inlX5 (by decide) rfl (by decide) (wl_4 6 rfl) rfl rfl ?_
      refine z_aload_n B 0 dX5_next_118 rfl rfl ?_
      refine z_get5 (v := .int (hg_I (w 0 20))) B 20 dX5_next_119 inlX5 (by decide) rfl (by decide) (wl_5 5 rfl) rfl rfl ?_
      obtain ⟨v1, q2, h⟩ := Option.bind_eq_some_iff.mp h
      refine z_iald (Or.inr rfl) B dX5_next_122 q2 ?_
      refine z_bipush B dX5_next_123 (by decide) ?_
      refine z_bipush B dX5_next_125 (by decide) ?_
      obtain ⟨w3, v4, q5, h⟩ := hg_bd_some h
      refine z_calliS (As := [.int (hg_I v1), .int (hg_I 97), .int (hg_I 122)]) (n := 3) B dX5_next_127 (c_X5_in q5) (gl_S (wl_5 14 rfl) (wl_5 15 rfl) (wl_1 5 rfl) (wl_5 16 rfl)) rfl ⟨rfl, rfl⟩ (by decide +kernel) ⟨Nat.le_of_ble_eq_true rfl, Nat.le_of_ble_eq_true rfl⟩ rfl rfl (Nat.le_of_ble_eq_true rfl) ?_
      refine z_if_eq (tgt := 146) B dX5_next_130 (by decide) h (fun h => ?_) (fun h => ?_)
      · exact rX5_next_146 B hr _ h
      · refine z_aload_n B 0 dX5_next_133 rfl rfl ?_
        refine z_dup B dX5_next_134 rfl ?_
        refine z_get5 (v := .int (hg_I (w3 0 20))) B 20 dX5_next_135 inlX5 (by decide) rfl (by decide) (wl_5 5 rfl) rfl rfl ?_
        refine z_iconst B dX5_next_138 ?_
        refine z_iadd B dX5_next_139 ?_
        obtain ⟨w6, q7, h⟩ := Option.bind_eq_some_iff.mp h
        refine z_put5 B 20 dX5_next_140 inlX5 (by decide) rfl (by decide) (wl_5 5 rfl) rfl rfl .int (by decide +kernel) rfl rfl hg_fs5_20 q7 ?_
        refine z_goto (tgt := 103) B dX5_next_143 (by decide) ?_
        exact ih _ h
set_option maxHeartbeats 4000000 in
set_option maxRecDepth 100000 in
theorem rX5_next_52 (B : hg_B p s m args meth c cX5_next RX5 wsL_law 3 D cI cA ad 1 A) (hr : meth.sig.returnType = none) {w1 : hg_W} {r1 : Int} : ∀ (w : hg_W), fX5_next_52 w = some (w1, r1) → hg_At p l e (rmX5_next) s m args below meth c D cI cA ad 1 A (MQ below (hg_Qv D cI cA ad 1 A w1) args s 0 0 A) 3 w [(0, .ref (ad 0))] 52 [] := by
  intro w h
  unfold fX5_next_52 at h
  refine z_aload_n B 0 dX5_next_52 rfl rfl ?_
  refine z_aload_n B 0 dX5_next_53 rfl rfl ?_
  refine z_get5 (v := .int (hg_I (w 0 20))) B 20 dX5_next_54 inlX5 (by decide) rfl (by decide) (wl_5 5 rfl) rfl rfl ?_
  obtain ⟨w1, q2, h⟩ := Option.bind_eq_some_iff.mp h
  refine z_put5 B 21 dX5_next_57 inlX5 (by decide) rfl (by decide) (wl_5 9 rfl) rfl rfl .int (by decide +kernel) rfl rfl hg_fs5_21 q2 ?_
  refine z_aload_n B 0 dX5_next_60 rfl rfl ?_
  refine z_iconst B dX5_next_61 ?_
  obtain ⟨w3, q4, h⟩ := Option.bind_eq_some_iff.mp h
  refine z_put5 B 22 dX5_next_62 inlX5 (by decide) rfl (by decide) (wl_5 7 rfl) rfl rfl .int (by decide +kernel) rfl rfl hg_fs5_22 q4 ?_
  refine z_aload_n B 0 dX5_next_65 rfl rfl ?_
  refine z_iconst B dX5_next_66 ?_
  obtain ⟨w5, q6, h⟩ := Option.bind_eq_some_iff.mp h
  refine z_put5 B 23 dX5_next_67 inlX5 (by decide) rfl (by decide) (wl_5 8 rfl) rfl rfl .int (by decide +kernel) rfl rfl hg_fs5_23 q6 ?_
  refine z_aload_n B 0 dX5_next_70 rfl rfl ?_
  refine z_get5 (v := .int (hg_I (w5 0 20))) B 20 dX5_next_71 inlX5 (by decide) rfl (by decide) (wl_5 5 rfl) rfl rfl ?_
  refine z_aload_n B 0 dX5_next_74 rfl rfl ?_
  refine z_get5 (v := .int (hg_I (w5 0 8))) B 8 dX5_next_75 inlX5 (by decide) rfl (by decide) (wl_4 23 rfl) rfl rfl ?_
  refine z_icmp_ne (tgt := 82) B dX5_next_78 (by decide) h (fun h => ?_) (fun h => ?_)
  · refine z_aload_n B 0 dX5_next_82 rfl rfl ?_
    refine z_get5 (v := .ref (ad 5)) B 7 dX5_next_83 inlX5 (by decide) rfl (by decide) (wl_4 6 rfl) rfl rfl ?_
    refine z_aload_n B 0 dX5_next_86 rfl rfl ?_
    refine z_get5 (v := .int (hg_I (w5 0 20))) B 20 dX5_next_87 inlX5 (by decide) rfl (by decide) (wl_5 5 rfl) rfl rfl ?_
    obtain ⟨v7, q8, h⟩ := Option.bind_eq_some_iff.mp h
    refine z_iald (Or.inr rfl) B dX5_next_90 q8 ?_
    refine z_istore_n B [(1, .int (hg_I v7)), (0, .ref (ad 0))] dX5_next_91 rfl (by decide) rfl ?_
    refine z_iload_n B 0 dX5_next_92 rfl rfl ?_
    refine z_bipush B dX5_next_93 (by decide) ?_
    refine z_bipush B dX5_next_95 (by decide) ?_
    obtain ⟨w9, v10, q11, h⟩ := hg_bd_some h
    refine z_calliS (As := [.int (hg_I v7), .int (hg_I 97), .int (hg_I 122)]) (n := 3) B dX5_next_97 (c_X5_in q11) (gl_S (wl_5 14 rfl) (wl_5 15 rfl) (wl_1 5 rfl) (wl_5 16 rfl)) rfl ⟨rfl, rfl⟩ (by decide +kernel) ⟨Nat.le_of_ble_eq_true rfl, Nat.le_of_ble_eq_true rfl⟩ rfl rfl (Nat.le_of_ble_eq_true rfl) ?_
    refine z_if_eq (tgt := 217) B dX5_next_100 (by decide) h (fun h => ?_) (fun h => ?_)
    · refine z_iload_n B 0 dX5_next_217 rfl rfl ?_
      refine z_bipush B dX5_next_218 (by decide) ?_
      refine z_bipush B dX5_next_220 (by decide) ?_
      obtain ⟨w12, v13, q14, h⟩ := hg_bd_some h
      refine z_calliS (As := [.int (hg_I v7), .int (hg_I 48), .int (hg_I 57)]) (n := 3) B dX5_next_222 (c_X5_in q14) (gl_S (wl_5 14 rfl) (wl_5 15 rfl) (wl_1 5 rfl) (wl_5 16 rfl)) rfl ⟨rfl, rfl⟩ (by decide +kernel) ⟨Nat.le_of_ble_eq_true rfl, Nat.le_of_ble_eq_true rfl⟩ rfl rfl (Nat.le_of_ble_eq_true rfl) ?_
      refine z_if_eq (tgt := 326) B dX5_next_225 (by decide) h (fun h => ?_) (fun h => ?_)
      · refine z_iload_n B 0 dX5_next_326 rfl rfl ?_
        refine z_bipush B dX5_next_327 (by decide) ?_
        refine z_icmp_eq (tgt := 374) B dX5_next_329 (by decide) h (fun h => ?_) (fun h => ?_)
        · refine z_lv (lv' := [(0, .ref (ad 0)), (1, .int (hg_I v7))]) B [1, 0] rfl ?_
          exact rX5_next_374 B hr _ _ h
        · refine z_iload_n B 0 dX5_next_332 rfl rfl ?_
          refine z_bipush B dX5_next_333 (by decide) ?_
          refine z_icmp_eq (tgt := 374) B dX5_next_335 (by decide) h (fun h => ?_) (fun h => ?_)
          · refine z_lv (lv' := [(0, .ref (ad 0)), (1, .int (hg_I v7))]) B [1, 0] rfl ?_
            exact rX5_next_374 B hr _ _ h
          · refine z_iload_n B 0 dX5_next_338 rfl rfl ?_
            refine z_bipush B dX5_next_339 (by decide) ?_
            refine z_icmp_eq (tgt := 374) B dX5_next_341 (by decide) h (fun h => ?_) (fun h => ?_)
            · refine z_lv (lv' := [(0, .ref (ad 0)), (1, .int (hg_I v7))]) B [1, 0] rfl ?_
              exact rX5_next_374 B hr _ _ h
            · refine z_iload_n B 0 dX5_next_344 rfl rfl ?_
              refine z_bipush B dX5_next_345 (by decide) ?_
              refine z_icmp_eq (tgt := 374) B dX5_next_347 (by decide) h (fun h => ?_) (fun h => ?_)
              · refine z_lv (lv' := [(0, .ref (ad 0)), (1, .int (hg_I v7))]) B [1, 0] rfl ?_
                exact rX5_next_374 B hr _ _ h
              · refine z_iload_n B 0 dX5_next_350 rfl rfl ?_
                refine z_bipush B dX5_next_351 (by decide) ?_
                refine z_icmp_eq (tgt := 374) B dX5_next_353 (by decide) h (fun h => ?_) (fun h => ?_)
                · refine z_lv (lv' := [(0, .ref (ad 0)), (1, .int (hg_I v7))]) B [1, 0] rfl ?_
                  exact rX5_next_374 B hr _ _ h
                · refine z_iload_n B 0 dX5_next_356 rfl rfl ?_
                  refine z_bipush B dX5_next_357 (by decide) ?_
                  refine z_icmp_eq (tgt := 374) B dX5_next_359 (by decide) h (fun h => ?_) (fun h => ?_)
                  · refine z_lv (lv' := [(0, .ref (ad 0)), (1, .int (hg_I v7))]) B [1, 0] rfl ?_
                    exact rX5_next_374 B hr _ _ h
                  · refine z_iload_n B 0 dX5_next_362 rfl rfl ?_
                    refine z_bipush B dX5_next_363 (by decide) ?_
                    refine z_icmp_eq (tgt := 374) B dX5_next_365 (by decide) h (fun h => ?_) (fun h => ?_)
                    · refine z_lv (lv' := [(0, .ref (ad 0)), (1, .int (hg_I v7))]) B [1, 0] rfl ?_
                      exact rX5_next_374 B hr _ _ h
                    · refine z_iload_n B 0 dX5_next_368 rfl rfl ?_
                      refine z_bipush B dX5_next_369 (by decide) ?_
                      refine z_icmp_ne (tgt := 378) B dX5_next_371 (by decide) h (fun h => ?_) (fun h => ?_)
                      · refine z_iconst B dX5_next_378 ?_
                        refine z_lv (lv' := [(0, .ref (ad 0)), (1, .int (hg_I v7))]) B [1, 0] rfl ?_
                        exact rX5_next_379 B hr _ _ _ h
                      · refine z_lv (lv' := [(0, .ref (ad 0)), (1, .int (hg_I v7))]) B [1, 0] rfl ?_
                        exact rX5_next_374 B hr _ _ h
      · refine z_iconst B dX5_next_228 ?_
        refine z_istore_n B [(2, .int (hg_I 0)), (1, .int (hg_I v7)), (0, .ref (ad 0))] dX5_next_229 rfl (by decide) rfl ?_
        refine z_lv (lv' := [(0, .ref (ad 0)), (2, .int (hg_I 0))]) B [2, 0] rfl ?_
        exact rX5_next_230 B hr hg_F _ _ h
    · refine z_lv (lv' := [(0, .ref (ad 0))]) B [1] rfl ?_
      exact rX5_next_103 B hr hg_F _ h
  · exact z_vret B hr dX5_next_81 h
set_option maxHeartbeats 4000000 in
set_option maxRecDepth 100000 in
theorem rX5_next_39 (B : hg_B p s m args meth c cX5_next RX5 wsL_law 3 D cI cA ad 1 A) (hr : meth.sig.returnType = none) {w1 : hg_W} {r1 : Int} {K0 : hg_W → Option (hg_W × Int)} (hK0 : ∀ (w : hg_W), K0 w = some (w1, r1) → hg_At p l e (rmX5_next) s m args below meth c D cI cA ad 1 A (MQ below (hg_Qv D cI cA ad 1 A w1) args s 0 0 A) 3 w [(0, .ref (ad 0))] 0 []) : ∀ (w : hg_W), fX5_next_39 K0 w = some (w1, r1) → hg_At p l e (rmX5_next) s m args below meth c D cI cA ad 1 A (MQ below (hg_Qv D cI cA ad 1 A w1) args s 0 0 A) 3 w [(0, .ref (ad 0))] 39 [] := by
  intro w h
  unfold fX5_next_39 at h
  refine z_aload_n B 0 dX5_next_39 rfl rfl ?_
  refine z_dup B dX5_next_40 rfl ?_
  refine z_get5 (v := .int (hg_I (w 0 20))) B 20 dX5_next_41 inlX5 (by decide) rfl (by decide) (wl_5 5 rfl) rfl rfl ?_
  refine z_iconst B dX5_next_44 ?_
  refine z_iadd B dX5_next_45 ?_
  obtain ⟨w1, q2, h⟩ := Option.bind_eq_some_iff.mp h
  refine z_put5 B 20 dX5_next_46 inlX5 (by decide) rfl (by decide) (wl_5 5 rfl) rfl rfl .int (by decide +kernel) rfl rfl hg_fs5_20 q2 ?_
  refine z_goto (tgt := 0) B dX5_next_49 (by decide) ?_
  exact hK0 _ h
set_option maxHeartbeats 4000000 in
set_option maxRecDepth 100000 in
theorem rX5_next_0 (B : hg_B p s m args meth c cX5_next RX5 wsL_law 3 D cI cA ad 1 A) (hr : meth.sig.returnType = none) {w1 : hg_W} {r1 : Int} : ∀ (n : Nat), ∀ (w : hg_W), fX5_next_0 n w = some (w1, r1) → hg_At p l e (rmX5_next) s m args below meth c D cI cA ad 1 A (MQ below (hg_Qv D cI cA ad 1 A w1) args s 0 0 A) 3 w [(0, .ref (ad 0))] 0 [] := by
  intro n
  induction n with
  | zero =>
    intro w h
    cases h
  | succ n ih =>
    intro w h
    simp only [fX5_next_0] at h
    refine z_aload_n B 0 dX5_next_0 rfl rfl ?_
    refine z_get5 (v := .int (hg_I (w 0 20))) B 20 dX5_next_1 inlX5 (by decide) rfl (by decide) (wl_5 5 rfl) rfl rfl ?_
    refine z_aload_n B 0 dX5_next_4 rfl rfl ?_
    refine z_get5 (v := .int (hg_I (w 0 8))) B 8 dX5_next_5 inlX5 (by decide) rfl (by decide) (wl_4 23 rfl) rfl rfl ?_
    refine z_icmp_ge (tgt := 52) B dX5_next_8 (by decide) h (fun h => ?_) (fun h => ?_)
    · exact rX5_next_52 B hr _ h
    · refine z_aload_n B 0 dX5_next_11 rfl rfl ?_
      refine z_get5 (v := .ref (ad 5)) B 7 dX5_next_12 inlX5 (by decide) rfl (by decide) (wl_4 6 rfl) rfl rfl ?_
      refine z_aload_n B 0 dX5_next_15 rfl rfl ?_
      refine z_get5 (v := .int (hg_I (w 0 20))) B 20 dX5_next_16 inlX5 (by decide) rfl (by decide) (wl_5 5 rfl) rfl rfl ?_
      obtain ⟨v1, q2, h⟩ := Option.bind_eq_some_iff.mp h
      refine z_iald (Or.inr rfl) B dX5_next_19 q2 ?_
      refine z_bipush B dX5_next_20 (by decide) ?_
      refine z_icmp_eq (tgt := 39) B dX5_next_22 (by decide) h (fun h => ?_) (fun h => ?_)
      · exact rX5_next_39 B hr ih _ h
      · refine z_aload_n B 0 dX5_next_25 rfl rfl ?_
        refine z_get5 (v := .ref (ad 5)) B 7 dX5_next_26 inlX5 (by decide) rfl (by decide) (wl_4 6 rfl) rfl rfl ?_
        refine z_aload_n B 0 dX5_next_29 rfl rfl ?_
        refine z_get5 (v := .int (hg_I (w 0 20))) B 20 dX5_next_30 inlX5 (by decide) rfl (by decide) (wl_5 5 rfl) rfl rfl ?_
        obtain ⟨v3, q4, h⟩ := Option.bind_eq_some_iff.mp h
        refine z_iald (Or.inr rfl) B dX5_next_33 q4 ?_
        refine z_bipush B dX5_next_34 (by decide) ?_
        refine z_icmp_ne (tgt := 52) B dX5_next_36 (by decide) h (fun h => ?_) (fun h => ?_)
        · exact rX5_next_52 B hr _ h
        · exact rX5_next_39 B hr ih _ h
set_option maxHeartbeats 4000000 in
set_option maxRecDepth 100000 in
theorem rX5_next_E (B : hg_B p s m args meth c cX5_next RX5 wsL_law 3 D cI cA ad 1 A) (hr : meth.sig.returnType = none) {w1 : hg_W} {r1 : Int} {w : hg_W} (h : fX5_next w = some (w1, r1)) : hg_At p l e (rmX5_next) s m args below meth c D cI cA ad 1 A (MQ below (hg_Qv D cI cA ad 1 A w1) args s 0 0 A) 3 w [(0, .ref (ad 0))] 0 [] := by
  unfold fX5_next at h
  exact rX5_next_0 B hr hg_F _ h
set_option maxHeartbeats 4000000 in
set_option maxRecDepth 100000 in
theorem c_X5_next {l : Launch} {D : va_G} {cI cA : ClassId} {ad : Nat → Nat} {w w1 : hg_W} {r1 : Int} (h : fX5_next w = some (w1, r1)) : hg_Mv l yX5_next wxX5_next rmX5_next D cI cA ad 1 w [.ref (ad 0)] w1 := by
  refine z_metv cX5_next 3 none (by decide) (Nat.le_of_ble_eq_true rfl) ?_
  intro p e s m args below meth c A B hr
  exact rX5_next_E B hr h
abbrev wxX5_puts : List Cond := Cond.code yX5_puts cX5_puts 2 none :: wsL_law
def fX5_puts (w : hg_W) (a1 : Int) : Option (hg_W × Int) :=
  (hg_as 1 w 6 ((200 * (w 0 11)) + (w 0 28)) a1).bind fun w1 =>
  (hg_pt w1 0 28 ((w1 0 28) + 1)).bind fun w3 =>
  some (w3, 0)
set_option maxHeartbeats 4000000 in
set_option maxRecDepth 100000 in
abbrev rmX5_puts : Room := { frames := 0, cells := 0, slots := 0, locals := 0 }
set_option maxHeartbeats 4000000 in
set_option maxRecDepth 100000 in
theorem rX5_puts_E (B : hg_B p s m args meth c cX5_puts RX5 wsL_law 2 D cI cA ad 1 A) (hr : meth.sig.returnType = none) {a1 : Int} {w1 : hg_W} {r1 : Int} {w : hg_W} (h : fX5_puts w a1 = some (w1, r1)) : hg_At p l e (rmX5_puts) s m args below meth c D cI cA ad 1 A (MQ below (hg_Qv D cI cA ad 1 A w1) args s 0 0 A) 2 w [(0, .ref (ad 0)), (1, .int (hg_I a1))] 0 [] := by
  unfold fX5_puts at h
  refine z_aload_n B 0 dX5_puts_0 rfl rfl ?_
  refine z_get5 (v := .ref (ad 6)) B 9 dX5_puts_1 inlX5 (by decide) rfl (by decide) (wl_4 7 rfl) rfl rfl ?_
  refine z_sipush B dX5_puts_4 (by decide) ?_
  refine z_aload_n B 0 dX5_puts_7 rfl rfl ?_
  refine z_get5 (v := .int (hg_I (w 0 11))) B 11 dX5_puts_8 inlX5 (by decide) rfl (by decide) (wl_5 4 rfl) rfl rfl ?_
  refine z_imul B dX5_puts_11 ?_
  refine z_aload_n B 0 dX5_puts_12 rfl rfl ?_
  refine z_get5 (v := .int (hg_I (w 0 28))) B 28 dX5_puts_13 inlX5 (by decide) rfl (by decide) (wl_5 6 rfl) rfl rfl ?_
  refine z_iadd B dX5_puts_16 ?_
  refine z_iload_n B 1 dX5_puts_17 rfl rfl ?_
  obtain ⟨w1, q2, h⟩ := Option.bind_eq_some_iff.mp h
  refine z_iast (Or.inr rfl) B dX5_puts_18 q2 ?_
  refine z_aload_n B 0 dX5_puts_19 rfl rfl ?_
  refine z_dup B dX5_puts_20 rfl ?_
  refine z_get5 (v := .int (hg_I (w1 0 28))) B 28 dX5_puts_21 inlX5 (by decide) rfl (by decide) (wl_5 6 rfl) rfl rfl ?_
  refine z_iconst B dX5_puts_24 ?_
  refine z_iadd B dX5_puts_25 ?_
  obtain ⟨w3, q4, h⟩ := Option.bind_eq_some_iff.mp h
  refine z_put5 B 28 dX5_puts_26 inlX5 (by decide) rfl (by decide) (wl_5 6 rfl) rfl rfl .int (by decide +kernel) rfl rfl hg_fs5_28 q4 ?_
  exact z_vret B hr dX5_puts_29 h
set_option maxHeartbeats 4000000 in
set_option maxRecDepth 100000 in
theorem c_X5_puts {l : Launch} {D : va_G} {cI cA : ClassId} {ad : Nat → Nat} {a1 : Int} {w w1 : hg_W} {r1 : Int} (h : fX5_puts w a1 = some (w1, r1)) : hg_Mv l yX5_puts wxX5_puts rmX5_puts D cI cA ad 1 w [.ref (ad 0), .int (hg_I a1)] w1 := by
  refine z_metv cX5_puts 2 none (by decide) (Nat.le_of_ble_eq_true rfl) ?_
  intro p e s m args below meth c A B hr
  exact rX5_puts_E B hr h
abbrev wxX5_rank : List Cond := Cond.code yX5_rank cX5_rank 1 (some .int) :: wsL_law
def fX5_rank (w : hg_W) (a1 : Int) : Option (hg_W × Int) :=
  if wr a1 = 0 then
    (
      some (w, wr 0)
    )
  else
    if wr a1 = wr 11 then
      (
        some (w, wr 1)
      )
    else
      if wr a1 = wr 12 then
        (
          some (w, wr 2)
        )
      else
        if wr a1 = wr 13 then
          (
            some (w, wr 3)
          )
        else
          if wr 15 < wr a1 then
            (
              if wr 17 < wr a1 then
                (
                  if wr a1 = wr 18 then
                    (
                      some (w, wr 6)
                    )
                  else
                    some (w, wr 7)
                )
              else
                some (w, wr 5)
            )
          else
            some (w, wr 4)
set_option maxHeartbeats 4000000 in
set_option maxRecDepth 100000 in
abbrev rmX5_rank : Room := { frames := 0, cells := 0, slots := 0, locals := 0 }
set_option maxHeartbeats 4000000 in
set_option maxRecDepth 100000 in
theorem rX5_rank_E (B : hg_B p s m args meth c cX5_rank RX5 wsL_law 1 D cI cA ad 1 A) (hr : meth.sig.returnType = (some .int)) {a1 : Int} {w1 : hg_W} {r1 : Int} {w : hg_W} (h : fX5_rank w a1 = some (w1, r1)) : hg_At p l e (rmX5_rank) s m args below meth c D cI cA ad 1 A (MQ below (hg_Qi D cI cA ad 1 A w1 r1) args s 0 0 A) 1 w [(0, .int (hg_I a1))] 0 [] := by
  unfold fX5_rank at h
  refine z_iload_n B 0 dX5_rank_0 rfl rfl ?_
  refine z_if_ne (tgt := 8) B dX5_rank_1 (by decide) h (fun h => ?_) (fun h => ?_)
  · refine z_iload_n B 0 dX5_rank_8 rfl rfl ?_
    refine z_bipush B dX5_rank_9 (by decide) ?_
    refine z_icmp_ne (tgt := 18) B dX5_rank_11 (by decide) h (fun h => ?_) (fun h => ?_)
    · refine z_iload_n B 0 dX5_rank_18 rfl rfl ?_
      refine z_bipush B dX5_rank_19 (by decide) ?_
      refine z_icmp_ne (tgt := 28) B dX5_rank_21 (by decide) h (fun h => ?_) (fun h => ?_)
      · refine z_iload_n B 0 dX5_rank_28 rfl rfl ?_
        refine z_bipush B dX5_rank_29 (by decide) ?_
        refine z_icmp_ne (tgt := 38) B dX5_rank_31 (by decide) h (fun h => ?_) (fun h => ?_)
        · refine z_iload_n B 0 dX5_rank_38 rfl rfl ?_
          refine z_bipush B dX5_rank_39 (by decide) ?_
          refine z_icmp_gt (tgt := 48) B dX5_rank_41 (by decide) h (fun h => ?_) (fun h => ?_)
          · refine z_iload_n B 0 dX5_rank_48 rfl rfl ?_
            refine z_bipush B dX5_rank_49 (by decide) ?_
            refine z_icmp_gt (tgt := 58) B dX5_rank_51 (by decide) h (fun h => ?_) (fun h => ?_)
            · refine z_iload_n B 0 dX5_rank_58 rfl rfl ?_
              refine z_bipush B dX5_rank_59 (by decide) ?_
              refine z_icmp_ne (tgt := 69) B dX5_rank_61 (by decide) h (fun h => ?_) (fun h => ?_)
              · refine z_bipush B dX5_rank_69 (by decide) ?_
                exact z_iret B hr dX5_rank_71 h
              · refine z_bipush B dX5_rank_64 (by decide) ?_
                refine z_goto (tgt := 71) B dX5_rank_66 (by decide) ?_
                exact z_iret B hr dX5_rank_71 h
            · refine z_iconst B dX5_rank_54 ?_
              refine z_goto (tgt := 71) B dX5_rank_55 (by decide) ?_
              exact z_iret B hr dX5_rank_71 h
          · refine z_iconst B dX5_rank_44 ?_
            refine z_goto (tgt := 71) B dX5_rank_45 (by decide) ?_
            exact z_iret B hr dX5_rank_71 h
        · refine z_iconst B dX5_rank_34 ?_
          refine z_goto (tgt := 71) B dX5_rank_35 (by decide) ?_
          exact z_iret B hr dX5_rank_71 h
      · refine z_iconst B dX5_rank_24 ?_
        refine z_goto (tgt := 71) B dX5_rank_25 (by decide) ?_
        exact z_iret B hr dX5_rank_71 h
    · refine z_iconst B dX5_rank_14 ?_
      refine z_goto (tgt := 71) B dX5_rank_15 (by decide) ?_
      exact z_iret B hr dX5_rank_71 h
  · refine z_iconst B dX5_rank_4 ?_
    refine z_goto (tgt := 71) B dX5_rank_5 (by decide) ?_
    exact z_iret B hr dX5_rank_71 h
set_option maxHeartbeats 4000000 in
set_option maxRecDepth 100000 in
theorem c_X5_rank {l : Launch} {D : va_G} {cI cA : ClassId} {ad : Nat → Nat} {a1 : Int} {w w1 : hg_W} {r1 : Int} (h : fX5_rank w a1 = some (w1, r1)) : hg_Mi l yX5_rank wxX5_rank rmX5_rank D cI cA ad 1 w [.int (hg_I a1)] w1 r1 := by
  refine z_meti cX5_rank 1 (some .int) (by decide) (Nat.le_of_ble_eq_true rfl) ?_
  intro p e s m args below meth c A B hr
  exact rX5_rank_E B hr h
abbrev wxX5_unwinds : List Cond := Cond.code yX5_unwinds cX5_unwinds 3 none :: wsL_law
def fX5_unwinds_67 (K0 : hg_W → Int → Option (hg_W × Int))  (w : hg_W) (x1 : Int) (x2 : Int) (s1 : Int) (s2 : Int) : Option (hg_W × Int) :=
  (hg_pt w 0 27 (s1 - s2)).bind fun w1 =>
  hg_bd (fX5_puts w1 x2) fun w3 _ =>
  K0 w3 x1
def fX5_unwinds_62 (K0 : hg_W → Int → Option (hg_W × Int))  (w : hg_W) (x1 : Int) (x2 : Int) (s1 : Int) : Option (hg_W × Int) :=
  fX5_unwinds_67 K0 w x1 x2 s1 1
def fX5_unwinds_0   : Nat → hg_W → Int → Option (hg_W × Int)
  | 0, _, _ => none
  | n + 1, w, x1 =>
    if wr (w 0 26) ≤ 0 then
      (
        some (w, 0)
      )
    else
      (hg_ag 1 w 15 ((w 0 26) - 1)).bind fun v1 =>
      hg_bd (fX5_rank w v1) fun w3 v4 =>
      if wr v4 < wr x1 then
        (
          some (w3, 0)
        )
      else
        (hg_pt w3 0 26 ((w3 0 26) - 1)).bind fun w6 =>
        (hg_ag 1 w6 15 (w6 0 26)).bind fun v8 =>
        if wr v8 = wr 13 then
          (
            fX5_unwinds_62 (fX5_unwinds_0 n) w6 x1 v8 (w6 0 27)
          )
        else
          if wr v8 = wr 19 then
            (
              fX5_unwinds_62 (fX5_unwinds_0 n) w6 x1 v8 (w6 0 27)
            )
          else
            fX5_unwinds_67 (fX5_unwinds_0 n) w6 x1 v8 (w6 0 27) 0
def fX5_unwinds (w : hg_W) (a1 : Int) : Option (hg_W × Int) :=
  fX5_unwinds_0 hg_F w a1
set_option maxHeartbeats 4000000 in
set_option maxRecDepth 100000 in
abbrev rmX5_unwinds : Room := { frames := 1, cells := 0, slots := 0, locals := 21 }
set_option maxHeartbeats 4000000 in
set_option maxRecDepth 100000 in
theorem rX5_unwinds_67 (B : hg_B p s m args meth c cX5_unwinds RX5 wsL_law 3 D cI cA ad 1 A) (hr : meth.sig.returnType = none) {w1 : hg_W} {r1 : Int} {K0 : hg_W → Int → Option (hg_W × Int)} (hK0 : ∀ (w : hg_W) (x1 : Int), K0 w x1 = some (w1, r1) → hg_At p l e (rmX5_unwinds) s m args below meth c D cI cA ad 1 A (MQ below (hg_Qv D cI cA ad 1 A w1) args s 0 0 A) 3 w [(0, .ref (ad 0)), (1, .int (hg_I x1))] 0 []) : ∀ (w : hg_W) (x1 : Int) (x2 : Int) (s1 : Int) (s2 : Int), fX5_unwinds_67 K0 w x1 x2 s1 s2 = some (w1, r1) → hg_At p l e (rmX5_unwinds) s m args below meth c D cI cA ad 1 A (MQ below (hg_Qv D cI cA ad 1 A w1) args s 0 0 A) 3 w [(0, .ref (ad 0)), (1, .int (hg_I x1)), (2, .int (hg_I x2))] 67 [.int (hg_I s2), .int (hg_I s1), .ref (ad 0)] := by
  intro w x1 x2 s1 s2 h
  unfold fX5_unwinds_67 at h
  refine z_isub B dX5_unwinds_67 ?_
  obtain ⟨w1, q2, h⟩ := Option.bind_eq_some_iff.mp h
  refine z_put5 B 27 dX5_unwinds_68 inlX5 (by decide) rfl (by decide) (wl_6 2 rfl) rfl rfl .int (by decide +kernel) rfl rfl hg_fs5_27 q2 ?_
  refine z_aload_n B 0 dX5_unwinds_71 rfl rfl ?_
  refine z_iload_n B 2 dX5_unwinds_72 rfl rfl ?_
  obtain ⟨w3, v4, q5, h⟩ := hg_bd_some h
  refine z_callvV (a := 0) (ci := 5) (N := 37) (T := TX5) (C := RX5) (As := [.int (hg_I x2)]) (n := 1) B dX5_unwinds_73 (c_X5_puts q5) (gl_V (wl_6 4 rfl) (wl_6 5 rfl) (wl_6 6 rfl) (wl_1 5 rfl) (wl_6 7 rfl)) rfl ⟨rfl, rfl⟩ (by decide +kernel) ⟨Nat.le_of_ble_eq_true rfl, Nat.le_of_ble_eq_true rfl⟩ (by decide) rfl (by decide) rfl rfl rfl (Nat.le_of_ble_eq_true rfl) ?_
  refine z_goto (tgt := 0) B dX5_unwinds_76 (by decide) ?_
  refine z_lv (lv' := [(0, .ref (ad 0)), (1, .int (hg_I x1))]) B [0, 1] rfl ?_
  exact hK0 _ _ h
set_option maxHeartbeats 4000000 in
set_option maxRecDepth 100000 in
theorem rX5_unwinds_62 (B : hg_B p s m args meth c cX5_unwinds RX5 wsL_law 3 D cI cA ad 1 A) (hr : meth.sig.returnType = none) {w1 : hg_W} {r1 : Int} {K0 : hg_W → Int → Option (hg_W × Int)} (hK0 : ∀ (w : hg_W) (x1 : Int), K0 w x1 = some (w1, r1) → hg_At p l e (rmX5_unwinds) s m args below meth c D cI cA ad 1 A (MQ below (hg_Qv D cI cA ad 1 A w1) args s 0 0 A) 3 w [(0, .ref (ad 0)), (1, .int (hg_I x1))] 0 []) : ∀ (w : hg_W) (x1 : Int) (x2 : Int) (s1 : Int), fX5_unwinds_62 K0 w x1 x2 s1 = some (w1, r1) → hg_At p l e (rmX5_unwinds) s m args below meth c D cI cA ad 1 A (MQ below (hg_Qv D cI cA ad 1 A w1) args s 0 0 A) 3 w [(0, .ref (ad 0)), (1, .int (hg_I x1)), (2, .int (hg_I x2))] 62 [.int (hg_I s1), .ref (ad 0)] := by
  intro w x1 x2 s1 h
  unfold fX5_unwinds_62 at h
  refine z_iconst B dX5_unwinds_62 ?_
  refine z_goto (tgt := 67) B dX5_unwinds_63 (by decide) ?_
  exact rX5_unwinds_67 B hr hK0 _ _ _ _ _ h
set_option maxHeartbeats 4000000 in
set_option maxRecDepth 100000 in
theorem rX5_unwinds_0 (B : hg_B p s m args meth c cX5_unwinds RX5 wsL_law 3 D cI cA ad 1 A) (hr : meth.sig.returnType = none) {w1 : hg_W} {r1 : Int} : ∀ (n : Nat), ∀ (w : hg_W) (x1 : Int), fX5_unwinds_0 n w x1 = some (w1, r1) → hg_At p l e (rmX5_unwinds) s m args below meth c D cI cA ad 1 A (MQ below (hg_Qv D cI cA ad 1 A w1) args s 0 0 A) 3 w [(0, .ref (ad 0)), (1, .int (hg_I x1))] 0 [] := by
  intro n
  induction n with
  | zero =>
    intro w x1 h
    cases h
  | succ n ih =>
    intro w x1 h
    simp only [fX5_unwinds_0] at h
    refine z_aload_n B 0 dX5_unwinds_0 rfl rfl ?_
    refine z_get5 (v := .int (hg_I (w 0 26))) B 26 dX5_unwinds_1 inlX5 (by decide) rfl (by decide) (wl_6 1 rfl) rfl rfl ?_
    refine z_if_le (tgt := 79) B dX5_unwinds_4 (by decide) h (fun h => ?_) (fun h => ?_)
    · exact z_vret B hr dX5_unwinds_79 h
    · refine z_aload_n B 0 dX5_unwinds_7 rfl rfl ?_
      refine z_get5 (v := .ref (ad 15)) B 25 dX5_unwinds_8 inlX5 (by decide) rfl (by decide) (wl_4 16 rfl) rfl rfl ?_
      refine z_aload_n B 0 dX5_unwinds_11 rfl rfl ?_
      refine z_get5 (v := .int (hg_I (w 0 26))) B 26 dX5_unwinds_12 inlX5 (by decide) rfl (by decide) (wl_6 1 rfl) rfl rfl ?_
      refine z_iconst B dX5_unwinds_15 ?_
      refine z_isub B dX5_unwinds_16 ?_
      obtain ⟨v1, q2, h⟩ := Option.bind_eq_some_iff.mp h
      refine z_iald (Or.inr rfl) B dX5_unwinds_17 q2 ?_
      obtain ⟨w3, v4, q5, h⟩ := hg_bd_some h
      refine z_calliS (As := [.int (hg_I v1)]) (n := 1) B dX5_unwinds_18 (c_X5_rank q5) (gl_S (wl_6 12 rfl) (wl_6 13 rfl) (wl_1 5 rfl) (wl_6 14 rfl)) rfl ⟨rfl, rfl⟩ (by decide +kernel) ⟨Nat.le_of_ble_eq_true rfl, Nat.le_of_ble_eq_true rfl⟩ rfl rfl (Nat.le_of_ble_eq_true rfl) ?_
      refine z_iload_n B 1 dX5_unwinds_21 rfl rfl ?_
      refine z_icmp_lt (tgt := 79) B dX5_unwinds_22 (by decide) h (fun h => ?_) (fun h => ?_)
      · exact z_vret B hr dX5_unwinds_79 h
      · refine z_aload_n B 0 dX5_unwinds_25 rfl rfl ?_
        refine z_dup B dX5_unwinds_26 rfl ?_
        refine z_get5 (v := .int (hg_I (w3 0 26))) B 26 dX5_unwinds_27 inlX5 (by decide) rfl (by decide) (wl_6 1 rfl) rfl rfl ?_
        refine z_iconst B dX5_unwinds_30 ?_
        refine z_isub B dX5_unwinds_31 ?_
        obtain ⟨w6, q7, h⟩ := Option.bind_eq_some_iff.mp h
        refine z_put5 B 26 dX5_unwinds_32 inlX5 (by decide) rfl (by decide) (wl_6 1 rfl) rfl rfl .int (by decide +kernel) rfl rfl hg_fs5_26 q7 ?_
        refine z_aload_n B 0 dX5_unwinds_35 rfl rfl ?_
        refine z_get5 (v := .ref (ad 15)) B 25 dX5_unwinds_36 inlX5 (by decide) rfl (by decide) (wl_4 16 rfl) rfl rfl ?_
        refine z_aload_n B 0 dX5_unwinds_39 rfl rfl ?_
        refine z_get5 (v := .int (hg_I (w6 0 26))) B 26 dX5_unwinds_40 inlX5 (by decide) rfl (by decide) (wl_6 1 rfl) rfl rfl ?_
        obtain ⟨v8, q9, h⟩ := Option.bind_eq_some_iff.mp h
        refine z_iald (Or.inr rfl) B dX5_unwinds_43 q9 ?_
        refine z_istore_n B [(2, .int (hg_I v8)), (0, .ref (ad 0)), (1, .int (hg_I x1))] dX5_unwinds_44 rfl (by decide) rfl ?_
        refine z_aload_n B 1 dX5_unwinds_45 rfl rfl ?_
        refine z_dup B dX5_unwinds_46 rfl ?_
        refine z_get5 (v := .int (hg_I (w6 0 27))) B 27 dX5_unwinds_47 inlX5 (by decide) rfl (by decide) (wl_6 2 rfl) rfl rfl ?_
        refine z_iload_n B 0 dX5_unwinds_50 rfl rfl ?_
        refine z_bipush B dX5_unwinds_51 (by decide) ?_
        refine z_icmp_eq (tgt := 62) B dX5_unwinds_53 (by decide) h (fun h => ?_) (fun h => ?_)
        · refine z_lv (lv' := [(0, .ref (ad 0)), (1, .int (hg_I x1)), (2, .int (hg_I v8))]) B [1, 2, 0] rfl ?_
          exact rX5_unwinds_62 B hr ih _ _ _ _ h
        · refine z_iload_n B 0 dX5_unwinds_56 rfl rfl ?_
          refine z_bipush B dX5_unwinds_57 (by decide) ?_
          refine z_icmp_ne (tgt := 66) B dX5_unwinds_59 (by decide) h (fun h => ?_) (fun h => ?_)
          · refine z_iconst B dX5_unwinds_66 ?_
            refine z_lv (lv' := [(0, .ref (ad 0)), (1, .int (hg_I x1)), (2, .int (hg_I v8))]) B [1, 2, 0] rfl ?_
            exact rX5_unwinds_67 B hr ih _ _ _ _ _ h
          · refine z_lv (lv' := [(0, .ref (ad 0)), (1, .int (hg_I x1)), (2, .int (hg_I v8))]) B [1, 2, 0] rfl ?_
            exact rX5_unwinds_62 B hr ih _ _ _ _ h
set_option maxHeartbeats 4000000 in
set_option maxRecDepth 100000 in
theorem rX5_unwinds_E (B : hg_B p s m args meth c cX5_unwinds RX5 wsL_law 3 D cI cA ad 1 A) (hr : meth.sig.returnType = none) {a1 : Int} {w1 : hg_W} {r1 : Int} {w : hg_W} (h : fX5_unwinds w a1 = some (w1, r1)) : hg_At p l e (rmX5_unwinds) s m args below meth c D cI cA ad 1 A (MQ below (hg_Qv D cI cA ad 1 A w1) args s 0 0 A) 3 w [(0, .ref (ad 0)), (1, .int (hg_I a1))] 0 [] := by
  unfold fX5_unwinds at h
  exact rX5_unwinds_0 B hr hg_F _ _ h
set_option maxHeartbeats 4000000 in
set_option maxRecDepth 100000 in
theorem c_X5_unwinds {l : Launch} {D : va_G} {cI cA : ClassId} {ad : Nat → Nat} {a1 : Int} {w w1 : hg_W} {r1 : Int} (h : fX5_unwinds w a1 = some (w1, r1)) : hg_Mv l yX5_unwinds wxX5_unwinds rmX5_unwinds D cI cA ad 1 w [.ref (ad 0), .int (hg_I a1)] w1 := by
  refine z_metv cX5_unwinds 3 none (by decide) (Nat.le_of_ble_eq_true rfl) ?_
  intro p e s m args below meth c A B hr
  exact rX5_unwinds_E B hr h
abbrev wxX5_holds : List Cond := Cond.code yX5_holds cX5_holds 2 none :: wsL_law
def fX5_holds (w : hg_W) (a1 : Int) : Option (hg_W × Int) :=
  (hg_as 1 w 15 (w 0 26) a1).bind fun w1 =>
  (hg_pt w1 0 26 ((w1 0 26) + 1)).bind fun w3 =>
  some (w3, 0)
set_option maxHeartbeats 4000000 in
set_option maxRecDepth 100000 in
abbrev rmX5_holds : Room := { frames := 0, cells := 0, slots := 0, locals := 0 }
set_option maxHeartbeats 4000000 in
set_option maxRecDepth 100000 in
theorem rX5_holds_E (B : hg_B p s m args meth c cX5_holds RX5 wsL_law 2 D cI cA ad 1 A) (hr : meth.sig.returnType = none) {a1 : Int} {w1 : hg_W} {r1 : Int} {w : hg_W} (h : fX5_holds w a1 = some (w1, r1)) : hg_At p l e (rmX5_holds) s m args below meth c D cI cA ad 1 A (MQ below (hg_Qv D cI cA ad 1 A w1) args s 0 0 A) 2 w [(0, .ref (ad 0)), (1, .int (hg_I a1))] 0 [] := by
  unfold fX5_holds at h
  refine z_aload_n B 0 dX5_holds_0 rfl rfl ?_
  refine z_get5 (v := .ref (ad 15)) B 25 dX5_holds_1 inlX5 (by decide) rfl (by decide) (wl_4 16 rfl) rfl rfl ?_
  refine z_aload_n B 0 dX5_holds_4 rfl rfl ?_
  refine z_get5 (v := .int (hg_I (w 0 26))) B 26 dX5_holds_5 inlX5 (by decide) rfl (by decide) (wl_6 1 rfl) rfl rfl ?_
  refine z_iload_n B 1 dX5_holds_8 rfl rfl ?_
  obtain ⟨w1, q2, h⟩ := Option.bind_eq_some_iff.mp h
  refine z_iast (Or.inr rfl) B dX5_holds_9 q2 ?_
  refine z_aload_n B 0 dX5_holds_10 rfl rfl ?_
  refine z_dup B dX5_holds_11 rfl ?_
  refine z_get5 (v := .int (hg_I (w1 0 26))) B 26 dX5_holds_12 inlX5 (by decide) rfl (by decide) (wl_6 1 rfl) rfl rfl ?_
  refine z_iconst B dX5_holds_15 ?_
  refine z_iadd B dX5_holds_16 ?_
  obtain ⟨w3, q4, h⟩ := Option.bind_eq_some_iff.mp h
  refine z_put5 B 26 dX5_holds_17 inlX5 (by decide) rfl (by decide) (wl_6 1 rfl) rfl rfl .int (by decide +kernel) rfl rfl hg_fs5_26 q4 ?_
  exact z_vret B hr dX5_holds_20 h
set_option maxHeartbeats 4000000 in
set_option maxRecDepth 100000 in
theorem c_X5_holds {l : Launch} {D : va_G} {cI cA : ClassId} {ad : Nat → Nat} {a1 : Int} {w w1 : hg_W} {r1 : Int} (h : fX5_holds w a1 = some (w1, r1)) : hg_Mv l yX5_holds wxX5_holds rmX5_holds D cI cA ad 1 w [.ref (ad 0), .int (hg_I a1)] w1 := by
  refine z_metv cX5_holds 2 none (by decide) (Nat.le_of_ble_eq_true rfl) ?_
  intro p e s m args below meth c A B hr
  exact rX5_holds_E B hr h
abbrev wxX5_opensOne : List Cond := Cond.code yX5_opensOne cX5_opensOne 2 (some .boolean) :: wsL_law
def fX5_opensOne (w : hg_W) (a1 : Int) : Option (hg_W × Int) :=
  if wr (w 0 27) = wr 5 then
    (
      if wr 0 = 0 ∨ wr 0 = 1 then some (w, wr 0) else none
    )
  else
    (hg_pt w 0 27 ((w 0 27) + 1)).bind fun w1 =>
    hg_bd (fX5_holds w1 a1) fun w3 _ =>
    if wr 1 = 0 ∨ wr 1 = 1 then some (w3, wr 1) else none
set_option maxHeartbeats 4000000 in
set_option maxRecDepth 100000 in
abbrev rmX5_opensOne : Room := { frames := 1, cells := 0, slots := 0, locals := 21 }
set_option maxHeartbeats 4000000 in
set_option maxRecDepth 100000 in
theorem rX5_opensOne_E (B : hg_B p s m args meth c cX5_opensOne RX5 wsL_law 2 D cI cA ad 1 A) (hr : meth.sig.returnType = (some .boolean)) {a1 : Int} {w1 : hg_W} {r1 : Int} {w : hg_W} (h : fX5_opensOne w a1 = some (w1, r1)) : hg_At p l e (rmX5_opensOne) s m args below meth c D cI cA ad 1 A (MQ below (hg_Qi D cI cA ad 1 A w1 r1) args s 0 0 A) 2 w [(0, .ref (ad 0)), (1, .int (hg_I a1))] 0 [] := by
  unfold fX5_opensOne at h
  refine z_aload_n B 0 dX5_opensOne_0 rfl rfl ?_
  refine z_get5 (v := .int (hg_I (w 0 27))) B 27 dX5_opensOne_1 inlX5 (by decide) rfl (by decide) (wl_6 2 rfl) rfl rfl ?_
  refine z_iconst B dX5_opensOne_4 ?_
  refine z_icmp_ne (tgt := 10) B dX5_opensOne_5 (by decide) h (fun h => ?_) (fun h => ?_)
  · refine z_aload_n B 0 dX5_opensOne_10 rfl rfl ?_
    refine z_dup B dX5_opensOne_11 rfl ?_
    refine z_get5 (v := .int (hg_I (w 0 27))) B 27 dX5_opensOne_12 inlX5 (by decide) rfl (by decide) (wl_6 2 rfl) rfl rfl ?_
    refine z_iconst B dX5_opensOne_15 ?_
    refine z_iadd B dX5_opensOne_16 ?_
    obtain ⟨w1, q2, h⟩ := Option.bind_eq_some_iff.mp h
    refine z_put5 B 27 dX5_opensOne_17 inlX5 (by decide) rfl (by decide) (wl_6 2 rfl) rfl rfl .int (by decide +kernel) rfl rfl hg_fs5_27 q2 ?_
    refine z_aload_n B 0 dX5_opensOne_20 rfl rfl ?_
    refine z_iload_n B 1 dX5_opensOne_21 rfl rfl ?_
    obtain ⟨w3, v4, q5, h⟩ := hg_bd_some h
    refine z_callvV (a := 0) (ci := 5) (N := 37) (T := TX5) (C := RX5) (As := [.int (hg_I a1)]) (n := 1) B dX5_opensOne_22 (c_X5_holds q5) (gl_V (wl_6 19 rfl) (wl_6 20 rfl) (wl_6 21 rfl) (wl_1 5 rfl) (wl_6 22 rfl)) rfl ⟨rfl, rfl⟩ (by decide +kernel) ⟨Nat.le_of_ble_eq_true rfl, Nat.le_of_ble_eq_true rfl⟩ (by decide) rfl (by decide) rfl rfl rfl (Nat.le_of_ble_eq_true rfl) ?_
    refine z_iconst B dX5_opensOne_25 ?_
    exact z_bret B hr dX5_opensOne_26 h
  · refine z_iconst B dX5_opensOne_8 ?_
    exact z_bret B hr dX5_opensOne_9 h
set_option maxHeartbeats 4000000 in
set_option maxRecDepth 100000 in
theorem c_X5_opensOne {l : Launch} {D : va_G} {cI cA : ClassId} {ad : Nat → Nat} {a1 : Int} {w w1 : hg_W} {r1 : Int} (h : fX5_opensOne w a1 = some (w1, r1)) : hg_Mi l yX5_opensOne wxX5_opensOne rmX5_opensOne D cI cA ad 1 w [.ref (ad 0), .int (hg_I a1)] w1 r1 := by
  refine z_meti cX5_opensOne 2 (some .boolean) (by decide) (Nat.le_of_ble_eq_true rfl) ?_
  intro p e s m args below meth c A B hr
  exact rX5_opensOne_E B hr h
abbrev wxX5_signOf : List Cond := Cond.code yX5_signOf cX5_signOf 1 (some .int) :: wsL_law
def fX5_signOf (w : hg_W) : Option (hg_W × Int) :=
  if wr (w 0 22) = wr 4 then
    (
      some (w, wr 11)
    )
  else
    if wr (w 0 22) = wr 5 then
      (
        some (w, wr 12)
      )
    else
      if wr (w 0 22) = wr 60 then
        (
          some (w, wr 14)
        )
      else
        if wr (w 0 22) = wr 61 then
          (
            some (w, wr 15)
          )
        else
          if wr (w 0 22) = wr 43 then
            (
              some (w, wr 16)
            )
          else
            if wr (w 0 22) = wr 45 then
              (
                some (w, wr 17)
              )
            else
              if wr (w 0 22) = wr 42 then
                (
                  some (w, wr 18)
                )
              else
                some (w, wr (-1))
set_option maxHeartbeats 4000000 in
set_option maxRecDepth 100000 in
abbrev rmX5_signOf : Room := { frames := 0, cells := 0, slots := 0, locals := 0 }
set_option maxHeartbeats 4000000 in
set_option maxRecDepth 100000 in
theorem rX5_signOf_E (B : hg_B p s m args meth c cX5_signOf RX5 wsL_law 1 D cI cA ad 1 A) (hr : meth.sig.returnType = (some .int)) {w1 : hg_W} {r1 : Int} {w : hg_W} (h : fX5_signOf w = some (w1, r1)) : hg_At p l e (rmX5_signOf) s m args below meth c D cI cA ad 1 A (MQ below (hg_Qi D cI cA ad 1 A w1 r1) args s 0 0 A) 1 w [(0, .ref (ad 0))] 0 [] := by
  unfold fX5_signOf at h
  refine z_aload_n B 0 dX5_signOf_0 rfl rfl ?_
  refine z_get5 (v := .int (hg_I (w 0 22))) B 22 dX5_signOf_1 inlX5 (by decide) rfl (by decide) (wl_5 7 rfl) rfl rfl ?_
  refine z_iconst B dX5_signOf_4 ?_
  refine z_icmp_ne (tgt := 13) B dX5_signOf_5 (by decide) h (fun h => ?_) (fun h => ?_)
  · refine z_aload_n B 0 dX5_signOf_13 rfl rfl ?_
    refine z_get5 (v := .int (hg_I (w 0 22))) B 22 dX5_signOf_14 inlX5 (by decide) rfl (by decide) (wl_5 7 rfl) rfl rfl ?_
    refine z_iconst B dX5_signOf_17 ?_
    refine z_icmp_ne (tgt := 26) B dX5_signOf_18 (by decide) h (fun h => ?_) (fun h => ?_)
    · refine z_aload_n B 0 dX5_signOf_26 rfl rfl ?_
      refine z_get5 (v := .int (hg_I (w 0 22))) B 22 dX5_signOf_27 inlX5 (by decide) rfl (by decide) (wl_5 7 rfl) rfl rfl ?_
      refine z_bipush B dX5_signOf_30 (by decide) ?_
      refine z_icmp_ne (tgt := 40) B dX5_signOf_32 (by decide) h (fun h => ?_) (fun h => ?_)
      · refine z_aload_n B 0 dX5_signOf_40 rfl rfl ?_
        refine z_get5 (v := .int (hg_I (w 0 22))) B 22 dX5_signOf_41 inlX5 (by decide) rfl (by decide) (wl_5 7 rfl) rfl rfl ?_
        refine z_bipush B dX5_signOf_44 (by decide) ?_
        refine z_icmp_ne (tgt := 54) B dX5_signOf_46 (by decide) h (fun h => ?_) (fun h => ?_)
        · refine z_aload_n B 0 dX5_signOf_54 rfl rfl ?_
          refine z_get5 (v := .int (hg_I (w 0 22))) B 22 dX5_signOf_55 inlX5 (by decide) rfl (by decide) (wl_5 7 rfl) rfl rfl ?_
          refine z_bipush B dX5_signOf_58 (by decide) ?_
          refine z_icmp_ne (tgt := 68) B dX5_signOf_60 (by decide) h (fun h => ?_) (fun h => ?_)
          · refine z_aload_n B 0 dX5_signOf_68 rfl rfl ?_
            refine z_get5 (v := .int (hg_I (w 0 22))) B 22 dX5_signOf_69 inlX5 (by decide) rfl (by decide) (wl_5 7 rfl) rfl rfl ?_
            refine z_bipush B dX5_signOf_72 (by decide) ?_
            refine z_icmp_ne (tgt := 82) B dX5_signOf_74 (by decide) h (fun h => ?_) (fun h => ?_)
            · refine z_aload_n B 0 dX5_signOf_82 rfl rfl ?_
              refine z_get5 (v := .int (hg_I (w 0 22))) B 22 dX5_signOf_83 inlX5 (by decide) rfl (by decide) (wl_5 7 rfl) rfl rfl ?_
              refine z_bipush B dX5_signOf_86 (by decide) ?_
              refine z_icmp_ne (tgt := 96) B dX5_signOf_88 (by decide) h (fun h => ?_) (fun h => ?_)
              · refine z_iconst B dX5_signOf_96 ?_
                exact z_iret B hr dX5_signOf_97 h
              · refine z_bipush B dX5_signOf_91 (by decide) ?_
                refine z_goto (tgt := 97) B dX5_signOf_93 (by decide) ?_
                exact z_iret B hr dX5_signOf_97 h
            · refine z_bipush B dX5_signOf_77 (by decide) ?_
              refine z_goto (tgt := 97) B dX5_signOf_79 (by decide) ?_
              exact z_iret B hr dX5_signOf_97 h
          · refine z_bipush B dX5_signOf_63 (by decide) ?_
            refine z_goto (tgt := 97) B dX5_signOf_65 (by decide) ?_
            exact z_iret B hr dX5_signOf_97 h
        · refine z_bipush B dX5_signOf_49 (by decide) ?_
          refine z_goto (tgt := 97) B dX5_signOf_51 (by decide) ?_
          exact z_iret B hr dX5_signOf_97 h
      · refine z_bipush B dX5_signOf_35 (by decide) ?_
        refine z_goto (tgt := 97) B dX5_signOf_37 (by decide) ?_
        exact z_iret B hr dX5_signOf_97 h
    · refine z_bipush B dX5_signOf_21 (by decide) ?_
      refine z_goto (tgt := 97) B dX5_signOf_23 (by decide) ?_
      exact z_iret B hr dX5_signOf_97 h
  · refine z_bipush B dX5_signOf_8 (by decide) ?_
    refine z_goto (tgt := 97) B dX5_signOf_10 (by decide) ?_
    exact z_iret B hr dX5_signOf_97 h
set_option maxHeartbeats 4000000 in
set_option maxRecDepth 100000 in
theorem c_X5_signOf {l : Launch} {D : va_G} {cI cA : ClassId} {ad : Nat → Nat} {w w1 : hg_W} {r1 : Int} (h : fX5_signOf w = some (w1, r1)) : hg_Mi l yX5_signOf wxX5_signOf rmX5_signOf D cI cA ad 1 w [.ref (ad 0)] w1 r1 := by
  refine z_meti cX5_signOf 1 (some .int) (by decide) (Nat.le_of_ble_eq_true rfl) ?_
  intro p e s m args below meth c A B hr
  exact rX5_signOf_E B hr h
abbrev wxX5_between : List Cond := Cond.code yX5_between cX5_between 2 (some .boolean) :: wsL_law
def fX5_between_55   (w : hg_W) (x1 : Int) : Option (hg_W × Int) :=
  hg_bd (fX5_holds w x1) fun w1 _ =>
  if wr 1 = 0 ∨ wr 1 = 1 then some (w1, wr 1) else none
def fX5_between_17   (w : hg_W) (x1 : Int) (s1 : Int) : Option (hg_W × Int) :=
  hg_bd (fX5_unwinds w s1) fun w1 _ =>
  hg_bd (fX5_rank w1 x1) fun w4 v5 =>
  if wr v5 = wr 4 then
    (
      if wr (w4 0 26) ≤ 0 then
        (
          fX5_between_55 w4 x1
        )
      else
        (hg_ag 1 w4 15 ((w4 0 26) - 1)).bind fun v7 =>
        hg_bd (fX5_rank w4 v7) fun w9 v10 =>
        if wr v10 = wr 4 then
          (
            if wr 0 = 0 ∨ wr 0 = 1 then some (w9, wr 0) else none
          )
        else
          fX5_between_55 w9 x1
    )
  else
    fX5_between_55 w4 x1
def fX5_between (w : hg_W) (a1 : Int) : Option (hg_W × Int) :=
  hg_bd (fX5_rank w a1) fun w1 v2 =>
  if wr v2 = wr 4 then
    (
      fX5_between_17 w1 a1 5
    )
  else
    hg_bd (fX5_rank w1 a1) fun w4 v5 =>
    fX5_between_17 w4 a1 v5
set_option maxHeartbeats 4000000 in
set_option maxRecDepth 100000 in
abbrev rmX5_between : Room := { frames := 2, cells := 0, slots := 0, locals := 43 }
set_option maxHeartbeats 4000000 in
set_option maxRecDepth 100000 in
theorem rX5_between_55 (B : hg_B p s m args meth c cX5_between RX5 wsL_law 2 D cI cA ad 1 A) (hr : meth.sig.returnType = (some .boolean)) {w1 : hg_W} {r1 : Int} : ∀ (w : hg_W) (x1 : Int), fX5_between_55 w x1 = some (w1, r1) → hg_At p l e (rmX5_between) s m args below meth c D cI cA ad 1 A (MQ below (hg_Qi D cI cA ad 1 A w1 r1) args s 0 0 A) 2 w [(0, .ref (ad 0)), (1, .int (hg_I x1))] 55 [] := by
  intro w x1 h
  unfold fX5_between_55 at h
  refine z_aload_n B 0 dX5_between_55 rfl rfl ?_
  refine z_iload_n B 1 dX5_between_56 rfl rfl ?_
  obtain ⟨w1, v2, q3, h⟩ := hg_bd_some h
  refine z_callvV (a := 0) (ci := 5) (N := 37) (T := TX5) (C := RX5) (As := [.int (hg_I x1)]) (n := 1) B dX5_between_57 (c_X5_holds q3) (gl_V (wl_6 19 rfl) (wl_6 20 rfl) (wl_6 21 rfl) (wl_1 5 rfl) (wl_6 22 rfl)) rfl ⟨rfl, rfl⟩ (by decide +kernel) ⟨Nat.le_of_ble_eq_true rfl, Nat.le_of_ble_eq_true rfl⟩ (by decide) rfl (by decide) rfl rfl rfl (Nat.le_of_ble_eq_true rfl) ?_
  refine z_iconst B dX5_between_60 ?_
  exact z_bret B hr dX5_between_61 h
set_option maxHeartbeats 4000000 in
set_option maxRecDepth 100000 in
theorem rX5_between_17 (B : hg_B p s m args meth c cX5_between RX5 wsL_law 2 D cI cA ad 1 A) (hr : meth.sig.returnType = (some .boolean)) {w1 : hg_W} {r1 : Int} : ∀ (w : hg_W) (x1 : Int) (s1 : Int), fX5_between_17 w x1 s1 = some (w1, r1) → hg_At p l e (rmX5_between) s m args below meth c D cI cA ad 1 A (MQ below (hg_Qi D cI cA ad 1 A w1 r1) args s 0 0 A) 2 w [(0, .ref (ad 0)), (1, .int (hg_I x1))] 17 [.int (hg_I s1), .ref (ad 0)] := by
  intro w x1 s1 h
  unfold fX5_between_17 at h
  obtain ⟨w1, v2, q3, h⟩ := hg_bd_some h
  refine z_callvV (a := 0) (ci := 5) (N := 37) (T := TX5) (C := RX5) (As := [.int (hg_I s1)]) (n := 1) B dX5_between_17 (c_X5_unwinds q3) (gl_V (wl_6 8 rfl) (wl_6 9 rfl) (wl_6 10 rfl) (wl_1 5 rfl) (wl_6 11 rfl)) rfl ⟨rfl, rfl⟩ (by decide +kernel) ⟨Nat.le_of_ble_eq_true rfl, Nat.le_of_ble_eq_true rfl⟩ (by decide) rfl (by decide) rfl rfl rfl (Nat.le_of_ble_eq_true rfl) ?_
  refine z_iload_n B 1 dX5_between_20 rfl rfl ?_
  obtain ⟨w4, v5, q6, h⟩ := hg_bd_some h
  refine z_calliS (As := [.int (hg_I x1)]) (n := 1) B dX5_between_21 (c_X5_rank q6) (gl_S (wl_6 12 rfl) (wl_6 13 rfl) (wl_1 5 rfl) (wl_6 14 rfl)) rfl ⟨rfl, rfl⟩ (by decide +kernel) ⟨Nat.le_of_ble_eq_true rfl, Nat.le_of_ble_eq_true rfl⟩ rfl rfl (Nat.le_of_ble_eq_true rfl) ?_
  refine z_iconst B dX5_between_24 ?_
  refine z_icmp_ne (tgt := 55) B dX5_between_25 (by decide) h (fun h => ?_) (fun h => ?_)
  · exact rX5_between_55 B hr _ _ h
  · refine z_aload_n B 0 dX5_between_28 rfl rfl ?_
    refine z_get5 (v := .int (hg_I (w4 0 26))) B 26 dX5_between_29 inlX5 (by decide) rfl (by decide) (wl_6 1 rfl) rfl rfl ?_
    refine z_if_le (tgt := 55) B dX5_between_32 (by decide) h (fun h => ?_) (fun h => ?_)
    · exact rX5_between_55 B hr _ _ h
    · refine z_aload_n B 0 dX5_between_35 rfl rfl ?_
      refine z_get5 (v := .ref (ad 15)) B 25 dX5_between_36 inlX5 (by decide) rfl (by decide) (wl_4 16 rfl) rfl rfl ?_
      refine z_aload_n B 0 dX5_between_39 rfl rfl ?_
      refine z_get5 (v := .int (hg_I (w4 0 26))) B 26 dX5_between_40 inlX5 (by decide) rfl (by decide) (wl_6 1 rfl) rfl rfl ?_
      refine z_iconst B dX5_between_43 ?_
      refine z_isub B dX5_between_44 ?_
      obtain ⟨v7, q8, h⟩ := Option.bind_eq_some_iff.mp h
      refine z_iald (Or.inr rfl) B dX5_between_45 q8 ?_
      obtain ⟨w9, v10, q11, h⟩ := hg_bd_some h
      refine z_calliS (As := [.int (hg_I v7)]) (n := 1) B dX5_between_46 (c_X5_rank q11) (gl_S (wl_6 12 rfl) (wl_6 13 rfl) (wl_1 5 rfl) (wl_6 14 rfl)) rfl ⟨rfl, rfl⟩ (by decide +kernel) ⟨Nat.le_of_ble_eq_true rfl, Nat.le_of_ble_eq_true rfl⟩ rfl rfl (Nat.le_of_ble_eq_true rfl) ?_
      refine z_iconst B dX5_between_49 ?_
      refine z_icmp_ne (tgt := 55) B dX5_between_50 (by decide) h (fun h => ?_) (fun h => ?_)
      · exact rX5_between_55 B hr _ _ h
      · refine z_iconst B dX5_between_53 ?_
        exact z_bret B hr dX5_between_54 h
set_option maxHeartbeats 4000000 in
set_option maxRecDepth 100000 in
theorem rX5_between_E (B : hg_B p s m args meth c cX5_between RX5 wsL_law 2 D cI cA ad 1 A) (hr : meth.sig.returnType = (some .boolean)) {a1 : Int} {w1 : hg_W} {r1 : Int} {w : hg_W} (h : fX5_between w a1 = some (w1, r1)) : hg_At p l e (rmX5_between) s m args below meth c D cI cA ad 1 A (MQ below (hg_Qi D cI cA ad 1 A w1 r1) args s 0 0 A) 2 w [(0, .ref (ad 0)), (1, .int (hg_I a1))] 0 [] := by
  unfold fX5_between at h
  refine z_aload_n B 0 dX5_between_0 rfl rfl ?_
  refine z_iload_n B 1 dX5_between_1 rfl rfl ?_
  obtain ⟨w1, v2, q3, h⟩ := hg_bd_some h
  refine z_calliS (As := [.int (hg_I a1)]) (n := 1) B dX5_between_2 (c_X5_rank q3) (gl_S (wl_6 12 rfl) (wl_6 13 rfl) (wl_1 5 rfl) (wl_6 14 rfl)) rfl ⟨rfl, rfl⟩ (by decide +kernel) ⟨Nat.le_of_ble_eq_true rfl, Nat.le_of_ble_eq_true rfl⟩ rfl rfl (Nat.le_of_ble_eq_true rfl) ?_
  refine z_iconst B dX5_between_5 ?_
  refine z_icmp_ne (tgt := 13) B dX5_between_6 (by decide) h (fun h => ?_) (fun h => ?_)
  · refine z_iload_n B 1 dX5_between_13 rfl rfl ?_
    obtain ⟨w4, v5, q6, h⟩ := hg_bd_some h
    refine z_calliS (As := [.int (hg_I a1)]) (n := 1) B dX5_between_14 (c_X5_rank q6) (gl_S (wl_6 12 rfl) (wl_6 13 rfl) (wl_1 5 rfl) (wl_6 14 rfl)) rfl ⟨rfl, rfl⟩ (by decide +kernel) ⟨Nat.le_of_ble_eq_true rfl, Nat.le_of_ble_eq_true rfl⟩ rfl rfl (Nat.le_of_ble_eq_true rfl) ?_
    exact rX5_between_17 B hr _ _ _ h
  · refine z_iconst B dX5_between_9 ?_
    refine z_goto (tgt := 17) B dX5_between_10 (by decide) ?_
    exact rX5_between_17 B hr _ _ _ h
set_option maxHeartbeats 4000000 in
set_option maxRecDepth 100000 in
theorem c_X5_between {l : Launch} {D : va_G} {cI cA : ClassId} {ad : Nat → Nat} {a1 : Int} {w w1 : hg_W} {r1 : Int} (h : fX5_between w a1 = some (w1, r1)) : hg_Mi l yX5_between wxX5_between rmX5_between D cI cA ad 1 w [.ref (ad 0), .int (hg_I a1)] w1 r1 := by
  refine z_meti cX5_between 2 (some .boolean) (by decide) (Nat.le_of_ble_eq_true rfl) ?_
  intro p e s m args below meth c A B hr
  exact rX5_between_E B hr h
abbrev wxX5_eRead : List Cond := Cond.code yX5_eRead cX5_eRead 4 (some .boolean) :: wsL_law
def fX5_eRead_262 (K14 : hg_W → Int → Int → Option (hg_W × Int))  (w : hg_W) (x1 : Int) (s0 : Int) : Option (hg_W × Int) :=
  K14 w x1 s0
def fX5_eRead_61 (K14 : hg_W → Int → Int → Option (hg_W × Int))  (w : hg_W) (x2 : Int) (s1 : Int) : Option (hg_W × Int) :=
  hg_bd (fX5_puts w s1) fun w1 _ =>
  hg_bd (fX5_unwinds w1 7) fun w4 _ =>
  K14 w4 0 x2
def fX5_eRead_38 (K14 : hg_W → Int → Int → Option (hg_W × Int))  (w : hg_W) (x2 : Int) : Option (hg_W × Int) :=
  if wr (w 0 22) = wr 1 then
    (
      fX5_eRead_61 K14 w x2 (100000 + (w 0 23))
    )
  else
    fX5_eRead_61 K14 w x2 (w 0 23)
def fX5_eRead_99 (K14 : hg_W → Int → Int → Option (hg_W × Int))  (w : hg_W) (x1 : Int) : Option (hg_W × Int) :=
  if wr (w 0 22) = wr 45 then
    (
      hg_bd (fX5_opensOne w 19) fun w4 v5 =>
      if wr v5 = 0 then
        (
          if wr 0 = 0 ∨ wr 0 = 1 then some (w4, wr 0) else none
        )
      else
        K14 w4 x1 0
    )
  else
    if wr (w 0 22) = wr 40 then
      (
        hg_bd (fX5_opensOne w 0) fun w1 v2 =>
        if wr v2 = 0 then
          (
            if wr 0 = 0 ∨ wr 0 = 1 then some (w1, wr 0) else none
          )
        else
          K14 w1 x1 1
      )
    else
      if wr 0 = 0 ∨ wr 0 = 1 then some (w, wr 0) else none
def fX5_eRead_14   : Nat → hg_W → Int → Int → Option (hg_W × Int)
  | 0, _, _, _ => none
  | n + 1, w, x1, x2 =>
    hg_bd (fX5_next w) fun w1 _ =>
    if wr x1 = 0 then
      (
        if wr (w1 0 22) = wr 59 then
          (
            hg_bd (fX5_unwinds w1 1) fun w20 _ =>
            if wr (w20 0 26) = 0 then
              (
                if wr 1 = 0 ∨ wr 1 = 1 then some (w20, wr 1) else none
              )
            else
              if wr 0 = 0 ∨ wr 0 = 1 then some (w20, wr 0) else none
          )
        else
          if wr (w1 0 22) = wr 41 then
            (
              hg_bd (fX5_unwinds w1 1) fun w10 _ =>
              if wr (w10 0 26) = 0 then
                (
                  if wr 0 = 0 ∨ wr 0 = 1 then some (w10, wr 0) else none
                )
              else
                (hg_pt w10 0 26 ((w10 0 26) - 1)).bind fun w13 =>
                (hg_pt w13 0 27 ((w13 0 27) - 1)).bind fun w15 =>
                hg_bd (fX5_unwinds w15 7) fun w17 _ =>
                fX5_eRead_14 n w17 x1 x2
            )
          else
            hg_bd (fX5_signOf w1) fun w4 v5 =>
            if wr v5 = wr (-1) then
              (
                if wr 0 = 0 ∨ wr 0 = 1 then some (w4, wr 0) else none
              )
            else
              hg_bd (fX5_between w4 v5) fun w7 v8 =>
              if wr v8 = 0 then
                (
                  if wr 0 = 0 ∨ wr 0 = 1 then some (w7, wr 0) else none
                )
              else
                if wr 12 < wr v5 then
                  (
                    fX5_eRead_262 (fX5_eRead_14 n) w7 1 0
                  )
                else
                  fX5_eRead_262 (fX5_eRead_14 n) w7 1 1
      )
    else
      if wr (w1 0 22) = wr 1 then
        (
          fX5_eRead_38 (fX5_eRead_14 n) w1 x2
        )
      else
        if wr (w1 0 22) = wr 2 then
          (
            fX5_eRead_38 (fX5_eRead_14 n) w1 x2
          )
        else
          if wr (w1 0 22) = wr 6 then
            (
              if wr x2 = 0 then
                (
                  fX5_eRead_99 (fX5_eRead_14 n) w1 x1
                )
              else
                hg_bd (fX5_opensOne w1 13) fun w23 v24 =>
                if wr v24 = 0 then
                  (
                    if wr 0 = 0 ∨ wr 0 = 1 then some (w23, wr 0) else none
                  )
                else
                  fX5_eRead_14 n w23 x1 x2
            )
          else
            fX5_eRead_99 (fX5_eRead_14 n) w1 x1
def fX5_eRead (w : hg_W) : Option (hg_W × Int) :=
  (hg_pt w 0 26 0).bind fun w1 =>
  (hg_pt w1 0 27 0).bind fun w3 =>
  fX5_eRead_14 hg_F w3 1 1
set_option maxHeartbeats 4000000 in
set_option maxRecDepth 100000 in
abbrev rmX5_eRead : Room := { frames := 3, cells := 0, slots := 0, locals := 64 }
set_option maxHeartbeats 4000000 in
set_option maxRecDepth 100000 in
theorem rX5_eRead_262 (B : hg_B p s m args meth c cX5_eRead RX5 wsL_law 4 D cI cA ad 1 A) (hr : meth.sig.returnType = (some .boolean)) {w1 : hg_W} {r1 : Int} {K14 : hg_W → Int → Int → Option (hg_W × Int)} (hK14 : ∀ (w : hg_W) (x1 : Int) (x2 : Int), K14 w x1 x2 = some (w1, r1) → hg_At p l e (rmX5_eRead) s m args below meth c D cI cA ad 1 A (MQ below (hg_Qi D cI cA ad 1 A w1 r1) args s 0 0 A) 4 w [(0, .ref (ad 0)), (1, .int (hg_I x1)), (2, .int (hg_I x2))] 14 []) : ∀ (w : hg_W) (x1 : Int) (s0 : Int), fX5_eRead_262 K14 w x1 s0 = some (w1, r1) → hg_At p l e (rmX5_eRead) s m args below meth c D cI cA ad 1 A (MQ below (hg_Qi D cI cA ad 1 A w1 r1) args s 0 0 A) 4 w [(0, .ref (ad 0)), (1, .int (hg_I x1))] 262 [.int (hg_I s0)] := by
  intro w x1 s0 h
  unfold fX5_eRead_262 at h
  refine z_istore_n B [(2, .int (hg_I s0)), (0, .ref (ad 0)), (1, .int (hg_I x1))] dX5_eRead_262 rfl (by decide) rfl ?_
  refine z_goto (tgt := 14) B dX5_eRead_263 (by decide) ?_
  refine z_lv (lv' := [(0, .ref (ad 0)), (1, .int (hg_I x1)), (2, .int (hg_I s0))]) B [1, 2, 0] rfl ?_
  exact hK14 _ _ _ h
set_option maxHeartbeats 4000000 in
set_option maxRecDepth 100000 in
theorem rX5_eRead_61 (B : hg_B p s m args meth c cX5_eRead RX5 wsL_law 4 D cI cA ad 1 A) (hr : meth.sig.returnType = (some .boolean)) {w1 : hg_W} {r1 : Int} {K14 : hg_W → Int → Int → Option (hg_W × Int)} (hK14 : ∀ (w : hg_W) (x1 : Int) (x2 : Int), K14 w x1 x2 = some (w1, r1) → hg_At p l e (rmX5_eRead) s m args below meth c D cI cA ad 1 A (MQ below (hg_Qi D cI cA ad 1 A w1 r1) args s 0 0 A) 4 w [(0, .ref (ad 0)), (1, .int (hg_I x1)), (2, .int (hg_I x2))] 14 []) : ∀ (w : hg_W) (x2 : Int) (s1 : Int), fX5_eRead_61 K14 w x2 s1 = some (w1, r1) → hg_At p l e (rmX5_eRead) s m args below meth c D cI cA ad 1 A (MQ below (hg_Qi D cI cA ad 1 A w1 r1) args s 0 0 A) 4 w [(0, .ref (ad 0)), (2, .int (hg_I x2))] 61 [.int (hg_I s1), .ref (ad 0)] := by
  intro w x2 s1 h
  unfold fX5_eRead_61 at h
  obtain ⟨w1, v2, q3, h⟩ := hg_bd_some h
  refine z_callvV (a := 0) (ci := 5) (N := 37) (T := TX5) (C := RX5) (As := [.int (hg_I s1)]) (n := 1) B dX5_eRead_61 (c_X5_puts q3) (gl_V (wl_6 4 rfl) (wl_6 5 rfl) (wl_6 6 rfl) (wl_1 5 rfl) (wl_6 7 rfl)) rfl ⟨rfl, rfl⟩ (by decide +kernel) ⟨Nat.le_of_ble_eq_true rfl, Nat.le_of_ble_eq_true rfl⟩ (by decide) rfl (by decide) rfl rfl rfl (Nat.le_of_ble_eq_true rfl) ?_
  refine z_aload_n B 0 dX5_eRead_64 rfl rfl ?_
  refine z_bipush B dX5_eRead_65 (by decide) ?_
  obtain ⟨w4, v5, q6, h⟩ := hg_bd_some h
  refine z_callvV (a := 0) (ci := 5) (N := 37) (T := TX5) (C := RX5) (As := [.int (hg_I 7)]) (n := 1) B dX5_eRead_67 (c_X5_unwinds q6) (gl_V (wl_6 8 rfl) (wl_6 9 rfl) (wl_6 10 rfl) (wl_1 5 rfl) (wl_6 11 rfl)) rfl ⟨rfl, rfl⟩ (by decide +kernel) ⟨Nat.le_of_ble_eq_true rfl, Nat.le_of_ble_eq_true rfl⟩ (by decide) rfl (by decide) rfl rfl rfl (Nat.le_of_ble_eq_true rfl) ?_
  refine z_iconst B dX5_eRead_70 ?_
  refine z_istore_n B [(1, .int (hg_I 0)), (0, .ref (ad 0)), (2, .int (hg_I x2))] dX5_eRead_71 rfl (by decide) rfl ?_
  refine z_goto (tgt := 14) B dX5_eRead_72 (by decide) ?_
  refine z_lv (lv' := [(0, .ref (ad 0)), (1, .int (hg_I 0)), (2, .int (hg_I x2))]) B [1, 0, 2] rfl ?_
  exact hK14 _ _ _ h
set_option maxHeartbeats 4000000 in
set_option maxRecDepth 100000 in
theorem rX5_eRead_38 (B : hg_B p s m args meth c cX5_eRead RX5 wsL_law 4 D cI cA ad 1 A) (hr : meth.sig.returnType = (some .boolean)) {w1 : hg_W} {r1 : Int} {K14 : hg_W → Int → Int → Option (hg_W × Int)} (hK14 : ∀ (w : hg_W) (x1 : Int) (x2 : Int), K14 w x1 x2 = some (w1, r1) → hg_At p l e (rmX5_eRead) s m args below meth c D cI cA ad 1 A (MQ below (hg_Qi D cI cA ad 1 A w1 r1) args s 0 0 A) 4 w [(0, .ref (ad 0)), (1, .int (hg_I x1)), (2, .int (hg_I x2))] 14 []) : ∀ (w : hg_W) (x2 : Int), fX5_eRead_38 K14 w x2 = some (w1, r1) → hg_At p l e (rmX5_eRead) s m args below meth c D cI cA ad 1 A (MQ below (hg_Qi D cI cA ad 1 A w1 r1) args s 0 0 A) 4 w [(0, .ref (ad 0)), (2, .int (hg_I x2))] 38 [] := by
  intro w x2 h
  unfold fX5_eRead_38 at h
  refine z_aload_n B 0 dX5_eRead_38 rfl rfl ?_
  refine z_aload_n B 0 dX5_eRead_39 rfl rfl ?_
  refine z_get5 (v := .int (hg_I (w 0 22))) B 22 dX5_eRead_40 inlX5 (by decide) rfl (by decide) (wl_5 7 rfl) rfl rfl ?_
  refine z_iconst B dX5_eRead_43 ?_
  refine z_icmp_ne (tgt := 57) B dX5_eRead_44 (by decide) h (fun h => ?_) (fun h => ?_)
  · refine z_aload_n B 0 dX5_eRead_57 rfl rfl ?_
    refine z_get5 (v := .int (hg_I (w 0 23))) B 23 dX5_eRead_58 inlX5 (by decide) rfl (by decide) (wl_5 8 rfl) rfl rfl ?_
    exact rX5_eRead_61 B hr hK14 _ _ _ h
  · refine z_ldc (n := 100000) (v := 100000) B dX5_eRead_47 (wl_6 3 rfl) (by decide) ?_
    refine z_aload_n B 0 dX5_eRead_49 rfl rfl ?_
    refine z_get5 (v := .int (hg_I (w 0 23))) B 23 dX5_eRead_50 inlX5 (by decide) rfl (by decide) (wl_5 8 rfl) rfl rfl ?_
    refine z_iadd B dX5_eRead_53 ?_
    refine z_goto (tgt := 61) B dX5_eRead_54 (by decide) ?_
    exact rX5_eRead_61 B hr hK14 _ _ _ h
set_option maxHeartbeats 4000000 in
set_option maxRecDepth 100000 in
theorem rX5_eRead_99 (B : hg_B p s m args meth c cX5_eRead RX5 wsL_law 4 D cI cA ad 1 A) (hr : meth.sig.returnType = (some .boolean)) {w1 : hg_W} {r1 : Int} {K14 : hg_W → Int → Int → Option (hg_W × Int)} (hK14 : ∀ (w : hg_W) (x1 : Int) (x2 : Int), K14 w x1 x2 = some (w1, r1) → hg_At p l e (rmX5_eRead) s m args below meth c D cI cA ad 1 A (MQ below (hg_Qi D cI cA ad 1 A w1 r1) args s 0 0 A) 4 w [(0, .ref (ad 0)), (1, .int (hg_I x1)), (2, .int (hg_I x2))] 14 []) : ∀ (w : hg_W) (x1 : Int), fX5_eRead_99 K14 w x1 = some (w1, r1) → hg_At p l e (rmX5_eRead) s m args below meth c D cI cA ad 1 A (MQ below (hg_Qi D cI cA ad 1 A w1 r1) args s 0 0 A) 4 w [(0, .ref (ad 0)), (1, .int (hg_I x1))] 99 [] := by
  intro w x1 h
  unfold fX5_eRead_99 at h
  refine z_aload_n B 0 dX5_eRead_99 rfl rfl ?_
  refine z_get5 (v := .int (hg_I (w 0 22))) B 22 dX5_eRead_100 inlX5 (by decide) rfl (by decide) (wl_5 7 rfl) rfl rfl ?_
  refine z_bipush B dX5_eRead_103 (by decide) ?_
  refine z_icmp_ne (tgt := 124) B dX5_eRead_105 (by decide) h (fun h => ?_) (fun h => ?_)
  · refine z_aload_n B 0 dX5_eRead_124 rfl rfl ?_
    refine z_get5 (v := .int (hg_I (w 0 22))) B 22 dX5_eRead_125 inlX5 (by decide) rfl (by decide) (wl_5 7 rfl) rfl rfl ?_
    refine z_bipush B dX5_eRead_128 (by decide) ?_
    refine z_icmp_ne (tgt := 148) B dX5_eRead_130 (by decide) h (fun h => ?_) (fun h => ?_)
    · refine z_iconst B dX5_eRead_148 ?_
      exact z_bret B hr dX5_eRead_149 h
    · refine z_aload_n B 0 dX5_eRead_133 rfl rfl ?_
      refine z_iconst B dX5_eRead_134 ?_
      obtain ⟨w1, v2, q3, h⟩ := hg_bd_some h
      refine z_calliV (a := 0) (ci := 5) (N := 37) (T := TX5) (C := RX5) (As := [.int (hg_I 0)]) (n := 1) B dX5_eRead_135 (c_X5_opensOne q3) (gl_V (wl_6 15 rfl) (wl_6 16 rfl) (wl_6 17 rfl) (wl_1 5 rfl) (wl_6 18 rfl)) rfl ⟨rfl, rfl⟩ (by decide +kernel) ⟨Nat.le_of_ble_eq_true rfl, Nat.le_of_ble_eq_true rfl⟩ (by decide) rfl (by decide) rfl rfl rfl (Nat.le_of_ble_eq_true rfl) ?_
      refine z_if_ne (tgt := 143) B dX5_eRead_138 (by decide) h (fun h => ?_) (fun h => ?_)
      · refine z_iconst B dX5_eRead_143 ?_
        refine z_istore_n B [(2, .int (hg_I 1)), (0, .ref (ad 0)), (1, .int (hg_I x1))] dX5_eRead_144 rfl (by decide) rfl ?_
        refine z_goto (tgt := 14) B dX5_eRead_145 (by decide) ?_
        refine z_lv (lv' := [(0, .ref (ad 0)), (1, .int (hg_I x1)), (2, .int (hg_I 1))]) B [1, 2, 0] rfl ?_
        exact hK14 _ _ _ h
      · refine z_iconst B dX5_eRead_141 ?_
        exact z_bret B hr dX5_eRead_142 h
  · refine z_aload_n B 0 dX5_eRead_108 rfl rfl ?_
    refine z_bipush B dX5_eRead_109 (by decide) ?_
    obtain ⟨w4, v5, q6, h⟩ := hg_bd_some h
    refine z_calliV (a := 0) (ci := 5) (N := 37) (T := TX5) (C := RX5) (As := [.int (hg_I 19)]) (n := 1) B dX5_eRead_111 (c_X5_opensOne q6) (gl_V (wl_6 15 rfl) (wl_6 16 rfl) (wl_6 17 rfl) (wl_1 5 rfl) (wl_6 18 rfl)) rfl ⟨rfl, rfl⟩ (by decide +kernel) ⟨Nat.le_of_ble_eq_true rfl, Nat.le_of_ble_eq_true rfl⟩ (by decide) rfl (by decide) rfl rfl rfl (Nat.le_of_ble_eq_true rfl) ?_
    refine z_if_ne (tgt := 119) B dX5_eRead_114 (by decide) h (fun h => ?_) (fun h => ?_)
    · refine z_iconst B dX5_eRead_119 ?_
      refine z_istore_n B [(2, .int (hg_I 0)), (0, .ref (ad 0)), (1, .int (hg_I x1))] dX5_eRead_120 rfl (by decide) rfl ?_
      refine z_goto (tgt := 14) B dX5_eRead_121 (by decide) ?_
      refine z_lv (lv' := [(0, .ref (ad 0)), (1, .int (hg_I x1)), (2, .int (hg_I 0))]) B [1, 2, 0] rfl ?_
      exact hK14 _ _ _ h
    · refine z_iconst B dX5_eRead_117 ?_
      exact z_bret B hr dX5_eRead_118 h
set_option maxHeartbeats 4000000 in
set_option maxRecDepth 100000 in
theorem rX5_eRead_14 (B : hg_B p s m args meth c cX5_eRead RX5 wsL_law 4 D cI cA ad 1 A) (hr : meth.sig.returnType = (some .boolean)) {w1 : hg_W} {r1 : Int} : ∀ (n : Nat), ∀ (w : hg_W) (x1 : Int) (x2 : Int), fX5_eRead_14 n w x1 x2 = some (w1, r1) → hg_At p l e (rmX5_eRead) s m args below meth c D cI cA ad 1 A (MQ below (hg_Qi D cI cA ad 1 A w1 r1) args s 0 0 A) 4 w [(0, .ref (ad 0)), (1, .int (hg_I x1)), (2, .int (hg_I x2))] 14 [] := by
  intro n
  induction n with
  | zero =>
    intro w x1 x2 h
    cases h
  | succ n ih =>
    intro w x1 x2 h
    simp only [fX5_eRead_14] at h
    refine z_aload_n B 0 dX5_eRead_14 rfl rfl ?_
    obtain ⟨w1, v2, q3, h⟩ := hg_bd_some h
    refine z_callvV (a := 0) (ci := 5) (N := 37) (T := TX5) (C := RX5) (As := []) (n := 0) B dX5_eRead_15 (c_X5_next q3) (gl_V (wl_5 10 rfl) (wl_5 11 rfl) (wl_5 12 rfl) (wl_1 5 rfl) (wl_5 13 rfl)) rfl ⟨rfl, rfl⟩ (by decide +kernel) ⟨Nat.le_of_ble_eq_true rfl, Nat.le_of_ble_eq_true rfl⟩ (by decide) rfl (by decide) rfl rfl rfl (Nat.le_of_ble_eq_true rfl) ?_
    refine z_iload_n B 1 dX5_eRead_18 rfl rfl ?_
    refine z_if_eq (tgt := 150) B dX5_eRead_19 (by decide) h (fun h => ?_) (fun h => ?_)
    · refine z_aload_n B 0 dX5_eRead_150 rfl rfl ?_
      refine z_get5 (v := .int (hg_I (w1 0 22))) B 22 dX5_eRead_151 inlX5 (by decide) rfl (by decide) (wl_5 7 rfl) rfl rfl ?_
      refine z_bipush B dX5_eRead_154 (by decide) ?_
      refine z_icmp_ne (tgt := 177) B dX5_eRead_156 (by decide) h (fun h => ?_) (fun h => ?_)
      · refine z_aload_n B 0 dX5_eRead_177 rfl rfl ?_
        refine z_get5 (v := .int (hg_I (w1 0 22))) B 22 dX5_eRead_178 inlX5 (by decide) rfl (by decide) (wl_5 7 rfl) rfl rfl ?_
        refine z_bipush B dX5_eRead_181 (by decide) ?_
        refine z_icmp_ne (tgt := 229) B dX5_eRead_183 (by decide) h (fun h => ?_) (fun h => ?_)
        · refine z_aload_n B 0 dX5_eRead_229 rfl rfl ?_
          obtain ⟨w4, v5, q6, h⟩ := hg_bd_some h
          refine z_calliV (a := 0) (ci := 5) (N := 37) (T := TX5) (C := RX5) (As := []) (n := 0) B dX5_eRead_230 (c_X5_signOf q6) (gl_V (wl_6 23 rfl) (wl_7 0 rfl) (wl_7 1 rfl) (wl_1 5 rfl) (wl_7 2 rfl)) rfl ⟨rfl, rfl⟩ (by decide +kernel) ⟨Nat.le_of_ble_eq_true rfl, Nat.le_of_ble_eq_true rfl⟩ (by decide) rfl (by decide) rfl rfl rfl (Nat.le_of_ble_eq_true rfl) ?_
          refine z_istore_n B [(3, .int (hg_I v5)), (0, .ref (ad 0)), (1, .int (hg_I x1)), (2, .int (hg_I x2))] dX5_eRead_233 rfl (by decide) rfl ?_
          refine z_iload_n B 0 dX5_eRead_234 rfl rfl ?_
          refine z_iconst B dX5_eRead_235 ?_
          refine z_icmp_eq (tgt := 247) B dX5_eRead_236 (by decide) h (fun h => ?_) (fun h => ?_)
          · refine z_iconst B dX5_eRead_247 ?_
            exact z_bret B hr dX5_eRead_248 h
          · refine z_aload_n B 1 dX5_eRead_239 rfl rfl ?_
            refine z_iload_n B 0 dX5_eRead_240 rfl rfl ?_
            obtain ⟨w7, v8, q9, h⟩ := hg_bd_some h
            refine z_calliV (a := 0) (ci := 5) (N := 37) (T := TX5) (C := RX5) (As := [.int (hg_I v5)]) (n := 1) B dX5_eRead_241 (c_X5_between q9) (gl_V (wl_7 3 rfl) (wl_7 4 rfl) (wl_7 5 rfl) (wl_1 5 rfl) (wl_7 6 rfl)) rfl ⟨rfl, rfl⟩ (by decide +kernel) ⟨Nat.le_of_ble_eq_true rfl, Nat.le_of_ble_eq_true rfl⟩ (by decide) rfl (by decide) rfl rfl rfl (Nat.le_of_ble_eq_true rfl) ?_
            refine z_if_ne (tgt := 249) B dX5_eRead_244 (by decide) h (fun h => ?_) (fun h => ?_)
            · refine z_iconst B dX5_eRead_249 ?_
              refine z_istore_n B [(1, .int (hg_I 1)), (3, .int (hg_I v5)), (0, .ref (ad 0)), (2, .int (hg_I x2))] dX5_eRead_250 rfl (by decide) rfl ?_
              refine z_iload_n B 1 dX5_eRead_251 rfl rfl ?_
              refine z_bipush B dX5_eRead_252 (by decide) ?_
              refine z_icmp_gt (tgt := 261) B dX5_eRead_254 (by decide) h (fun h => ?_) (fun h => ?_)
              · refine z_iconst B dX5_eRead_261 ?_
                refine z_lv (lv' := [(0, .ref (ad 0)), (1, .int (hg_I 1))]) B [2, 0] rfl ?_
                exact rX5_eRead_262 B hr ih _ _ _ h
              · refine z_iconst B dX5_eRead_257 ?_
                refine z_goto (tgt := 262) B dX5_eRead_258 (by decide) ?_
                refine z_lv (lv' := [(0, .ref (ad 0)), (1, .int (hg_I 1))]) B [2, 0] rfl ?_
                exact rX5_eRead_262 B hr ih _ _ _ h
            · refine z_iconst B dX5_eRead_247 ?_
              exact z_bret B hr dX5_eRead_248 h
        · refine z_aload_n B 0 dX5_eRead_186 rfl rfl ?_
          refine z_iconst B dX5_eRead_187 ?_
          obtain ⟨w10, v11, q12, h⟩ := hg_bd_some h
          refine z_callvV (a := 0) (ci := 5) (N := 37) (T := TX5) (C := RX5) (As := [.int (hg_I 1)]) (n := 1) B dX5_eRead_188 (c_X5_unwinds q12) (gl_V (wl_6 8 rfl) (wl_6 9 rfl) (wl_6 10 rfl) (wl_1 5 rfl) (wl_6 11 rfl)) rfl ⟨rfl, rfl⟩ (by decide +kernel) ⟨Nat.le_of_ble_eq_true rfl, Nat.le_of_ble_eq_true rfl⟩ (by decide) rfl (by decide) rfl rfl rfl (Nat.le_of_ble_eq_true rfl) ?_
          refine z_aload_n B 0 dX5_eRead_191 rfl rfl ?_
          refine z_get5 (v := .int (hg_I (w10 0 26))) B 26 dX5_eRead_192 inlX5 (by decide) rfl (by decide) (wl_6 1 rfl) rfl rfl ?_
          refine z_if_ne (tgt := 200) B dX5_eRead_195 (by decide) h (fun h => ?_) (fun h => ?_)
          · refine z_aload_n B 0 dX5_eRead_200 rfl rfl ?_
            refine z_dup B dX5_eRead_201 rfl ?_
            refine z_get5 (v := .int (hg_I (w10 0 26))) B 26 dX5_eRead_202 inlX5 (by decide) rfl (by decide) (wl_6 1 rfl) rfl rfl ?_
            refine z_iconst B dX5_eRead_205 ?_
            refine z_isub B dX5_eRead_206 ?_
            obtain ⟨w13, q14, h⟩ := Option.bind_eq_some_iff.mp h
            refine z_put5 B 26 dX5_eRead_207 inlX5 (by decide) rfl (by decide) (wl_6 1 rfl) rfl rfl .int (by decide +kernel) rfl rfl hg_fs5_26 q14 ?_
            refine z_aload_n B 0 dX5_eRead_210 rfl rfl ?_
            refine z_dup B dX5_eRead_211 rfl ?_
            refine z_get5 (v := .int (hg_I (w13 0 27))) B 27 dX5_eRead_212 inlX5 (by decide) rfl (by decide) (wl_6 2 rfl) rfl rfl ?_
            refine z_iconst B dX5_eRead_215 ?_
            refine z_isub B dX5_eRead_216 ?_
            obtain ⟨w15, q16, h⟩ := Option.bind_eq_some_iff.mp h
            refine z_put5 B 27 dX5_eRead_217 inlX5 (by decide) rfl (by decide) (wl_6 2 rfl) rfl rfl .int (by decide +kernel) rfl rfl hg_fs5_27 q16 ?_
            refine z_aload_n B 0 dX5_eRead_220 rfl rfl ?_
            refine z_bipush B dX5_eRead_221 (by decide) ?_
            obtain ⟨w17, v18, q19, h⟩ := hg_bd_some h
            refine z_callvV (a := 0) (ci := 5) (N := 37) (T := TX5) (C := RX5) (As := [.int (hg_I 7)]) (n := 1) B dX5_eRead_223 (c_X5_unwinds q19) (gl_V (wl_6 8 rfl) (wl_6 9 rfl) (wl_6 10 rfl) (wl_1 5 rfl) (wl_6 11 rfl)) rfl ⟨rfl, rfl⟩ (by decide +kernel) ⟨Nat.le_of_ble_eq_true rfl, Nat.le_of_ble_eq_true rfl⟩ (by decide) rfl (by decide) rfl rfl rfl (Nat.le_of_ble_eq_true rfl) ?_
            refine z_goto (tgt := 14) B dX5_eRead_226 (by decide) ?_
            exact ih _ _ _ h
          · refine z_iconst B dX5_eRead_198 ?_
            exact z_bret B hr dX5_eRead_199 h
      · refine z_aload_n B 0 dX5_eRead_159 rfl rfl ?_
        refine z_iconst B dX5_eRead_160 ?_
        obtain ⟨w20, v21, q22, h⟩ := hg_bd_some h
        refine z_callvV (a := 0) (ci := 5) (N := 37) (T := TX5) (C := RX5) (As := [.int (hg_I 1)]) (n := 1) B dX5_eRead_161 (c_X5_unwinds q22) (gl_V (wl_6 8 rfl) (wl_6 9 rfl) (wl_6 10 rfl) (wl_1 5 rfl) (wl_6 11 rfl)) rfl ⟨rfl, rfl⟩ (by decide +kernel) ⟨Nat.le_of_ble_eq_true rfl, Nat.le_of_ble_eq_true rfl⟩ (by decide) rfl (by decide) rfl rfl rfl (Nat.le_of_ble_eq_true rfl) ?_
        refine z_aload_n B 0 dX5_eRead_164 rfl rfl ?_
        refine z_get5 (v := .int (hg_I (w20 0 26))) B 26 dX5_eRead_165 inlX5 (by decide) rfl (by decide) (wl_6 1 rfl) rfl rfl ?_
        refine z_if_ne (tgt := 175) B dX5_eRead_168 (by decide) h (fun h => ?_) (fun h => ?_)
        · refine z_iconst B dX5_eRead_175 ?_
          exact z_bret B hr dX5_eRead_176 h
        · refine z_iconst B dX5_eRead_171 ?_
          refine z_goto (tgt := 176) B dX5_eRead_172 (by decide) ?_
          exact z_bret B hr dX5_eRead_176 h
    · refine z_aload_n B 0 dX5_eRead_22 rfl rfl ?_
      refine z_get5 (v := .int (hg_I (w1 0 22))) B 22 dX5_eRead_23 inlX5 (by decide) rfl (by decide) (wl_5 7 rfl) rfl rfl ?_
      refine z_iconst B dX5_eRead_26 ?_
      refine z_icmp_eq (tgt := 38) B dX5_eRead_27 (by decide) h (fun h => ?_) (fun h => ?_)
      · refine z_lv (lv' := [(0, .ref (ad 0)), (2, .int (hg_I x2))]) B [0, 2] rfl ?_
        exact rX5_eRead_38 B hr ih _ _ h
      · refine z_aload_n B 0 dX5_eRead_30 rfl rfl ?_
        refine z_get5 (v := .int (hg_I (w1 0 22))) B 22 dX5_eRead_31 inlX5 (by decide) rfl (by decide) (wl_5 7 rfl) rfl rfl ?_
        refine z_iconst B dX5_eRead_34 ?_
        refine z_icmp_ne (tgt := 75) B dX5_eRead_35 (by decide) h (fun h => ?_) (fun h => ?_)
        · refine z_aload_n B 0 dX5_eRead_75 rfl rfl ?_
          refine z_get5 (v := .int (hg_I (w1 0 22))) B 22 dX5_eRead_76 inlX5 (by decide) rfl (by decide) (wl_5 7 rfl) rfl rfl ?_
          refine z_bipush B dX5_eRead_79 (by decide) ?_
          refine z_icmp_ne (tgt := 99) B dX5_eRead_81 (by decide) h (fun h => ?_) (fun h => ?_)
          · refine z_lv (lv' := [(0, .ref (ad 0)), (1, .int (hg_I x1))]) B [0, 1] rfl ?_
            exact rX5_eRead_99 B hr ih _ _ h
          · refine z_iload_n B 2 dX5_eRead_84 rfl rfl ?_
            refine z_if_eq (tgt := 99) B dX5_eRead_85 (by decide) h (fun h => ?_) (fun h => ?_)
            · refine z_lv (lv' := [(0, .ref (ad 0)), (1, .int (hg_I x1))]) B [0, 1] rfl ?_
              exact rX5_eRead_99 B hr ih _ _ h
            · refine z_aload_n B 0 dX5_eRead_88 rfl rfl ?_
              refine z_bipush B dX5_eRead_89 (by decide) ?_
              obtain ⟨w23, v24, q25, h⟩ := hg_bd_some h
              refine z_calliV (a := 0) (ci := 5) (N := 37) (T := TX5) (C := RX5) (As := [.int (hg_I 13)]) (n := 1) B dX5_eRead_91 (c_X5_opensOne q25) (gl_V (wl_6 15 rfl) (wl_6 16 rfl) (wl_6 17 rfl) (wl_1 5 rfl) (wl_6 18 rfl)) rfl ⟨rfl, rfl⟩ (by decide +kernel) ⟨Nat.le_of_ble_eq_true rfl, Nat.le_of_ble_eq_true rfl⟩ (by decide) rfl (by decide) rfl rfl rfl (Nat.le_of_ble_eq_true rfl) ?_
              refine z_if_ne (tgt := 14) B dX5_eRead_94 (by decide) h (fun h => ?_) (fun h => ?_)
              · exact ih _ _ _ h
              · refine z_iconst B dX5_eRead_97 ?_
                exact z_bret B hr dX5_eRead_98 h
        · refine z_lv (lv' := [(0, .ref (ad 0)), (2, .int (hg_I x2))]) B [0, 2] rfl ?_
          exact rX5_eRead_38 B hr ih _ _ h
set_option maxHeartbeats 4000000 in
set_option maxRecDepth 100000 in
theorem rX5_eRead_E (B : hg_B p s m args meth c cX5_eRead RX5 wsL_law 4 D cI cA ad 1 A) (hr : meth.sig.returnType = (some .boolean)) {w1 : hg_W} {r1 : Int} {w : hg_W} (h : fX5_eRead w = some (w1, r1)) : hg_At p l e (rmX5_eRead) s m args below meth c D cI cA ad 1 A (MQ below (hg_Qi D cI cA ad 1 A w1 r1) args s 0 0 A) 4 w [(0, .ref (ad 0))] 0 [] := by
  unfold fX5_eRead at h
  refine z_aload_n B 0 dX5_eRead_0 rfl rfl ?_
  refine z_iconst B dX5_eRead_1 ?_
  obtain ⟨w1, q2, h⟩ := Option.bind_eq_some_iff.mp h
  refine z_put5 B 26 dX5_eRead_2 inlX5 (by decide) rfl (by decide) (wl_6 1 rfl) rfl rfl .int (by decide +kernel) rfl rfl hg_fs5_26 q2 ?_
  refine z_aload_n B 0 dX5_eRead_5 rfl rfl ?_
  refine z_iconst B dX5_eRead_6 ?_
  obtain ⟨w3, q4, h⟩ := Option.bind_eq_some_iff.mp h
  refine z_put5 B 27 dX5_eRead_7 inlX5 (by decide) rfl (by decide) (wl_6 2 rfl) rfl rfl .int (by decide +kernel) rfl rfl hg_fs5_27 q4 ?_
  refine z_iconst B dX5_eRead_10 ?_
  refine z_istore_n B [(1, .int (hg_I 1)), (0, .ref (ad 0))] dX5_eRead_11 rfl (by decide) rfl ?_
  refine z_iconst B dX5_eRead_12 ?_
  refine z_istore_n B [(2, .int (hg_I 1)), (1, .int (hg_I 1)), (0, .ref (ad 0))] dX5_eRead_13 rfl (by decide) rfl ?_
  refine z_lv (lv' := [(0, .ref (ad 0)), (1, .int (hg_I 1)), (2, .int (hg_I 1))]) B [2, 1, 0] rfl ?_
  exact rX5_eRead_14 B hr hg_F _ _ _ h
set_option maxHeartbeats 4000000 in
set_option maxRecDepth 100000 in
theorem c_X5_eRead {l : Launch} {D : va_G} {cI cA : ClassId} {ad : Nat → Nat} {w w1 : hg_W} {r1 : Int} (h : fX5_eRead w = some (w1, r1)) : hg_Mi l yX5_eRead wxX5_eRead rmX5_eRead D cI cA ad 1 w [.ref (ad 0)] w1 r1 := by
  refine z_meti cX5_eRead 4 (some .boolean) (by decide) (Nat.le_of_ble_eq_true rfl) ?_
  intro p e s m args below meth c A B hr
  exact rX5_eRead_E B hr h
abbrev wxX5_text : List Cond := Cond.code yX5_text cX5_text 3 (some .int) :: wsL_law
def fX5_text_122   (w : hg_W) (x1 : Int) : Option (hg_W × Int) :=
  (hg_as 1 w 7 ((4 * (w 0 11)) + 3) (w 0 28)).bind fun w1 =>
  (hg_pt w1 0 8 0).bind fun w3 =>
  if wr x1 = 0 then
    (
      some (w3, wr ((-100) - (w3 0 21)))
    )
  else
    (hg_pt w3 0 11 ((w3 0 11) + 1)).bind fun w5 =>
    some (w5, wr ((w5 0 11) - 1))
def fX5_text_121   (w : hg_W) (s0 : Int) : Option (hg_W × Int) :=
  fX5_text_122 w s0
def fX5_text_101   (w : hg_W) (x1 : Int) : Option (hg_W × Int) :=
  if wr x1 = 0 then
    (
      fX5_text_122 w x1
    )
  else
    hg_bd (fX5_next w) fun w1 _ =>
    if wr (w1 0 22) = 0 then
      (
        fX5_text_121 w1 1
      )
    else
      fX5_text_121 w1 0
def fX5_text_94 (K26 : hg_W → Int → Int → Option (hg_W × Int))  (w : hg_W) (x2 : Int) (s0 : Int) : Option (hg_W × Int) :=
  K26 w s0 (x2 + 1)
def fX5_text_93 (K26 : hg_W → Int → Int → Option (hg_W × Int))  (w : hg_W) (x2 : Int) : Option (hg_W × Int) :=
  fX5_text_94 K26 w x2 0
def fX5_text_60 (K26 : hg_W → Int → Int → Option (hg_W × Int))  (w : hg_W) (x2 : Int) (s0 : Int) : Option (hg_W × Int) :=
  (hg_as 1 w 7 ((4 * (w 0 11)) + x2) (w 0 28)).bind fun w1 =>
  if wr s0 = 0 then
    (
      fX5_text_93 K26 w1 x2
    )
  else
    hg_bd (fX5_eRead w1) fun w3 v4 =>
    if wr v4 = 0 then
      (
        fX5_text_93 K26 w3 x2
      )
    else
      fX5_text_94 K26 w3 x2 1
def fX5_text_59 (K26 : hg_W → Int → Int → Option (hg_W × Int))  (w : hg_W) (x2 : Int) : Option (hg_W × Int) :=
  fX5_text_60 K26 w x2 0
def fX5_text_26   : Nat → hg_W → Int → Int → Option (hg_W × Int)
  | 0, _, _, _ => none
  | n + 1, w, x1, x2 =>
    if wr 3 ≤ wr x2 then
      (
        fX5_text_101 w x1
      )
    else
      if wr x1 = 0 then
        (
          fX5_text_101 w x1
        )
      else
        hg_bd (fX5_next w) fun w1 _ =>
        if wr (w1 0 22) = wr 3 then
          (
            if wr (w1 0 23) = wr x2 then
              (
                fX5_text_60 (fX5_text_26 n) w1 x2 1
              )
            else
              fX5_text_59 (fX5_text_26 n) w1 x2
          )
        else
          fX5_text_59 (fX5_text_26 n) w1 x2
def fX5_text (w : hg_W) : Option (hg_W × Int) :=
  if wr (w 0 11) = wr 6 then
    (
      some (w, wr (-4))
    )
  else
    (hg_pt w 0 20 0).bind fun w1 =>
    (hg_pt w1 0 28 0).bind fun w3 =>
    fX5_text_26 hg_F w3 1 0
set_option maxHeartbeats 4000000 in
set_option maxRecDepth 100000 in
abbrev rmX5_text : Room := { frames := 4, cells := 0, slots := 0, locals := 87 }
set_option maxHeartbeats 4000000 in
set_option maxRecDepth 100000 in
theorem rX5_text_122 (B : hg_B p s m args meth c cX5_text RX5 wsL_law 3 D cI cA ad 1 A) (hr : meth.sig.returnType = (some .int)) {w1 : hg_W} {r1 : Int} : ∀ (w : hg_W) (x1 : Int), fX5_text_122 w x1 = some (w1, r1) → hg_At p l e (rmX5_text) s m args below meth c D cI cA ad 1 A (MQ below (hg_Qi D cI cA ad 1 A w1 r1) args s 0 0 A) 3 w [(0, .ref (ad 0)), (1, .int (hg_I x1))] 122 [] := by
  intro w x1 h
  unfold fX5_text_122 at h
  refine z_aload_n B 0 dX5_text_122 rfl rfl ?_
  refine z_get5 (v := .ref (ad 7)) B 10 dX5_text_123 inlX5 (by decide) rfl (by decide) (wl_4 8 rfl) rfl rfl ?_
  refine z_iconst B dX5_text_126 ?_
  refine z_aload_n B 0 dX5_text_127 rfl rfl ?_
  refine z_get5 (v := .int (hg_I (w 0 11))) B 11 dX5_text_128 inlX5 (by decide) rfl (by decide) (wl_5 4 rfl) rfl rfl ?_
  refine z_imul B dX5_text_131 ?_
  refine z_iconst B dX5_text_132 ?_
  refine z_iadd B dX5_text_133 ?_
  refine z_aload_n B 0 dX5_text_134 rfl rfl ?_
  refine z_get5 (v := .int (hg_I (w 0 28))) B 28 dX5_text_135 inlX5 (by decide) rfl (by decide) (wl_5 6 rfl) rfl rfl ?_
  obtain ⟨w1, q2, h⟩ := Option.bind_eq_some_iff.mp h
  refine z_iast (Or.inr rfl) B dX5_text_138 q2 ?_
  refine z_aload_n B 0 dX5_text_139 rfl rfl ?_
  refine z_iconst B dX5_text_140 ?_
  obtain ⟨w3, q4, h⟩ := Option.bind_eq_some_iff.mp h
  refine z_put5 B 8 dX5_text_141 inlX5 (by decide) rfl (by decide) (wl_4 23 rfl) rfl rfl .int (by decide +kernel) rfl rfl hg_fs5_8 q4 ?_
  refine z_iload_n B 1 dX5_text_144 rfl rfl ?_
  refine z_if_ne (tgt := 156) B dX5_text_145 (by decide) h (fun h => ?_) (fun h => ?_)
  · refine z_aload_n B 0 dX5_text_156 rfl rfl ?_
    refine z_dup B dX5_text_157 rfl ?_
    refine z_get5 (v := .int (hg_I (w3 0 11))) B 11 dX5_text_158 inlX5 (by decide) rfl (by decide) (wl_5 4 rfl) rfl rfl ?_
    refine z_iconst B dX5_text_161 ?_
    refine z_iadd B dX5_text_162 ?_
    obtain ⟨w5, q6, h⟩ := Option.bind_eq_some_iff.mp h
    refine z_put5 B 11 dX5_text_163 inlX5 (by decide) rfl (by decide) (wl_5 4 rfl) rfl rfl .int (by decide +kernel) rfl rfl hg_fs5_11 q6 ?_
    refine z_aload_n B 0 dX5_text_166 rfl rfl ?_
    refine z_get5 (v := .int (hg_I (w5 0 11))) B 11 dX5_text_167 inlX5 (by decide) rfl (by decide) (wl_5 4 rfl) rfl rfl ?_
    refine z_iconst B dX5_text_170 ?_
    refine z_isub B dX5_text_171 ?_
    exact z_iret B hr dX5_text_172 h
  · refine z_bipush B dX5_text_148 (by decide) ?_
    refine z_aload_n B 0 dX5_text_150 rfl rfl ?_
    refine z_get5 (v := .int (hg_I (w3 0 21))) B 21 dX5_text_151 inlX5 (by decide) rfl (by decide) (wl_5 9 rfl) rfl rfl ?_
    refine z_isub B dX5_text_154 ?_
    exact z_iret B hr dX5_text_155 h
set_option maxHeartbeats 4000000 in
set_option maxRecDepth 100000 in
theorem rX5_text_121 (B : hg_B p s m args meth c cX5_text RX5 wsL_law 3 D cI cA ad 1 A) (hr : meth.sig.returnType = (some .int)) {w1 : hg_W} {r1 : Int} : ∀ (w : hg_W) (s0 : Int), fX5_text_121 w s0 = some (w1, r1) → hg_At p l e (rmX5_text) s m args below meth c D cI cA ad 1 A (MQ below (hg_Qi D cI cA ad 1 A w1 r1) args s 0 0 A) 3 w [(0, .ref (ad 0))] 121 [.int (hg_I s0)] := by
  intro w s0 h
  unfold fX5_text_121 at h
  refine z_istore_n B [(1, .int (hg_I s0)), (0, .ref (ad 0))] dX5_text_121 rfl (by decide) rfl ?_
  refine z_lv (lv' := [(0, .ref (ad 0)), (1, .int (hg_I s0))]) B [1, 0] rfl ?_
  exact rX5_text_122 B hr _ _ h
set_option maxHeartbeats 4000000 in
set_option maxRecDepth 100000 in
theorem rX5_text_101 (B : hg_B p s m args meth c cX5_text RX5 wsL_law 3 D cI cA ad 1 A) (hr : meth.sig.returnType = (some .int)) {w1 : hg_W} {r1 : Int} : ∀ (w : hg_W) (x1 : Int), fX5_text_101 w x1 = some (w1, r1) → hg_At p l e (rmX5_text) s m args below meth c D cI cA ad 1 A (MQ below (hg_Qi D cI cA ad 1 A w1 r1) args s 0 0 A) 3 w [(0, .ref (ad 0)), (1, .int (hg_I x1))] 101 [] := by
  intro w x1 h
  unfold fX5_text_101 at h
  refine z_iload_n B 1 dX5_text_101 rfl rfl ?_
  refine z_if_eq (tgt := 122) B dX5_text_102 (by decide) h (fun h => ?_) (fun h => ?_)
  · exact rX5_text_122 B hr _ _ h
  · refine z_aload_n B 0 dX5_text_105 rfl rfl ?_
    obtain ⟨w1, v2, q3, h⟩ := hg_bd_some h
    refine z_callvV (a := 0) (ci := 5) (N := 37) (T := TX5) (C := RX5) (As := []) (n := 0) B dX5_text_106 (c_X5_next q3) (gl_V (wl_5 10 rfl) (wl_5 11 rfl) (wl_5 12 rfl) (wl_1 5 rfl) (wl_5 13 rfl)) rfl ⟨rfl, rfl⟩ (by decide +kernel) ⟨Nat.le_of_ble_eq_true rfl, Nat.le_of_ble_eq_true rfl⟩ (by decide) rfl (by decide) rfl rfl rfl (Nat.le_of_ble_eq_true rfl) ?_
    refine z_aload_n B 0 dX5_text_109 rfl rfl ?_
    refine z_get5 (v := .int (hg_I (w1 0 22))) B 22 dX5_text_110 inlX5 (by decide) rfl (by decide) (wl_5 7 rfl) rfl rfl ?_
    refine z_if_ne (tgt := 120) B dX5_text_113 (by decide) h (fun h => ?_) (fun h => ?_)
    · refine z_iconst B dX5_text_120 ?_
      refine z_lv (lv' := [(0, .ref (ad 0))]) B [0] rfl ?_
      exact rX5_text_121 B hr _ _ h
    · refine z_iconst B dX5_text_116 ?_
      refine z_goto (tgt := 121) B dX5_text_117 (by decide) ?_
      refine z_lv (lv' := [(0, .ref (ad 0))]) B [0] rfl ?_
      exact rX5_text_121 B hr _ _ h
set_option maxHeartbeats 4000000 in
set_option maxRecDepth 100000 in
theorem rX5_text_94 (B : hg_B p s m args meth c cX5_text RX5 wsL_law 3 D cI cA ad 1 A) (hr : meth.sig.returnType = (some .int)) {w1 : hg_W} {r1 : Int} {K26 : hg_W → Int → Int → Option (hg_W × Int)} (hK26 : ∀ (w : hg_W) (x1 : Int) (x2 : Int), K26 w x1 x2 = some (w1, r1) → hg_At p l e (rmX5_text) s m args below meth c D cI cA ad 1 A (MQ below (hg_Qi D cI cA ad 1 A w1 r1) args s 0 0 A) 3 w [(0, .ref (ad 0)), (1, .int (hg_I x1)), (2, .int (hg_I x2))] 26 []) : ∀ (w : hg_W) (x2 : Int) (s0 : Int), fX5_text_94 K26 w x2 s0 = some (w1, r1) → hg_At p l e (rmX5_text) s m args below meth c D cI cA ad 1 A (MQ below (hg_Qi D cI cA ad 1 A w1 r1) args s 0 0 A) 3 w [(0, .ref (ad 0)), (2, .int (hg_I x2))] 94 [.int (hg_I s0)] := by
  intro w x2 s0 h
  unfold fX5_text_94 at h
  refine z_istore_n B [(1, .int (hg_I s0)), (0, .ref (ad 0)), (2, .int (hg_I x2))] dX5_text_94 rfl (by decide) rfl ?_
  refine z_iinc B 2 [(2, .int (hg_I (x2 + 1))), (1, .int (hg_I s0)), (0, .ref (ad 0))] dX5_text_95 rfl (by decide) rfl ?_
  refine z_goto (tgt := 26) B dX5_text_98 (by decide) ?_
  refine z_lv (lv' := [(0, .ref (ad 0)), (1, .int (hg_I s0)), (2, .int (hg_I (x2 + 1)))]) B [2, 1, 0] rfl ?_
  exact hK26 _ _ _ h
set_option maxHeartbeats 4000000 in
set_option maxRecDepth 100000 in
theorem rX5_text_93 (B : hg_B p s m args meth c cX5_text RX5 wsL_law 3 D cI cA ad 1 A) (hr : meth.sig.returnType = (some .int)) {w1 : hg_W} {r1 : Int} {K26 : hg_W → Int → Int → Option (hg_W × Int)} (hK26 : ∀ (w : hg_W) (x1 : Int) (x2 : Int), K26 w x1 x2 = some (w1, r1) → hg_At p l e (rmX5_text) s m args below meth c D cI cA ad 1 A (MQ below (hg_Qi D cI cA ad 1 A w1 r1) args s 0 0 A) 3 w [(0, .ref (ad 0)), (1, .int (hg_I x1)), (2, .int (hg_I x2))] 26 []) : ∀ (w : hg_W) (x2 : Int), fX5_text_93 K26 w x2 = some (w1, r1) → hg_At p l e (rmX5_text) s m args below meth c D cI cA ad 1 A (MQ below (hg_Qi D cI cA ad 1 A w1 r1) args s 0 0 A) 3 w [(0, .ref (ad 0)), (2, .int (hg_I x2))] 93 [] := by
  intro w x2 h
  unfold fX5_text_93 at h
  refine z_iconst B dX5_text_93 ?_
  exact rX5_text_94 B hr hK26 _ _ _ h
set_option maxHeartbeats 4000000 in
set_option maxRecDepth 100000 in
theorem rX5_text_60 (B : hg_B p s m args meth c cX5_text RX5 wsL_law 3 D cI cA ad 1 A) (hr : meth.sig.returnType = (some .int)) {w1 : hg_W} {r1 : Int} {K26 : hg_W → Int → Int → Option (hg_W × Int)} (hK26 : ∀ (w : hg_W) (x1 : Int) (x2 : Int), K26 w x1 x2 = some (w1, r1) → hg_At p l e (rmX5_text) s m args below meth c D cI cA ad 1 A (MQ below (hg_Qi D cI cA ad 1 A w1 r1) args s 0 0 A) 3 w [(0, .ref (ad 0)), (1, .int (hg_I x1)), (2, .int (hg_I x2))] 26 []) : ∀ (w : hg_W) (x2 : Int) (s0 : Int), fX5_text_60 K26 w x2 s0 = some (w1, r1) → hg_At p l e (rmX5_text) s m args below meth c D cI cA ad 1 A (MQ below (hg_Qi D cI cA ad 1 A w1 r1) args s 0 0 A) 3 w [(0, .ref (ad 0)), (2, .int (hg_I x2))] 60 [.int (hg_I s0)] := by
  intro w x2 s0 h
  unfold fX5_text_60 at h
  refine z_istore_n B [(1, .int (hg_I s0)), (0, .ref (ad 0)), (2, .int (hg_I x2))] dX5_text_60 rfl (by decide) rfl ?_
  refine z_aload_n B 1 dX5_text_61 rfl rfl ?_
  refine z_get5 (v := .ref (ad 7)) B 10 dX5_text_62 inlX5 (by decide) rfl (by decide) (wl_4 8 rfl) rfl rfl ?_
  refine z_iconst B dX5_text_65 ?_
  refine z_aload_n B 1 dX5_text_66 rfl rfl ?_
  refine z_get5 (v := .int (hg_I (w 0 11))) B 11 dX5_text_67 inlX5 (by decide) rfl (by decide) (wl_5 4 rfl) rfl rfl ?_
  refine z_imul B dX5_text_70 ?_
  refine z_iload_n B 2 dX5_text_71 rfl rfl ?_
  refine z_iadd B dX5_text_72 ?_
  refine z_aload_n B 1 dX5_text_73 rfl rfl ?_
  refine z_get5 (v := .int (hg_I (w 0 28))) B 28 dX5_text_74 inlX5 (by decide) rfl (by decide) (wl_5 6 rfl) rfl rfl ?_
  obtain ⟨w1, q2, h⟩ := Option.bind_eq_some_iff.mp h
  refine z_iast (Or.inr rfl) B dX5_text_77 q2 ?_
  refine z_iload_n B 0 dX5_text_78 rfl rfl ?_
  refine z_if_eq (tgt := 93) B dX5_text_79 (by decide) h (fun h => ?_) (fun h => ?_)
  · refine z_lv (lv' := [(0, .ref (ad 0)), (2, .int (hg_I x2))]) B [1, 2] rfl ?_
    exact rX5_text_93 B hr hK26 _ _ h
  · refine z_aload_n B 1 dX5_text_82 rfl rfl ?_
    obtain ⟨w3, v4, q5, h⟩ := hg_bd_some h
    refine z_calliV (a := 0) (ci := 5) (N := 37) (T := TX5) (C := RX5) (As := []) (n := 0) B dX5_text_83 (c_X5_eRead q5) (gl_V (wl_5 21 rfl) (wl_5 22 rfl) (wl_5 23 rfl) (wl_1 5 rfl) (wl_6 0 rfl)) rfl ⟨rfl, rfl⟩ (by decide +kernel) ⟨Nat.le_of_ble_eq_true rfl, Nat.le_of_ble_eq_true rfl⟩ (by decide) rfl (by decide) rfl rfl rfl (Nat.le_of_ble_eq_true rfl) ?_
    refine z_if_eq (tgt := 93) B dX5_text_86 (by decide) h (fun h => ?_) (fun h => ?_)
    · refine z_lv (lv' := [(0, .ref (ad 0)), (2, .int (hg_I x2))]) B [1, 2] rfl ?_
      exact rX5_text_93 B hr hK26 _ _ h
    · refine z_iconst B dX5_text_89 ?_
      refine z_goto (tgt := 94) B dX5_text_90 (by decide) ?_
      refine z_lv (lv' := [(0, .ref (ad 0)), (2, .int (hg_I x2))]) B [1, 2] rfl ?_
      exact rX5_text_94 B hr hK26 _ _ _ h
set_option maxHeartbeats 4000000 in
set_option maxRecDepth 100000 in
theorem rX5_text_59 (B : hg_B p s m args meth c cX5_text RX5 wsL_law 3 D cI cA ad 1 A) (hr : meth.sig.returnType = (some .int)) {w1 : hg_W} {r1 : Int} {K26 : hg_W → Int → Int → Option (hg_W × Int)} (hK26 : ∀ (w : hg_W) (x1 : Int) (x2 : Int), K26 w x1 x2 = some (w1, r1) → hg_At p l e (rmX5_text) s m args below meth c D cI cA ad 1 A (MQ below (hg_Qi D cI cA ad 1 A w1 r1) args s 0 0 A) 3 w [(0, .ref (ad 0)), (1, .int (hg_I x1)), (2, .int (hg_I x2))] 26 []) : ∀ (w : hg_W) (x2 : Int), fX5_text_59 K26 w x2 = some (w1, r1) → hg_At p l e (rmX5_text) s m args below meth c D cI cA ad 1 A (MQ below (hg_Qi D cI cA ad 1 A w1 r1) args s 0 0 A) 3 w [(0, .ref (ad 0)), (2, .int (hg_I x2))] 59 [] := by
  intro w x2 h
  unfold fX5_text_59 at h
  refine z_iconst B dX5_text_59 ?_
  exact rX5_text_60 B hr hK26 _ _ _ h
set_option maxHeartbeats 4000000 in
set_option maxRecDepth 100000 in
theorem rX5_text_26 (B : hg_B p s m args meth c cX5_text RX5 wsL_law 3 D cI cA ad 1 A) (hr : meth.sig.returnType = (some .int)) {w1 : hg_W} {r1 : Int} : ∀ (n : Nat), ∀ (w : hg_W) (x1 : Int) (x2 : Int), fX5_text_26 n w x1 x2 = some (w1, r1) → hg_At p l e (rmX5_text) s m args below meth c D cI cA ad 1 A (MQ below (hg_Qi D cI cA ad 1 A w1 r1) args s 0 0 A) 3 w [(0, .ref (ad 0)), (1, .int (hg_I x1)), (2, .int (hg_I x2))] 26 [] := by
  intro n
  induction n with
  | zero =>
    intro w x1 x2 h
    cases h
  | succ n ih =>
    intro w x1 x2 h
    simp only [fX5_text_26] at h
    refine z_iload_n B 2 dX5_text_26 rfl rfl ?_
    refine z_iconst B dX5_text_27 ?_
    refine z_icmp_ge (tgt := 101) B dX5_text_28 (by decide) h (fun h => ?_) (fun h => ?_)
    · refine z_lv (lv' := [(0, .ref (ad 0)), (1, .int (hg_I x1))]) B [0, 1] rfl ?_
      exact rX5_text_101 B hr _ _ h
    · refine z_iload_n B 1 dX5_text_31 rfl rfl ?_
      refine z_if_eq (tgt := 101) B dX5_text_32 (by decide) h (fun h => ?_) (fun h => ?_)
      · refine z_lv (lv' := [(0, .ref (ad 0)), (1, .int (hg_I x1))]) B [0, 1] rfl ?_
        exact rX5_text_101 B hr _ _ h
      · refine z_aload_n B 0 dX5_text_35 rfl rfl ?_
        obtain ⟨w1, v2, q3, h⟩ := hg_bd_some h
        refine z_callvV (a := 0) (ci := 5) (N := 37) (T := TX5) (C := RX5) (As := []) (n := 0) B dX5_text_36 (c_X5_next q3) (gl_V (wl_5 10 rfl) (wl_5 11 rfl) (wl_5 12 rfl) (wl_1 5 rfl) (wl_5 13 rfl)) rfl ⟨rfl, rfl⟩ (by decide +kernel) ⟨Nat.le_of_ble_eq_true rfl, Nat.le_of_ble_eq_true rfl⟩ (by decide) rfl (by decide) rfl rfl rfl (Nat.le_of_ble_eq_true rfl) ?_
        refine z_aload_n B 0 dX5_text_39 rfl rfl ?_
        refine z_get5 (v := .int (hg_I (w1 0 22))) B 22 dX5_text_40 inlX5 (by decide) rfl (by decide) (wl_5 7 rfl) rfl rfl ?_
        refine z_iconst B dX5_text_43 ?_
        refine z_icmp_ne (tgt := 59) B dX5_text_44 (by decide) h (fun h => ?_) (fun h => ?_)
        · refine z_lv (lv' := [(0, .ref (ad 0)), (2, .int (hg_I x2))]) B [0, 2] rfl ?_
          exact rX5_text_59 B hr ih _ _ h
        · refine z_aload_n B 0 dX5_text_47 rfl rfl ?_
          refine z_get5 (v := .int (hg_I (w1 0 23))) B 23 dX5_text_48 inlX5 (by decide) rfl (by decide) (wl_5 8 rfl) rfl rfl ?_
          refine z_iload_n B 2 dX5_text_51 rfl rfl ?_
          refine z_icmp_ne (tgt := 59) B dX5_text_52 (by decide) h (fun h => ?_) (fun h => ?_)
          · refine z_lv (lv' := [(0, .ref (ad 0)), (2, .int (hg_I x2))]) B [0, 2] rfl ?_
            exact rX5_text_59 B hr ih _ _ h
          · refine z_iconst B dX5_text_55 ?_
            refine z_goto (tgt := 60) B dX5_text_56 (by decide) ?_
            refine z_lv (lv' := [(0, .ref (ad 0)), (2, .int (hg_I x2))]) B [0, 2] rfl ?_
            exact rX5_text_60 B hr ih _ _ _ h
set_option maxHeartbeats 4000000 in
set_option maxRecDepth 100000 in
theorem rX5_text_E (B : hg_B p s m args meth c cX5_text RX5 wsL_law 3 D cI cA ad 1 A) (hr : meth.sig.returnType = (some .int)) {w1 : hg_W} {r1 : Int} {w : hg_W} (h : fX5_text w = some (w1, r1)) : hg_At p l e (rmX5_text) s m args below meth c D cI cA ad 1 A (MQ below (hg_Qi D cI cA ad 1 A w1 r1) args s 0 0 A) 3 w [(0, .ref (ad 0))] 0 [] := by
  unfold fX5_text at h
  refine z_aload_n B 0 dX5_text_0 rfl rfl ?_
  refine z_get5 (v := .int (hg_I (w 0 11))) B 11 dX5_text_1 inlX5 (by decide) rfl (by decide) (wl_5 4 rfl) rfl rfl ?_
  refine z_bipush B dX5_text_4 (by decide) ?_
  refine z_icmp_ne (tgt := 12) B dX5_text_6 (by decide) h (fun h => ?_) (fun h => ?_)
  · refine z_aload_n B 0 dX5_text_12 rfl rfl ?_
    refine z_iconst B dX5_text_13 ?_
    obtain ⟨w1, q2, h⟩ := Option.bind_eq_some_iff.mp h
    refine z_put5 B 20 dX5_text_14 inlX5 (by decide) rfl (by decide) (wl_5 5 rfl) rfl rfl .int (by decide +kernel) rfl rfl hg_fs5_20 q2 ?_
    refine z_aload_n B 0 dX5_text_17 rfl rfl ?_
    refine z_iconst B dX5_text_18 ?_
    obtain ⟨w3, q4, h⟩ := Option.bind_eq_some_iff.mp h
    refine z_put5 B 28 dX5_text_19 inlX5 (by decide) rfl (by decide) (wl_5 6 rfl) rfl rfl .int (by decide +kernel) rfl rfl hg_fs5_28 q4 ?_
    refine z_iconst B dX5_text_22 ?_
    refine z_istore_n B [(1, .int (hg_I 1)), (0, .ref (ad 0))] dX5_text_23 rfl (by decide) rfl ?_
    refine z_iconst B dX5_text_24 ?_
    refine z_istore_n B [(2, .int (hg_I 0)), (1, .int (hg_I 1)), (0, .ref (ad 0))] dX5_text_25 rfl (by decide) rfl ?_
    refine z_lv (lv' := [(0, .ref (ad 0)), (1, .int (hg_I 1)), (2, .int (hg_I 0))]) B [2, 1, 0] rfl ?_
    exact rX5_text_26 B hr hg_F _ _ _ h
  · refine z_bipush B dX5_text_9 (by decide) ?_
    exact z_iret B hr dX5_text_11 h
set_option maxHeartbeats 4000000 in
set_option maxRecDepth 100000 in
theorem c_X5_text {l : Launch} {D : va_G} {cI cA : ClassId} {ad : Nat → Nat} {w w1 : hg_W} {r1 : Int} (h : fX5_text w = some (w1, r1)) : hg_Mi l yX5_text wxX5_text rmX5_text D cI cA ad 1 w [.ref (ad 0)] w1 r1 := by
  refine z_meti cX5_text 3 (some .int) (by decide) (Nat.le_of_ble_eq_true rfl) ?_
  intro p e s m args below meth c A B hr
  exact rX5_text_E B hr h
abbrev wxX5_within : List Cond := Cond.code yX5_within cX5_within 3 (some .int) :: wsL_law
def fX5_within (w : hg_W) (a1 : Int) (a2 : Int) (a3 : Int) : Option (hg_W × Int) :=
  if wr a2 ≤ wr a1 then
    (
      if wr a1 ≤ wr a3 then
        (
          some (w, wr a1)
        )
      else
        some (w, wr a3)
    )
  else
    some (w, wr a2)
set_option maxHeartbeats 4000000 in
set_option maxRecDepth 100000 in
abbrev rmX5_within : Room := { frames := 0, cells := 0, slots := 0, locals := 0 }
set_option maxHeartbeats 4000000 in
set_option maxRecDepth 100000 in
theorem rX5_within_E (B : hg_B p s m args meth c cX5_within RX5 wsL_law 3 D cI cA ad 1 A) (hr : meth.sig.returnType = (some .int)) {a1 : Int} {a2 : Int} {a3 : Int} {w1 : hg_W} {r1 : Int} {w : hg_W} (h : fX5_within w a1 a2 a3 = some (w1, r1)) : hg_At p l e (rmX5_within) s m args below meth c D cI cA ad 1 A (MQ below (hg_Qi D cI cA ad 1 A w1 r1) args s 0 0 A) 3 w [(0, .int (hg_I a1)), (1, .int (hg_I a2)), (2, .int (hg_I a3))] 0 [] := by
  unfold fX5_within at h
  refine z_iload_n B 0 dX5_within_0 rfl rfl ?_
  refine z_iload_n B 1 dX5_within_1 rfl rfl ?_
  refine z_icmp_ge (tgt := 9) B dX5_within_2 (by decide) h (fun h => ?_) (fun h => ?_)
  · refine z_iload_n B 0 dX5_within_9 rfl rfl ?_
    refine z_iload_n B 2 dX5_within_10 rfl rfl ?_
    refine z_icmp_le (tgt := 18) B dX5_within_11 (by decide) h (fun h => ?_) (fun h => ?_)
    · refine z_iload_n B 0 dX5_within_18 rfl rfl ?_
      exact z_iret B hr dX5_within_19 h
    · refine z_iload_n B 2 dX5_within_14 rfl rfl ?_
      refine z_goto (tgt := 19) B dX5_within_15 (by decide) ?_
      exact z_iret B hr dX5_within_19 h
  · refine z_iload_n B 1 dX5_within_5 rfl rfl ?_
    refine z_goto (tgt := 19) B dX5_within_6 (by decide) ?_
    exact z_iret B hr dX5_within_19 h
set_option maxHeartbeats 4000000 in
set_option maxRecDepth 100000 in
theorem c_X5_within {l : Launch} {D : va_G} {cI cA : ClassId} {ad : Nat → Nat} {a1 : Int} {a2 : Int} {a3 : Int} {w w1 : hg_W} {r1 : Int} (h : fX5_within w a1 a2 a3 = some (w1, r1)) : hg_Mi l yX5_within wxX5_within rmX5_within D cI cA ad 1 w [.int (hg_I a1), .int (hg_I a2), .int (hg_I a3)] w1 r1 := by
  refine z_meti cX5_within 3 (some .int) (by decide) (Nat.le_of_ble_eq_true rfl) ?_
  intro p e s m args below meth c A B hr
  exact rX5_within_E B hr h
abbrev wxX5_isOne : List Cond := Cond.code yX5_isOne cX5_isOne 2 (some .boolean) :: wsL_law
def fX5_isOne (w : hg_W) (a1 : Int) : Option (hg_W × Int) :=
  hg_bd (fX5_in w a1 0 ((w 0 0) - 1)) fun w1 v2 =>
  if wr v2 = 0 ∨ wr v2 = 1 then some (w1, wr v2) else none
set_option maxHeartbeats 4000000 in
set_option maxRecDepth 100000 in
abbrev rmX5_isOne : Room := { frames := 1, cells := 0, slots := 0, locals := 22 }
set_option maxHeartbeats 4000000 in
set_option maxRecDepth 100000 in
theorem rX5_isOne_E (B : hg_B p s m args meth c cX5_isOne RX5 wsL_law 2 D cI cA ad 1 A) (hr : meth.sig.returnType = (some .boolean)) {a1 : Int} {w1 : hg_W} {r1 : Int} {w : hg_W} (h : fX5_isOne w a1 = some (w1, r1)) : hg_At p l e (rmX5_isOne) s m args below meth c D cI cA ad 1 A (MQ below (hg_Qi D cI cA ad 1 A w1 r1) args s 0 0 A) 2 w [(0, .ref (ad 0)), (1, .int (hg_I a1))] 0 [] := by
  unfold fX5_isOne at h
  refine z_iload_n B 1 dX5_isOne_0 rfl rfl ?_
  refine z_iconst B dX5_isOne_1 ?_
  refine z_aload_n B 0 dX5_isOne_2 rfl rfl ?_
  refine z_get5 (v := .int (hg_I (w 0 0))) B 0 dX5_isOne_3 inlX5 (by decide) rfl (by decide) (wl_7 22 rfl) rfl rfl ?_
  refine z_iconst B dX5_isOne_6 ?_
  refine z_isub B dX5_isOne_7 ?_
  obtain ⟨w1, v2, q3, h⟩ := hg_bd_some h
  refine z_calliS (As := [.int (hg_I a1), .int (hg_I 0), .int (hg_I ((w 0 0) - 1))]) (n := 3) B dX5_isOne_8 (c_X5_in q3) (gl_S (wl_5 14 rfl) (wl_5 15 rfl) (wl_1 5 rfl) (wl_5 16 rfl)) rfl ⟨rfl, rfl⟩ (by decide +kernel) ⟨Nat.le_of_ble_eq_true rfl, Nat.le_of_ble_eq_true rfl⟩ rfl rfl (Nat.le_of_ble_eq_true rfl) ?_
  exact z_bret B hr dX5_isOne_11 h
set_option maxHeartbeats 4000000 in
set_option maxRecDepth 100000 in
theorem c_X5_isOne {l : Launch} {D : va_G} {cI cA : ClassId} {ad : Nat → Nat} {a1 : Int} {w w1 : hg_W} {r1 : Int} (h : fX5_isOne w a1 = some (w1, r1)) : hg_Mi l yX5_isOne wxX5_isOne rmX5_isOne D cI cA ad 1 w [.ref (ad 0), .int (hg_I a1)] w1 r1 := by
  refine z_meti cX5_isOne 2 (some .boolean) (by decide) (Nat.le_of_ble_eq_true rfl) ?_
  intro p e s m args below meth c A B hr
  exact rX5_isOne_E B hr h
abbrev wxX5_isCoin : List Cond := Cond.code yX5_isCoin cX5_isCoin 1 (some .boolean) :: wsL_law
def fX5_isCoin (w : hg_W) (a1 : Int) : Option (hg_W × Int) :=
  hg_bd (fX5_in w a1 0 5) fun w1 v2 =>
  if wr v2 = 0 ∨ wr v2 = 1 then some (w1, wr v2) else none
set_option maxHeartbeats 4000000 in
set_option maxRecDepth 100000 in
abbrev rmX5_isCoin : Room := { frames := 1, cells := 0, slots := 0, locals := 22 }
set_option maxHeartbeats 4000000 in
set_option maxRecDepth 100000 in
theorem rX5_isCoin_E (B : hg_B p s m args meth c cX5_isCoin RX5 wsL_law 1 D cI cA ad 1 A) (hr : meth.sig.returnType = (some .boolean)) {a1 : Int} {w1 : hg_W} {r1 : Int} {w : hg_W} (h : fX5_isCoin w a1 = some (w1, r1)) : hg_At p l e (rmX5_isCoin) s m args below meth c D cI cA ad 1 A (MQ below (hg_Qi D cI cA ad 1 A w1 r1) args s 0 0 A) 1 w [(0, .int (hg_I a1))] 0 [] := by
  unfold fX5_isCoin at h
  refine z_iload_n B 0 dX5_isCoin_0 rfl rfl ?_
  refine z_iconst B dX5_isCoin_1 ?_
  refine z_iconst B dX5_isCoin_2 ?_
  obtain ⟨w1, v2, q3, h⟩ := hg_bd_some h
  refine z_calliS (As := [.int (hg_I a1), .int (hg_I 0), .int (hg_I 5)]) (n := 3) B dX5_isCoin_3 (c_X5_in q3) (gl_S (wl_5 14 rfl) (wl_5 15 rfl) (wl_1 5 rfl) (wl_5 16 rfl)) rfl ⟨rfl, rfl⟩ (by decide +kernel) ⟨Nat.le_of_ble_eq_true rfl, Nat.le_of_ble_eq_true rfl⟩ rfl rfl (Nat.le_of_ble_eq_true rfl) ?_
  exact z_bret B hr dX5_isCoin_6 h
set_option maxHeartbeats 4000000 in
set_option maxRecDepth 100000 in
theorem c_X5_isCoin {l : Launch} {D : va_G} {cI cA : ClassId} {ad : Nat → Nat} {a1 : Int} {w w1 : hg_W} {r1 : Int} (h : fX5_isCoin w a1 = some (w1, r1)) : hg_Mi l yX5_isCoin wxX5_isCoin rmX5_isCoin D cI cA ad 1 w [.int (hg_I a1)] w1 r1 := by
  refine z_meti cX5_isCoin 1 (some .boolean) (by decide) (Nat.le_of_ble_eq_true rfl) ?_
  intro p e s m args below meth c A B hr
  exact rX5_isCoin_E B hr h
abbrev wxX5_coinsAll : List Cond := Cond.code yX5_coinsAll cX5_coinsAll 3 (some .int) :: wsL_law
def fX5_coinsAll_4   : Nat → hg_W → Int → Int → Option (hg_W × Int)
  | 0, _, _, _ => none
  | n + 1, w, x1, x2 =>
    if wr 6 ≤ wr x2 then
      (
        some (w, wr x1)
      )
    else
      (hg_ag 1 w 4 ((2 * x2) + 1)).bind fun v1 =>
      fX5_coinsAll_4 n w (x1 + v1) (x2 + 1)
def fX5_coinsAll (w : hg_W) : Option (hg_W × Int) :=
  fX5_coinsAll_4 hg_F w 0 0
set_option maxHeartbeats 4000000 in
set_option maxRecDepth 100000 in
abbrev rmX5_coinsAll : Room := { frames := 0, cells := 0, slots := 0, locals := 0 }
set_option maxHeartbeats 4000000 in
set_option maxRecDepth 100000 in
theorem rX5_coinsAll_4 (B : hg_B p s m args meth c cX5_coinsAll RX5 wsL_law 3 D cI cA ad 1 A) (hr : meth.sig.returnType = (some .int)) {w1 : hg_W} {r1 : Int} : ∀ (n : Nat), ∀ (w : hg_W) (x1 : Int) (x2 : Int), fX5_coinsAll_4 n w x1 x2 = some (w1, r1) → hg_At p l e (rmX5_coinsAll) s m args below meth c D cI cA ad 1 A (MQ below (hg_Qi D cI cA ad 1 A w1 r1) args s 0 0 A) 3 w [(0, .ref (ad 0)), (1, .int (hg_I x1)), (2, .int (hg_I x2))] 4 [] := by
  intro n
  induction n with
  | zero =>
    intro w x1 x2 h
    cases h
  | succ n ih =>
    intro w x1 x2 h
    simp only [fX5_coinsAll_4] at h
    refine z_iload_n B 2 dX5_coinsAll_4 rfl rfl ?_
    refine z_bipush B dX5_coinsAll_5 (by decide) ?_
    refine z_icmp_ge (tgt := 29) B dX5_coinsAll_7 (by decide) h (fun h => ?_) (fun h => ?_)
    · refine z_iload_n B 1 dX5_coinsAll_29 rfl rfl ?_
      exact z_iret B hr dX5_coinsAll_30 h
    · refine z_iload_n B 1 dX5_coinsAll_10 rfl rfl ?_
      refine z_aload_n B 0 dX5_coinsAll_11 rfl rfl ?_
      refine z_get5 (v := .ref (ad 4)) B 4 dX5_coinsAll_12 inlX5 (by decide) rfl (by decide) (wl_4 5 rfl) rfl rfl ?_
      refine z_iconst B dX5_coinsAll_15 ?_
      refine z_iload_n B 2 dX5_coinsAll_16 rfl rfl ?_
      refine z_imul B dX5_coinsAll_17 ?_
      refine z_iconst B dX5_coinsAll_18 ?_
      refine z_iadd B dX5_coinsAll_19 ?_
      obtain ⟨v1, q2, h⟩ := Option.bind_eq_some_iff.mp h
      refine z_iald (Or.inr rfl) B dX5_coinsAll_20 q2 ?_
      refine z_iadd B dX5_coinsAll_21 ?_
      refine z_istore_n B [(1, .int (hg_I (x1 + v1))), (0, .ref (ad 0)), (2, .int (hg_I x2))] dX5_coinsAll_22 rfl (by decide) rfl ?_
      refine z_iinc B 2 [(2, .int (hg_I (x2 + 1))), (1, .int (hg_I (x1 + v1))), (0, .ref (ad 0))] dX5_coinsAll_23 rfl (by decide) rfl ?_
      refine z_goto (tgt := 4) B dX5_coinsAll_26 (by decide) ?_
      refine z_lv (lv' := [(0, .ref (ad 0)), (1, .int (hg_I (x1 + v1))), (2, .int (hg_I (x2 + 1)))]) B [2, 1, 0] rfl ?_
      exact ih _ _ _ h
set_option maxHeartbeats 4000000 in
set_option maxRecDepth 100000 in
theorem rX5_coinsAll_E (B : hg_B p s m args meth c cX5_coinsAll RX5 wsL_law 3 D cI cA ad 1 A) (hr : meth.sig.returnType = (some .int)) {w1 : hg_W} {r1 : Int} {w : hg_W} (h : fX5_coinsAll w = some (w1, r1)) : hg_At p l e (rmX5_coinsAll) s m args below meth c D cI cA ad 1 A (MQ below (hg_Qi D cI cA ad 1 A w1 r1) args s 0 0 A) 3 w [(0, .ref (ad 0))] 0 [] := by
  unfold fX5_coinsAll at h
  refine z_iconst B dX5_coinsAll_0 ?_
  refine z_istore_n B [(1, .int (hg_I 0)), (0, .ref (ad 0))] dX5_coinsAll_1 rfl (by decide) rfl ?_
  refine z_iconst B dX5_coinsAll_2 ?_
  refine z_istore_n B [(2, .int (hg_I 0)), (1, .int (hg_I 0)), (0, .ref (ad 0))] dX5_coinsAll_3 rfl (by decide) rfl ?_
  refine z_lv (lv' := [(0, .ref (ad 0)), (1, .int (hg_I 0)), (2, .int (hg_I 0))]) B [2, 1, 0] rfl ?_
  exact rX5_coinsAll_4 B hr hg_F _ _ _ h
set_option maxHeartbeats 4000000 in
set_option maxRecDepth 100000 in
theorem c_X5_coinsAll {l : Launch} {D : va_G} {cI cA : ClassId} {ad : Nat → Nat} {w w1 : hg_W} {r1 : Int} (h : fX5_coinsAll w = some (w1, r1)) : hg_Mi l yX5_coinsAll wxX5_coinsAll rmX5_coinsAll D cI cA ad 1 w [.ref (ad 0)] w1 r1 := by
  refine z_meti cX5_coinsAll 3 (some .int) (by decide) (Nat.le_of_ble_eq_true rfl) ?_
  intro p e s m args below meth c A B hr
  exact rX5_coinsAll_E B hr h
abbrev wxX5_worthAll : List Cond := Cond.code yX5_worthAll cX5_worthAll 3 (some .int) :: wsL_law
def fX5_worthAll_4   : Nat → hg_W → Int → Int → Option (hg_W × Int)
  | 0, _, _, _ => none
  | n + 1, w, x1, x2 =>
    if wr 6 ≤ wr x2 then
      (
        some (w, wr x1)
      )
    else
      (hg_ag 1 w 4 (2 * x2)).bind fun v1 =>
      (hg_ag 1 w 4 ((2 * x2) + 1)).bind fun v3 =>
      fX5_worthAll_4 n w (x1 + (v1 * v3)) (x2 + 1)
def fX5_worthAll (w : hg_W) : Option (hg_W × Int) :=
  fX5_worthAll_4 hg_F w 0 0
set_option maxHeartbeats 4000000 in
set_option maxRecDepth 100000 in
abbrev rmX5_worthAll : Room := { frames := 0, cells := 0, slots := 0, locals := 0 }
set_option maxHeartbeats 4000000 in
set_option maxRecDepth 100000 in
theorem rX5_worthAll_4 (B : hg_B p s m args meth c cX5_worthAll RX5 wsL_law 3 D cI cA ad 1 A) (hr : meth.sig.returnType = (some .int)) {w1 : hg_W} {r1 : Int} : ∀ (n : Nat), ∀ (w : hg_W) (x1 : Int) (x2 : Int), fX5_worthAll_4 n w x1 x2 = some (w1, r1) → hg_At p l e (rmX5_worthAll) s m args below meth c D cI cA ad 1 A (MQ below (hg_Qi D cI cA ad 1 A w1 r1) args s 0 0 A) 3 w [(0, .ref (ad 0)), (1, .int (hg_I x1)), (2, .int (hg_I x2))] 4 [] := by
  intro n
  induction n with
  | zero =>
    intro w x1 x2 h
    cases h
  | succ n ih =>
    intro w x1 x2 h
    simp only [fX5_worthAll_4] at h
    refine z_iload_n B 2 dX5_worthAll_4 rfl rfl ?_
    refine z_bipush B dX5_worthAll_5 (by decide) ?_
    refine z_icmp_ge (tgt := 38) B dX5_worthAll_7 (by decide) h (fun h => ?_) (fun h => ?_)
    · refine z_iload_n B 1 dX5_worthAll_38 rfl rfl ?_
      exact z_iret B hr dX5_worthAll_39 h
    · refine z_iload_n B 1 dX5_worthAll_10 rfl rfl ?_
      refine z_aload_n B 0 dX5_worthAll_11 rfl rfl ?_
      refine z_get5 (v := .ref (ad 4)) B 4 dX5_worthAll_12 inlX5 (by decide) rfl (by decide) (wl_4 5 rfl) rfl rfl ?_
      refine z_iconst B dX5_worthAll_15 ?_
      refine z_iload_n B 2 dX5_worthAll_16 rfl rfl ?_
      refine z_imul B dX5_worthAll_17 ?_
      obtain ⟨v1, q2, h⟩ := Option.bind_eq_some_iff.mp h
      refine z_iald (Or.inr rfl) B dX5_worthAll_18 q2 ?_
      refine z_aload_n B 0 dX5_worthAll_19 rfl rfl ?_
      refine z_get5 (v := .ref (ad 4)) B 4 dX5_worthAll_20 inlX5 (by decide) rfl (by decide) (wl_4 5 rfl) rfl rfl ?_
      refine z_iconst B dX5_worthAll_23 ?_
      refine z_iload_n B 2 dX5_worthAll_24 rfl rfl ?_
      refine z_imul B dX5_worthAll_25 ?_
      refine z_iconst B dX5_worthAll_26 ?_
      refine z_iadd B dX5_worthAll_27 ?_
      obtain ⟨v3, q4, h⟩ := Option.bind_eq_some_iff.mp h
      refine z_iald (Or.inr rfl) B dX5_worthAll_28 q4 ?_
      refine z_imul B dX5_worthAll_29 ?_
      refine z_iadd B dX5_worthAll_30 ?_
      refine z_istore_n B [(1, .int (hg_I (x1 + (v1 * v3)))), (0, .ref (ad 0)), (2, .int (hg_I x2))] dX5_worthAll_31 rfl (by decide) rfl ?_
      refine z_iinc B 2 [(2, .int (hg_I (x2 + 1))), (1, .int (hg_I (x1 + (v1 * v3)))), (0, .ref (ad 0))] dX5_worthAll_32 rfl (by decide) rfl ?_
      refine z_goto (tgt := 4) B dX5_worthAll_35 (by decide) ?_
      refine z_lv (lv' := [(0, .ref (ad 0)), (1, .int (hg_I (x1 + (v1 * v3)))), (2, .int (hg_I (x2 + 1)))]) B [2, 1, 0] rfl ?_
      exact ih _ _ _ h
set_option maxHeartbeats 4000000 in
set_option maxRecDepth 100000 in
theorem rX5_worthAll_E (B : hg_B p s m args meth c cX5_worthAll RX5 wsL_law 3 D cI cA ad 1 A) (hr : meth.sig.returnType = (some .int)) {w1 : hg_W} {r1 : Int} {w : hg_W} (h : fX5_worthAll w = some (w1, r1)) : hg_At p l e (rmX5_worthAll) s m args below meth c D cI cA ad 1 A (MQ below (hg_Qi D cI cA ad 1 A w1 r1) args s 0 0 A) 3 w [(0, .ref (ad 0))] 0 [] := by
  unfold fX5_worthAll at h
  refine z_iconst B dX5_worthAll_0 ?_
  refine z_istore_n B [(1, .int (hg_I 0)), (0, .ref (ad 0))] dX5_worthAll_1 rfl (by decide) rfl ?_
  refine z_iconst B dX5_worthAll_2 ?_
  refine z_istore_n B [(2, .int (hg_I 0)), (1, .int (hg_I 0)), (0, .ref (ad 0))] dX5_worthAll_3 rfl (by decide) rfl ?_
  refine z_lv (lv' := [(0, .ref (ad 0)), (1, .int (hg_I 0)), (2, .int (hg_I 0))]) B [2, 1, 0] rfl ?_
  exact rX5_worthAll_4 B hr hg_F _ _ _ h
set_option maxHeartbeats 4000000 in
set_option maxRecDepth 100000 in
theorem c_X5_worthAll {l : Launch} {D : va_G} {cI cA : ClassId} {ad : Nat → Nat} {w w1 : hg_W} {r1 : Int} (h : fX5_worthAll w = some (w1, r1)) : hg_Mi l yX5_worthAll wxX5_worthAll rmX5_worthAll D cI cA ad 1 w [.ref (ad 0)] w1 r1 := by
  refine z_meti cX5_worthAll 3 (some .int) (by decide) (Nat.le_of_ble_eq_true rfl) ?_
  intro p e s m args below meth c A B hr
  exact rX5_worthAll_E B hr h
end G_05_model1
